/-! PRINTED by wip/whole/gen6.py -/
theorem i_Mo_areComparable_0 : ix_nx mMo_areComparable 0 = some (0, .aload_n 0, 1, none, [], 0) := rfl
theorem i_Mo_areComparable_1 : ix_nx mMo_areComparable 1 = some (1, .getfield 63, 4, none, [11, 21, 2, 111], 0) := rfl
theorem i_Mo_areComparable_4 : ix_nx mMo_areComparable 4 = some (0, .bipush 64, 6, none, [], 0) := rfl
theorem i_Mo_areComparable_6 : ix_nx mMo_areComparable 6 = some (0, .iload_n 1, 7, none, [], 0) := rfl
theorem i_Mo_areComparable_7 : ix_nx mMo_areComparable 7 = some (0, .imul, 8, none, [], 0) := rfl
theorem i_Mo_areComparable_8 : ix_nx mMo_areComparable 8 = some (0, .iload_n 2, 9, none, [], 0) := rfl
theorem i_Mo_areComparable_9 : ix_nx mMo_areComparable 9 = some (0, .iadd, 10, none, [], 0) := rfl
theorem i_Mo_areComparable_10 : ix_nx mMo_areComparable 10 = some (1, .baload, 11, none, [2], 0) := rfl
theorem i_Mo_areComparable_11 : ix_nx mMo_areComparable 11 = some (0, .ifCond .ne 17, 14, none, [], 0) := rfl
theorem i_Mo_areComparable_14 : ix_nx mMo_areComparable 14 = some (0, .aload_n 0, 15, none, [], 0) := rfl
theorem i_Mo_areComparable_15 : ix_nx mMo_areComparable 15 = some (1, .getfield 63, 18, none, [11, 21, 2, 111], 0) := rfl
theorem i_Mo_areComparable_18 : ix_nx mMo_areComparable 18 = some (0, .bipush 64, 20, none, [], 0) := rfl
theorem i_Mo_areComparable_20 : ix_nx mMo_areComparable 20 = some (0, .iload_n 2, 21, none, [], 0) := rfl
theorem i_Mo_areComparable_21 : ix_nx mMo_areComparable 21 = some (0, .imul, 22, none, [], 0) := rfl
theorem i_Mo_areComparable_22 : ix_nx mMo_areComparable 22 = some (0, .iload_n 1, 23, none, [], 0) := rfl
theorem i_Mo_areComparable_23 : ix_nx mMo_areComparable 23 = some (0, .iadd, 24, none, [], 0) := rfl
theorem i_Mo_areComparable_24 : ix_nx mMo_areComparable 24 = some (1, .baload, 25, none, [2], 0) := rfl
theorem i_Mo_areComparable_25 : ix_nx mMo_areComparable 25 = some (0, .ifCond .eq 7, 28, none, [], 0) := rfl
theorem i_Mo_areComparable_28 : ix_nx mMo_areComparable 28 = some (0, .iconst 1, 29, none, [], 0) := rfl
theorem i_Mo_areComparable_29 : ix_nx mMo_areComparable 29 = some (0, .goto 4, 32, none, [], 0) := rfl
theorem i_Mo_areComparable_32 : ix_nx mMo_areComparable 32 = some (0, .iconst 0, 33, none, [], 0) := rfl
theorem i_Mo_areComparable_33 : ix_nx mMo_areComparable 33 = some (4, .ireturn, 34, none, [], 0) := rfl
set_option maxRecDepth 20000 in
set_option maxHeartbeats 1000000 in
theorem e_Mo_areComparable (a0 : Nat) (x1 : Int32) (x2 : Int32) (h : ixH) : ix_D mMo_areComparable 0 [some (.ref a0), some (.int x1), some (.int x2)] [] h = (ix_gr h a0 11 21).bind fun v1 => (ix_az h v1 ((64 * x1) + x2)).bind fun v2 => if ¬ v2 = 0 then some ([.int (ix_bi true)], h) else (ix_gr h a0 11 21).bind fun v3 => (ix_az h v3 ((64 * x2) + x1)).bind fun v4 => if v4 = 0 then some ([.int (ix_bi false)], h) else some ([.int (ix_bi true)], h) := by
  refine ix_K_px kq_Mo_areComparable i_Mo_areComparable_0 rfl rfl ?_
  refine ix_K_gr kq_Mo_areComparable i_Mo_areComparable_1 rfl (fun v1 => ?_)
  refine ix_K_cb kq_Mo_areComparable i_Mo_areComparable_4 rfl kcb_64 ?_
  refine ix_K_px kq_Mo_areComparable i_Mo_areComparable_6 rfl rfl ?_
  refine ix_K_px kq_Mo_areComparable i_Mo_areComparable_7 rfl rfl ?_
  refine ix_K_px kq_Mo_areComparable i_Mo_areComparable_8 rfl rfl ?_
  refine ix_K_px kq_Mo_areComparable i_Mo_areComparable_9 rfl rfl ?_
  refine ix_K_az kq_Mo_areComparable i_Mo_areComparable_10 rfl (fun v2 => ?_)
  refine ix_K_if_ne (tgt := 28) kq_Mo_areComparable i_Mo_areComparable_11 rfl (by decide) ?_ ?_
  · refine ix_K_ci kq_Mo_areComparable i_Mo_areComparable_28 rfl kci_1 ?_
    refine ix_K_goto (tgt := 33) kq_Mo_areComparable i_Mo_areComparable_29 rfl (by decide) ?_
    exact ix_D_ret kq_Mo_areComparable i_Mo_areComparable_33 (ix_rtZ rfl true)
  · refine ix_K_px kq_Mo_areComparable i_Mo_areComparable_14 rfl rfl ?_
    refine ix_K_gr kq_Mo_areComparable i_Mo_areComparable_15 rfl (fun v3 => ?_)
    refine ix_K_cb kq_Mo_areComparable i_Mo_areComparable_18 rfl kcb_64 ?_
    refine ix_K_px kq_Mo_areComparable i_Mo_areComparable_20 rfl rfl ?_
    refine ix_K_px kq_Mo_areComparable i_Mo_areComparable_21 rfl rfl ?_
    refine ix_K_px kq_Mo_areComparable i_Mo_areComparable_22 rfl rfl ?_
    refine ix_K_px kq_Mo_areComparable i_Mo_areComparable_23 rfl rfl ?_
    refine ix_K_az kq_Mo_areComparable i_Mo_areComparable_24 rfl (fun v4 => ?_)
    refine ix_K_if_eq (tgt := 32) kq_Mo_areComparable i_Mo_areComparable_25 rfl (by decide) ?_ ?_
    · refine ix_K_ci kq_Mo_areComparable i_Mo_areComparable_32 rfl kci_0 ?_
      exact ix_D_ret kq_Mo_areComparable i_Mo_areComparable_33 (ix_rtZ rfl false)
    · refine ix_K_ci kq_Mo_areComparable i_Mo_areComparable_28 rfl kci_1 ?_
      refine ix_K_goto (tgt := 33) kq_Mo_areComparable i_Mo_areComparable_29 rfl (by decide) ?_
      exact ix_D_ret kq_Mo_areComparable i_Mo_areComparable_33 (ix_rtZ rfl true)
theorem x_Mo_areComparable {a0 : Nat} {x1 : Int32} {x2 : Int32} {h h1 : ixH} {v : Bool} (hr : ix_rc h a0 = some 11) (hd : ix_D mMo_areComparable 0 [some (.ref a0), some (.int x1), some (.int x2)] [] h = some ([.int (ix_bi v)], h1)) : ix_M mMo_areComparable [.ref a0, .int x1, .int x2] h = some ([.int (ix_bi v)], h1) := ix_M_of (ix_ent_i kq_Mo_areComparable rfl hr rfl (Nat.le_of_ble_eq_true rfl) rfl) hd (ix_okrZ rfl v)
theorem i_Mo_lookBehind_0 : ix_nx mMo_lookBehind 0 = some (0, .iconst 0, 1, none, [], 0) := rfl
theorem i_Mo_lookBehind_1 : ix_nx mMo_lookBehind 1 = some (0, .istore_n 2, 2, none, [], 0) := rfl
theorem i_Mo_lookBehind_2 : ix_nx mMo_lookBehind 2 = some (0, .iload_n 2, 3, some [true, true, true, false, false], [], 0) := rfl
theorem i_Mo_lookBehind_3 : ix_nx mMo_lookBehind 3 = some (0, .aload_n 0, 4, none, [], 0) := rfl
theorem i_Mo_lookBehind_4 : ix_nx mMo_lookBehind 4 = some (1, .getfield 221, 7, none, [11, 20, 0, 110], 0) := rfl
theorem i_Mo_lookBehind_7 : ix_nx mMo_lookBehind 7 = some (0, .if_icmp .ge 79, 10, none, [], 0) := rfl
theorem i_Mo_lookBehind_10 : ix_nx mMo_lookBehind 10 = some (0, .iload_n 2, 11, none, [], 0) := rfl
theorem i_Mo_lookBehind_11 : ix_nx mMo_lookBehind 11 = some (0, .iload_n 1, 12, none, [], 0) := rfl
theorem i_Mo_lookBehind_12 : ix_nx mMo_lookBehind 12 = some (0, .if_icmp .le 16, 15, none, [], 0) := rfl
theorem i_Mo_lookBehind_15 : ix_nx mMo_lookBehind 15 = some (0, .aload_n 0, 16, none, [], 0) := rfl
theorem i_Mo_lookBehind_16 : ix_nx mMo_lookBehind 16 = some (0, .iload_n 1, 17, none, [], 0) := rfl
theorem i_Mo_lookBehind_17 : ix_nx mMo_lookBehind 17 = some (0, .iload_n 2, 18, none, [], 0) := rfl
theorem i_Mo_lookBehind_18 : ix_nx mMo_lookBehind 18 = some (3, .invokevirtual 239, 21, none, [0, 205, 215], 0) := rfl
theorem i_Mo_lookBehind_21 : ix_nx mMo_lookBehind 21 = some (0, .ifCond .ne 7, 24, none, [], 0) := rfl
theorem i_Mo_lookBehind_24 : ix_nx mMo_lookBehind 24 = some (0, .iconst 1, 25, none, [], 0) := rfl
theorem i_Mo_lookBehind_25 : ix_nx mMo_lookBehind 25 = some (0, .goto 4, 28, none, [], 0) := rfl
theorem i_Mo_lookBehind_28 : ix_nx mMo_lookBehind 28 = some (0, .iconst 0, 29, none, [], 0) := rfl
theorem i_Mo_lookBehind_29 : ix_nx mMo_lookBehind 29 = some (0, .istore_n 3, 30, none, [], 0) := rfl
theorem i_Mo_lookBehind_30 : ix_nx mMo_lookBehind 30 = some (0, .iconst 0, 31, none, [], 0) := rfl
theorem i_Mo_lookBehind_31 : ix_nx mMo_lookBehind 31 = some (0, .istore 4, 33, none, [], 0) := rfl
theorem i_Mo_lookBehind_33 : ix_nx mMo_lookBehind 33 = some (0, .iload 4, 35, some [true, true, true, true, true], [], 0) := rfl
theorem i_Mo_lookBehind_35 : ix_nx mMo_lookBehind 35 = some (0, .aload_n 0, 36, none, [], 0) := rfl
theorem i_Mo_lookBehind_36 : ix_nx mMo_lookBehind 36 = some (1, .getfield 242, 39, none, [11, 27, 0, 117], 0) := rfl
theorem i_Mo_lookBehind_39 : ix_nx mMo_lookBehind 39 = some (0, .if_icmp .ge 34, 42, none, [], 0) := rfl
theorem i_Mo_lookBehind_42 : ix_nx mMo_lookBehind 42 = some (0, .iload_n 3, 43, none, [], 0) := rfl
theorem i_Mo_lookBehind_43 : ix_nx mMo_lookBehind 43 = some (0, .ifCond .eq 22, 46, none, [], 0) := rfl
theorem i_Mo_lookBehind_46 : ix_nx mMo_lookBehind 46 = some (0, .aload_n 0, 47, none, [], 0) := rfl
theorem i_Mo_lookBehind_47 : ix_nx mMo_lookBehind 47 = some (0, .aload_n 0, 48, none, [], 0) := rfl
theorem i_Mo_lookBehind_48 : ix_nx mMo_lookBehind 48 = some (1, .getfield 78, 51, none, [11, 26, 2, 116], 0) := rfl
theorem i_Mo_lookBehind_51 : ix_nx mMo_lookBehind 51 = some (0, .iload 4, 53, none, [], 0) := rfl
theorem i_Mo_lookBehind_53 : ix_nx mMo_lookBehind 53 = some (1, .iaload, 54, none, [], 0) := rfl
theorem i_Mo_lookBehind_54 : ix_nx mMo_lookBehind 54 = some (0, .iload_n 2, 55, none, [], 0) := rfl
theorem i_Mo_lookBehind_55 : ix_nx mMo_lookBehind 55 = some (3, .invokevirtual 239, 58, none, [0, 205, 215], 0) := rfl
theorem i_Mo_lookBehind_58 : ix_nx mMo_lookBehind 58 = some (0, .ifCond .ne 7, 61, none, [], 0) := rfl
theorem i_Mo_lookBehind_61 : ix_nx mMo_lookBehind 61 = some (0, .iconst 1, 62, none, [], 0) := rfl
theorem i_Mo_lookBehind_62 : ix_nx mMo_lookBehind 62 = some (0, .goto 4, 65, none, [], 0) := rfl
theorem i_Mo_lookBehind_65 : ix_nx mMo_lookBehind 65 = some (0, .iconst 0, 66, none, [], 0) := rfl
theorem i_Mo_lookBehind_66 : ix_nx mMo_lookBehind 66 = some (0, .istore_n 3, 67, none, [], 0) := rfl
theorem i_Mo_lookBehind_67 : ix_nx mMo_lookBehind 67 = some (0, .iinc 4 1, 70, none, [], 0) := rfl
theorem i_Mo_lookBehind_70 : ix_nx mMo_lookBehind 70 = some (0, .goto (-37), 73, none, [], 0) := rfl
theorem i_Mo_lookBehind_73 : ix_nx mMo_lookBehind 73 = some (0, .aload_n 0, 74, none, [], 0) := rfl
theorem i_Mo_lookBehind_74 : ix_nx mMo_lookBehind 74 = some (1, .getfield 66, 77, none, [11, 22, 2, 112], 0) := rfl
theorem i_Mo_lookBehind_77 : ix_nx mMo_lookBehind 77 = some (0, .iload_n 2, 78, none, [], 0) := rfl
theorem i_Mo_lookBehind_78 : ix_nx mMo_lookBehind 78 = some (0, .iload_n 3, 79, none, [], 0) := rfl
theorem i_Mo_lookBehind_79 : ix_nx mMo_lookBehind 79 = some (2, .bastore, 80, none, [], 0) := rfl
theorem i_Mo_lookBehind_80 : ix_nx mMo_lookBehind 80 = some (0, .iinc 2 1, 83, none, [], 0) := rfl
theorem i_Mo_lookBehind_83 : ix_nx mMo_lookBehind 83 = some (0, .goto (-81), 86, none, [], 0) := rfl
theorem i_Mo_lookBehind_86 : ix_nx mMo_lookBehind 86 = some (4, .return_, 87, none, [], 0) := rfl
noncomputable def l_Mo_lookBehind_2 (a0 : Nat) (x1 : Int32) (x2 : Int32) (h : ixH) : Option (List Value × ixH) := ix_D mMo_lookBehind 2 [some (.ref a0), some (.int x1), some (.int x2), none, none] [] h
noncomputable def l_Mo_lookBehind_33 (a0 : Nat) (x1 : Int32) (x2 : Int32) (b3 : Bool) (x4 : Int32) (h : ixH) : Option (List Value × ixH) := ix_D mMo_lookBehind 33 [some (.ref a0), some (.int x1), some (.int x2), some (.int (ix_bi b3)), some (.int x4)] [] h
set_option maxRecDepth 20000 in
set_option maxHeartbeats 1000000 in
theorem e_Mo_lookBehind_2 (a0 : Nat) (x1 : Int32) (x2 : Int32) (h : ixH) : l_Mo_lookBehind_2 a0 x1 x2 h = (ix_gi h a0 11 20).bind fun v1 => if v1 ≤ x2 then some ([], h) else if x2 ≤ x1 then l_Mo_lookBehind_33 a0 x1 x2 false 0 h else (ix_M mMo_areComparable [.ref a0, .int x1, .int x2] h).bind fun r => ix_kZ r fun v3 h2 => if v3 = true then l_Mo_lookBehind_33 a0 x1 x2 false 0 h2 else l_Mo_lookBehind_33 a0 x1 x2 true 0 h2 := by
  unfold l_Mo_lookBehind_2
  refine ix_K_px kq_Mo_lookBehind i_Mo_lookBehind_2 rfl rfl ?_
  refine ix_K_px kq_Mo_lookBehind i_Mo_lookBehind_3 rfl rfl ?_
  refine ix_K_gi kq_Mo_lookBehind i_Mo_lookBehind_4 rfl (fun v1 => ?_)
  refine ix_K_ic_ge (tgt := 86) kq_Mo_lookBehind i_Mo_lookBehind_7 rfl (by decide) ?_ ?_
  · exact ix_D_ret kq_Mo_lookBehind i_Mo_lookBehind_86 (ix_rtV rfl)
  · refine ix_K_px kq_Mo_lookBehind i_Mo_lookBehind_10 rfl rfl ?_
    refine ix_K_px kq_Mo_lookBehind i_Mo_lookBehind_11 rfl rfl ?_
    refine ix_K_ic_le (tgt := 28) kq_Mo_lookBehind i_Mo_lookBehind_12 rfl (by decide) ?_ ?_
    · refine ix_K_ci kq_Mo_lookBehind i_Mo_lookBehind_28 rfl kci_0 ?_
      refine ix_K_si (L2 := [some (.ref a0), some (.int x1), some (.int x2), some (.int 0), none]) kq_Mo_lookBehind i_Mo_lookBehind_29 rfl (Or.inr ⟨_, rfl, rfl⟩) (Nat.le_of_ble_eq_true rfl) rfl ?_
      refine ix_K_ci kq_Mo_lookBehind i_Mo_lookBehind_30 rfl kci_0 ?_
      refine ix_K_si (L2 := [some (.ref a0), some (.int x1), some (.int x2), some (.int 0), some (.int 0)]) kq_Mo_lookBehind i_Mo_lookBehind_31 rfl (Or.inl rfl) (Nat.le_of_ble_eq_true rfl) rfl ?_
      exact ix_D_cut i_Mo_lookBehind_33 rfl
    · refine ix_K_px kq_Mo_lookBehind i_Mo_lookBehind_15 rfl rfl ?_
      refine ix_K_px kq_Mo_lookBehind i_Mo_lookBehind_16 rfl rfl ?_
      refine ix_K_px kq_Mo_lookBehind i_Mo_lookBehind_17 rfl rfl ?_
      refine ix_K_callZ (as := [.ref a0, .int x1, .int x2]) (rest := []) kq_Mo_lookBehind i_Mo_lookBehind_18 rfl kq_Mo_areComparable (by decide) rfl rfl (fun v3 h2 => ?_)
      refine ix_K_bz_ne (tgt := 28) kq_Mo_lookBehind i_Mo_lookBehind_21 rfl (by decide) ?_ ?_
      · refine ix_K_ci kq_Mo_lookBehind i_Mo_lookBehind_28 rfl kci_0 ?_
        refine ix_K_si (L2 := [some (.ref a0), some (.int x1), some (.int x2), some (.int 0), none]) kq_Mo_lookBehind i_Mo_lookBehind_29 rfl (Or.inr ⟨_, rfl, rfl⟩) (Nat.le_of_ble_eq_true rfl) rfl ?_
        refine ix_K_ci kq_Mo_lookBehind i_Mo_lookBehind_30 rfl kci_0 ?_
        refine ix_K_si (L2 := [some (.ref a0), some (.int x1), some (.int x2), some (.int 0), some (.int 0)]) kq_Mo_lookBehind i_Mo_lookBehind_31 rfl (Or.inl rfl) (Nat.le_of_ble_eq_true rfl) rfl ?_
        exact ix_D_cut i_Mo_lookBehind_33 rfl
      · refine ix_K_ci kq_Mo_lookBehind i_Mo_lookBehind_24 rfl kci_1 ?_
        refine ix_K_goto (tgt := 29) kq_Mo_lookBehind i_Mo_lookBehind_25 rfl (by decide) ?_
        refine ix_K_si (L2 := [some (.ref a0), some (.int x1), some (.int x2), some (.int 1), none]) kq_Mo_lookBehind i_Mo_lookBehind_29 rfl (Or.inr ⟨_, rfl, rfl⟩) (Nat.le_of_ble_eq_true rfl) rfl ?_
        refine ix_K_ci kq_Mo_lookBehind i_Mo_lookBehind_30 rfl kci_0 ?_
        refine ix_K_si (L2 := [some (.ref a0), some (.int x1), some (.int x2), some (.int 1), some (.int 0)]) kq_Mo_lookBehind i_Mo_lookBehind_31 rfl (Or.inl rfl) (Nat.le_of_ble_eq_true rfl) rfl ?_
        exact ix_D_cut i_Mo_lookBehind_33 rfl
set_option maxRecDepth 20000 in
set_option maxHeartbeats 1000000 in
theorem e_Mo_lookBehind_33 (a0 : Nat) (x1 : Int32) (x2 : Int32) (b3 : Bool) (x4 : Int32) (h : ixH) : l_Mo_lookBehind_33 a0 x1 x2 b3 x4 h = (ix_gi h a0 11 27).bind fun v1 => if v1 ≤ x4 then (ix_gr h a0 11 22).bind fun v2 => (ix_sz h v2 x2 (ix_bi b3)).bind fun h3 => l_Mo_lookBehind_2 a0 x1 (x2 + 1) h3 else if b3 = true then (ix_gr h a0 11 26).bind fun v4 => (ix_ai h v4 x4).bind fun v5 => (ix_M mMo_areComparable [.ref a0, .int v5, .int x2] h).bind fun r => ix_kZ r fun v7 h6 => if v7 = true then l_Mo_lookBehind_33 a0 x1 x2 false (x4 + 1) h6 else l_Mo_lookBehind_33 a0 x1 x2 true (x4 + 1) h6 else l_Mo_lookBehind_33 a0 x1 x2 false (x4 + 1) h := by
  unfold l_Mo_lookBehind_33
  refine ix_K_px kq_Mo_lookBehind i_Mo_lookBehind_33 rfl rfl ?_
  refine ix_K_px kq_Mo_lookBehind i_Mo_lookBehind_35 rfl rfl ?_
  refine ix_K_gi kq_Mo_lookBehind i_Mo_lookBehind_36 rfl (fun v1 => ?_)
  refine ix_K_ic_ge (tgt := 73) kq_Mo_lookBehind i_Mo_lookBehind_39 rfl (by decide) ?_ ?_
  · refine ix_K_px kq_Mo_lookBehind i_Mo_lookBehind_73 rfl rfl ?_
    refine ix_K_gr kq_Mo_lookBehind i_Mo_lookBehind_74 rfl (fun v2 => ?_)
    refine ix_K_px kq_Mo_lookBehind i_Mo_lookBehind_77 rfl rfl ?_
    refine ix_K_px kq_Mo_lookBehind i_Mo_lookBehind_78 rfl rfl ?_
    refine ix_K_tz kq_Mo_lookBehind i_Mo_lookBehind_79 rfl (fun h3 => ?_)
    refine ix_K_inc (L2 := [some (.ref a0), some (.int x1), some (.int (x2 + 1)), some (.int (ix_bi b3)), some (.int x4)]) kq_Mo_lookBehind i_Mo_lookBehind_80 rfl rfl (Nat.le_of_ble_eq_true rfl) kci_1 rfl ?_
    refine ix_K_goto (tgt := 2) kq_Mo_lookBehind i_Mo_lookBehind_83 rfl (by decide) ?_
    exact ix_D_cut i_Mo_lookBehind_2 rfl
  · refine ix_K_px kq_Mo_lookBehind i_Mo_lookBehind_42 rfl rfl ?_
    refine ix_K_bz_eq (tgt := 65) kq_Mo_lookBehind i_Mo_lookBehind_43 rfl (by decide) ?_ ?_
    · refine ix_K_px kq_Mo_lookBehind i_Mo_lookBehind_46 rfl rfl ?_
      refine ix_K_px kq_Mo_lookBehind i_Mo_lookBehind_47 rfl rfl ?_
      refine ix_K_gr kq_Mo_lookBehind i_Mo_lookBehind_48 rfl (fun v4 => ?_)
      refine ix_K_px kq_Mo_lookBehind i_Mo_lookBehind_51 rfl rfl ?_
      refine ix_K_ai kq_Mo_lookBehind i_Mo_lookBehind_53 rfl (fun v5 => ?_)
      refine ix_K_px kq_Mo_lookBehind i_Mo_lookBehind_54 rfl rfl ?_
      refine ix_K_callZ (as := [.ref a0, .int v5, .int x2]) (rest := []) kq_Mo_lookBehind i_Mo_lookBehind_55 rfl kq_Mo_areComparable (by decide) rfl rfl (fun v7 h6 => ?_)
      refine ix_K_bz_ne (tgt := 65) kq_Mo_lookBehind i_Mo_lookBehind_58 rfl (by decide) ?_ ?_
      · refine ix_K_ci kq_Mo_lookBehind i_Mo_lookBehind_65 rfl kci_0 ?_
        refine ix_K_si (L2 := [some (.ref a0), some (.int x1), some (.int x2), some (.int 0), some (.int x4)]) kq_Mo_lookBehind i_Mo_lookBehind_66 rfl (Or.inr ⟨_, rfl, rfl⟩) (Nat.le_of_ble_eq_true rfl) rfl ?_
        refine ix_K_inc (L2 := [some (.ref a0), some (.int x1), some (.int x2), some (.int 0), some (.int (x4 + 1))]) kq_Mo_lookBehind i_Mo_lookBehind_67 rfl rfl (Nat.le_of_ble_eq_true rfl) kci_1 rfl ?_
        refine ix_K_goto (tgt := 33) kq_Mo_lookBehind i_Mo_lookBehind_70 rfl (by decide) ?_
        exact ix_D_cut i_Mo_lookBehind_33 rfl
      · refine ix_K_ci kq_Mo_lookBehind i_Mo_lookBehind_61 rfl kci_1 ?_
        refine ix_K_goto (tgt := 66) kq_Mo_lookBehind i_Mo_lookBehind_62 rfl (by decide) ?_
        refine ix_K_si (L2 := [some (.ref a0), some (.int x1), some (.int x2), some (.int 1), some (.int x4)]) kq_Mo_lookBehind i_Mo_lookBehind_66 rfl (Or.inr ⟨_, rfl, rfl⟩) (Nat.le_of_ble_eq_true rfl) rfl ?_
        refine ix_K_inc (L2 := [some (.ref a0), some (.int x1), some (.int x2), some (.int 1), some (.int (x4 + 1))]) kq_Mo_lookBehind i_Mo_lookBehind_67 rfl rfl (Nat.le_of_ble_eq_true rfl) kci_1 rfl ?_
        refine ix_K_goto (tgt := 33) kq_Mo_lookBehind i_Mo_lookBehind_70 rfl (by decide) ?_
        exact ix_D_cut i_Mo_lookBehind_33 rfl
    · refine ix_K_ci kq_Mo_lookBehind i_Mo_lookBehind_65 rfl kci_0 ?_
      refine ix_K_si (L2 := [some (.ref a0), some (.int x1), some (.int x2), some (.int 0), some (.int x4)]) kq_Mo_lookBehind i_Mo_lookBehind_66 rfl (Or.inr ⟨_, rfl, rfl⟩) (Nat.le_of_ble_eq_true rfl) rfl ?_
      refine ix_K_inc (L2 := [some (.ref a0), some (.int x1), some (.int x2), some (.int 0), some (.int (x4 + 1))]) kq_Mo_lookBehind i_Mo_lookBehind_67 rfl rfl (Nat.le_of_ble_eq_true rfl) kci_1 rfl ?_
      refine ix_K_goto (tgt := 33) kq_Mo_lookBehind i_Mo_lookBehind_70 rfl (by decide) ?_
      exact ix_D_cut i_Mo_lookBehind_33 rfl
set_option maxRecDepth 20000 in
set_option maxHeartbeats 1000000 in
theorem e_Mo_lookBehind (a0 : Nat) (x1 : Int32) (h : ixH) : ix_D mMo_lookBehind 0 [some (.ref a0), some (.int x1), none, none, none] [] h = l_Mo_lookBehind_2 a0 x1 0 h := by
  refine ix_K_ci kq_Mo_lookBehind i_Mo_lookBehind_0 rfl kci_0 ?_
  refine ix_K_si (L2 := [some (.ref a0), some (.int x1), some (.int 0), none, none]) kq_Mo_lookBehind i_Mo_lookBehind_1 rfl (Or.inr ⟨_, rfl, rfl⟩) (Nat.le_of_ble_eq_true rfl) rfl ?_
  exact ix_D_cut i_Mo_lookBehind_2 rfl
theorem x_Mo_lookBehind {a0 : Nat} {x1 : Int32} {h h1 : ixH} (hr : ix_rc h a0 = some 11) (hd : ix_D mMo_lookBehind 0 [some (.ref a0), some (.int x1), none, none, none] [] h = some ([], h1)) : ix_M mMo_lookBehind [.ref a0, .int x1] h = some ([], h1) := ix_M_of (ix_ent_i kq_Mo_lookBehind rfl hr rfl (Nat.le_of_ble_eq_true rfl) rfl) hd (ix_okrV rfl)
theorem i_Mo_cell_0 : ix_nx mMo_cell 0 = some (0, .aload_n 0, 1, none, [], 0) := rfl
theorem i_Mo_cell_1 : ix_nx mMo_cell 1 = some (0, .iload_n 1, 2, none, [], 0) := rfl
theorem i_Mo_cell_2 : ix_nx mMo_cell 2 = some (3, .invokevirtual 117, 5, none, [0, 151, 176], 0) := rfl
theorem i_Mo_cell_5 : ix_nx mMo_cell 5 = some (0, .ifCond .ne 5, 8, none, [], 0) := rfl
theorem i_Mo_cell_8 : ix_nx mMo_cell 8 = some (0, .iconst (-1), 9, none, [], 0) := rfl
theorem i_Mo_cell_9 : ix_nx mMo_cell 9 = some (4, .ireturn, 10, none, [], 0) := rfl
theorem i_Mo_cell_10 : ix_nx mMo_cell 10 = some (0, .iload_n 2, 11, none, [], 0) := rfl
theorem i_Mo_cell_11 : ix_nx mMo_cell 11 = some (0, .tableswitch 131 0 8 #[49, 58, 68, 74, 80, 86, 86, 103, 117], 60, none, [], 0) := rfl
theorem i_Mo_cell_60 : ix_nx mMo_cell 60 = some (0, .aload_n 0, 61, none, [], 0) := rfl
theorem i_Mo_cell_61 : ix_nx mMo_cell 61 = some (1, .getfield 7, 64, none, [11, 0, 2, 90], 0) := rfl
theorem i_Mo_cell_64 : ix_nx mMo_cell 64 = some (0, .iconst 2, 65, none, [], 0) := rfl
theorem i_Mo_cell_65 : ix_nx mMo_cell 65 = some (0, .iload_n 1, 66, none, [], 0) := rfl
theorem i_Mo_cell_66 : ix_nx mMo_cell 66 = some (0, .iadd, 67, none, [], 0) := rfl
theorem i_Mo_cell_67 : ix_nx mMo_cell 67 = some (1, .iaload, 68, none, [], 0) := rfl
theorem i_Mo_cell_68 : ix_nx mMo_cell 68 = some (4, .ireturn, 69, none, [], 0) := rfl
theorem i_Mo_cell_69 : ix_nx mMo_cell 69 = some (0, .aload_n 0, 70, none, [], 0) := rfl
theorem i_Mo_cell_70 : ix_nx mMo_cell 70 = some (1, .getfield 7, 73, none, [11, 0, 2, 90], 0) := rfl
theorem i_Mo_cell_73 : ix_nx mMo_cell 73 = some (0, .bipush 66, 75, none, [], 0) := rfl
theorem i_Mo_cell_75 : ix_nx mMo_cell 75 = some (0, .iload_n 1, 76, none, [], 0) := rfl
theorem i_Mo_cell_76 : ix_nx mMo_cell 76 = some (0, .iadd, 77, none, [], 0) := rfl
theorem i_Mo_cell_77 : ix_nx mMo_cell 77 = some (1, .iaload, 78, none, [], 0) := rfl
theorem i_Mo_cell_78 : ix_nx mMo_cell 78 = some (4, .ireturn, 79, none, [], 0) := rfl
theorem i_Mo_cell_79 : ix_nx mMo_cell 79 = some (0, .aload_n 0, 80, none, [], 0) := rfl
theorem i_Mo_cell_80 : ix_nx mMo_cell 80 = some (0, .iload_n 1, 81, none, [], 0) := rfl
theorem i_Mo_cell_81 : ix_nx mMo_cell 81 = some (3, .invokevirtual 251, 84, none, [0, 208, 217], 0) := rfl
theorem i_Mo_cell_84 : ix_nx mMo_cell 84 = some (4, .ireturn, 85, none, [], 0) := rfl
theorem i_Mo_cell_85 : ix_nx mMo_cell 85 = some (0, .aload_n 0, 86, none, [], 0) := rfl
theorem i_Mo_cell_86 : ix_nx mMo_cell 86 = some (0, .iload_n 1, 87, none, [], 0) := rfl
theorem i_Mo_cell_87 : ix_nx mMo_cell 87 = some (3, .invokevirtual 254, 90, none, [0, 209, 218], 0) := rfl
theorem i_Mo_cell_90 : ix_nx mMo_cell 90 = some (4, .ireturn, 91, none, [], 0) := rfl
theorem i_Mo_cell_91 : ix_nx mMo_cell 91 = some (0, .aload_n 0, 92, none, [], 0) := rfl
theorem i_Mo_cell_92 : ix_nx mMo_cell 92 = some (0, .iload_n 1, 93, none, [], 0) := rfl
theorem i_Mo_cell_93 : ix_nx mMo_cell 93 = some (3, .invokevirtual 257, 96, none, [0, 210, 219], 0) := rfl
theorem i_Mo_cell_96 : ix_nx mMo_cell 96 = some (4, .ireturn, 97, none, [], 0) := rfl
theorem i_Mo_cell_97 : ix_nx mMo_cell 97 = some (0, .aload_n 0, 98, none, [], 0) := rfl
theorem i_Mo_cell_98 : ix_nx mMo_cell 98 = some (0, .iload_n 1, 99, none, [], 0) := rfl
theorem i_Mo_cell_99 : ix_nx mMo_cell 99 = some (0, .iload_n 2, 100, none, [], 0) := rfl
theorem i_Mo_cell_100 : ix_nx mMo_cell 100 = some (0, .iconst 5, 101, none, [], 0) := rfl
theorem i_Mo_cell_101 : ix_nx mMo_cell 101 = some (0, .isub, 102, none, [], 0) := rfl
theorem i_Mo_cell_102 : ix_nx mMo_cell 102 = some (3, .invokevirtual 260, 105, none, [0, 211, 220], 0) := rfl
theorem i_Mo_cell_105 : ix_nx mMo_cell 105 = some (0, .ifCond .eq 7, 108, none, [], 0) := rfl
theorem i_Mo_cell_108 : ix_nx mMo_cell 108 = some (0, .iconst 1, 109, none, [], 0) := rfl
theorem i_Mo_cell_109 : ix_nx mMo_cell 109 = some (0, .goto 4, 112, none, [], 0) := rfl
theorem i_Mo_cell_112 : ix_nx mMo_cell 112 = some (0, .iconst 0, 113, none, [], 0) := rfl
theorem i_Mo_cell_113 : ix_nx mMo_cell 113 = some (4, .ireturn, 114, none, [], 0) := rfl
theorem i_Mo_cell_114 : ix_nx mMo_cell 114 = some (0, .aload_n 0, 115, none, [], 0) := rfl
theorem i_Mo_cell_115 : ix_nx mMo_cell 115 = some (0, .iload_n 1, 116, none, [], 0) := rfl
theorem i_Mo_cell_116 : ix_nx mMo_cell 116 = some (3, .invokevirtual 263, 119, none, [0, 212, 221], 0) := rfl
theorem i_Mo_cell_119 : ix_nx mMo_cell 119 = some (0, .ifCond .eq 7, 122, none, [], 0) := rfl
theorem i_Mo_cell_122 : ix_nx mMo_cell 122 = some (0, .iconst 1, 123, none, [], 0) := rfl
theorem i_Mo_cell_123 : ix_nx mMo_cell 123 = some (0, .goto 4, 126, none, [], 0) := rfl
theorem i_Mo_cell_126 : ix_nx mMo_cell 126 = some (0, .iconst 0, 127, none, [], 0) := rfl
theorem i_Mo_cell_127 : ix_nx mMo_cell 127 = some (4, .ireturn, 128, none, [], 0) := rfl
theorem i_Mo_cell_128 : ix_nx mMo_cell 128 = some (0, .aload_n 0, 129, none, [], 0) := rfl
theorem i_Mo_cell_129 : ix_nx mMo_cell 129 = some (0, .iload_n 1, 130, none, [], 0) := rfl
theorem i_Mo_cell_130 : ix_nx mMo_cell 130 = some (3, .invokevirtual 266, 133, none, [0, 213, 222], 0) := rfl
theorem i_Mo_cell_133 : ix_nx mMo_cell 133 = some (0, .ifCond .eq 7, 136, none, [], 0) := rfl
theorem i_Mo_cell_136 : ix_nx mMo_cell 136 = some (0, .iconst 1, 137, none, [], 0) := rfl
theorem i_Mo_cell_137 : ix_nx mMo_cell 137 = some (0, .goto 4, 140, none, [], 0) := rfl
theorem i_Mo_cell_140 : ix_nx mMo_cell 140 = some (0, .iconst 0, 141, none, [], 0) := rfl
theorem i_Mo_cell_141 : ix_nx mMo_cell 141 = some (4, .ireturn, 142, none, [], 0) := rfl
theorem i_Mo_cell_142 : ix_nx mMo_cell 142 = some (0, .bipush (-2), 144, none, [], 0) := rfl
theorem i_Mo_cell_144 : ix_nx mMo_cell 144 = some (4, .ireturn, 145, none, [], 0) := rfl
set_option maxRecDepth 20000 in
set_option maxHeartbeats 1000000 in
theorem e_Mo_cell (a0 : Nat) (x1 : Int32) (x2 : Int32) (h : ixH) : ix_D mMo_cell 0 [some (.ref a0), some (.int x1), some (.int x2)] [] h = (ix_M mMo_isCell [.ref a0, .int x1] h).bind fun r => ix_kZ r fun v2 h1 => if v2 = true then ix_sel x2 0 [(ix_gr h1 a0 11 0).bind fun v3 => (ix_ai h1 v3 (2 + x1)).bind fun v4 => some ([.int v4], h1), (ix_gr h1 a0 11 0).bind fun v5 => (ix_ai h1 v5 (66 + x1)).bind fun v6 => some ([.int v6], h1), (ix_M mMo_switchesOf [.ref a0, .int x1] h1).bind fun r => ix_kI r fun v8 h7 => some ([.int v8], h7), (ix_M mMo_openBeside [.ref a0, .int x1] h1).bind fun r => ix_kI r fun v10 h9 => some ([.int v10], h9), (ix_M mMo_behind [.ref a0, .int x1] h1).bind fun r => ix_kI r fun v12 h11 => some ([.int v12], h11), (ix_M mMo_isInPass [.ref a0, .int x1, .int (x2 - 5)] h1).bind fun r => ix_kZ r fun v14 h13 => if v14 = true then some ([.int 1], h13) else some ([.int 0], h13), (ix_M mMo_isInPass [.ref a0, .int x1, .int (x2 - 5)] h1).bind fun r => ix_kZ r fun v16 h15 => if v16 = true then some ([.int 1], h15) else some ([.int 0], h15), (ix_M mMo_isInFirstGroup [.ref a0, .int x1] h1).bind fun r => ix_kZ r fun v18 h17 => if v18 = true then some ([.int 1], h17) else some ([.int 0], h17), (ix_M mMo_isInSomeGroup [.ref a0, .int x1] h1).bind fun r => ix_kZ r fun v20 h19 => if v20 = true then some ([.int 1], h19) else some ([.int 0], h19)] (some ([.int (-2)], h1)) else some ([.int (-1)], h1) := by
  refine ix_K_px kq_Mo_cell i_Mo_cell_0 rfl rfl ?_
  refine ix_K_px kq_Mo_cell i_Mo_cell_1 rfl rfl ?_
  refine ix_K_callZ (as := [.ref a0, .int x1]) (rest := []) kq_Mo_cell i_Mo_cell_2 rfl kq_Mo_isCell (by decide) rfl rfl (fun v2 h1 => ?_)
  refine ix_K_bz_ne (tgt := 10) kq_Mo_cell i_Mo_cell_5 rfl (by decide) ?_ ?_
  · refine ix_K_px kq_Mo_cell i_Mo_cell_10 rfl rfl ?_
    refine ix_K_tsw (tg := [60, 69, 79, 85, 91, 97, 97, 114, 128]) (dt := 142) kq_Mo_cell i_Mo_cell_11 rfl (by decide) (by decide) (by decide) (by decide) (ix_lc ?_ (ix_lc ?_ (ix_lc ?_ (ix_lc ?_ (ix_lc ?_ (ix_lc ?_ (ix_lc ?_ (ix_lc ?_ (ix_lc ?_ rfl))))))))) ?_
    · refine ix_K_px kq_Mo_cell i_Mo_cell_60 rfl rfl ?_
      refine ix_K_gr kq_Mo_cell i_Mo_cell_61 rfl (fun v3 => ?_)
      refine ix_K_ci kq_Mo_cell i_Mo_cell_64 rfl kci_2 ?_
      refine ix_K_px kq_Mo_cell i_Mo_cell_65 rfl rfl ?_
      refine ix_K_px kq_Mo_cell i_Mo_cell_66 rfl rfl ?_
      refine ix_K_ai kq_Mo_cell i_Mo_cell_67 rfl (fun v4 => ?_)
      exact ix_D_ret kq_Mo_cell i_Mo_cell_68 (ix_rtI rfl _)
    · refine ix_K_px kq_Mo_cell i_Mo_cell_69 rfl rfl ?_
      refine ix_K_gr kq_Mo_cell i_Mo_cell_70 rfl (fun v5 => ?_)
      refine ix_K_cb kq_Mo_cell i_Mo_cell_73 rfl kcb_66 ?_
      refine ix_K_px kq_Mo_cell i_Mo_cell_75 rfl rfl ?_
      refine ix_K_px kq_Mo_cell i_Mo_cell_76 rfl rfl ?_
      refine ix_K_ai kq_Mo_cell i_Mo_cell_77 rfl (fun v6 => ?_)
      exact ix_D_ret kq_Mo_cell i_Mo_cell_78 (ix_rtI rfl _)
    · refine ix_K_px kq_Mo_cell i_Mo_cell_79 rfl rfl ?_
      refine ix_K_px kq_Mo_cell i_Mo_cell_80 rfl rfl ?_
      refine ix_K_callI (as := [.ref a0, .int x1]) (rest := []) kq_Mo_cell i_Mo_cell_81 rfl kq_Mo_switchesOf (by decide) rfl (Or.inl rfl) (fun v8 h7 => ?_)
      exact ix_D_ret kq_Mo_cell i_Mo_cell_84 (ix_rtI rfl _)
    · refine ix_K_px kq_Mo_cell i_Mo_cell_85 rfl rfl ?_
      refine ix_K_px kq_Mo_cell i_Mo_cell_86 rfl rfl ?_
      refine ix_K_callI (as := [.ref a0, .int x1]) (rest := []) kq_Mo_cell i_Mo_cell_87 rfl kq_Mo_openBeside (by decide) rfl (Or.inl rfl) (fun v10 h9 => ?_)
      exact ix_D_ret kq_Mo_cell i_Mo_cell_90 (ix_rtI rfl _)
    · refine ix_K_px kq_Mo_cell i_Mo_cell_91 rfl rfl ?_
      refine ix_K_px kq_Mo_cell i_Mo_cell_92 rfl rfl ?_
      refine ix_K_callI (as := [.ref a0, .int x1]) (rest := []) kq_Mo_cell i_Mo_cell_93 rfl kq_Mo_behind (by decide) rfl (Or.inl rfl) (fun v12 h11 => ?_)
      exact ix_D_ret kq_Mo_cell i_Mo_cell_96 (ix_rtI rfl _)
    · refine ix_K_px kq_Mo_cell i_Mo_cell_97 rfl rfl ?_
      refine ix_K_px kq_Mo_cell i_Mo_cell_98 rfl rfl ?_
      refine ix_K_px kq_Mo_cell i_Mo_cell_99 rfl rfl ?_
      refine ix_K_ci kq_Mo_cell i_Mo_cell_100 rfl kci_5 ?_
      refine ix_K_px kq_Mo_cell i_Mo_cell_101 rfl rfl ?_
      refine ix_K_callZ (as := [.ref a0, .int x1, .int (x2 - 5)]) (rest := []) kq_Mo_cell i_Mo_cell_102 rfl kq_Mo_isInPass (by decide) rfl rfl (fun v14 h13 => ?_)
      refine ix_K_bz_eq (tgt := 112) kq_Mo_cell i_Mo_cell_105 rfl (by decide) ?_ ?_
      · refine ix_K_ci kq_Mo_cell i_Mo_cell_108 rfl kci_1 ?_
        refine ix_K_goto (tgt := 113) kq_Mo_cell i_Mo_cell_109 rfl (by decide) ?_
        exact ix_D_ret kq_Mo_cell i_Mo_cell_113 (ix_rtI rfl _)
      · refine ix_K_ci kq_Mo_cell i_Mo_cell_112 rfl kci_0 ?_
        exact ix_D_ret kq_Mo_cell i_Mo_cell_113 (ix_rtI rfl _)
    · refine ix_K_px kq_Mo_cell i_Mo_cell_97 rfl rfl ?_
      refine ix_K_px kq_Mo_cell i_Mo_cell_98 rfl rfl ?_
      refine ix_K_px kq_Mo_cell i_Mo_cell_99 rfl rfl ?_
      refine ix_K_ci kq_Mo_cell i_Mo_cell_100 rfl kci_5 ?_
      refine ix_K_px kq_Mo_cell i_Mo_cell_101 rfl rfl ?_
      refine ix_K_callZ (as := [.ref a0, .int x1, .int (x2 - 5)]) (rest := []) kq_Mo_cell i_Mo_cell_102 rfl kq_Mo_isInPass (by decide) rfl rfl (fun v16 h15 => ?_)
      refine ix_K_bz_eq (tgt := 112) kq_Mo_cell i_Mo_cell_105 rfl (by decide) ?_ ?_
      · refine ix_K_ci kq_Mo_cell i_Mo_cell_108 rfl kci_1 ?_
        refine ix_K_goto (tgt := 113) kq_Mo_cell i_Mo_cell_109 rfl (by decide) ?_
        exact ix_D_ret kq_Mo_cell i_Mo_cell_113 (ix_rtI rfl _)
      · refine ix_K_ci kq_Mo_cell i_Mo_cell_112 rfl kci_0 ?_
        exact ix_D_ret kq_Mo_cell i_Mo_cell_113 (ix_rtI rfl _)
    · refine ix_K_px kq_Mo_cell i_Mo_cell_114 rfl rfl ?_
      refine ix_K_px kq_Mo_cell i_Mo_cell_115 rfl rfl ?_
      refine ix_K_callZ (as := [.ref a0, .int x1]) (rest := []) kq_Mo_cell i_Mo_cell_116 rfl kq_Mo_isInFirstGroup (by decide) rfl rfl (fun v18 h17 => ?_)
      refine ix_K_bz_eq (tgt := 126) kq_Mo_cell i_Mo_cell_119 rfl (by decide) ?_ ?_
      · refine ix_K_ci kq_Mo_cell i_Mo_cell_122 rfl kci_1 ?_
        refine ix_K_goto (tgt := 127) kq_Mo_cell i_Mo_cell_123 rfl (by decide) ?_
        exact ix_D_ret kq_Mo_cell i_Mo_cell_127 (ix_rtI rfl _)
      · refine ix_K_ci kq_Mo_cell i_Mo_cell_126 rfl kci_0 ?_
        exact ix_D_ret kq_Mo_cell i_Mo_cell_127 (ix_rtI rfl _)
    · refine ix_K_px kq_Mo_cell i_Mo_cell_128 rfl rfl ?_
      refine ix_K_px kq_Mo_cell i_Mo_cell_129 rfl rfl ?_
      refine ix_K_callZ (as := [.ref a0, .int x1]) (rest := []) kq_Mo_cell i_Mo_cell_130 rfl kq_Mo_isInSomeGroup (by decide) rfl rfl (fun v20 h19 => ?_)
      refine ix_K_bz_eq (tgt := 140) kq_Mo_cell i_Mo_cell_133 rfl (by decide) ?_ ?_
      · refine ix_K_ci kq_Mo_cell i_Mo_cell_136 rfl kci_1 ?_
        refine ix_K_goto (tgt := 141) kq_Mo_cell i_Mo_cell_137 rfl (by decide) ?_
        exact ix_D_ret kq_Mo_cell i_Mo_cell_141 (ix_rtI rfl _)
      · refine ix_K_ci kq_Mo_cell i_Mo_cell_140 rfl kci_0 ?_
        exact ix_D_ret kq_Mo_cell i_Mo_cell_141 (ix_rtI rfl _)
    · refine ix_K_cb kq_Mo_cell i_Mo_cell_142 rfl kcb_m2 ?_
      exact ix_D_ret kq_Mo_cell i_Mo_cell_144 (ix_rtI rfl _)
  · refine ix_K_ci kq_Mo_cell i_Mo_cell_8 rfl kci_m1 ?_
    exact ix_D_ret kq_Mo_cell i_Mo_cell_9 (ix_rtI rfl _)
theorem x_Mo_cell {a0 : Nat} {x1 : Int32} {x2 : Int32} {h h1 : ixH} {v : Int32} (hr : ix_rc h a0 = some 11) (hd : ix_D mMo_cell 0 [some (.ref a0), some (.int x1), some (.int x2)] [] h = some ([.int v], h1)) : ix_M mMo_cell [.ref a0, .int x1, .int x2] h = some ([.int v], h1) := ix_M_of (ix_ent_i kq_Mo_cell rfl hr rfl (Nat.le_of_ble_eq_true rfl) rfl) hd (ix_okrI (Or.inl rfl) v)
theorem i_Mo_switchesOf_0 : ix_nx mMo_switchesOf 0 = some (0, .iconst 0, 1, none, [], 0) := rfl
theorem i_Mo_switchesOf_1 : ix_nx mMo_switchesOf 1 = some (0, .istore_n 2, 2, none, [], 0) := rfl
theorem i_Mo_switchesOf_2 : ix_nx mMo_switchesOf 2 = some (0, .iconst 0, 3, none, [], 0) := rfl
theorem i_Mo_switchesOf_3 : ix_nx mMo_switchesOf 3 = some (0, .istore_n 3, 4, none, [], 0) := rfl
theorem i_Mo_switchesOf_4 : ix_nx mMo_switchesOf 4 = some (0, .iload_n 3, 5, some [true, true, true, true], [], 0) := rfl
theorem i_Mo_switchesOf_5 : ix_nx mMo_switchesOf 5 = some (0, .iconst 4, 6, none, [], 0) := rfl
theorem i_Mo_switchesOf_6 : ix_nx mMo_switchesOf 6 = some (0, .if_icmp .ge 29, 9, none, [], 0) := rfl
theorem i_Mo_switchesOf_9 : ix_nx mMo_switchesOf 9 = some (0, .iload_n 2, 10, none, [], 0) := rfl
theorem i_Mo_switchesOf_10 : ix_nx mMo_switchesOf 10 = some (0, .aload_n 0, 11, none, [], 0) := rfl
theorem i_Mo_switchesOf_11 : ix_nx mMo_switchesOf 11 = some (1, .getfield 7, 14, none, [11, 0, 2, 90], 0) := rfl
theorem i_Mo_switchesOf_14 : ix_nx mMo_switchesOf 14 = some (0, .sipush 130, 17, none, [], 0) := rfl
theorem i_Mo_switchesOf_17 : ix_nx mMo_switchesOf 17 = some (0, .bipush 64, 19, none, [], 0) := rfl
theorem i_Mo_switchesOf_19 : ix_nx mMo_switchesOf 19 = some (0, .iload_n 3, 20, none, [], 0) := rfl
theorem i_Mo_switchesOf_20 : ix_nx mMo_switchesOf 20 = some (0, .imul, 21, none, [], 0) := rfl
theorem i_Mo_switchesOf_21 : ix_nx mMo_switchesOf 21 = some (0, .iadd, 22, none, [], 0) := rfl
theorem i_Mo_switchesOf_22 : ix_nx mMo_switchesOf 22 = some (0, .iload_n 1, 23, none, [], 0) := rfl
theorem i_Mo_switchesOf_23 : ix_nx mMo_switchesOf 23 = some (0, .iadd, 24, none, [], 0) := rfl
theorem i_Mo_switchesOf_24 : ix_nx mMo_switchesOf 24 = some (1, .iaload, 25, none, [], 0) := rfl
theorem i_Mo_switchesOf_25 : ix_nx mMo_switchesOf 25 = some (0, .iload_n 3, 26, none, [], 0) := rfl
theorem i_Mo_switchesOf_26 : ix_nx mMo_switchesOf 26 = some (0, .ishl, 27, none, [], 0) := rfl
theorem i_Mo_switchesOf_27 : ix_nx mMo_switchesOf 27 = some (0, .ior, 28, none, [], 0) := rfl
theorem i_Mo_switchesOf_28 : ix_nx mMo_switchesOf 28 = some (0, .istore_n 2, 29, none, [], 0) := rfl
theorem i_Mo_switchesOf_29 : ix_nx mMo_switchesOf 29 = some (0, .iinc 3 1, 32, none, [], 0) := rfl
theorem i_Mo_switchesOf_32 : ix_nx mMo_switchesOf 32 = some (0, .goto (-28), 35, none, [], 0) := rfl
theorem i_Mo_switchesOf_35 : ix_nx mMo_switchesOf 35 = some (0, .iload_n 2, 36, none, [], 0) := rfl
theorem i_Mo_switchesOf_36 : ix_nx mMo_switchesOf 36 = some (4, .ireturn, 37, none, [], 0) := rfl
noncomputable def l_Mo_switchesOf_4 (a0 : Nat) (x1 : Int32) (x2 : Int32) (x3 : Int32) (h : ixH) : Option (List Value × ixH) := ix_D mMo_switchesOf 4 [some (.ref a0), some (.int x1), some (.int x2), some (.int x3)] [] h
set_option maxRecDepth 20000 in
set_option maxHeartbeats 1000000 in
theorem e_Mo_switchesOf_4 (a0 : Nat) (x1 : Int32) (x2 : Int32) (x3 : Int32) (h : ixH) : l_Mo_switchesOf_4 a0 x1 x2 x3 h = if 4 ≤ x3 then some ([.int x2], h) else (ix_gr h a0 11 0).bind fun v1 => (ix_ai h v1 ((130 + (64 * x3)) + x1)).bind fun v2 => l_Mo_switchesOf_4 a0 x1 (x2 ||| (ix_ishl v2 x3)) (x3 + 1) h := by
  unfold l_Mo_switchesOf_4
  refine ix_K_px kq_Mo_switchesOf i_Mo_switchesOf_4 rfl rfl ?_
  refine ix_K_ci kq_Mo_switchesOf i_Mo_switchesOf_5 rfl kci_4 ?_
  refine ix_K_ic_ge (tgt := 35) kq_Mo_switchesOf i_Mo_switchesOf_6 rfl (by decide) ?_ ?_
  · refine ix_K_px kq_Mo_switchesOf i_Mo_switchesOf_35 rfl rfl ?_
    exact ix_D_ret kq_Mo_switchesOf i_Mo_switchesOf_36 (ix_rtI rfl _)
  · refine ix_K_px kq_Mo_switchesOf i_Mo_switchesOf_9 rfl rfl ?_
    refine ix_K_px kq_Mo_switchesOf i_Mo_switchesOf_10 rfl rfl ?_
    refine ix_K_gr kq_Mo_switchesOf i_Mo_switchesOf_11 rfl (fun v1 => ?_)
    refine ix_K_cs kq_Mo_switchesOf i_Mo_switchesOf_14 rfl kcs_130 ?_
    refine ix_K_cb kq_Mo_switchesOf i_Mo_switchesOf_17 rfl kcb_64 ?_
    refine ix_K_px kq_Mo_switchesOf i_Mo_switchesOf_19 rfl rfl ?_
    refine ix_K_px kq_Mo_switchesOf i_Mo_switchesOf_20 rfl rfl ?_
    refine ix_K_px kq_Mo_switchesOf i_Mo_switchesOf_21 rfl rfl ?_
    refine ix_K_px kq_Mo_switchesOf i_Mo_switchesOf_22 rfl rfl ?_
    refine ix_K_px kq_Mo_switchesOf i_Mo_switchesOf_23 rfl rfl ?_
    refine ix_K_ai kq_Mo_switchesOf i_Mo_switchesOf_24 rfl (fun v2 => ?_)
    refine ix_K_px kq_Mo_switchesOf i_Mo_switchesOf_25 rfl rfl ?_
    refine ix_K_px kq_Mo_switchesOf i_Mo_switchesOf_26 rfl rfl ?_
    refine ix_K_px kq_Mo_switchesOf i_Mo_switchesOf_27 rfl rfl ?_
    refine ix_K_si (L2 := [some (.ref a0), some (.int x1), some (.int (x2 ||| (ix_ishl v2 x3))), some (.int x3)]) kq_Mo_switchesOf i_Mo_switchesOf_28 rfl (Or.inr ⟨_, rfl, rfl⟩) (Nat.le_of_ble_eq_true rfl) rfl ?_
    refine ix_K_inc (L2 := [some (.ref a0), some (.int x1), some (.int (x2 ||| (ix_ishl v2 x3))), some (.int (x3 + 1))]) kq_Mo_switchesOf i_Mo_switchesOf_29 rfl rfl (Nat.le_of_ble_eq_true rfl) kci_1 rfl ?_
    refine ix_K_goto (tgt := 4) kq_Mo_switchesOf i_Mo_switchesOf_32 rfl (by decide) ?_
    exact ix_D_cut i_Mo_switchesOf_4 rfl
set_option maxRecDepth 20000 in
set_option maxHeartbeats 1000000 in
theorem e_Mo_switchesOf (a0 : Nat) (x1 : Int32) (h : ixH) : ix_D mMo_switchesOf 0 [some (.ref a0), some (.int x1), none, none] [] h = l_Mo_switchesOf_4 a0 x1 0 0 h := by
  refine ix_K_ci kq_Mo_switchesOf i_Mo_switchesOf_0 rfl kci_0 ?_
  refine ix_K_si (L2 := [some (.ref a0), some (.int x1), some (.int 0), none]) kq_Mo_switchesOf i_Mo_switchesOf_1 rfl (Or.inr ⟨_, rfl, rfl⟩) (Nat.le_of_ble_eq_true rfl) rfl ?_
  refine ix_K_ci kq_Mo_switchesOf i_Mo_switchesOf_2 rfl kci_0 ?_
  refine ix_K_si (L2 := [some (.ref a0), some (.int x1), some (.int 0), some (.int 0)]) kq_Mo_switchesOf i_Mo_switchesOf_3 rfl (Or.inr ⟨_, rfl, rfl⟩) (Nat.le_of_ble_eq_true rfl) rfl ?_
  exact ix_D_cut i_Mo_switchesOf_4 rfl
theorem x_Mo_switchesOf {a0 : Nat} {x1 : Int32} {h h1 : ixH} {v : Int32} (hr : ix_rc h a0 = some 11) (hd : ix_D mMo_switchesOf 0 [some (.ref a0), some (.int x1), none, none] [] h = some ([.int v], h1)) : ix_M mMo_switchesOf [.ref a0, .int x1] h = some ([.int v], h1) := ix_M_of (ix_ent_i kq_Mo_switchesOf rfl hr rfl (Nat.le_of_ble_eq_true rfl) rfl) hd (ix_okrI (Or.inl rfl) v)
theorem i_Mo_openBeside_0 : ix_nx mMo_openBeside 0 = some (0, .iconst 0, 1, none, [], 0) := rfl
theorem i_Mo_openBeside_1 : ix_nx mMo_openBeside 1 = some (0, .istore_n 2, 2, none, [], 0) := rfl
theorem i_Mo_openBeside_2 : ix_nx mMo_openBeside 2 = some (0, .iconst 0, 3, none, [], 0) := rfl
theorem i_Mo_openBeside_3 : ix_nx mMo_openBeside 3 = some (0, .istore_n 3, 4, none, [], 0) := rfl
theorem i_Mo_openBeside_4 : ix_nx mMo_openBeside 4 = some (0, .iload_n 3, 5, some [true, true, true, true], [], 0) := rfl
theorem i_Mo_openBeside_5 : ix_nx mMo_openBeside 5 = some (0, .iconst 4, 6, none, [], 0) := rfl
theorem i_Mo_openBeside_6 : ix_nx mMo_openBeside 6 = some (0, .if_icmp .ge 26, 9, none, [], 0) := rfl
theorem i_Mo_openBeside_9 : ix_nx mMo_openBeside 9 = some (0, .iload_n 2, 10, none, [], 0) := rfl
theorem i_Mo_openBeside_10 : ix_nx mMo_openBeside 10 = some (0, .aload_n 0, 11, none, [], 0) := rfl
theorem i_Mo_openBeside_11 : ix_nx mMo_openBeside 11 = some (0, .iload_n 1, 12, none, [], 0) := rfl
theorem i_Mo_openBeside_12 : ix_nx mMo_openBeside 12 = some (0, .iload_n 3, 13, none, [], 0) := rfl
theorem i_Mo_openBeside_13 : ix_nx mMo_openBeside 13 = some (3, .invokevirtual 191, 16, none, [0, 187, 202], 0) := rfl
theorem i_Mo_openBeside_16 : ix_nx mMo_openBeside 16 = some (0, .ifCond .eq 7, 19, none, [], 0) := rfl
theorem i_Mo_openBeside_19 : ix_nx mMo_openBeside 19 = some (0, .iconst 1, 20, none, [], 0) := rfl
theorem i_Mo_openBeside_20 : ix_nx mMo_openBeside 20 = some (0, .goto 4, 23, none, [], 0) := rfl
theorem i_Mo_openBeside_23 : ix_nx mMo_openBeside 23 = some (0, .iconst 0, 24, none, [], 0) := rfl
theorem i_Mo_openBeside_24 : ix_nx mMo_openBeside 24 = some (0, .iadd, 25, none, [], 0) := rfl
theorem i_Mo_openBeside_25 : ix_nx mMo_openBeside 25 = some (0, .istore_n 2, 26, none, [], 0) := rfl
theorem i_Mo_openBeside_26 : ix_nx mMo_openBeside 26 = some (0, .iinc 3 1, 29, none, [], 0) := rfl
theorem i_Mo_openBeside_29 : ix_nx mMo_openBeside 29 = some (0, .goto (-25), 32, none, [], 0) := rfl
theorem i_Mo_openBeside_32 : ix_nx mMo_openBeside 32 = some (0, .iload_n 2, 33, none, [], 0) := rfl
theorem i_Mo_openBeside_33 : ix_nx mMo_openBeside 33 = some (4, .ireturn, 34, none, [], 0) := rfl
noncomputable def l_Mo_openBeside_4 (a0 : Nat) (x1 : Int32) (x2 : Int32) (x3 : Int32) (h : ixH) : Option (List Value × ixH) := ix_D mMo_openBeside 4 [some (.ref a0), some (.int x1), some (.int x2), some (.int x3)] [] h
set_option maxRecDepth 20000 in
set_option maxHeartbeats 1000000 in
theorem e_Mo_openBeside_4 (a0 : Nat) (x1 : Int32) (x2 : Int32) (x3 : Int32) (h : ixH) : l_Mo_openBeside_4 a0 x1 x2 x3 h = if 4 ≤ x3 then some ([.int x2], h) else (ix_M mMo_isOpenBeside [.ref a0, .int x1, .int x3] h).bind fun r => ix_kZ r fun v2 h1 => if v2 = true then l_Mo_openBeside_4 a0 x1 (x2 + 1) (x3 + 1) h1 else l_Mo_openBeside_4 a0 x1 (x2 + 0) (x3 + 1) h1 := by
  unfold l_Mo_openBeside_4
  refine ix_K_px kq_Mo_openBeside i_Mo_openBeside_4 rfl rfl ?_
  refine ix_K_ci kq_Mo_openBeside i_Mo_openBeside_5 rfl kci_4 ?_
  refine ix_K_ic_ge (tgt := 32) kq_Mo_openBeside i_Mo_openBeside_6 rfl (by decide) ?_ ?_
  · refine ix_K_px kq_Mo_openBeside i_Mo_openBeside_32 rfl rfl ?_
    exact ix_D_ret kq_Mo_openBeside i_Mo_openBeside_33 (ix_rtI rfl _)
  · refine ix_K_px kq_Mo_openBeside i_Mo_openBeside_9 rfl rfl ?_
    refine ix_K_px kq_Mo_openBeside i_Mo_openBeside_10 rfl rfl ?_
    refine ix_K_px kq_Mo_openBeside i_Mo_openBeside_11 rfl rfl ?_
    refine ix_K_px kq_Mo_openBeside i_Mo_openBeside_12 rfl rfl ?_
    refine ix_K_callZ (as := [.ref a0, .int x1, .int x3]) (rest := [.int x2]) kq_Mo_openBeside i_Mo_openBeside_13 rfl kq_Mo_isOpenBeside (by decide) rfl rfl (fun v2 h1 => ?_)
    refine ix_K_bz_eq (tgt := 23) kq_Mo_openBeside i_Mo_openBeside_16 rfl (by decide) ?_ ?_
    · refine ix_K_ci kq_Mo_openBeside i_Mo_openBeside_19 rfl kci_1 ?_
      refine ix_K_goto (tgt := 24) kq_Mo_openBeside i_Mo_openBeside_20 rfl (by decide) ?_
      refine ix_K_px kq_Mo_openBeside i_Mo_openBeside_24 rfl rfl ?_
      refine ix_K_si (L2 := [some (.ref a0), some (.int x1), some (.int (x2 + 1)), some (.int x3)]) kq_Mo_openBeside i_Mo_openBeside_25 rfl (Or.inr ⟨_, rfl, rfl⟩) (Nat.le_of_ble_eq_true rfl) rfl ?_
      refine ix_K_inc (L2 := [some (.ref a0), some (.int x1), some (.int (x2 + 1)), some (.int (x3 + 1))]) kq_Mo_openBeside i_Mo_openBeside_26 rfl rfl (Nat.le_of_ble_eq_true rfl) kci_1 rfl ?_
      refine ix_K_goto (tgt := 4) kq_Mo_openBeside i_Mo_openBeside_29 rfl (by decide) ?_
      exact ix_D_cut i_Mo_openBeside_4 rfl
    · refine ix_K_ci kq_Mo_openBeside i_Mo_openBeside_23 rfl kci_0 ?_
      refine ix_K_px kq_Mo_openBeside i_Mo_openBeside_24 rfl rfl ?_
      refine ix_K_si (L2 := [some (.ref a0), some (.int x1), some (.int (x2 + 0)), some (.int x3)]) kq_Mo_openBeside i_Mo_openBeside_25 rfl (Or.inr ⟨_, rfl, rfl⟩) (Nat.le_of_ble_eq_true rfl) rfl ?_
      refine ix_K_inc (L2 := [some (.ref a0), some (.int x1), some (.int (x2 + 0)), some (.int (x3 + 1))]) kq_Mo_openBeside i_Mo_openBeside_26 rfl rfl (Nat.le_of_ble_eq_true rfl) kci_1 rfl ?_
      refine ix_K_goto (tgt := 4) kq_Mo_openBeside i_Mo_openBeside_29 rfl (by decide) ?_
      exact ix_D_cut i_Mo_openBeside_4 rfl
set_option maxRecDepth 20000 in
set_option maxHeartbeats 1000000 in
theorem e_Mo_openBeside (a0 : Nat) (x1 : Int32) (h : ixH) : ix_D mMo_openBeside 0 [some (.ref a0), some (.int x1), none, none] [] h = l_Mo_openBeside_4 a0 x1 0 0 h := by
  refine ix_K_ci kq_Mo_openBeside i_Mo_openBeside_0 rfl kci_0 ?_
  refine ix_K_si (L2 := [some (.ref a0), some (.int x1), some (.int 0), none]) kq_Mo_openBeside i_Mo_openBeside_1 rfl (Or.inr ⟨_, rfl, rfl⟩) (Nat.le_of_ble_eq_true rfl) rfl ?_
  refine ix_K_ci kq_Mo_openBeside i_Mo_openBeside_2 rfl kci_0 ?_
  refine ix_K_si (L2 := [some (.ref a0), some (.int x1), some (.int 0), some (.int 0)]) kq_Mo_openBeside i_Mo_openBeside_3 rfl (Or.inr ⟨_, rfl, rfl⟩) (Nat.le_of_ble_eq_true rfl) rfl ?_
  exact ix_D_cut i_Mo_openBeside_4 rfl
theorem x_Mo_openBeside {a0 : Nat} {x1 : Int32} {h h1 : ixH} {v : Int32} (hr : ix_rc h a0 = some 11) (hd : ix_D mMo_openBeside 0 [some (.ref a0), some (.int x1), none, none] [] h = some ([.int v], h1)) : ix_M mMo_openBeside [.ref a0, .int x1] h = some ([.int v], h1) := ix_M_of (ix_ent_i kq_Mo_openBeside rfl hr rfl (Nat.le_of_ble_eq_true rfl) rfl) hd (ix_okrI (Or.inl rfl) v)
theorem i_Mo_behind_0 : ix_nx mMo_behind 0 = some (0, .aload_n 0, 1, none, [], 0) := rfl
theorem i_Mo_behind_1 : ix_nx mMo_behind 1 = some (0, .iload_n 1, 2, none, [], 0) := rfl
theorem i_Mo_behind_2 : ix_nx mMo_behind 2 = some (3, .invokevirtual 132, 5, none, [0, 159, 180], 0) := rfl
theorem i_Mo_behind_5 : ix_nx mMo_behind 5 = some (0, .iconst 0, 6, none, [], 0) := rfl
theorem i_Mo_behind_6 : ix_nx mMo_behind 6 = some (0, .istore_n 2, 7, none, [], 0) := rfl
theorem i_Mo_behind_7 : ix_nx mMo_behind 7 = some (0, .iconst 0, 8, none, [], 0) := rfl
theorem i_Mo_behind_8 : ix_nx mMo_behind 8 = some (0, .istore_n 3, 9, none, [], 0) := rfl
theorem i_Mo_behind_9 : ix_nx mMo_behind 9 = some (0, .iload_n 3, 10, some [true, false, true, true], [], 0) := rfl
theorem i_Mo_behind_10 : ix_nx mMo_behind 10 = some (0, .aload_n 0, 11, none, [], 0) := rfl
theorem i_Mo_behind_11 : ix_nx mMo_behind 11 = some (3, .invokevirtual 94, 14, none, [0, 149, 175], 0) := rfl
theorem i_Mo_behind_14 : ix_nx mMo_behind 14 = some (0, .if_icmp .ge 28, 17, none, [], 0) := rfl
theorem i_Mo_behind_17 : ix_nx mMo_behind 17 = some (0, .iload_n 2, 18, none, [], 0) := rfl
theorem i_Mo_behind_18 : ix_nx mMo_behind 18 = some (0, .aload_n 0, 19, none, [], 0) := rfl
theorem i_Mo_behind_19 : ix_nx mMo_behind 19 = some (1, .getfield 20, 22, none, [11, 3, 2, 93], 0) := rfl
theorem i_Mo_behind_22 : ix_nx mMo_behind 22 = some (0, .iload_n 3, 23, none, [], 0) := rfl
theorem i_Mo_behind_23 : ix_nx mMo_behind 23 = some (1, .laload, 24, none, [], 0) := rfl
theorem i_Mo_behind_24 : ix_nx mMo_behind 24 = some (0, .lconst 0, 25, none, [], 0) := rfl
theorem i_Mo_behind_25 : ix_nx mMo_behind 25 = some (0, .lcmp, 26, none, [], 0) := rfl
theorem i_Mo_behind_26 : ix_nx mMo_behind 26 = some (0, .ifCond .le 7, 29, none, [], 0) := rfl
theorem i_Mo_behind_29 : ix_nx mMo_behind 29 = some (0, .iconst 1, 30, none, [], 0) := rfl
theorem i_Mo_behind_30 : ix_nx mMo_behind 30 = some (0, .goto 4, 33, none, [], 0) := rfl
theorem i_Mo_behind_33 : ix_nx mMo_behind 33 = some (0, .iconst 0, 34, none, [], 0) := rfl
theorem i_Mo_behind_34 : ix_nx mMo_behind 34 = some (0, .iadd, 35, none, [], 0) := rfl
theorem i_Mo_behind_35 : ix_nx mMo_behind 35 = some (0, .istore_n 2, 36, none, [], 0) := rfl
theorem i_Mo_behind_36 : ix_nx mMo_behind 36 = some (0, .iinc 3 1, 39, none, [], 0) := rfl
theorem i_Mo_behind_39 : ix_nx mMo_behind 39 = some (0, .goto (-30), 42, none, [], 0) := rfl
theorem i_Mo_behind_42 : ix_nx mMo_behind 42 = some (0, .iload_n 2, 43, none, [], 0) := rfl
theorem i_Mo_behind_43 : ix_nx mMo_behind 43 = some (4, .ireturn, 44, none, [], 0) := rfl
noncomputable def l_Mo_behind_9 (a0 : Nat) (x2 : Int32) (x3 : Int32) (h : ixH) : Option (List Value × ixH) := ix_D mMo_behind 9 [some (.ref a0), none, some (.int x2), some (.int x3)] [] h
set_option maxRecDepth 20000 in
set_option maxHeartbeats 1000000 in
theorem e_Mo_behind_9 (a0 : Nat) (x2 : Int32) (x3 : Int32) (h : ixH) : l_Mo_behind_9 a0 x2 x3 h = (ix_M mMo_cells [.ref a0] h).bind fun r => ix_kI r fun v2 h1 => if v2 ≤ x3 then some ([.int x2], h1) else (ix_gr h1 a0 11 3).bind fun v3 => (ix_al h1 v3 x3).bind fun v4 => if v4 ≤ 0 then l_Mo_behind_9 a0 (x2 + 0) (x3 + 1) h1 else l_Mo_behind_9 a0 (x2 + 1) (x3 + 1) h1 := by
  unfold l_Mo_behind_9
  refine ix_K_px kq_Mo_behind i_Mo_behind_9 rfl rfl ?_
  refine ix_K_px kq_Mo_behind i_Mo_behind_10 rfl rfl ?_
  refine ix_K_callI (as := [.ref a0]) (rest := [.int x3]) kq_Mo_behind i_Mo_behind_11 rfl kq_Mo_cells (by decide) rfl (Or.inl rfl) (fun v2 h1 => ?_)
  refine ix_K_ic_ge (tgt := 42) kq_Mo_behind i_Mo_behind_14 rfl (by decide) ?_ ?_
  · refine ix_K_px kq_Mo_behind i_Mo_behind_42 rfl rfl ?_
    exact ix_D_ret kq_Mo_behind i_Mo_behind_43 (ix_rtI rfl _)
  · refine ix_K_px kq_Mo_behind i_Mo_behind_17 rfl rfl ?_
    refine ix_K_px kq_Mo_behind i_Mo_behind_18 rfl rfl ?_
    refine ix_K_gr kq_Mo_behind i_Mo_behind_19 rfl (fun v3 => ?_)
    refine ix_K_px kq_Mo_behind i_Mo_behind_22 rfl rfl ?_
    refine ix_K_al kq_Mo_behind i_Mo_behind_23 rfl (fun v4 => ?_)
    refine ix_K_cl kq_Mo_behind i_Mo_behind_24 rfl kcl_0 ?_
    refine ix_K_px kq_Mo_behind i_Mo_behind_25 rfl rfl ?_
    refine ix_K_lc_le (tgt := 33) kq_Mo_behind i_Mo_behind_26 rfl (by decide) ?_ ?_
    · refine ix_K_ci kq_Mo_behind i_Mo_behind_33 rfl kci_0 ?_
      refine ix_K_px kq_Mo_behind i_Mo_behind_34 rfl rfl ?_
      refine ix_K_si (L2 := [some (.ref a0), none, some (.int (x2 + 0)), some (.int x3)]) kq_Mo_behind i_Mo_behind_35 rfl (Or.inr ⟨_, rfl, rfl⟩) (Nat.le_of_ble_eq_true rfl) rfl ?_
      refine ix_K_inc (L2 := [some (.ref a0), none, some (.int (x2 + 0)), some (.int (x3 + 1))]) kq_Mo_behind i_Mo_behind_36 rfl rfl (Nat.le_of_ble_eq_true rfl) kci_1 rfl ?_
      refine ix_K_goto (tgt := 9) kq_Mo_behind i_Mo_behind_39 rfl (by decide) ?_
      exact ix_D_cut i_Mo_behind_9 rfl
    · refine ix_K_ci kq_Mo_behind i_Mo_behind_29 rfl kci_1 ?_
      refine ix_K_goto (tgt := 34) kq_Mo_behind i_Mo_behind_30 rfl (by decide) ?_
      refine ix_K_px kq_Mo_behind i_Mo_behind_34 rfl rfl ?_
      refine ix_K_si (L2 := [some (.ref a0), none, some (.int (x2 + 1)), some (.int x3)]) kq_Mo_behind i_Mo_behind_35 rfl (Or.inr ⟨_, rfl, rfl⟩) (Nat.le_of_ble_eq_true rfl) rfl ?_
      refine ix_K_inc (L2 := [some (.ref a0), none, some (.int (x2 + 1)), some (.int (x3 + 1))]) kq_Mo_behind i_Mo_behind_36 rfl rfl (Nat.le_of_ble_eq_true rfl) kci_1 rfl ?_
      refine ix_K_goto (tgt := 9) kq_Mo_behind i_Mo_behind_39 rfl (by decide) ?_
      exact ix_D_cut i_Mo_behind_9 rfl
set_option maxRecDepth 20000 in
set_option maxHeartbeats 1000000 in
theorem e_Mo_behind (a0 : Nat) (x1 : Int32) (h : ixH) : ix_D mMo_behind 0 [some (.ref a0), some (.int x1), none, none] [] h = (ix_M mMo_layFalls [.ref a0, .int x1] h).bind fun r => ix_kV r fun h1 => l_Mo_behind_9 a0 0 0 h1 := by
  refine ix_K_px kq_Mo_behind i_Mo_behind_0 rfl rfl ?_
  refine ix_K_px kq_Mo_behind i_Mo_behind_1 rfl rfl ?_
  refine ix_K_callV (as := [.ref a0, .int x1]) (rest := []) kq_Mo_behind i_Mo_behind_2 rfl kq_Mo_layFalls (by decide) rfl rfl (fun h1 => ?_)
  refine ix_K_ci kq_Mo_behind i_Mo_behind_5 rfl kci_0 ?_
  refine ix_K_si (L2 := [some (.ref a0), some (.int x1), some (.int 0), none]) kq_Mo_behind i_Mo_behind_6 rfl (Or.inr ⟨_, rfl, rfl⟩) (Nat.le_of_ble_eq_true rfl) rfl ?_
  refine ix_K_ci kq_Mo_behind i_Mo_behind_7 rfl kci_0 ?_
  refine ix_K_si (L2 := [some (.ref a0), some (.int x1), some (.int 0), some (.int 0)]) kq_Mo_behind i_Mo_behind_8 rfl (Or.inr ⟨_, rfl, rfl⟩) (Nat.le_of_ble_eq_true rfl) rfl ?_
  exact ix_D_cut i_Mo_behind_9 rfl
theorem x_Mo_behind {a0 : Nat} {x1 : Int32} {h h1 : ixH} {v : Int32} (hr : ix_rc h a0 = some 11) (hd : ix_D mMo_behind 0 [some (.ref a0), some (.int x1), none, none] [] h = some ([.int v], h1)) : ix_M mMo_behind [.ref a0, .int x1] h = some ([.int v], h1) := ix_M_of (ix_ent_i kq_Mo_behind rfl hr rfl (Nat.le_of_ble_eq_true rfl) rfl) hd (ix_okrI (Or.inl rfl) v)
theorem i_Mo_isInPass_0 : ix_nx mMo_isInPass 0 = some (0, .aload_n 0, 1, none, [], 0) := rfl
theorem i_Mo_isInPass_1 : ix_nx mMo_isInPass 1 = some (0, .iload_n 2, 2, none, [], 0) := rfl
theorem i_Mo_isInPass_2 : ix_nx mMo_isInPass 2 = some (3, .invokevirtual 209, 5, none, [0, 192, 205], 0) := rfl
theorem i_Mo_isInPass_5 : ix_nx mMo_isInPass 5 = some (0, .aload_n 0, 6, none, [], 0) := rfl
theorem i_Mo_isInPass_6 : ix_nx mMo_isInPass 6 = some (1, .getfield 57, 9, none, [11, 18, 2, 108], 0) := rfl
theorem i_Mo_isInPass_9 : ix_nx mMo_isInPass 9 = some (0, .iload_n 1, 10, none, [], 0) := rfl
theorem i_Mo_isInPass_10 : ix_nx mMo_isInPass 10 = some (1, .baload, 11, none, [2], 0) := rfl
theorem i_Mo_isInPass_11 : ix_nx mMo_isInPass 11 = some (4, .ireturn, 12, none, [], 0) := rfl
set_option maxRecDepth 20000 in
set_option maxHeartbeats 1000000 in
theorem e_Mo_isInPass (a0 : Nat) (x1 : Int32) (x2 : Int32) (h : ixH) : ix_D mMo_isInPass 0 [some (.ref a0), some (.int x1), some (.int x2)] [] h = (ix_M mMo_layPass [.ref a0, .int x2] h).bind fun r => ix_kV r fun h1 => (ix_gr h1 a0 11 18).bind fun v2 => (ix_az h1 v2 x1).bind fun v3 => ix_zr v3 h1 := by
  refine ix_K_px kq_Mo_isInPass i_Mo_isInPass_0 rfl rfl ?_
  refine ix_K_px kq_Mo_isInPass i_Mo_isInPass_1 rfl rfl ?_
  refine ix_K_callV (as := [.ref a0, .int x2]) (rest := []) kq_Mo_isInPass i_Mo_isInPass_2 rfl kq_Mo_layPass (by decide) rfl rfl (fun h1 => ?_)
  refine ix_K_px kq_Mo_isInPass i_Mo_isInPass_5 rfl rfl ?_
  refine ix_K_gr kq_Mo_isInPass i_Mo_isInPass_6 rfl (fun v2 => ?_)
  refine ix_K_px kq_Mo_isInPass i_Mo_isInPass_9 rfl rfl ?_
  refine ix_K_az kq_Mo_isInPass i_Mo_isInPass_10 rfl (fun v3 => ?_)
  exact ix_D_retX kq_Mo_isInPass i_Mo_isInPass_11 rfl
theorem x_Mo_isInPass {a0 : Nat} {x1 : Int32} {x2 : Int32} {h h1 : ixH} {v : Bool} (hr : ix_rc h a0 = some 11) (hd : ix_D mMo_isInPass 0 [some (.ref a0), some (.int x1), some (.int x2)] [] h = some ([.int (ix_bi v)], h1)) : ix_M mMo_isInPass [.ref a0, .int x1, .int x2] h = some ([.int (ix_bi v)], h1) := ix_M_of (ix_ent_i kq_Mo_isInPass rfl hr rfl (Nat.le_of_ble_eq_true rfl) rfl) hd (ix_okrZ rfl v)
theorem i_Mo_isInFirstGroup_0 : ix_nx mMo_isInFirstGroup 0 = some (0, .aload_n 0, 1, none, [], 0) := rfl
theorem i_Mo_isInFirstGroup_1 : ix_nx mMo_isInFirstGroup 1 = some (3, .invokevirtual 248, 4, none, [0, 204, 214], 0) := rfl
theorem i_Mo_isInFirstGroup_4 : ix_nx mMo_isInFirstGroup 4 = some (0, .iconst 0, 5, none, [], 0) := rfl
theorem i_Mo_isInFirstGroup_5 : ix_nx mMo_isInFirstGroup 5 = some (0, .istore_n 2, 6, none, [], 0) := rfl
theorem i_Mo_isInFirstGroup_6 : ix_nx mMo_isInFirstGroup 6 = some (0, .iconst 0, 7, none, [], 0) := rfl
theorem i_Mo_isInFirstGroup_7 : ix_nx mMo_isInFirstGroup 7 = some (0, .istore_n 3, 8, none, [], 0) := rfl
theorem i_Mo_isInFirstGroup_8 : ix_nx mMo_isInFirstGroup 8 = some (0, .iload_n 3, 9, some [true, true, true, true], [], 0) := rfl
theorem i_Mo_isInFirstGroup_9 : ix_nx mMo_isInFirstGroup 9 = some (0, .aload_n 0, 10, none, [], 0) := rfl
theorem i_Mo_isInFirstGroup_10 : ix_nx mMo_isInFirstGroup 10 = some (1, .getfield 242, 13, none, [11, 27, 0, 117], 0) := rfl
theorem i_Mo_isInFirstGroup_13 : ix_nx mMo_isInFirstGroup 13 = some (0, .if_icmp .ge 34, 16, none, [], 0) := rfl
theorem i_Mo_isInFirstGroup_16 : ix_nx mMo_isInFirstGroup 16 = some (0, .iload_n 2, 17, none, [], 0) := rfl
theorem i_Mo_isInFirstGroup_17 : ix_nx mMo_isInFirstGroup 17 = some (0, .ifCond .ne 18, 20, none, [], 0) := rfl
theorem i_Mo_isInFirstGroup_20 : ix_nx mMo_isInFirstGroup 20 = some (0, .aload_n 0, 21, none, [], 0) := rfl
theorem i_Mo_isInFirstGroup_21 : ix_nx mMo_isInFirstGroup 21 = some (1, .getfield 60, 24, none, [11, 19, 2, 109], 0) := rfl
theorem i_Mo_isInFirstGroup_24 : ix_nx mMo_isInFirstGroup 24 = some (0, .aload_n 0, 25, none, [], 0) := rfl
theorem i_Mo_isInFirstGroup_25 : ix_nx mMo_isInFirstGroup 25 = some (1, .getfield 78, 28, none, [11, 26, 2, 116], 0) := rfl
theorem i_Mo_isInFirstGroup_28 : ix_nx mMo_isInFirstGroup 28 = some (0, .iload_n 3, 29, none, [], 0) := rfl
theorem i_Mo_isInFirstGroup_29 : ix_nx mMo_isInFirstGroup 29 = some (1, .iaload, 30, none, [], 0) := rfl
theorem i_Mo_isInFirstGroup_30 : ix_nx mMo_isInFirstGroup 30 = some (1, .iaload, 31, none, [], 0) := rfl
theorem i_Mo_isInFirstGroup_31 : ix_nx mMo_isInFirstGroup 31 = some (0, .iload_n 1, 32, none, [], 0) := rfl
theorem i_Mo_isInFirstGroup_32 : ix_nx mMo_isInFirstGroup 32 = some (0, .if_icmp .ne 7, 35, none, [], 0) := rfl
theorem i_Mo_isInFirstGroup_35 : ix_nx mMo_isInFirstGroup 35 = some (0, .iconst 1, 36, none, [], 0) := rfl
theorem i_Mo_isInFirstGroup_36 : ix_nx mMo_isInFirstGroup 36 = some (0, .goto 4, 39, none, [], 0) := rfl
theorem i_Mo_isInFirstGroup_39 : ix_nx mMo_isInFirstGroup 39 = some (0, .iconst 0, 40, none, [], 0) := rfl
theorem i_Mo_isInFirstGroup_40 : ix_nx mMo_isInFirstGroup 40 = some (0, .istore_n 2, 41, none, [], 0) := rfl
theorem i_Mo_isInFirstGroup_41 : ix_nx mMo_isInFirstGroup 41 = some (0, .iinc 3 1, 44, none, [], 0) := rfl
theorem i_Mo_isInFirstGroup_44 : ix_nx mMo_isInFirstGroup 44 = some (0, .goto (-36), 47, none, [], 0) := rfl
theorem i_Mo_isInFirstGroup_47 : ix_nx mMo_isInFirstGroup 47 = some (0, .iload_n 2, 48, none, [], 0) := rfl
theorem i_Mo_isInFirstGroup_48 : ix_nx mMo_isInFirstGroup 48 = some (4, .ireturn, 49, none, [], 0) := rfl
noncomputable def l_Mo_isInFirstGroup_8 (a0 : Nat) (x1 : Int32) (b2 : Bool) (x3 : Int32) (h : ixH) : Option (List Value × ixH) := ix_D mMo_isInFirstGroup 8 [some (.ref a0), some (.int x1), some (.int (ix_bi b2)), some (.int x3)] [] h
set_option maxRecDepth 20000 in
set_option maxHeartbeats 1000000 in
theorem e_Mo_isInFirstGroup_8 (a0 : Nat) (x1 : Int32) (b2 : Bool) (x3 : Int32) (h : ixH) : l_Mo_isInFirstGroup_8 a0 x1 b2 x3 h = (ix_gi h a0 11 27).bind fun v1 => if v1 ≤ x3 then some ([.int (ix_bi b2)], h) else if b2 = true then l_Mo_isInFirstGroup_8 a0 x1 true (x3 + 1) h else (ix_gr h a0 11 19).bind fun v2 => (ix_gr h a0 11 26).bind fun v3 => (ix_ai h v3 x3).bind fun v4 => (ix_ai h v2 v4).bind fun v5 => if ¬ v5 = x1 then l_Mo_isInFirstGroup_8 a0 x1 false (x3 + 1) h else l_Mo_isInFirstGroup_8 a0 x1 true (x3 + 1) h := by
  unfold l_Mo_isInFirstGroup_8
  refine ix_K_px kq_Mo_isInFirstGroup i_Mo_isInFirstGroup_8 rfl rfl ?_
  refine ix_K_px kq_Mo_isInFirstGroup i_Mo_isInFirstGroup_9 rfl rfl ?_
  refine ix_K_gi kq_Mo_isInFirstGroup i_Mo_isInFirstGroup_10 rfl (fun v1 => ?_)
  refine ix_K_ic_ge (tgt := 47) kq_Mo_isInFirstGroup i_Mo_isInFirstGroup_13 rfl (by decide) ?_ ?_
  · refine ix_K_px kq_Mo_isInFirstGroup i_Mo_isInFirstGroup_47 rfl rfl ?_
    exact ix_D_ret kq_Mo_isInFirstGroup i_Mo_isInFirstGroup_48 (ix_rtZ rfl _)
  · refine ix_K_px kq_Mo_isInFirstGroup i_Mo_isInFirstGroup_16 rfl rfl ?_
    refine ix_K_bz_ne (tgt := 35) kq_Mo_isInFirstGroup i_Mo_isInFirstGroup_17 rfl (by decide) ?_ ?_
    · refine ix_K_ci kq_Mo_isInFirstGroup i_Mo_isInFirstGroup_35 rfl kci_1 ?_
      refine ix_K_goto (tgt := 40) kq_Mo_isInFirstGroup i_Mo_isInFirstGroup_36 rfl (by decide) ?_
      refine ix_K_si (L2 := [some (.ref a0), some (.int x1), some (.int 1), some (.int x3)]) kq_Mo_isInFirstGroup i_Mo_isInFirstGroup_40 rfl (Or.inr ⟨_, rfl, rfl⟩) (Nat.le_of_ble_eq_true rfl) rfl ?_
      refine ix_K_inc (L2 := [some (.ref a0), some (.int x1), some (.int 1), some (.int (x3 + 1))]) kq_Mo_isInFirstGroup i_Mo_isInFirstGroup_41 rfl rfl (Nat.le_of_ble_eq_true rfl) kci_1 rfl ?_
      refine ix_K_goto (tgt := 8) kq_Mo_isInFirstGroup i_Mo_isInFirstGroup_44 rfl (by decide) ?_
      exact ix_D_cut i_Mo_isInFirstGroup_8 rfl
    · refine ix_K_px kq_Mo_isInFirstGroup i_Mo_isInFirstGroup_20 rfl rfl ?_
      refine ix_K_gr kq_Mo_isInFirstGroup i_Mo_isInFirstGroup_21 rfl (fun v2 => ?_)
      refine ix_K_px kq_Mo_isInFirstGroup i_Mo_isInFirstGroup_24 rfl rfl ?_
      refine ix_K_gr kq_Mo_isInFirstGroup i_Mo_isInFirstGroup_25 rfl (fun v3 => ?_)
      refine ix_K_px kq_Mo_isInFirstGroup i_Mo_isInFirstGroup_28 rfl rfl ?_
      refine ix_K_ai kq_Mo_isInFirstGroup i_Mo_isInFirstGroup_29 rfl (fun v4 => ?_)
      refine ix_K_ai kq_Mo_isInFirstGroup i_Mo_isInFirstGroup_30 rfl (fun v5 => ?_)
      refine ix_K_px kq_Mo_isInFirstGroup i_Mo_isInFirstGroup_31 rfl rfl ?_
      refine ix_K_ic_ne (tgt := 39) kq_Mo_isInFirstGroup i_Mo_isInFirstGroup_32 rfl (by decide) ?_ ?_
      · refine ix_K_ci kq_Mo_isInFirstGroup i_Mo_isInFirstGroup_39 rfl kci_0 ?_
        refine ix_K_si (L2 := [some (.ref a0), some (.int x1), some (.int 0), some (.int x3)]) kq_Mo_isInFirstGroup i_Mo_isInFirstGroup_40 rfl (Or.inr ⟨_, rfl, rfl⟩) (Nat.le_of_ble_eq_true rfl) rfl ?_
        refine ix_K_inc (L2 := [some (.ref a0), some (.int x1), some (.int 0), some (.int (x3 + 1))]) kq_Mo_isInFirstGroup i_Mo_isInFirstGroup_41 rfl rfl (Nat.le_of_ble_eq_true rfl) kci_1 rfl ?_
        refine ix_K_goto (tgt := 8) kq_Mo_isInFirstGroup i_Mo_isInFirstGroup_44 rfl (by decide) ?_
        exact ix_D_cut i_Mo_isInFirstGroup_8 rfl
      · refine ix_K_ci kq_Mo_isInFirstGroup i_Mo_isInFirstGroup_35 rfl kci_1 ?_
        refine ix_K_goto (tgt := 40) kq_Mo_isInFirstGroup i_Mo_isInFirstGroup_36 rfl (by decide) ?_
        refine ix_K_si (L2 := [some (.ref a0), some (.int x1), some (.int 1), some (.int x3)]) kq_Mo_isInFirstGroup i_Mo_isInFirstGroup_40 rfl (Or.inr ⟨_, rfl, rfl⟩) (Nat.le_of_ble_eq_true rfl) rfl ?_
        refine ix_K_inc (L2 := [some (.ref a0), some (.int x1), some (.int 1), some (.int (x3 + 1))]) kq_Mo_isInFirstGroup i_Mo_isInFirstGroup_41 rfl rfl (Nat.le_of_ble_eq_true rfl) kci_1 rfl ?_
        refine ix_K_goto (tgt := 8) kq_Mo_isInFirstGroup i_Mo_isInFirstGroup_44 rfl (by decide) ?_
        exact ix_D_cut i_Mo_isInFirstGroup_8 rfl
set_option maxRecDepth 20000 in
set_option maxHeartbeats 1000000 in
theorem e_Mo_isInFirstGroup (a0 : Nat) (x1 : Int32) (h : ixH) : ix_D mMo_isInFirstGroup 0 [some (.ref a0), some (.int x1), none, none] [] h = (ix_M mMo_layGroup [.ref a0] h).bind fun r => ix_kV r fun h1 => l_Mo_isInFirstGroup_8 a0 x1 false 0 h1 := by
  refine ix_K_px kq_Mo_isInFirstGroup i_Mo_isInFirstGroup_0 rfl rfl ?_
  refine ix_K_callV (as := [.ref a0]) (rest := []) kq_Mo_isInFirstGroup i_Mo_isInFirstGroup_1 rfl kq_Mo_layGroup (by decide) rfl rfl (fun h1 => ?_)
  refine ix_K_ci kq_Mo_isInFirstGroup i_Mo_isInFirstGroup_4 rfl kci_0 ?_
  refine ix_K_si (L2 := [some (.ref a0), some (.int x1), some (.int 0), none]) kq_Mo_isInFirstGroup i_Mo_isInFirstGroup_5 rfl (Or.inr ⟨_, rfl, rfl⟩) (Nat.le_of_ble_eq_true rfl) rfl ?_
  refine ix_K_ci kq_Mo_isInFirstGroup i_Mo_isInFirstGroup_6 rfl kci_0 ?_
  refine ix_K_si (L2 := [some (.ref a0), some (.int x1), some (.int 0), some (.int 0)]) kq_Mo_isInFirstGroup i_Mo_isInFirstGroup_7 rfl (Or.inr ⟨_, rfl, rfl⟩) (Nat.le_of_ble_eq_true rfl) rfl ?_
  exact ix_D_cut i_Mo_isInFirstGroup_8 rfl
theorem x_Mo_isInFirstGroup {a0 : Nat} {x1 : Int32} {h h1 : ixH} {v : Bool} (hr : ix_rc h a0 = some 11) (hd : ix_D mMo_isInFirstGroup 0 [some (.ref a0), some (.int x1), none, none] [] h = some ([.int (ix_bi v)], h1)) : ix_M mMo_isInFirstGroup [.ref a0, .int x1] h = some ([.int (ix_bi v)], h1) := ix_M_of (ix_ent_i kq_Mo_isInFirstGroup rfl hr rfl (Nat.le_of_ble_eq_true rfl) rfl) hd (ix_okrZ rfl v)
theorem i_Mo_isInSomeGroup_0 : ix_nx mMo_isInSomeGroup 0 = some (0, .aload_n 0, 1, none, [], 0) := rfl
theorem i_Mo_isInSomeGroup_1 : ix_nx mMo_isInSomeGroup 1 = some (3, .invokevirtual 236, 4, none, [0, 198, 209], 0) := rfl
theorem i_Mo_isInSomeGroup_4 : ix_nx mMo_isInSomeGroup 4 = some (0, .istore_n 2, 5, none, [], 0) := rfl
theorem i_Mo_isInSomeGroup_5 : ix_nx mMo_isInSomeGroup 5 = some (0, .bipush (-6), 7, none, [], 0) := rfl
theorem i_Mo_isInSomeGroup_7 : ix_nx mMo_isInSomeGroup 7 = some (0, .istore_n 3, 8, none, [], 0) := rfl
theorem i_Mo_isInSomeGroup_8 : ix_nx mMo_isInSomeGroup 8 = some (0, .iconst 0, 9, none, [], 0) := rfl
theorem i_Mo_isInSomeGroup_9 : ix_nx mMo_isInSomeGroup 9 = some (0, .istore 4, 11, none, [], 0) := rfl
theorem i_Mo_isInSomeGroup_11 : ix_nx mMo_isInSomeGroup 11 = some (0, .iload 4, 13, some [true, true, true, true, true], [], 0) := rfl
theorem i_Mo_isInSomeGroup_13 : ix_nx mMo_isInSomeGroup 13 = some (0, .aload_n 0, 14, none, [], 0) := rfl
theorem i_Mo_isInSomeGroup_14 : ix_nx mMo_isInSomeGroup 14 = some (1, .getfield 221, 17, none, [11, 20, 0, 110], 0) := rfl
theorem i_Mo_isInSomeGroup_17 : ix_nx mMo_isInSomeGroup 17 = some (0, .if_icmp .ge 27, 20, none, [], 0) := rfl
theorem i_Mo_isInSomeGroup_20 : ix_nx mMo_isInSomeGroup 20 = some (0, .aload_n 0, 21, none, [], 0) := rfl
theorem i_Mo_isInSomeGroup_21 : ix_nx mMo_isInSomeGroup 21 = some (1, .getfield 60, 24, none, [11, 19, 2, 109], 0) := rfl
theorem i_Mo_isInSomeGroup_24 : ix_nx mMo_isInSomeGroup 24 = some (0, .iload 4, 26, none, [], 0) := rfl
theorem i_Mo_isInSomeGroup_26 : ix_nx mMo_isInSomeGroup 26 = some (1, .iaload, 27, none, [], 0) := rfl
theorem i_Mo_isInSomeGroup_27 : ix_nx mMo_isInSomeGroup 27 = some (0, .iload_n 1, 28, none, [], 0) := rfl
theorem i_Mo_isInSomeGroup_28 : ix_nx mMo_isInSomeGroup 28 = some (0, .if_icmp .ne 8, 31, none, [], 0) := rfl
theorem i_Mo_isInSomeGroup_31 : ix_nx mMo_isInSomeGroup 31 = some (0, .iload 4, 33, none, [], 0) := rfl
theorem i_Mo_isInSomeGroup_33 : ix_nx mMo_isInSomeGroup 33 = some (0, .goto 4, 36, none, [], 0) := rfl
theorem i_Mo_isInSomeGroup_36 : ix_nx mMo_isInSomeGroup 36 = some (0, .iload_n 3, 37, none, [], 0) := rfl
theorem i_Mo_isInSomeGroup_37 : ix_nx mMo_isInSomeGroup 37 = some (0, .istore_n 3, 38, none, [], 0) := rfl
theorem i_Mo_isInSomeGroup_38 : ix_nx mMo_isInSomeGroup 38 = some (0, .iinc 4 1, 41, none, [], 0) := rfl
theorem i_Mo_isInSomeGroup_41 : ix_nx mMo_isInSomeGroup 41 = some (0, .goto (-30), 44, none, [], 0) := rfl
theorem i_Mo_isInSomeGroup_44 : ix_nx mMo_isInSomeGroup 44 = some (0, .iload_n 3, 45, none, [], 0) := rfl
theorem i_Mo_isInSomeGroup_45 : ix_nx mMo_isInSomeGroup 45 = some (0, .ifCond .ge 5, 48, none, [], 0) := rfl
theorem i_Mo_isInSomeGroup_48 : ix_nx mMo_isInSomeGroup 48 = some (0, .iconst 0, 49, none, [], 0) := rfl
theorem i_Mo_isInSomeGroup_49 : ix_nx mMo_isInSomeGroup 49 = some (4, .ireturn, 50, none, [], 0) := rfl
theorem i_Mo_isInSomeGroup_50 : ix_nx mMo_isInSomeGroup 50 = some (0, .iconst 0, 51, none, [], 0) := rfl
theorem i_Mo_isInSomeGroup_51 : ix_nx mMo_isInSomeGroup 51 = some (0, .istore 4, 53, none, [], 0) := rfl
theorem i_Mo_isInSomeGroup_53 : ix_nx mMo_isInSomeGroup 53 = some (0, .iload 4, 55, some [true, false, true, true, true], [], 0) := rfl
theorem i_Mo_isInSomeGroup_55 : ix_nx mMo_isInSomeGroup 55 = some (0, .aload_n 0, 56, none, [], 0) := rfl
theorem i_Mo_isInSomeGroup_56 : ix_nx mMo_isInSomeGroup 56 = some (1, .getfield 221, 59, none, [11, 20, 0, 110], 0) := rfl
theorem i_Mo_isInSomeGroup_59 : ix_nx mMo_isInSomeGroup 59 = some (0, .if_icmp .ge 37, 62, none, [], 0) := rfl
theorem i_Mo_isInSomeGroup_62 : ix_nx mMo_isInSomeGroup 62 = some (0, .aload_n 0, 63, none, [], 0) := rfl
theorem i_Mo_isInSomeGroup_63 : ix_nx mMo_isInSomeGroup 63 = some (1, .getfield 66, 66, none, [11, 22, 2, 112], 0) := rfl
theorem i_Mo_isInSomeGroup_66 : ix_nx mMo_isInSomeGroup 66 = some (0, .iload 4, 68, none, [], 0) := rfl
theorem i_Mo_isInSomeGroup_68 : ix_nx mMo_isInSomeGroup 68 = some (0, .iload 4, 70, none, [], 0) := rfl
theorem i_Mo_isInSomeGroup_70 : ix_nx mMo_isInSomeGroup 70 = some (0, .iload_n 3, 71, none, [], 0) := rfl
theorem i_Mo_isInSomeGroup_71 : ix_nx mMo_isInSomeGroup 71 = some (0, .if_icmp .eq 17, 74, none, [], 0) := rfl
theorem i_Mo_isInSomeGroup_74 : ix_nx mMo_isInSomeGroup 74 = some (0, .aload_n 0, 75, none, [], 0) := rfl
theorem i_Mo_isInSomeGroup_75 : ix_nx mMo_isInSomeGroup 75 = some (0, .iload_n 3, 76, none, [], 0) := rfl
theorem i_Mo_isInSomeGroup_76 : ix_nx mMo_isInSomeGroup 76 = some (0, .iload 4, 78, none, [], 0) := rfl
theorem i_Mo_isInSomeGroup_78 : ix_nx mMo_isInSomeGroup 78 = some (3, .invokevirtual 239, 81, none, [0, 205, 215], 0) := rfl
theorem i_Mo_isInSomeGroup_81 : ix_nx mMo_isInSomeGroup 81 = some (0, .ifCond .ne 7, 84, none, [], 0) := rfl
theorem i_Mo_isInSomeGroup_84 : ix_nx mMo_isInSomeGroup 84 = some (0, .iconst 1, 85, none, [], 0) := rfl
theorem i_Mo_isInSomeGroup_85 : ix_nx mMo_isInSomeGroup 85 = some (0, .goto 4, 88, none, [], 0) := rfl
theorem i_Mo_isInSomeGroup_88 : ix_nx mMo_isInSomeGroup 88 = some (0, .iconst 0, 89, none, [], 0) := rfl
theorem i_Mo_isInSomeGroup_89 : ix_nx mMo_isInSomeGroup 89 = some (2, .bastore, 90, none, [], 0) := rfl
theorem i_Mo_isInSomeGroup_90 : ix_nx mMo_isInSomeGroup 90 = some (0, .iinc 4 1, 93, none, [], 0) := rfl
theorem i_Mo_isInSomeGroup_93 : ix_nx mMo_isInSomeGroup 93 = some (0, .goto (-40), 96, none, [], 0) := rfl
theorem i_Mo_isInSomeGroup_96 : ix_nx mMo_isInSomeGroup 96 = some (0, .aload_n 0, 97, none, [], 0) := rfl
theorem i_Mo_isInSomeGroup_97 : ix_nx mMo_isInSomeGroup 97 = some (3, .invokevirtual 233, 100, none, [0, 200, 211], 0) := rfl
theorem i_Mo_isInSomeGroup_100 : ix_nx mMo_isInSomeGroup 100 = some (0, .iconst 1, 101, none, [], 0) := rfl
theorem i_Mo_isInSomeGroup_101 : ix_nx mMo_isInSomeGroup 101 = some (0, .iadd, 102, none, [], 0) := rfl
theorem i_Mo_isInSomeGroup_102 : ix_nx mMo_isInSomeGroup 102 = some (0, .iload_n 2, 103, none, [], 0) := rfl
theorem i_Mo_isInSomeGroup_103 : ix_nx mMo_isInSomeGroup 103 = some (0, .if_icmp .ne 7, 106, none, [], 0) := rfl
theorem i_Mo_isInSomeGroup_106 : ix_nx mMo_isInSomeGroup 106 = some (0, .iconst 1, 107, none, [], 0) := rfl
theorem i_Mo_isInSomeGroup_107 : ix_nx mMo_isInSomeGroup 107 = some (0, .goto 4, 110, none, [], 0) := rfl
theorem i_Mo_isInSomeGroup_110 : ix_nx mMo_isInSomeGroup 110 = some (0, .iconst 0, 111, none, [], 0) := rfl
theorem i_Mo_isInSomeGroup_111 : ix_nx mMo_isInSomeGroup 111 = some (4, .ireturn, 112, none, [], 0) := rfl
noncomputable def l_Mo_isInSomeGroup_11 (a0 : Nat) (x1 : Int32) (x2 : Int32) (x3 : Int32) (x4 : Int32) (h : ixH) : Option (List Value × ixH) := ix_D mMo_isInSomeGroup 11 [some (.ref a0), some (.int x1), some (.int x2), some (.int x3), some (.int x4)] [] h
noncomputable def l_Mo_isInSomeGroup_53 (a0 : Nat) (x2 : Int32) (x3 : Int32) (x4 : Int32) (h : ixH) : Option (List Value × ixH) := ix_D mMo_isInSomeGroup 53 [some (.ref a0), none, some (.int x2), some (.int x3), some (.int x4)] [] h
set_option maxRecDepth 20000 in
set_option maxHeartbeats 1000000 in
theorem e_Mo_isInSomeGroup_11 (a0 : Nat) (x1 : Int32) (x2 : Int32) (x3 : Int32) (x4 : Int32) (h : ixH) : l_Mo_isInSomeGroup_11 a0 x1 x2 x3 x4 h = (ix_gi h a0 11 20).bind fun v1 => if v1 ≤ x4 then if 0 ≤ x3 then l_Mo_isInSomeGroup_53 a0 x2 x3 0 h else some ([.int (ix_bi false)], h) else (ix_gr h a0 11 19).bind fun v2 => (ix_ai h v2 x4).bind fun v3 => if ¬ v3 = x1 then l_Mo_isInSomeGroup_11 a0 x1 x2 x3 (x4 + 1) h else l_Mo_isInSomeGroup_11 a0 x1 x2 x4 (x4 + 1) h := by
  unfold l_Mo_isInSomeGroup_11
  refine ix_K_px kq_Mo_isInSomeGroup i_Mo_isInSomeGroup_11 rfl rfl ?_
  refine ix_K_px kq_Mo_isInSomeGroup i_Mo_isInSomeGroup_13 rfl rfl ?_
  refine ix_K_gi kq_Mo_isInSomeGroup i_Mo_isInSomeGroup_14 rfl (fun v1 => ?_)
  refine ix_K_ic_ge (tgt := 44) kq_Mo_isInSomeGroup i_Mo_isInSomeGroup_17 rfl (by decide) ?_ ?_
  · refine ix_K_px kq_Mo_isInSomeGroup i_Mo_isInSomeGroup_44 rfl rfl ?_
    refine ix_K_if_ge (tgt := 50) kq_Mo_isInSomeGroup i_Mo_isInSomeGroup_45 rfl (by decide) ?_ ?_
    · refine ix_K_ci kq_Mo_isInSomeGroup i_Mo_isInSomeGroup_50 rfl kci_0 ?_
      refine ix_K_si (L2 := [some (.ref a0), some (.int x1), some (.int x2), some (.int x3), some (.int 0)]) kq_Mo_isInSomeGroup i_Mo_isInSomeGroup_51 rfl (Or.inl rfl) (Nat.le_of_ble_eq_true rfl) rfl ?_
      exact ix_D_cut i_Mo_isInSomeGroup_53 rfl
    · refine ix_K_ci kq_Mo_isInSomeGroup i_Mo_isInSomeGroup_48 rfl kci_0 ?_
      exact ix_D_ret kq_Mo_isInSomeGroup i_Mo_isInSomeGroup_49 (ix_rtZ rfl false)
  · refine ix_K_px kq_Mo_isInSomeGroup i_Mo_isInSomeGroup_20 rfl rfl ?_
    refine ix_K_gr kq_Mo_isInSomeGroup i_Mo_isInSomeGroup_21 rfl (fun v2 => ?_)
    refine ix_K_px kq_Mo_isInSomeGroup i_Mo_isInSomeGroup_24 rfl rfl ?_
    refine ix_K_ai kq_Mo_isInSomeGroup i_Mo_isInSomeGroup_26 rfl (fun v3 => ?_)
    refine ix_K_px kq_Mo_isInSomeGroup i_Mo_isInSomeGroup_27 rfl rfl ?_
    refine ix_K_ic_ne (tgt := 36) kq_Mo_isInSomeGroup i_Mo_isInSomeGroup_28 rfl (by decide) ?_ ?_
    · refine ix_K_px kq_Mo_isInSomeGroup i_Mo_isInSomeGroup_36 rfl rfl ?_
      refine ix_K_si (L2 := [some (.ref a0), some (.int x1), some (.int x2), some (.int x3), some (.int x4)]) kq_Mo_isInSomeGroup i_Mo_isInSomeGroup_37 rfl (Or.inr ⟨_, rfl, rfl⟩) (Nat.le_of_ble_eq_true rfl) rfl ?_
      refine ix_K_inc (L2 := [some (.ref a0), some (.int x1), some (.int x2), some (.int x3), some (.int (x4 + 1))]) kq_Mo_isInSomeGroup i_Mo_isInSomeGroup_38 rfl rfl (Nat.le_of_ble_eq_true rfl) kci_1 rfl ?_
      refine ix_K_goto (tgt := 11) kq_Mo_isInSomeGroup i_Mo_isInSomeGroup_41 rfl (by decide) ?_
      exact ix_D_cut i_Mo_isInSomeGroup_11 rfl
    · refine ix_K_px kq_Mo_isInSomeGroup i_Mo_isInSomeGroup_31 rfl rfl ?_
      refine ix_K_goto (tgt := 37) kq_Mo_isInSomeGroup i_Mo_isInSomeGroup_33 rfl (by decide) ?_
      refine ix_K_si (L2 := [some (.ref a0), some (.int x1), some (.int x2), some (.int x4), some (.int x4)]) kq_Mo_isInSomeGroup i_Mo_isInSomeGroup_37 rfl (Or.inr ⟨_, rfl, rfl⟩) (Nat.le_of_ble_eq_true rfl) rfl ?_
      refine ix_K_inc (L2 := [some (.ref a0), some (.int x1), some (.int x2), some (.int x4), some (.int (x4 + 1))]) kq_Mo_isInSomeGroup i_Mo_isInSomeGroup_38 rfl rfl (Nat.le_of_ble_eq_true rfl) kci_1 rfl ?_
      refine ix_K_goto (tgt := 11) kq_Mo_isInSomeGroup i_Mo_isInSomeGroup_41 rfl (by decide) ?_
      exact ix_D_cut i_Mo_isInSomeGroup_11 rfl
set_option maxRecDepth 20000 in
set_option maxHeartbeats 1000000 in
theorem e_Mo_isInSomeGroup_53 (a0 : Nat) (x2 : Int32) (x3 : Int32) (x4 : Int32) (h : ixH) : l_Mo_isInSomeGroup_53 a0 x2 x3 x4 h = (ix_gi h a0 11 20).bind fun v1 => if v1 ≤ x4 then (ix_M mMo_widest [.ref a0] h).bind fun r => ix_kI r fun v3 h2 => if ¬ (v3 + 1) = x2 then some ([.int (ix_bi false)], h2) else some ([.int (ix_bi true)], h2) else (ix_gr h a0 11 22).bind fun v4 => if x4 = x3 then (ix_sz h v4 x4 0).bind fun h5 => l_Mo_isInSomeGroup_53 a0 x2 x3 (x4 + 1) h5 else (ix_M mMo_areComparable [.ref a0, .int x3, .int x4] h).bind fun r => ix_kZ r fun v7 h6 => if v7 = true then (ix_sz h6 v4 x4 0).bind fun h8 => l_Mo_isInSomeGroup_53 a0 x2 x3 (x4 + 1) h8 else (ix_sz h6 v4 x4 1).bind fun h9 => l_Mo_isInSomeGroup_53 a0 x2 x3 (x4 + 1) h9 := by
  unfold l_Mo_isInSomeGroup_53
  refine ix_K_px kq_Mo_isInSomeGroup i_Mo_isInSomeGroup_53 rfl rfl ?_
  refine ix_K_px kq_Mo_isInSomeGroup i_Mo_isInSomeGroup_55 rfl rfl ?_
  refine ix_K_gi kq_Mo_isInSomeGroup i_Mo_isInSomeGroup_56 rfl (fun v1 => ?_)
  refine ix_K_ic_ge (tgt := 96) kq_Mo_isInSomeGroup i_Mo_isInSomeGroup_59 rfl (by decide) ?_ ?_
  · refine ix_K_px kq_Mo_isInSomeGroup i_Mo_isInSomeGroup_96 rfl rfl ?_
    refine ix_K_callI (as := [.ref a0]) (rest := []) kq_Mo_isInSomeGroup i_Mo_isInSomeGroup_97 rfl kq_Mo_widest (by decide) rfl (Or.inl rfl) (fun v3 h2 => ?_)
    refine ix_K_ci kq_Mo_isInSomeGroup i_Mo_isInSomeGroup_100 rfl kci_1 ?_
    refine ix_K_px kq_Mo_isInSomeGroup i_Mo_isInSomeGroup_101 rfl rfl ?_
    refine ix_K_px kq_Mo_isInSomeGroup i_Mo_isInSomeGroup_102 rfl rfl ?_
    refine ix_K_ic_ne (tgt := 110) kq_Mo_isInSomeGroup i_Mo_isInSomeGroup_103 rfl (by decide) ?_ ?_
    · refine ix_K_ci kq_Mo_isInSomeGroup i_Mo_isInSomeGroup_110 rfl kci_0 ?_
      exact ix_D_ret kq_Mo_isInSomeGroup i_Mo_isInSomeGroup_111 (ix_rtZ rfl false)
    · refine ix_K_ci kq_Mo_isInSomeGroup i_Mo_isInSomeGroup_106 rfl kci_1 ?_
      refine ix_K_goto (tgt := 111) kq_Mo_isInSomeGroup i_Mo_isInSomeGroup_107 rfl (by decide) ?_
      exact ix_D_ret kq_Mo_isInSomeGroup i_Mo_isInSomeGroup_111 (ix_rtZ rfl true)
  · refine ix_K_px kq_Mo_isInSomeGroup i_Mo_isInSomeGroup_62 rfl rfl ?_
    refine ix_K_gr kq_Mo_isInSomeGroup i_Mo_isInSomeGroup_63 rfl (fun v4 => ?_)
    refine ix_K_px kq_Mo_isInSomeGroup i_Mo_isInSomeGroup_66 rfl rfl ?_
    refine ix_K_px kq_Mo_isInSomeGroup i_Mo_isInSomeGroup_68 rfl rfl ?_
    refine ix_K_px kq_Mo_isInSomeGroup i_Mo_isInSomeGroup_70 rfl rfl ?_
    refine ix_K_ic_eq (tgt := 88) kq_Mo_isInSomeGroup i_Mo_isInSomeGroup_71 rfl (by decide) ?_ ?_
    · refine ix_K_ci kq_Mo_isInSomeGroup i_Mo_isInSomeGroup_88 rfl kci_0 ?_
      refine ix_K_tz kq_Mo_isInSomeGroup i_Mo_isInSomeGroup_89 rfl (fun h5 => ?_)
      refine ix_K_inc (L2 := [some (.ref a0), none, some (.int x2), some (.int x3), some (.int (x4 + 1))]) kq_Mo_isInSomeGroup i_Mo_isInSomeGroup_90 rfl rfl (Nat.le_of_ble_eq_true rfl) kci_1 rfl ?_
      refine ix_K_goto (tgt := 53) kq_Mo_isInSomeGroup i_Mo_isInSomeGroup_93 rfl (by decide) ?_
      exact ix_D_cut i_Mo_isInSomeGroup_53 rfl
    · refine ix_K_px kq_Mo_isInSomeGroup i_Mo_isInSomeGroup_74 rfl rfl ?_
      refine ix_K_px kq_Mo_isInSomeGroup i_Mo_isInSomeGroup_75 rfl rfl ?_
      refine ix_K_px kq_Mo_isInSomeGroup i_Mo_isInSomeGroup_76 rfl rfl ?_
      refine ix_K_callZ (as := [.ref a0, .int x3, .int x4]) (rest := [.int x4, .ref v4]) kq_Mo_isInSomeGroup i_Mo_isInSomeGroup_78 rfl kq_Mo_areComparable (by decide) rfl rfl (fun v7 h6 => ?_)
      refine ix_K_bz_ne (tgt := 88) kq_Mo_isInSomeGroup i_Mo_isInSomeGroup_81 rfl (by decide) ?_ ?_
      · refine ix_K_ci kq_Mo_isInSomeGroup i_Mo_isInSomeGroup_88 rfl kci_0 ?_
        refine ix_K_tz kq_Mo_isInSomeGroup i_Mo_isInSomeGroup_89 rfl (fun h8 => ?_)
        refine ix_K_inc (L2 := [some (.ref a0), none, some (.int x2), some (.int x3), some (.int (x4 + 1))]) kq_Mo_isInSomeGroup i_Mo_isInSomeGroup_90 rfl rfl (Nat.le_of_ble_eq_true rfl) kci_1 rfl ?_
        refine ix_K_goto (tgt := 53) kq_Mo_isInSomeGroup i_Mo_isInSomeGroup_93 rfl (by decide) ?_
        exact ix_D_cut i_Mo_isInSomeGroup_53 rfl
      · refine ix_K_ci kq_Mo_isInSomeGroup i_Mo_isInSomeGroup_84 rfl kci_1 ?_
        refine ix_K_goto (tgt := 89) kq_Mo_isInSomeGroup i_Mo_isInSomeGroup_85 rfl (by decide) ?_
        refine ix_K_tz kq_Mo_isInSomeGroup i_Mo_isInSomeGroup_89 rfl (fun h9 => ?_)
        refine ix_K_inc (L2 := [some (.ref a0), none, some (.int x2), some (.int x3), some (.int (x4 + 1))]) kq_Mo_isInSomeGroup i_Mo_isInSomeGroup_90 rfl rfl (Nat.le_of_ble_eq_true rfl) kci_1 rfl ?_
        refine ix_K_goto (tgt := 53) kq_Mo_isInSomeGroup i_Mo_isInSomeGroup_93 rfl (by decide) ?_
        exact ix_D_cut i_Mo_isInSomeGroup_53 rfl
set_option maxRecDepth 20000 in
set_option maxHeartbeats 1000000 in
theorem e_Mo_isInSomeGroup (a0 : Nat) (x1 : Int32) (h : ixH) : ix_D mMo_isInSomeGroup 0 [some (.ref a0), some (.int x1), none, none, none] [] h = (ix_M mMo_wholeCover [.ref a0] h).bind fun r => ix_kI r fun v2 h1 => l_Mo_isInSomeGroup_11 a0 x1 v2 (-6) 0 h1 := by
  refine ix_K_px kq_Mo_isInSomeGroup i_Mo_isInSomeGroup_0 rfl rfl ?_
  refine ix_K_callI (as := [.ref a0]) (rest := []) kq_Mo_isInSomeGroup i_Mo_isInSomeGroup_1 rfl kq_Mo_wholeCover (by decide) rfl (Or.inl rfl) (fun v2 h1 => ?_)
  refine ix_K_si (L2 := [some (.ref a0), some (.int x1), some (.int v2), none, none]) kq_Mo_isInSomeGroup i_Mo_isInSomeGroup_4 rfl (Or.inr ⟨_, rfl, rfl⟩) (Nat.le_of_ble_eq_true rfl) rfl ?_
  refine ix_K_cb kq_Mo_isInSomeGroup i_Mo_isInSomeGroup_5 rfl kcb_m6 ?_
  refine ix_K_si (L2 := [some (.ref a0), some (.int x1), some (.int v2), some (.int (-6)), none]) kq_Mo_isInSomeGroup i_Mo_isInSomeGroup_7 rfl (Or.inr ⟨_, rfl, rfl⟩) (Nat.le_of_ble_eq_true rfl) rfl ?_
  refine ix_K_ci kq_Mo_isInSomeGroup i_Mo_isInSomeGroup_8 rfl kci_0 ?_
  refine ix_K_si (L2 := [some (.ref a0), some (.int x1), some (.int v2), some (.int (-6)), some (.int 0)]) kq_Mo_isInSomeGroup i_Mo_isInSomeGroup_9 rfl (Or.inl rfl) (Nat.le_of_ble_eq_true rfl) rfl ?_
  exact ix_D_cut i_Mo_isInSomeGroup_11 rfl
theorem x_Mo_isInSomeGroup {a0 : Nat} {x1 : Int32} {h h1 : ixH} {v : Bool} (hr : ix_rc h a0 = some 11) (hd : ix_D mMo_isInSomeGroup 0 [some (.ref a0), some (.int x1), none, none, none] [] h = some ([.int (ix_bi v)], h1)) : ix_M mMo_isInSomeGroup [.ref a0, .int x1] h = some ([.int (ix_bi v)], h1) := ix_M_of (ix_ent_i kq_Mo_isInSomeGroup rfl hr rfl (Nat.le_of_ble_eq_true rfl) rfl) hd (ix_okrZ rfl v)
theorem i_Mo_step_0 : ix_nx mMo_step 0 = some (0, .iload_n 1, 1, none, [], 0) := rfl
theorem i_Mo_step_1 : ix_nx mMo_step 1 = some (3, .invokestatic 275, 4, none, [1, 215, 223], 0) := rfl
theorem i_Mo_step_4 : ix_nx mMo_step 4 = some (0, .ifCond .eq 11, 7, none, [], 0) := rfl
theorem i_Mo_step_7 : ix_nx mMo_step 7 = some (0, .aload_n 0, 8, none, [], 0) := rfl
theorem i_Mo_step_8 : ix_nx mMo_step 8 = some (0, .iload_n 2, 9, none, [], 0) := rfl
theorem i_Mo_step_9 : ix_nx mMo_step 9 = some (3, .invokevirtual 117, 12, none, [0, 151, 176], 0) := rfl
theorem i_Mo_step_12 : ix_nx mMo_step 12 = some (0, .ifCond .ne 5, 15, none, [], 0) := rfl
theorem i_Mo_step_15 : ix_nx mMo_step 15 = some (0, .iconst (-1), 16, none, [], 0) := rfl
theorem i_Mo_step_16 : ix_nx mMo_step 16 = some (4, .ireturn, 17, none, [], 0) := rfl
theorem i_Mo_step_17 : ix_nx mMo_step 17 = some (0, .aload_n 0, 18, none, [], 0) := rfl
theorem i_Mo_step_18 : ix_nx mMo_step 18 = some (0, .iload_n 1, 19, none, [], 0) := rfl
theorem i_Mo_step_19 : ix_nx mMo_step 19 = some (3, .invokevirtual 269, 22, none, [0, 216, 224], 0) := rfl
theorem i_Mo_step_22 : ix_nx mMo_step 22 = some (0, .istore_n 3, 23, none, [], 0) := rfl
theorem i_Mo_step_23 : ix_nx mMo_step 23 = some (0, .aload_n 0, 24, none, [], 0) := rfl
theorem i_Mo_step_24 : ix_nx mMo_step 24 = some (0, .iload_n 2, 25, none, [], 0) := rfl
theorem i_Mo_step_25 : ix_nx mMo_step 25 = some (3, .invokevirtual 102, 28, none, [0, 160, 181], 0) := rfl
theorem i_Mo_step_28 : ix_nx mMo_step 28 = some (0, .ifCond .eq 32, 31, none, [], 0) := rfl
theorem i_Mo_step_31 : ix_nx mMo_step 31 = some (0, .aload_n 0, 32, none, [], 0) := rfl
theorem i_Mo_step_32 : ix_nx mMo_step 32 = some (0, .iload_n 1, 33, none, [], 0) := rfl
theorem i_Mo_step_33 : ix_nx mMo_step 33 = some (0, .iload_n 2, 34, none, [], 0) := rfl
theorem i_Mo_step_34 : ix_nx mMo_step 34 = some (3, .invokevirtual 278, 37, none, [0, 217, 225], 0) := rfl
theorem i_Mo_step_37 : ix_nx mMo_step 37 = some (0, .ifCond .ge 23, 40, none, [], 0) := rfl
theorem i_Mo_step_40 : ix_nx mMo_step 40 = some (0, .iload_n 3, 41, none, [], 0) := rfl
theorem i_Mo_step_41 : ix_nx mMo_step 41 = some (0, .ifCond .le 22, 44, none, [], 0) := rfl
theorem i_Mo_step_44 : ix_nx mMo_step 44 = some (0, .aload_n 0, 45, none, [], 0) := rfl
theorem i_Mo_step_45 : ix_nx mMo_step 45 = some (0, .aload_n 0, 46, none, [], 0) := rfl
theorem i_Mo_step_46 : ix_nx mMo_step 46 = some (0, .iload_n 1, 47, none, [], 0) := rfl
theorem i_Mo_step_47 : ix_nx mMo_step 47 = some (0, .iload_n 3, 48, none, [], 0) := rfl
theorem i_Mo_step_48 : ix_nx mMo_step 48 = some (0, .iconst 1, 49, none, [], 0) := rfl
theorem i_Mo_step_49 : ix_nx mMo_step 49 = some (0, .isub, 50, none, [], 0) := rfl
theorem i_Mo_step_50 : ix_nx mMo_step 50 = some (3, .invokevirtual 272, 53, none, [0, 218, 226], 0) := rfl
theorem i_Mo_step_53 : ix_nx mMo_step 53 = some (0, .iload_n 2, 54, none, [], 0) := rfl
theorem i_Mo_step_54 : ix_nx mMo_step 54 = some (3, .invokevirtual 281, 57, none, [0, 219, 227], 0) := rfl
theorem i_Mo_step_57 : ix_nx mMo_step 57 = some (0, .ifCond .ne 6, 60, none, [], 0) := rfl
theorem i_Mo_step_60 : ix_nx mMo_step 60 = some (0, .bipush (-5), 62, none, [], 0) := rfl
theorem i_Mo_step_62 : ix_nx mMo_step 62 = some (4, .ireturn, 63, none, [], 0) := rfl
theorem i_Mo_step_63 : ix_nx mMo_step 63 = some (0, .aload_n 0, 64, some [true, true, true, true], [], 0) := rfl
theorem i_Mo_step_64 : ix_nx mMo_step 64 = some (1, .getfield 7, 67, none, [11, 0, 2, 90], 0) := rfl
theorem i_Mo_step_67 : ix_nx mMo_step 67 = some (0, .sipush 395, 70, none, [], 0) := rfl
theorem i_Mo_step_70 : ix_nx mMo_step 70 = some (0, .bipush 65, 72, none, [], 0) := rfl
theorem i_Mo_step_72 : ix_nx mMo_step 72 = some (0, .iload_n 1, 73, none, [], 0) := rfl
theorem i_Mo_step_73 : ix_nx mMo_step 73 = some (0, .imul, 74, none, [], 0) := rfl
theorem i_Mo_step_74 : ix_nx mMo_step 74 = some (0, .iadd, 75, none, [], 0) := rfl
theorem i_Mo_step_75 : ix_nx mMo_step 75 = some (0, .iconst 1, 76, none, [], 0) := rfl
theorem i_Mo_step_76 : ix_nx mMo_step 76 = some (0, .iadd, 77, none, [], 0) := rfl
theorem i_Mo_step_77 : ix_nx mMo_step 77 = some (0, .iload_n 3, 78, none, [], 0) := rfl
theorem i_Mo_step_78 : ix_nx mMo_step 78 = some (0, .iadd, 79, none, [], 0) := rfl
theorem i_Mo_step_79 : ix_nx mMo_step 79 = some (0, .iload_n 2, 80, none, [], 0) := rfl
theorem i_Mo_step_80 : ix_nx mMo_step 80 = some (2, .iastore, 81, none, [], 0) := rfl
theorem i_Mo_step_81 : ix_nx mMo_step 81 = some (0, .aload_n 0, 82, none, [], 0) := rfl
theorem i_Mo_step_82 : ix_nx mMo_step 82 = some (1, .getfield 7, 85, none, [11, 0, 2, 90], 0) := rfl
theorem i_Mo_step_85 : ix_nx mMo_step 85 = some (0, .sipush 395, 88, none, [], 0) := rfl
theorem i_Mo_step_88 : ix_nx mMo_step 88 = some (0, .bipush 65, 90, none, [], 0) := rfl
theorem i_Mo_step_90 : ix_nx mMo_step 90 = some (0, .iload_n 1, 91, none, [], 0) := rfl
theorem i_Mo_step_91 : ix_nx mMo_step 91 = some (0, .imul, 92, none, [], 0) := rfl
theorem i_Mo_step_92 : ix_nx mMo_step 92 = some (0, .iadd, 93, none, [], 0) := rfl
theorem i_Mo_step_93 : ix_nx mMo_step 93 = some (0, .iload_n 3, 94, none, [], 0) := rfl
theorem i_Mo_step_94 : ix_nx mMo_step 94 = some (0, .iconst 1, 95, none, [], 0) := rfl
theorem i_Mo_step_95 : ix_nx mMo_step 95 = some (0, .iadd, 96, none, [], 0) := rfl
theorem i_Mo_step_96 : ix_nx mMo_step 96 = some (2, .iastore, 97, none, [], 0) := rfl
theorem i_Mo_step_97 : ix_nx mMo_step 97 = some (0, .iload_n 3, 98, none, [], 0) := rfl
theorem i_Mo_step_98 : ix_nx mMo_step 98 = some (0, .iconst 1, 99, none, [], 0) := rfl
theorem i_Mo_step_99 : ix_nx mMo_step 99 = some (0, .iadd, 100, none, [], 0) := rfl
theorem i_Mo_step_100 : ix_nx mMo_step 100 = some (4, .ireturn, 101, none, [], 0) := rfl
noncomputable def l_Mo_step_63 (a0 : Nat) (x1 : Int32) (x2 : Int32) (x3 : Int32) (h : ixH) : Option (List Value × ixH) := ix_D mMo_step 63 [some (.ref a0), some (.int x1), some (.int x2), some (.int x3)] [] h
set_option maxRecDepth 20000 in
set_option maxHeartbeats 1000000 in
theorem e_Mo_step_63 (a0 : Nat) (x1 : Int32) (x2 : Int32) (x3 : Int32) (h : ixH) : l_Mo_step_63 a0 x1 x2 x3 h = (ix_gr h a0 11 0).bind fun v1 => (ix_si h v1 (((395 + (65 * x1)) + 1) + x3) x2).bind fun h2 => (ix_gr h2 a0 11 0).bind fun v3 => (ix_si h2 v3 (395 + (65 * x1)) (x3 + 1)).bind fun h4 => some ([.int (x3 + 1)], h4) := by
  unfold l_Mo_step_63
  refine ix_K_px kq_Mo_step i_Mo_step_63 rfl rfl ?_
  refine ix_K_gr kq_Mo_step i_Mo_step_64 rfl (fun v1 => ?_)
  refine ix_K_cs kq_Mo_step i_Mo_step_67 rfl kcs_395 ?_
  refine ix_K_cb kq_Mo_step i_Mo_step_70 rfl kcb_65 ?_
  refine ix_K_px kq_Mo_step i_Mo_step_72 rfl rfl ?_
  refine ix_K_px kq_Mo_step i_Mo_step_73 rfl rfl ?_
  refine ix_K_px kq_Mo_step i_Mo_step_74 rfl rfl ?_
  refine ix_K_ci kq_Mo_step i_Mo_step_75 rfl kci_1 ?_
  refine ix_K_px kq_Mo_step i_Mo_step_76 rfl rfl ?_
  refine ix_K_px kq_Mo_step i_Mo_step_77 rfl rfl ?_
  refine ix_K_px kq_Mo_step i_Mo_step_78 rfl rfl ?_
  refine ix_K_px kq_Mo_step i_Mo_step_79 rfl rfl ?_
  refine ix_K_ti kq_Mo_step i_Mo_step_80 rfl (fun h2 => ?_)
  refine ix_K_px kq_Mo_step i_Mo_step_81 rfl rfl ?_
  refine ix_K_gr kq_Mo_step i_Mo_step_82 rfl (fun v3 => ?_)
  refine ix_K_cs kq_Mo_step i_Mo_step_85 rfl kcs_395 ?_
  refine ix_K_cb kq_Mo_step i_Mo_step_88 rfl kcb_65 ?_
  refine ix_K_px kq_Mo_step i_Mo_step_90 rfl rfl ?_
  refine ix_K_px kq_Mo_step i_Mo_step_91 rfl rfl ?_
  refine ix_K_px kq_Mo_step i_Mo_step_92 rfl rfl ?_
  refine ix_K_px kq_Mo_step i_Mo_step_93 rfl rfl ?_
  refine ix_K_ci kq_Mo_step i_Mo_step_94 rfl kci_1 ?_
  refine ix_K_px kq_Mo_step i_Mo_step_95 rfl rfl ?_
  refine ix_K_ti kq_Mo_step i_Mo_step_96 rfl (fun h4 => ?_)
  refine ix_K_px kq_Mo_step i_Mo_step_97 rfl rfl ?_
  refine ix_K_ci kq_Mo_step i_Mo_step_98 rfl kci_1 ?_
  refine ix_K_px kq_Mo_step i_Mo_step_99 rfl rfl ?_
  exact ix_D_ret kq_Mo_step i_Mo_step_100 (ix_rtI rfl _)
set_option maxRecDepth 20000 in
set_option maxHeartbeats 1000000 in
theorem e_Mo_step (a0 : Nat) (x1 : Int32) (x2 : Int32) (h : ixH) : ix_D mMo_step 0 [some (.ref a0), some (.int x1), some (.int x2), none] [] h = (ix_M mMo_isSlot [.int x1] h).bind fun r => ix_kZ r fun v2 h1 => if v2 = true then (ix_M mMo_isCell [.ref a0, .int x2] h1).bind fun r => ix_kZ r fun v4 h3 => if v4 = true then (ix_M mMo_length [.ref a0, .int x1] h3).bind fun r => ix_kI r fun v6 h5 => (ix_M mMo_isOpen [.ref a0, .int x2] h5).bind fun r => ix_kZ r fun v8 h7 => if v8 = true then (ix_M mMo_indexOf [.ref a0, .int x1, .int x2] h7).bind fun r => ix_kI r fun v10 h9 => if 0 ≤ v10 then some ([.int (-5)], h9) else if v6 ≤ 0 then l_Mo_step_63 a0 x1 x2 v6 h9 else (ix_M mMo_cellOf [.ref a0, .int x1, .int (v6 - 1)] h9).bind fun r => ix_kI r fun v12 h11 => (ix_M mMo_areAdjacent [.ref a0, .int v12, .int x2] h11).bind fun r => ix_kZ r fun v14 h13 => if v14 = true then l_Mo_step_63 a0 x1 x2 v6 h13 else some ([.int (-5)], h13) else some ([.int (-5)], h7) else some ([.int (-1)], h3) else some ([.int (-1)], h1) := by
  refine ix_K_px kq_Mo_step i_Mo_step_0 rfl rfl ?_
  refine ix_K_callZ (as := [.int x1]) (rest := []) kq_Mo_step i_Mo_step_1 rfl kq_Mo_isSlot (by decide) rfl rfl (fun v2 h1 => ?_)
  refine ix_K_bz_eq (tgt := 15) kq_Mo_step i_Mo_step_4 rfl (by decide) ?_ ?_
  · refine ix_K_px kq_Mo_step i_Mo_step_7 rfl rfl ?_
    refine ix_K_px kq_Mo_step i_Mo_step_8 rfl rfl ?_
    refine ix_K_callZ (as := [.ref a0, .int x2]) (rest := []) kq_Mo_step i_Mo_step_9 rfl kq_Mo_isCell (by decide) rfl rfl (fun v4 h3 => ?_)
    refine ix_K_bz_ne (tgt := 17) kq_Mo_step i_Mo_step_12 rfl (by decide) ?_ ?_
    · refine ix_K_px kq_Mo_step i_Mo_step_17 rfl rfl ?_
      refine ix_K_px kq_Mo_step i_Mo_step_18 rfl rfl ?_
      refine ix_K_callI (as := [.ref a0, .int x1]) (rest := []) kq_Mo_step i_Mo_step_19 rfl kq_Mo_length (by decide) rfl (Or.inl rfl) (fun v6 h5 => ?_)
      refine ix_K_si (L2 := [some (.ref a0), some (.int x1), some (.int x2), some (.int v6)]) kq_Mo_step i_Mo_step_22 rfl (Or.inr ⟨_, rfl, rfl⟩) (Nat.le_of_ble_eq_true rfl) rfl ?_
      refine ix_K_px kq_Mo_step i_Mo_step_23 rfl rfl ?_
      refine ix_K_px kq_Mo_step i_Mo_step_24 rfl rfl ?_
      refine ix_K_callZ (as := [.ref a0, .int x2]) (rest := []) kq_Mo_step i_Mo_step_25 rfl kq_Mo_isOpen (by decide) rfl rfl (fun v8 h7 => ?_)
      refine ix_K_bz_eq (tgt := 60) kq_Mo_step i_Mo_step_28 rfl (by decide) ?_ ?_
      · refine ix_K_px kq_Mo_step i_Mo_step_31 rfl rfl ?_
        refine ix_K_px kq_Mo_step i_Mo_step_32 rfl rfl ?_
        refine ix_K_px kq_Mo_step i_Mo_step_33 rfl rfl ?_
        refine ix_K_callI (as := [.ref a0, .int x1, .int x2]) (rest := []) kq_Mo_step i_Mo_step_34 rfl kq_Mo_indexOf (by decide) rfl (Or.inl rfl) (fun v10 h9 => ?_)
        refine ix_K_if_ge (tgt := 60) kq_Mo_step i_Mo_step_37 rfl (by decide) ?_ ?_
        · refine ix_K_cb kq_Mo_step i_Mo_step_60 rfl kcb_m5 ?_
          exact ix_D_ret kq_Mo_step i_Mo_step_62 (ix_rtI rfl _)
        · refine ix_K_px kq_Mo_step i_Mo_step_40 rfl rfl ?_
          refine ix_K_if_le (tgt := 63) kq_Mo_step i_Mo_step_41 rfl (by decide) ?_ ?_
          · exact ix_D_cut i_Mo_step_63 rfl
          · refine ix_K_px kq_Mo_step i_Mo_step_44 rfl rfl ?_
            refine ix_K_px kq_Mo_step i_Mo_step_45 rfl rfl ?_
            refine ix_K_px kq_Mo_step i_Mo_step_46 rfl rfl ?_
            refine ix_K_px kq_Mo_step i_Mo_step_47 rfl rfl ?_
            refine ix_K_ci kq_Mo_step i_Mo_step_48 rfl kci_1 ?_
            refine ix_K_px kq_Mo_step i_Mo_step_49 rfl rfl ?_
            refine ix_K_callI (as := [.ref a0, .int x1, .int (v6 - 1)]) (rest := [.ref a0]) kq_Mo_step i_Mo_step_50 rfl kq_Mo_cellOf (by decide) rfl (Or.inl rfl) (fun v12 h11 => ?_)
            refine ix_K_px kq_Mo_step i_Mo_step_53 rfl rfl ?_
            refine ix_K_callZ (as := [.ref a0, .int v12, .int x2]) (rest := []) kq_Mo_step i_Mo_step_54 rfl kq_Mo_areAdjacent (by decide) rfl rfl (fun v14 h13 => ?_)
            refine ix_K_bz_ne (tgt := 63) kq_Mo_step i_Mo_step_57 rfl (by decide) ?_ ?_
            · exact ix_D_cut i_Mo_step_63 rfl
            · refine ix_K_cb kq_Mo_step i_Mo_step_60 rfl kcb_m5 ?_
              exact ix_D_ret kq_Mo_step i_Mo_step_62 (ix_rtI rfl _)
      · refine ix_K_cb kq_Mo_step i_Mo_step_60 rfl kcb_m5 ?_
        exact ix_D_ret kq_Mo_step i_Mo_step_62 (ix_rtI rfl _)
    · refine ix_K_ci kq_Mo_step i_Mo_step_15 rfl kci_m1 ?_
      exact ix_D_ret kq_Mo_step i_Mo_step_16 (ix_rtI rfl _)
  · refine ix_K_ci kq_Mo_step i_Mo_step_15 rfl kci_m1 ?_
    exact ix_D_ret kq_Mo_step i_Mo_step_16 (ix_rtI rfl _)
theorem x_Mo_step {a0 : Nat} {x1 : Int32} {x2 : Int32} {h h1 : ixH} {v : Int32} (hr : ix_rc h a0 = some 11) (hd : ix_D mMo_step 0 [some (.ref a0), some (.int x1), some (.int x2), none] [] h = some ([.int v], h1)) : ix_M mMo_step [.ref a0, .int x1, .int x2] h = some ([.int v], h1) := ix_M_of (ix_ent_i kq_Mo_step rfl hr rfl (Nat.le_of_ble_eq_true rfl) rfl) hd (ix_okrI (Or.inl rfl) v)
theorem i_Mo_isSlot_0 : ix_nx mMo_isSlot 0 = some (0, .iload_n 0, 1, none, [], 0) := rfl
theorem i_Mo_isSlot_1 : ix_nx mMo_isSlot 1 = some (0, .iconst 0, 2, none, [], 0) := rfl
theorem i_Mo_isSlot_2 : ix_nx mMo_isSlot 2 = some (0, .iconst 4, 3, none, [], 0) := rfl
theorem i_Mo_isSlot_3 : ix_nx mMo_isSlot 3 = some (3, .invokestatic 98, 6, none, [1, 148, 174], 0) := rfl
theorem i_Mo_isSlot_6 : ix_nx mMo_isSlot 6 = some (4, .ireturn, 7, none, [], 0) := rfl
set_option maxRecDepth 20000 in
set_option maxHeartbeats 1000000 in
theorem e_Mo_isSlot (x0 : Int32) (h : ixH) : ix_D mMo_isSlot 0 [some (.int x0)] [] h = (ix_M mMo_in [.int x0, .int 0, .int 4] h).bind fun r => ix_kZ r fun v2 h1 => some ([.int (ix_bi v2)], h1) := by
  refine ix_K_px kq_Mo_isSlot i_Mo_isSlot_0 rfl rfl ?_
  refine ix_K_ci kq_Mo_isSlot i_Mo_isSlot_1 rfl kci_0 ?_
  refine ix_K_ci kq_Mo_isSlot i_Mo_isSlot_2 rfl kci_4 ?_
  refine ix_K_callZ (as := [.int x0, .int 0, .int 4]) (rest := []) kq_Mo_isSlot i_Mo_isSlot_3 rfl kq_Mo_in (by decide) rfl rfl (fun v2 h1 => ?_)
  exact ix_D_ret kq_Mo_isSlot i_Mo_isSlot_6 (ix_rtZ rfl _)
theorem x_Mo_isSlot {x0 : Int32} {h h1 : ixH} {v : Bool} (hd : ix_D mMo_isSlot 0 [some (.int x0)] [] h = some ([.int (ix_bi v)], h1)) : ix_M mMo_isSlot [.int x0] h = some ([.int (ix_bi v)], h1) := ix_M_of (ix_ent_s kq_Mo_isSlot rfl rfl (Nat.le_of_ble_eq_true rfl) rfl) hd (ix_okrZ rfl v)
theorem i_Mo_length_0 : ix_nx mMo_length 0 = some (0, .aload_n 0, 1, none, [], 0) := rfl
theorem i_Mo_length_1 : ix_nx mMo_length 1 = some (1, .getfield 7, 4, none, [11, 0, 2, 90], 0) := rfl
theorem i_Mo_length_4 : ix_nx mMo_length 4 = some (0, .sipush 395, 7, none, [], 0) := rfl
theorem i_Mo_length_7 : ix_nx mMo_length 7 = some (0, .bipush 65, 9, none, [], 0) := rfl
theorem i_Mo_length_9 : ix_nx mMo_length 9 = some (0, .iload_n 1, 10, none, [], 0) := rfl
theorem i_Mo_length_10 : ix_nx mMo_length 10 = some (0, .imul, 11, none, [], 0) := rfl
theorem i_Mo_length_11 : ix_nx mMo_length 11 = some (0, .iadd, 12, none, [], 0) := rfl
theorem i_Mo_length_12 : ix_nx mMo_length 12 = some (1, .iaload, 13, none, [], 0) := rfl
theorem i_Mo_length_13 : ix_nx mMo_length 13 = some (4, .ireturn, 14, none, [], 0) := rfl
set_option maxRecDepth 20000 in
set_option maxHeartbeats 1000000 in
theorem e_Mo_length (a0 : Nat) (x1 : Int32) (h : ixH) : ix_D mMo_length 0 [some (.ref a0), some (.int x1)] [] h = (ix_gr h a0 11 0).bind fun v1 => (ix_ai h v1 (395 + (65 * x1))).bind fun v2 => some ([.int v2], h) := by
  refine ix_K_px kq_Mo_length i_Mo_length_0 rfl rfl ?_
  refine ix_K_gr kq_Mo_length i_Mo_length_1 rfl (fun v1 => ?_)
  refine ix_K_cs kq_Mo_length i_Mo_length_4 rfl kcs_395 ?_
  refine ix_K_cb kq_Mo_length i_Mo_length_7 rfl kcb_65 ?_
  refine ix_K_px kq_Mo_length i_Mo_length_9 rfl rfl ?_
  refine ix_K_px kq_Mo_length i_Mo_length_10 rfl rfl ?_
  refine ix_K_px kq_Mo_length i_Mo_length_11 rfl rfl ?_
  refine ix_K_ai kq_Mo_length i_Mo_length_12 rfl (fun v2 => ?_)
  exact ix_D_ret kq_Mo_length i_Mo_length_13 (ix_rtI rfl _)
theorem x_Mo_length {a0 : Nat} {x1 : Int32} {h h1 : ixH} {v : Int32} (hr : ix_rc h a0 = some 11) (hd : ix_D mMo_length 0 [some (.ref a0), some (.int x1)] [] h = some ([.int v], h1)) : ix_M mMo_length [.ref a0, .int x1] h = some ([.int v], h1) := ix_M_of (ix_ent_i kq_Mo_length rfl hr rfl (Nat.le_of_ble_eq_true rfl) rfl) hd (ix_okrI (Or.inl rfl) v)
theorem i_Mo_indexOf_0 : ix_nx mMo_indexOf 0 = some (0, .iconst 0, 1, none, [], 0) := rfl
theorem i_Mo_indexOf_1 : ix_nx mMo_indexOf 1 = some (0, .istore_n 3, 2, none, [], 0) := rfl
theorem i_Mo_indexOf_2 : ix_nx mMo_indexOf 2 = some (0, .iload_n 3, 3, some [true, true, true, true], [], 0) := rfl
theorem i_Mo_indexOf_3 : ix_nx mMo_indexOf 3 = some (0, .aload_n 0, 4, none, [], 0) := rfl
theorem i_Mo_indexOf_4 : ix_nx mMo_indexOf 4 = some (0, .iload_n 1, 5, none, [], 0) := rfl
theorem i_Mo_indexOf_5 : ix_nx mMo_indexOf 5 = some (3, .invokevirtual 269, 8, none, [0, 216, 224], 0) := rfl
theorem i_Mo_indexOf_8 : ix_nx mMo_indexOf 8 = some (0, .if_icmp .ge 21, 11, none, [], 0) := rfl
theorem i_Mo_indexOf_11 : ix_nx mMo_indexOf 11 = some (0, .aload_n 0, 12, none, [], 0) := rfl
theorem i_Mo_indexOf_12 : ix_nx mMo_indexOf 12 = some (0, .iload_n 1, 13, none, [], 0) := rfl
theorem i_Mo_indexOf_13 : ix_nx mMo_indexOf 13 = some (0, .iload_n 3, 14, none, [], 0) := rfl
theorem i_Mo_indexOf_14 : ix_nx mMo_indexOf 14 = some (3, .invokevirtual 272, 17, none, [0, 218, 226], 0) := rfl
theorem i_Mo_indexOf_17 : ix_nx mMo_indexOf 17 = some (0, .iload_n 2, 18, none, [], 0) := rfl
theorem i_Mo_indexOf_18 : ix_nx mMo_indexOf 18 = some (0, .if_icmp .ne 5, 21, none, [], 0) := rfl
theorem i_Mo_indexOf_21 : ix_nx mMo_indexOf 21 = some (0, .iload_n 3, 22, none, [], 0) := rfl
theorem i_Mo_indexOf_22 : ix_nx mMo_indexOf 22 = some (4, .ireturn, 23, none, [], 0) := rfl
theorem i_Mo_indexOf_23 : ix_nx mMo_indexOf 23 = some (0, .iinc 3 1, 26, none, [], 0) := rfl
theorem i_Mo_indexOf_26 : ix_nx mMo_indexOf 26 = some (0, .goto (-24), 29, none, [], 0) := rfl
theorem i_Mo_indexOf_29 : ix_nx mMo_indexOf 29 = some (0, .bipush (-6), 31, none, [], 0) := rfl
theorem i_Mo_indexOf_31 : ix_nx mMo_indexOf 31 = some (4, .ireturn, 32, none, [], 0) := rfl
noncomputable def l_Mo_indexOf_2 (a0 : Nat) (x1 : Int32) (x2 : Int32) (x3 : Int32) (h : ixH) : Option (List Value × ixH) := ix_D mMo_indexOf 2 [some (.ref a0), some (.int x1), some (.int x2), some (.int x3)] [] h
set_option maxRecDepth 20000 in
set_option maxHeartbeats 1000000 in
theorem e_Mo_indexOf_2 (a0 : Nat) (x1 : Int32) (x2 : Int32) (x3 : Int32) (h : ixH) : l_Mo_indexOf_2 a0 x1 x2 x3 h = (ix_M mMo_length [.ref a0, .int x1] h).bind fun r => ix_kI r fun v2 h1 => if v2 ≤ x3 then some ([.int (-6)], h1) else (ix_M mMo_cellOf [.ref a0, .int x1, .int x3] h1).bind fun r => ix_kI r fun v4 h3 => if ¬ v4 = x2 then l_Mo_indexOf_2 a0 x1 x2 (x3 + 1) h3 else some ([.int x3], h3) := by
  unfold l_Mo_indexOf_2
  refine ix_K_px kq_Mo_indexOf i_Mo_indexOf_2 rfl rfl ?_
  refine ix_K_px kq_Mo_indexOf i_Mo_indexOf_3 rfl rfl ?_
  refine ix_K_px kq_Mo_indexOf i_Mo_indexOf_4 rfl rfl ?_
  refine ix_K_callI (as := [.ref a0, .int x1]) (rest := [.int x3]) kq_Mo_indexOf i_Mo_indexOf_5 rfl kq_Mo_length (by decide) rfl (Or.inl rfl) (fun v2 h1 => ?_)
  refine ix_K_ic_ge (tgt := 29) kq_Mo_indexOf i_Mo_indexOf_8 rfl (by decide) ?_ ?_
  · refine ix_K_cb kq_Mo_indexOf i_Mo_indexOf_29 rfl kcb_m6 ?_
    exact ix_D_ret kq_Mo_indexOf i_Mo_indexOf_31 (ix_rtI rfl _)
  · refine ix_K_px kq_Mo_indexOf i_Mo_indexOf_11 rfl rfl ?_
    refine ix_K_px kq_Mo_indexOf i_Mo_indexOf_12 rfl rfl ?_
    refine ix_K_px kq_Mo_indexOf i_Mo_indexOf_13 rfl rfl ?_
    refine ix_K_callI (as := [.ref a0, .int x1, .int x3]) (rest := []) kq_Mo_indexOf i_Mo_indexOf_14 rfl kq_Mo_cellOf (by decide) rfl (Or.inl rfl) (fun v4 h3 => ?_)
    refine ix_K_px kq_Mo_indexOf i_Mo_indexOf_17 rfl rfl ?_
    refine ix_K_ic_ne (tgt := 23) kq_Mo_indexOf i_Mo_indexOf_18 rfl (by decide) ?_ ?_
    · refine ix_K_inc (L2 := [some (.ref a0), some (.int x1), some (.int x2), some (.int (x3 + 1))]) kq_Mo_indexOf i_Mo_indexOf_23 rfl rfl (Nat.le_of_ble_eq_true rfl) kci_1 rfl ?_
      refine ix_K_goto (tgt := 2) kq_Mo_indexOf i_Mo_indexOf_26 rfl (by decide) ?_
      exact ix_D_cut i_Mo_indexOf_2 rfl
    · refine ix_K_px kq_Mo_indexOf i_Mo_indexOf_21 rfl rfl ?_
      exact ix_D_ret kq_Mo_indexOf i_Mo_indexOf_22 (ix_rtI rfl _)
set_option maxRecDepth 20000 in
set_option maxHeartbeats 1000000 in
theorem e_Mo_indexOf (a0 : Nat) (x1 : Int32) (x2 : Int32) (h : ixH) : ix_D mMo_indexOf 0 [some (.ref a0), some (.int x1), some (.int x2), none] [] h = l_Mo_indexOf_2 a0 x1 x2 0 h := by
  refine ix_K_ci kq_Mo_indexOf i_Mo_indexOf_0 rfl kci_0 ?_
  refine ix_K_si (L2 := [some (.ref a0), some (.int x1), some (.int x2), some (.int 0)]) kq_Mo_indexOf i_Mo_indexOf_1 rfl (Or.inr ⟨_, rfl, rfl⟩) (Nat.le_of_ble_eq_true rfl) rfl ?_
  exact ix_D_cut i_Mo_indexOf_2 rfl
theorem x_Mo_indexOf {a0 : Nat} {x1 : Int32} {x2 : Int32} {h h1 : ixH} {v : Int32} (hr : ix_rc h a0 = some 11) (hd : ix_D mMo_indexOf 0 [some (.ref a0), some (.int x1), some (.int x2), none] [] h = some ([.int v], h1)) : ix_M mMo_indexOf [.ref a0, .int x1, .int x2] h = some ([.int v], h1) := ix_M_of (ix_ent_i kq_Mo_indexOf rfl hr rfl (Nat.le_of_ble_eq_true rfl) rfl) hd (ix_okrI (Or.inl rfl) v)
theorem i_Mo_cellOf_0 : ix_nx mMo_cellOf 0 = some (0, .aload_n 0, 1, none, [], 0) := rfl
theorem i_Mo_cellOf_1 : ix_nx mMo_cellOf 1 = some (1, .getfield 7, 4, none, [11, 0, 2, 90], 0) := rfl
theorem i_Mo_cellOf_4 : ix_nx mMo_cellOf 4 = some (0, .sipush 395, 7, none, [], 0) := rfl
theorem i_Mo_cellOf_7 : ix_nx mMo_cellOf 7 = some (0, .bipush 65, 9, none, [], 0) := rfl
theorem i_Mo_cellOf_9 : ix_nx mMo_cellOf 9 = some (0, .iload_n 1, 10, none, [], 0) := rfl
theorem i_Mo_cellOf_10 : ix_nx mMo_cellOf 10 = some (0, .imul, 11, none, [], 0) := rfl
theorem i_Mo_cellOf_11 : ix_nx mMo_cellOf 11 = some (0, .iadd, 12, none, [], 0) := rfl
theorem i_Mo_cellOf_12 : ix_nx mMo_cellOf 12 = some (0, .iconst 1, 13, none, [], 0) := rfl
theorem i_Mo_cellOf_13 : ix_nx mMo_cellOf 13 = some (0, .iadd, 14, none, [], 0) := rfl
theorem i_Mo_cellOf_14 : ix_nx mMo_cellOf 14 = some (0, .iload_n 2, 15, none, [], 0) := rfl
theorem i_Mo_cellOf_15 : ix_nx mMo_cellOf 15 = some (0, .iadd, 16, none, [], 0) := rfl
theorem i_Mo_cellOf_16 : ix_nx mMo_cellOf 16 = some (1, .iaload, 17, none, [], 0) := rfl
theorem i_Mo_cellOf_17 : ix_nx mMo_cellOf 17 = some (4, .ireturn, 18, none, [], 0) := rfl
set_option maxRecDepth 20000 in
set_option maxHeartbeats 1000000 in
theorem e_Mo_cellOf (a0 : Nat) (x1 : Int32) (x2 : Int32) (h : ixH) : ix_D mMo_cellOf 0 [some (.ref a0), some (.int x1), some (.int x2)] [] h = (ix_gr h a0 11 0).bind fun v1 => (ix_ai h v1 (((395 + (65 * x1)) + 1) + x2)).bind fun v2 => some ([.int v2], h) := by
  refine ix_K_px kq_Mo_cellOf i_Mo_cellOf_0 rfl rfl ?_
  refine ix_K_gr kq_Mo_cellOf i_Mo_cellOf_1 rfl (fun v1 => ?_)
  refine ix_K_cs kq_Mo_cellOf i_Mo_cellOf_4 rfl kcs_395 ?_
  refine ix_K_cb kq_Mo_cellOf i_Mo_cellOf_7 rfl kcb_65 ?_
  refine ix_K_px kq_Mo_cellOf i_Mo_cellOf_9 rfl rfl ?_
  refine ix_K_px kq_Mo_cellOf i_Mo_cellOf_10 rfl rfl ?_
  refine ix_K_px kq_Mo_cellOf i_Mo_cellOf_11 rfl rfl ?_
  refine ix_K_ci kq_Mo_cellOf i_Mo_cellOf_12 rfl kci_1 ?_
  refine ix_K_px kq_Mo_cellOf i_Mo_cellOf_13 rfl rfl ?_
  refine ix_K_px kq_Mo_cellOf i_Mo_cellOf_14 rfl rfl ?_
  refine ix_K_px kq_Mo_cellOf i_Mo_cellOf_15 rfl rfl ?_
  refine ix_K_ai kq_Mo_cellOf i_Mo_cellOf_16 rfl (fun v2 => ?_)
  exact ix_D_ret kq_Mo_cellOf i_Mo_cellOf_17 (ix_rtI rfl _)
theorem x_Mo_cellOf {a0 : Nat} {x1 : Int32} {x2 : Int32} {h h1 : ixH} {v : Int32} (hr : ix_rc h a0 = some 11) (hd : ix_D mMo_cellOf 0 [some (.ref a0), some (.int x1), some (.int x2)] [] h = some ([.int v], h1)) : ix_M mMo_cellOf [.ref a0, .int x1, .int x2] h = some ([.int v], h1) := ix_M_of (ix_ent_i kq_Mo_cellOf rfl hr rfl (Nat.le_of_ble_eq_true rfl) rfl) hd (ix_okrI (Or.inl rfl) v)
theorem i_Mo_areAdjacent_0 : ix_nx mMo_areAdjacent 0 = some (0, .iconst 0, 1, none, [], 0) := rfl
theorem i_Mo_areAdjacent_1 : ix_nx mMo_areAdjacent 1 = some (0, .istore_n 3, 2, none, [], 0) := rfl
theorem i_Mo_areAdjacent_2 : ix_nx mMo_areAdjacent 2 = some (0, .iconst 0, 3, none, [], 0) := rfl
theorem i_Mo_areAdjacent_3 : ix_nx mMo_areAdjacent 3 = some (0, .istore 4, 5, none, [], 0) := rfl
theorem i_Mo_areAdjacent_5 : ix_nx mMo_areAdjacent 5 = some (0, .iload 4, 7, some [true, true, true, true, true], [], 0) := rfl
theorem i_Mo_areAdjacent_7 : ix_nx mMo_areAdjacent 7 = some (0, .iconst 4, 8, none, [], 0) := rfl
theorem i_Mo_areAdjacent_8 : ix_nx mMo_areAdjacent 8 = some (0, .if_icmp .ge 30, 11, none, [], 0) := rfl
theorem i_Mo_areAdjacent_11 : ix_nx mMo_areAdjacent 11 = some (0, .iload_n 3, 12, none, [], 0) := rfl
theorem i_Mo_areAdjacent_12 : ix_nx mMo_areAdjacent 12 = some (0, .ifCond .ne 14, 15, none, [], 0) := rfl
theorem i_Mo_areAdjacent_15 : ix_nx mMo_areAdjacent 15 = some (0, .aload_n 0, 16, none, [], 0) := rfl
theorem i_Mo_areAdjacent_16 : ix_nx mMo_areAdjacent 16 = some (0, .iload_n 1, 17, none, [], 0) := rfl
theorem i_Mo_areAdjacent_17 : ix_nx mMo_areAdjacent 17 = some (0, .iload 4, 19, none, [], 0) := rfl
theorem i_Mo_areAdjacent_19 : ix_nx mMo_areAdjacent 19 = some (3, .invokevirtual 113, 22, none, [0, 178, 194], 0) := rfl
theorem i_Mo_areAdjacent_22 : ix_nx mMo_areAdjacent 22 = some (0, .iload_n 2, 23, none, [], 0) := rfl
theorem i_Mo_areAdjacent_23 : ix_nx mMo_areAdjacent 23 = some (0, .if_icmp .ne 7, 26, none, [], 0) := rfl
theorem i_Mo_areAdjacent_26 : ix_nx mMo_areAdjacent 26 = some (0, .iconst 1, 27, none, [], 0) := rfl
theorem i_Mo_areAdjacent_27 : ix_nx mMo_areAdjacent 27 = some (0, .goto 4, 30, none, [], 0) := rfl
theorem i_Mo_areAdjacent_30 : ix_nx mMo_areAdjacent 30 = some (0, .iconst 0, 31, none, [], 0) := rfl
theorem i_Mo_areAdjacent_31 : ix_nx mMo_areAdjacent 31 = some (0, .istore_n 3, 32, none, [], 0) := rfl
theorem i_Mo_areAdjacent_32 : ix_nx mMo_areAdjacent 32 = some (0, .iinc 4 1, 35, none, [], 0) := rfl
theorem i_Mo_areAdjacent_35 : ix_nx mMo_areAdjacent 35 = some (0, .goto (-30), 38, none, [], 0) := rfl
theorem i_Mo_areAdjacent_38 : ix_nx mMo_areAdjacent 38 = some (0, .iload_n 3, 39, none, [], 0) := rfl
theorem i_Mo_areAdjacent_39 : ix_nx mMo_areAdjacent 39 = some (4, .ireturn, 40, none, [], 0) := rfl
noncomputable def l_Mo_areAdjacent_5 (a0 : Nat) (x1 : Int32) (x2 : Int32) (b3 : Bool) (x4 : Int32) (h : ixH) : Option (List Value × ixH) := ix_D mMo_areAdjacent 5 [some (.ref a0), some (.int x1), some (.int x2), some (.int (ix_bi b3)), some (.int x4)] [] h
set_option maxRecDepth 20000 in
set_option maxHeartbeats 1000000 in
theorem e_Mo_areAdjacent_5 (a0 : Nat) (x1 : Int32) (x2 : Int32) (b3 : Bool) (x4 : Int32) (h : ixH) : l_Mo_areAdjacent_5 a0 x1 x2 b3 x4 h = if 4 ≤ x4 then some ([.int (ix_bi b3)], h) else if b3 = true then l_Mo_areAdjacent_5 a0 x1 x2 true (x4 + 1) h else (ix_M mMo_beside [.ref a0, .int x1, .int x4] h).bind fun r => ix_kI r fun v2 h1 => if ¬ v2 = x2 then l_Mo_areAdjacent_5 a0 x1 x2 false (x4 + 1) h1 else l_Mo_areAdjacent_5 a0 x1 x2 true (x4 + 1) h1 := by
  unfold l_Mo_areAdjacent_5
  refine ix_K_px kq_Mo_areAdjacent i_Mo_areAdjacent_5 rfl rfl ?_
  refine ix_K_ci kq_Mo_areAdjacent i_Mo_areAdjacent_7 rfl kci_4 ?_
  refine ix_K_ic_ge (tgt := 38) kq_Mo_areAdjacent i_Mo_areAdjacent_8 rfl (by decide) ?_ ?_
  · refine ix_K_px kq_Mo_areAdjacent i_Mo_areAdjacent_38 rfl rfl ?_
    exact ix_D_ret kq_Mo_areAdjacent i_Mo_areAdjacent_39 (ix_rtZ rfl _)
  · refine ix_K_px kq_Mo_areAdjacent i_Mo_areAdjacent_11 rfl rfl ?_
    refine ix_K_bz_ne (tgt := 26) kq_Mo_areAdjacent i_Mo_areAdjacent_12 rfl (by decide) ?_ ?_
    · refine ix_K_ci kq_Mo_areAdjacent i_Mo_areAdjacent_26 rfl kci_1 ?_
      refine ix_K_goto (tgt := 31) kq_Mo_areAdjacent i_Mo_areAdjacent_27 rfl (by decide) ?_
      refine ix_K_si (L2 := [some (.ref a0), some (.int x1), some (.int x2), some (.int 1), some (.int x4)]) kq_Mo_areAdjacent i_Mo_areAdjacent_31 rfl (Or.inr ⟨_, rfl, rfl⟩) (Nat.le_of_ble_eq_true rfl) rfl ?_
      refine ix_K_inc (L2 := [some (.ref a0), some (.int x1), some (.int x2), some (.int 1), some (.int (x4 + 1))]) kq_Mo_areAdjacent i_Mo_areAdjacent_32 rfl rfl (Nat.le_of_ble_eq_true rfl) kci_1 rfl ?_
      refine ix_K_goto (tgt := 5) kq_Mo_areAdjacent i_Mo_areAdjacent_35 rfl (by decide) ?_
      exact ix_D_cut i_Mo_areAdjacent_5 rfl
    · refine ix_K_px kq_Mo_areAdjacent i_Mo_areAdjacent_15 rfl rfl ?_
      refine ix_K_px kq_Mo_areAdjacent i_Mo_areAdjacent_16 rfl rfl ?_
      refine ix_K_px kq_Mo_areAdjacent i_Mo_areAdjacent_17 rfl rfl ?_
      refine ix_K_callI (as := [.ref a0, .int x1, .int x4]) (rest := []) kq_Mo_areAdjacent i_Mo_areAdjacent_19 rfl kq_Mo_beside (by decide) rfl (Or.inl rfl) (fun v2 h1 => ?_)
      refine ix_K_px kq_Mo_areAdjacent i_Mo_areAdjacent_22 rfl rfl ?_
      refine ix_K_ic_ne (tgt := 30) kq_Mo_areAdjacent i_Mo_areAdjacent_23 rfl (by decide) ?_ ?_
      · refine ix_K_ci kq_Mo_areAdjacent i_Mo_areAdjacent_30 rfl kci_0 ?_
        refine ix_K_si (L2 := [some (.ref a0), some (.int x1), some (.int x2), some (.int 0), some (.int x4)]) kq_Mo_areAdjacent i_Mo_areAdjacent_31 rfl (Or.inr ⟨_, rfl, rfl⟩) (Nat.le_of_ble_eq_true rfl) rfl ?_
        refine ix_K_inc (L2 := [some (.ref a0), some (.int x1), some (.int x2), some (.int 0), some (.int (x4 + 1))]) kq_Mo_areAdjacent i_Mo_areAdjacent_32 rfl rfl (Nat.le_of_ble_eq_true rfl) kci_1 rfl ?_
        refine ix_K_goto (tgt := 5) kq_Mo_areAdjacent i_Mo_areAdjacent_35 rfl (by decide) ?_
        exact ix_D_cut i_Mo_areAdjacent_5 rfl
      · refine ix_K_ci kq_Mo_areAdjacent i_Mo_areAdjacent_26 rfl kci_1 ?_
        refine ix_K_goto (tgt := 31) kq_Mo_areAdjacent i_Mo_areAdjacent_27 rfl (by decide) ?_
        refine ix_K_si (L2 := [some (.ref a0), some (.int x1), some (.int x2), some (.int 1), some (.int x4)]) kq_Mo_areAdjacent i_Mo_areAdjacent_31 rfl (Or.inr ⟨_, rfl, rfl⟩) (Nat.le_of_ble_eq_true rfl) rfl ?_
        refine ix_K_inc (L2 := [some (.ref a0), some (.int x1), some (.int x2), some (.int 1), some (.int (x4 + 1))]) kq_Mo_areAdjacent i_Mo_areAdjacent_32 rfl rfl (Nat.le_of_ble_eq_true rfl) kci_1 rfl ?_
        refine ix_K_goto (tgt := 5) kq_Mo_areAdjacent i_Mo_areAdjacent_35 rfl (by decide) ?_
        exact ix_D_cut i_Mo_areAdjacent_5 rfl
set_option maxRecDepth 20000 in
set_option maxHeartbeats 1000000 in
theorem e_Mo_areAdjacent (a0 : Nat) (x1 : Int32) (x2 : Int32) (h : ixH) : ix_D mMo_areAdjacent 0 [some (.ref a0), some (.int x1), some (.int x2), none, none] [] h = l_Mo_areAdjacent_5 a0 x1 x2 false 0 h := by
  refine ix_K_ci kq_Mo_areAdjacent i_Mo_areAdjacent_0 rfl kci_0 ?_
  refine ix_K_si (L2 := [some (.ref a0), some (.int x1), some (.int x2), some (.int 0), none]) kq_Mo_areAdjacent i_Mo_areAdjacent_1 rfl (Or.inr ⟨_, rfl, rfl⟩) (Nat.le_of_ble_eq_true rfl) rfl ?_
  refine ix_K_ci kq_Mo_areAdjacent i_Mo_areAdjacent_2 rfl kci_0 ?_
  refine ix_K_si (L2 := [some (.ref a0), some (.int x1), some (.int x2), some (.int 0), some (.int 0)]) kq_Mo_areAdjacent i_Mo_areAdjacent_3 rfl (Or.inl rfl) (Nat.le_of_ble_eq_true rfl) rfl ?_
  exact ix_D_cut i_Mo_areAdjacent_5 rfl
theorem x_Mo_areAdjacent {a0 : Nat} {x1 : Int32} {x2 : Int32} {h h1 : ixH} {v : Bool} (hr : ix_rc h a0 = some 11) (hd : ix_D mMo_areAdjacent 0 [some (.ref a0), some (.int x1), some (.int x2), none, none] [] h = some ([.int (ix_bi v)], h1)) : ix_M mMo_areAdjacent [.ref a0, .int x1, .int x2] h = some ([.int (ix_bi v)], h1) := ix_M_of (ix_ent_i kq_Mo_areAdjacent rfl hr rfl (Nat.le_of_ble_eq_true rfl) rfl) hd (ix_okrZ rfl v)
theorem i_Mo_back_0 : ix_nx mMo_back 0 = some (0, .iload_n 1, 1, none, [], 0) := rfl
theorem i_Mo_back_1 : ix_nx mMo_back 1 = some (3, .invokestatic 275, 4, none, [1, 215, 223], 0) := rfl
theorem i_Mo_back_4 : ix_nx mMo_back 4 = some (0, .ifCond .ne 5, 7, none, [], 0) := rfl
theorem i_Mo_back_7 : ix_nx mMo_back 7 = some (0, .iconst (-1), 8, none, [], 0) := rfl
theorem i_Mo_back_8 : ix_nx mMo_back 8 = some (4, .ireturn, 9, none, [], 0) := rfl
theorem i_Mo_back_9 : ix_nx mMo_back 9 = some (0, .aload_n 0, 10, none, [], 0) := rfl
theorem i_Mo_back_10 : ix_nx mMo_back 10 = some (0, .iload_n 1, 11, none, [], 0) := rfl
theorem i_Mo_back_11 : ix_nx mMo_back 11 = some (3, .invokevirtual 269, 14, none, [0, 216, 224], 0) := rfl
theorem i_Mo_back_14 : ix_nx mMo_back 14 = some (0, .ifCond .ne 6, 17, none, [], 0) := rfl
theorem i_Mo_back_17 : ix_nx mMo_back 17 = some (0, .bipush (-5), 19, none, [], 0) := rfl
theorem i_Mo_back_19 : ix_nx mMo_back 19 = some (4, .ireturn, 20, none, [], 0) := rfl
theorem i_Mo_back_20 : ix_nx mMo_back 20 = some (0, .aload_n 0, 21, none, [], 0) := rfl
theorem i_Mo_back_21 : ix_nx mMo_back 21 = some (1, .getfield 7, 24, none, [11, 0, 2, 90], 0) := rfl
theorem i_Mo_back_24 : ix_nx mMo_back 24 = some (0, .sipush 395, 27, none, [], 0) := rfl
theorem i_Mo_back_27 : ix_nx mMo_back 27 = some (0, .bipush 65, 29, none, [], 0) := rfl
theorem i_Mo_back_29 : ix_nx mMo_back 29 = some (0, .iload_n 1, 30, none, [], 0) := rfl
theorem i_Mo_back_30 : ix_nx mMo_back 30 = some (0, .imul, 31, none, [], 0) := rfl
theorem i_Mo_back_31 : ix_nx mMo_back 31 = some (0, .iadd, 32, none, [], 0) := rfl
theorem i_Mo_back_32 : ix_nx mMo_back 32 = some (0, .dup2, 33, none, [], 0) := rfl
theorem i_Mo_back_33 : ix_nx mMo_back 33 = some (1, .iaload, 34, none, [], 0) := rfl
theorem i_Mo_back_34 : ix_nx mMo_back 34 = some (0, .iconst 1, 35, none, [], 0) := rfl
theorem i_Mo_back_35 : ix_nx mMo_back 35 = some (0, .isub, 36, none, [], 0) := rfl
theorem i_Mo_back_36 : ix_nx mMo_back 36 = some (2, .iastore, 37, none, [], 0) := rfl
theorem i_Mo_back_37 : ix_nx mMo_back 37 = some (0, .aload_n 0, 38, none, [], 0) := rfl
theorem i_Mo_back_38 : ix_nx mMo_back 38 = some (0, .iload_n 1, 39, none, [], 0) := rfl
theorem i_Mo_back_39 : ix_nx mMo_back 39 = some (3, .invokevirtual 269, 42, none, [0, 216, 224], 0) := rfl
theorem i_Mo_back_42 : ix_nx mMo_back 42 = some (4, .ireturn, 43, none, [], 0) := rfl
set_option maxRecDepth 20000 in
set_option maxHeartbeats 1000000 in
theorem e_Mo_back (a0 : Nat) (x1 : Int32) (h : ixH) : ix_D mMo_back 0 [some (.ref a0), some (.int x1)] [] h = (ix_M mMo_isSlot [.int x1] h).bind fun r => ix_kZ r fun v2 h1 => if v2 = true then (ix_M mMo_length [.ref a0, .int x1] h1).bind fun r => ix_kI r fun v4 h3 => if ¬ v4 = 0 then (ix_gr h3 a0 11 0).bind fun v5 => (ix_ai h3 v5 (395 + (65 * x1))).bind fun v6 => (ix_si h3 v5 (395 + (65 * x1)) (v6 - 1)).bind fun h7 => (ix_M mMo_length [.ref a0, .int x1] h7).bind fun r => ix_kI r fun v9 h8 => some ([.int v9], h8) else some ([.int (-5)], h3) else some ([.int (-1)], h1) := by
  refine ix_K_px kq_Mo_back i_Mo_back_0 rfl rfl ?_
  refine ix_K_callZ (as := [.int x1]) (rest := []) kq_Mo_back i_Mo_back_1 rfl kq_Mo_isSlot (by decide) rfl rfl (fun v2 h1 => ?_)
  refine ix_K_bz_ne (tgt := 9) kq_Mo_back i_Mo_back_4 rfl (by decide) ?_ ?_
  · refine ix_K_px kq_Mo_back i_Mo_back_9 rfl rfl ?_
    refine ix_K_px kq_Mo_back i_Mo_back_10 rfl rfl ?_
    refine ix_K_callI (as := [.ref a0, .int x1]) (rest := []) kq_Mo_back i_Mo_back_11 rfl kq_Mo_length (by decide) rfl (Or.inl rfl) (fun v4 h3 => ?_)
    refine ix_K_if_ne (tgt := 20) kq_Mo_back i_Mo_back_14 rfl (by decide) ?_ ?_
    · refine ix_K_px kq_Mo_back i_Mo_back_20 rfl rfl ?_
      refine ix_K_gr kq_Mo_back i_Mo_back_21 rfl (fun v5 => ?_)
      refine ix_K_cs kq_Mo_back i_Mo_back_24 rfl kcs_395 ?_
      refine ix_K_cb kq_Mo_back i_Mo_back_27 rfl kcb_65 ?_
      refine ix_K_px kq_Mo_back i_Mo_back_29 rfl rfl ?_
      refine ix_K_px kq_Mo_back i_Mo_back_30 rfl rfl ?_
      refine ix_K_px kq_Mo_back i_Mo_back_31 rfl rfl ?_
      refine ix_K_px kq_Mo_back i_Mo_back_32 rfl rfl ?_
      refine ix_K_ai kq_Mo_back i_Mo_back_33 rfl (fun v6 => ?_)
      refine ix_K_ci kq_Mo_back i_Mo_back_34 rfl kci_1 ?_
      refine ix_K_px kq_Mo_back i_Mo_back_35 rfl rfl ?_
      refine ix_K_ti kq_Mo_back i_Mo_back_36 rfl (fun h7 => ?_)
      refine ix_K_px kq_Mo_back i_Mo_back_37 rfl rfl ?_
      refine ix_K_px kq_Mo_back i_Mo_back_38 rfl rfl ?_
      refine ix_K_callI (as := [.ref a0, .int x1]) (rest := []) kq_Mo_back i_Mo_back_39 rfl kq_Mo_length (by decide) rfl (Or.inl rfl) (fun v9 h8 => ?_)
      exact ix_D_ret kq_Mo_back i_Mo_back_42 (ix_rtI rfl _)
    · refine ix_K_cb kq_Mo_back i_Mo_back_17 rfl kcb_m5 ?_
      exact ix_D_ret kq_Mo_back i_Mo_back_19 (ix_rtI rfl _)
  · refine ix_K_ci kq_Mo_back i_Mo_back_7 rfl kci_m1 ?_
    exact ix_D_ret kq_Mo_back i_Mo_back_8 (ix_rtI rfl _)
theorem x_Mo_back {a0 : Nat} {x1 : Int32} {h h1 : ixH} {v : Int32} (hr : ix_rc h a0 = some 11) (hd : ix_D mMo_back 0 [some (.ref a0), some (.int x1)] [] h = some ([.int v], h1)) : ix_M mMo_back [.ref a0, .int x1] h = some ([.int v], h1) := ix_M_of (ix_ent_i kq_Mo_back rfl hr rfl (Nat.le_of_ble_eq_true rfl) rfl) hd (ix_okrI (Or.inl rfl) v)
theorem i_Mo_route_0 : ix_nx mMo_route 0 = some (0, .iload_n 1, 1, none, [], 0) := rfl
theorem i_Mo_route_1 : ix_nx mMo_route 1 = some (3, .invokestatic 275, 4, none, [1, 215, 223], 0) := rfl
theorem i_Mo_route_4 : ix_nx mMo_route 4 = some (0, .ifCond .ne 5, 7, none, [], 0) := rfl
theorem i_Mo_route_7 : ix_nx mMo_route 7 = some (0, .iconst (-1), 8, none, [], 0) := rfl
theorem i_Mo_route_8 : ix_nx mMo_route 8 = some (4, .ireturn, 9, none, [], 0) := rfl
theorem i_Mo_route_9 : ix_nx mMo_route 9 = some (0, .iload_n 2, 10, none, [], 0) := rfl
theorem i_Mo_route_10 : ix_nx mMo_route 10 = some (0, .iconst (-1), 11, none, [], 0) := rfl
theorem i_Mo_route_11 : ix_nx mMo_route 11 = some (0, .if_icmp .ne 11, 14, none, [], 0) := rfl
theorem i_Mo_route_14 : ix_nx mMo_route 14 = some (0, .aload_n 0, 15, none, [], 0) := rfl
theorem i_Mo_route_15 : ix_nx mMo_route 15 = some (0, .iload_n 1, 16, none, [], 0) := rfl
theorem i_Mo_route_16 : ix_nx mMo_route 16 = some (3, .invokevirtual 269, 19, none, [0, 216, 224], 0) := rfl
theorem i_Mo_route_19 : ix_nx mMo_route 19 = some (0, .goto 29, 22, none, [], 0) := rfl
theorem i_Mo_route_22 : ix_nx mMo_route 22 = some (0, .iload_n 2, 23, none, [], 0) := rfl
theorem i_Mo_route_23 : ix_nx mMo_route 23 = some (0, .iconst 0, 24, none, [], 0) := rfl
theorem i_Mo_route_24 : ix_nx mMo_route 24 = some (0, .aload_n 0, 25, none, [], 0) := rfl
theorem i_Mo_route_25 : ix_nx mMo_route 25 = some (0, .iload_n 1, 26, none, [], 0) := rfl
theorem i_Mo_route_26 : ix_nx mMo_route 26 = some (3, .invokevirtual 269, 29, none, [0, 216, 224], 0) := rfl
theorem i_Mo_route_29 : ix_nx mMo_route 29 = some (0, .iconst 1, 30, none, [], 0) := rfl
theorem i_Mo_route_30 : ix_nx mMo_route 30 = some (0, .isub, 31, none, [], 0) := rfl
theorem i_Mo_route_31 : ix_nx mMo_route 31 = some (3, .invokestatic 98, 34, none, [1, 148, 174], 0) := rfl
theorem i_Mo_route_34 : ix_nx mMo_route 34 = some (0, .ifCond .eq 12, 37, none, [], 0) := rfl
theorem i_Mo_route_37 : ix_nx mMo_route 37 = some (0, .aload_n 0, 38, none, [], 0) := rfl
theorem i_Mo_route_38 : ix_nx mMo_route 38 = some (0, .iload_n 1, 39, none, [], 0) := rfl
theorem i_Mo_route_39 : ix_nx mMo_route 39 = some (0, .iload_n 2, 40, none, [], 0) := rfl
theorem i_Mo_route_40 : ix_nx mMo_route 40 = some (3, .invokevirtual 272, 43, none, [0, 218, 226], 0) := rfl
theorem i_Mo_route_43 : ix_nx mMo_route 43 = some (0, .goto 5, 46, none, [], 0) := rfl
theorem i_Mo_route_46 : ix_nx mMo_route 46 = some (0, .bipush (-6), 48, none, [], 0) := rfl
theorem i_Mo_route_48 : ix_nx mMo_route 48 = some (4, .ireturn, 49, none, [], 0) := rfl
set_option maxRecDepth 20000 in
set_option maxHeartbeats 1000000 in
theorem e_Mo_route (a0 : Nat) (x1 : Int32) (x2 : Int32) (h : ixH) : ix_D mMo_route 0 [some (.ref a0), some (.int x1), some (.int x2)] [] h = (ix_M mMo_isSlot [.int x1] h).bind fun r => ix_kZ r fun v2 h1 => if v2 = true then if ¬ x2 = (-1) then (ix_M mMo_length [.ref a0, .int x1] h1).bind fun r => ix_kI r fun v4 h3 => (ix_M mMo_in [.int x2, .int 0, .int (v4 - 1)] h3).bind fun r => ix_kZ r fun v6 h5 => if v6 = true then (ix_M mMo_cellOf [.ref a0, .int x1, .int x2] h5).bind fun r => ix_kI r fun v8 h7 => some ([.int v8], h7) else some ([.int (-6)], h5) else (ix_M mMo_length [.ref a0, .int x1] h1).bind fun r => ix_kI r fun v10 h9 => some ([.int v10], h9) else some ([.int (-1)], h1) := by
  refine ix_K_px kq_Mo_route i_Mo_route_0 rfl rfl ?_
  refine ix_K_callZ (as := [.int x1]) (rest := []) kq_Mo_route i_Mo_route_1 rfl kq_Mo_isSlot (by decide) rfl rfl (fun v2 h1 => ?_)
  refine ix_K_bz_ne (tgt := 9) kq_Mo_route i_Mo_route_4 rfl (by decide) ?_ ?_
  · refine ix_K_px kq_Mo_route i_Mo_route_9 rfl rfl ?_
    refine ix_K_ci kq_Mo_route i_Mo_route_10 rfl kci_m1 ?_
    refine ix_K_ic_ne (tgt := 22) kq_Mo_route i_Mo_route_11 rfl (by decide) ?_ ?_
    · refine ix_K_px kq_Mo_route i_Mo_route_22 rfl rfl ?_
      refine ix_K_ci kq_Mo_route i_Mo_route_23 rfl kci_0 ?_
      refine ix_K_px kq_Mo_route i_Mo_route_24 rfl rfl ?_
      refine ix_K_px kq_Mo_route i_Mo_route_25 rfl rfl ?_
      refine ix_K_callI (as := [.ref a0, .int x1]) (rest := [.int 0, .int x2]) kq_Mo_route i_Mo_route_26 rfl kq_Mo_length (by decide) rfl (Or.inl rfl) (fun v4 h3 => ?_)
      refine ix_K_ci kq_Mo_route i_Mo_route_29 rfl kci_1 ?_
      refine ix_K_px kq_Mo_route i_Mo_route_30 rfl rfl ?_
      refine ix_K_callZ (as := [.int x2, .int 0, .int (v4 - 1)]) (rest := []) kq_Mo_route i_Mo_route_31 rfl kq_Mo_in (by decide) rfl rfl (fun v6 h5 => ?_)
      refine ix_K_bz_eq (tgt := 46) kq_Mo_route i_Mo_route_34 rfl (by decide) ?_ ?_
      · refine ix_K_px kq_Mo_route i_Mo_route_37 rfl rfl ?_
        refine ix_K_px kq_Mo_route i_Mo_route_38 rfl rfl ?_
        refine ix_K_px kq_Mo_route i_Mo_route_39 rfl rfl ?_
        refine ix_K_callI (as := [.ref a0, .int x1, .int x2]) (rest := []) kq_Mo_route i_Mo_route_40 rfl kq_Mo_cellOf (by decide) rfl (Or.inl rfl) (fun v8 h7 => ?_)
        refine ix_K_goto (tgt := 48) kq_Mo_route i_Mo_route_43 rfl (by decide) ?_
        exact ix_D_ret kq_Mo_route i_Mo_route_48 (ix_rtI rfl _)
      · refine ix_K_cb kq_Mo_route i_Mo_route_46 rfl kcb_m6 ?_
        exact ix_D_ret kq_Mo_route i_Mo_route_48 (ix_rtI rfl _)
    · refine ix_K_px kq_Mo_route i_Mo_route_14 rfl rfl ?_
      refine ix_K_px kq_Mo_route i_Mo_route_15 rfl rfl ?_
      refine ix_K_callI (as := [.ref a0, .int x1]) (rest := []) kq_Mo_route i_Mo_route_16 rfl kq_Mo_length (by decide) rfl (Or.inl rfl) (fun v10 h9 => ?_)
      refine ix_K_goto (tgt := 48) kq_Mo_route i_Mo_route_19 rfl (by decide) ?_
      exact ix_D_ret kq_Mo_route i_Mo_route_48 (ix_rtI rfl _)
  · refine ix_K_ci kq_Mo_route i_Mo_route_7 rfl kci_m1 ?_
    exact ix_D_ret kq_Mo_route i_Mo_route_8 (ix_rtI rfl _)
theorem x_Mo_route {a0 : Nat} {x1 : Int32} {x2 : Int32} {h h1 : ixH} {v : Int32} (hr : ix_rc h a0 = some 11) (hd : ix_D mMo_route 0 [some (.ref a0), some (.int x1), some (.int x2)] [] h = some ([.int v], h1)) : ix_M mMo_route [.ref a0, .int x1, .int x2] h = some ([.int v], h1) := ix_M_of (ix_ent_i kq_Mo_route rfl hr rfl (Nat.le_of_ble_eq_true rfl) rfl) hd (ix_okrI (Or.inl rfl) v)
theorem i_Mo_about_0 : ix_nx mMo_about 0 = some (0, .iload_n 1, 1, none, [], 0) := rfl
theorem i_Mo_about_1 : ix_nx mMo_about 1 = some (3, .invokestatic 275, 4, none, [1, 215, 223], 0) := rfl
theorem i_Mo_about_4 : ix_nx mMo_about 4 = some (0, .ifCond .ne 5, 7, none, [], 0) := rfl
theorem i_Mo_about_7 : ix_nx mMo_about 7 = some (0, .iconst (-1), 8, none, [], 0) := rfl
theorem i_Mo_about_8 : ix_nx mMo_about 8 = some (4, .ireturn, 9, none, [], 0) := rfl
theorem i_Mo_about_9 : ix_nx mMo_about 9 = some (0, .iload_n 2, 10, none, [], 0) := rfl
theorem i_Mo_about_10 : ix_nx mMo_about 10 = some (0, .tableswitch 88 0 4 #[34, 48, 62, 76, 82], 44, none, [], 0) := rfl
theorem i_Mo_about_44 : ix_nx mMo_about 44 = some (0, .aload_n 0, 45, none, [], 0) := rfl
theorem i_Mo_about_45 : ix_nx mMo_about 45 = some (0, .iload_n 1, 46, none, [], 0) := rfl
theorem i_Mo_about_46 : ix_nx mMo_about 46 = some (3, .invokevirtual 284, 49, none, [0, 223, 228], 0) := rfl
theorem i_Mo_about_49 : ix_nx mMo_about 49 = some (0, .ifCond .eq 7, 52, none, [], 0) := rfl
theorem i_Mo_about_52 : ix_nx mMo_about 52 = some (0, .iconst 1, 53, none, [], 0) := rfl
theorem i_Mo_about_53 : ix_nx mMo_about 53 = some (0, .goto 4, 56, none, [], 0) := rfl
theorem i_Mo_about_56 : ix_nx mMo_about 56 = some (0, .iconst 0, 57, none, [], 0) := rfl
theorem i_Mo_about_57 : ix_nx mMo_about 57 = some (4, .ireturn, 58, none, [], 0) := rfl
theorem i_Mo_about_58 : ix_nx mMo_about 58 = some (0, .aload_n 0, 59, none, [], 0) := rfl
theorem i_Mo_about_59 : ix_nx mMo_about 59 = some (0, .iload_n 1, 60, none, [], 0) := rfl
theorem i_Mo_about_60 : ix_nx mMo_about 60 = some (3, .invokevirtual 290, 63, none, [0, 224, 229], 0) := rfl
theorem i_Mo_about_63 : ix_nx mMo_about 63 = some (0, .ifCond .eq 7, 66, none, [], 0) := rfl
theorem i_Mo_about_66 : ix_nx mMo_about 66 = some (0, .iconst 1, 67, none, [], 0) := rfl
theorem i_Mo_about_67 : ix_nx mMo_about 67 = some (0, .goto 4, 70, none, [], 0) := rfl
theorem i_Mo_about_70 : ix_nx mMo_about 70 = some (0, .iconst 0, 71, none, [], 0) := rfl
theorem i_Mo_about_71 : ix_nx mMo_about 71 = some (4, .ireturn, 72, none, [], 0) := rfl
theorem i_Mo_about_72 : ix_nx mMo_about 72 = some (0, .aload_n 0, 73, none, [], 0) := rfl
theorem i_Mo_about_73 : ix_nx mMo_about 73 = some (0, .iload_n 1, 74, none, [], 0) := rfl
theorem i_Mo_about_74 : ix_nx mMo_about 74 = some (3, .invokevirtual 293, 77, none, [0, 225, 230], 0) := rfl
theorem i_Mo_about_77 : ix_nx mMo_about 77 = some (0, .ifCond .eq 7, 80, none, [], 0) := rfl
theorem i_Mo_about_80 : ix_nx mMo_about 80 = some (0, .iconst 1, 81, none, [], 0) := rfl
theorem i_Mo_about_81 : ix_nx mMo_about 81 = some (0, .goto 4, 84, none, [], 0) := rfl
theorem i_Mo_about_84 : ix_nx mMo_about 84 = some (0, .iconst 0, 85, none, [], 0) := rfl
theorem i_Mo_about_85 : ix_nx mMo_about 85 = some (4, .ireturn, 86, none, [], 0) := rfl
theorem i_Mo_about_86 : ix_nx mMo_about 86 = some (0, .aload_n 0, 87, none, [], 0) := rfl
theorem i_Mo_about_87 : ix_nx mMo_about 87 = some (0, .iload_n 1, 88, none, [], 0) := rfl
theorem i_Mo_about_88 : ix_nx mMo_about 88 = some (3, .invokevirtual 296, 91, none, [0, 226, 231], 0) := rfl
theorem i_Mo_about_91 : ix_nx mMo_about 91 = some (4, .ireturn, 92, none, [], 0) := rfl
theorem i_Mo_about_92 : ix_nx mMo_about 92 = some (0, .aload_n 0, 93, none, [], 0) := rfl
theorem i_Mo_about_93 : ix_nx mMo_about 93 = some (0, .iload_n 1, 94, none, [], 0) := rfl
theorem i_Mo_about_94 : ix_nx mMo_about 94 = some (3, .invokevirtual 299, 97, none, [0, 227, 232], 0) := rfl
theorem i_Mo_about_97 : ix_nx mMo_about 97 = some (4, .ireturn, 98, none, [], 0) := rfl
theorem i_Mo_about_98 : ix_nx mMo_about 98 = some (0, .bipush (-2), 100, none, [], 0) := rfl
theorem i_Mo_about_100 : ix_nx mMo_about 100 = some (4, .ireturn, 101, none, [], 0) := rfl
set_option maxRecDepth 20000 in
set_option maxHeartbeats 1000000 in
theorem e_Mo_about (a0 : Nat) (x1 : Int32) (x2 : Int32) (h : ixH) : ix_D mMo_about 0 [some (.ref a0), some (.int x1), some (.int x2)] [] h = (ix_M mMo_isSlot [.int x1] h).bind fun r => ix_kZ r fun v2 h1 => if v2 = true then ix_sel x2 0 [(ix_M mMo_isValid [.ref a0, .int x1] h1).bind fun r => ix_kZ r fun v4 h3 => if v4 = true then some ([.int 1], h3) else some ([.int 0], h3), (ix_M mMo_isFalling [.ref a0, .int x1] h1).bind fun r => ix_kZ r fun v6 h5 => if v6 = true then some ([.int 1], h5) else some ([.int 0], h5), (ix_M mMo_isFromTo [.ref a0, .int x1] h1).bind fun r => ix_kZ r fun v8 h7 => if v8 = true then some ([.int 1], h7) else some ([.int 0], h7), (ix_M mMo_markedOn [.ref a0, .int x1] h1).bind fun r => ix_kI r fun v10 h9 => some ([.int v10], h9), (ix_M mMo_meets [.ref a0, .int x1] h1).bind fun r => ix_kI r fun v12 h11 => some ([.int v12], h11)] (some ([.int (-2)], h1)) else some ([.int (-1)], h1) := by
  refine ix_K_px kq_Mo_about i_Mo_about_0 rfl rfl ?_
  refine ix_K_callZ (as := [.int x1]) (rest := []) kq_Mo_about i_Mo_about_1 rfl kq_Mo_isSlot (by decide) rfl rfl (fun v2 h1 => ?_)
  refine ix_K_bz_ne (tgt := 9) kq_Mo_about i_Mo_about_4 rfl (by decide) ?_ ?_
  · refine ix_K_px kq_Mo_about i_Mo_about_9 rfl rfl ?_
    refine ix_K_tsw (tg := [44, 58, 72, 86, 92]) (dt := 98) kq_Mo_about i_Mo_about_10 rfl (by decide) (by decide) (by decide) (by decide) (ix_lc ?_ (ix_lc ?_ (ix_lc ?_ (ix_lc ?_ (ix_lc ?_ rfl))))) ?_
    · refine ix_K_px kq_Mo_about i_Mo_about_44 rfl rfl ?_
      refine ix_K_px kq_Mo_about i_Mo_about_45 rfl rfl ?_
      refine ix_K_callZ (as := [.ref a0, .int x1]) (rest := []) kq_Mo_about i_Mo_about_46 rfl kq_Mo_isValid (by decide) rfl rfl (fun v4 h3 => ?_)
      refine ix_K_bz_eq (tgt := 56) kq_Mo_about i_Mo_about_49 rfl (by decide) ?_ ?_
      · refine ix_K_ci kq_Mo_about i_Mo_about_52 rfl kci_1 ?_
        refine ix_K_goto (tgt := 57) kq_Mo_about i_Mo_about_53 rfl (by decide) ?_
        exact ix_D_ret kq_Mo_about i_Mo_about_57 (ix_rtI rfl _)
      · refine ix_K_ci kq_Mo_about i_Mo_about_56 rfl kci_0 ?_
        exact ix_D_ret kq_Mo_about i_Mo_about_57 (ix_rtI rfl _)
    · refine ix_K_px kq_Mo_about i_Mo_about_58 rfl rfl ?_
      refine ix_K_px kq_Mo_about i_Mo_about_59 rfl rfl ?_
      refine ix_K_callZ (as := [.ref a0, .int x1]) (rest := []) kq_Mo_about i_Mo_about_60 rfl kq_Mo_isFalling (by decide) rfl rfl (fun v6 h5 => ?_)
      refine ix_K_bz_eq (tgt := 70) kq_Mo_about i_Mo_about_63 rfl (by decide) ?_ ?_
      · refine ix_K_ci kq_Mo_about i_Mo_about_66 rfl kci_1 ?_
        refine ix_K_goto (tgt := 71) kq_Mo_about i_Mo_about_67 rfl (by decide) ?_
        exact ix_D_ret kq_Mo_about i_Mo_about_71 (ix_rtI rfl _)
      · refine ix_K_ci kq_Mo_about i_Mo_about_70 rfl kci_0 ?_
        exact ix_D_ret kq_Mo_about i_Mo_about_71 (ix_rtI rfl _)
    · refine ix_K_px kq_Mo_about i_Mo_about_72 rfl rfl ?_
      refine ix_K_px kq_Mo_about i_Mo_about_73 rfl rfl ?_
      refine ix_K_callZ (as := [.ref a0, .int x1]) (rest := []) kq_Mo_about i_Mo_about_74 rfl kq_Mo_isFromTo (by decide) rfl rfl (fun v8 h7 => ?_)
      refine ix_K_bz_eq (tgt := 84) kq_Mo_about i_Mo_about_77 rfl (by decide) ?_ ?_
      · refine ix_K_ci kq_Mo_about i_Mo_about_80 rfl kci_1 ?_
        refine ix_K_goto (tgt := 85) kq_Mo_about i_Mo_about_81 rfl (by decide) ?_
        exact ix_D_ret kq_Mo_about i_Mo_about_85 (ix_rtI rfl _)
      · refine ix_K_ci kq_Mo_about i_Mo_about_84 rfl kci_0 ?_
        exact ix_D_ret kq_Mo_about i_Mo_about_85 (ix_rtI rfl _)
    · refine ix_K_px kq_Mo_about i_Mo_about_86 rfl rfl ?_
      refine ix_K_px kq_Mo_about i_Mo_about_87 rfl rfl ?_
      refine ix_K_callI (as := [.ref a0, .int x1]) (rest := []) kq_Mo_about i_Mo_about_88 rfl kq_Mo_markedOn (by decide) rfl (Or.inl rfl) (fun v10 h9 => ?_)
      exact ix_D_ret kq_Mo_about i_Mo_about_91 (ix_rtI rfl _)
    · refine ix_K_px kq_Mo_about i_Mo_about_92 rfl rfl ?_
      refine ix_K_px kq_Mo_about i_Mo_about_93 rfl rfl ?_
      refine ix_K_callI (as := [.ref a0, .int x1]) (rest := []) kq_Mo_about i_Mo_about_94 rfl kq_Mo_meets (by decide) rfl (Or.inl rfl) (fun v12 h11 => ?_)
      exact ix_D_ret kq_Mo_about i_Mo_about_97 (ix_rtI rfl _)
    · refine ix_K_cb kq_Mo_about i_Mo_about_98 rfl kcb_m2 ?_
      exact ix_D_ret kq_Mo_about i_Mo_about_100 (ix_rtI rfl _)
  · refine ix_K_ci kq_Mo_about i_Mo_about_7 rfl kci_m1 ?_
    exact ix_D_ret kq_Mo_about i_Mo_about_8 (ix_rtI rfl _)
theorem x_Mo_about {a0 : Nat} {x1 : Int32} {x2 : Int32} {h h1 : ixH} {v : Int32} (hr : ix_rc h a0 = some 11) (hd : ix_D mMo_about 0 [some (.ref a0), some (.int x1), some (.int x2)] [] h = some ([.int v], h1)) : ix_M mMo_about [.ref a0, .int x1, .int x2] h = some ([.int v], h1) := ix_M_of (ix_ent_i kq_Mo_about rfl hr rfl (Nat.le_of_ble_eq_true rfl) rfl) hd (ix_okrI (Or.inl rfl) v)
theorem i_Mo_isValid_0 : ix_nx mMo_isValid 0 = some (0, .iconst 1, 1, none, [], 0) := rfl
theorem i_Mo_isValid_1 : ix_nx mMo_isValid 1 = some (0, .istore_n 2, 2, none, [], 0) := rfl
theorem i_Mo_isValid_2 : ix_nx mMo_isValid 2 = some (0, .iconst 0, 3, none, [], 0) := rfl
theorem i_Mo_isValid_3 : ix_nx mMo_isValid 3 = some (0, .istore_n 3, 4, none, [], 0) := rfl
theorem i_Mo_isValid_4 : ix_nx mMo_isValid 4 = some (0, .iload_n 3, 5, some [true, true, true, true], [], 0) := rfl
theorem i_Mo_isValid_5 : ix_nx mMo_isValid 5 = some (0, .aload_n 0, 6, none, [], 0) := rfl
theorem i_Mo_isValid_6 : ix_nx mMo_isValid 6 = some (0, .iload_n 1, 7, none, [], 0) := rfl
theorem i_Mo_isValid_7 : ix_nx mMo_isValid 7 = some (3, .invokevirtual 269, 10, none, [0, 216, 224], 0) := rfl
theorem i_Mo_isValid_10 : ix_nx mMo_isValid 10 = some (0, .if_icmp .ge 32, 13, none, [], 0) := rfl
theorem i_Mo_isValid_13 : ix_nx mMo_isValid 13 = some (0, .iload_n 2, 14, none, [], 0) := rfl
theorem i_Mo_isValid_14 : ix_nx mMo_isValid 14 = some (0, .ifCond .eq 20, 17, none, [], 0) := rfl
theorem i_Mo_isValid_17 : ix_nx mMo_isValid 17 = some (0, .aload_n 0, 18, none, [], 0) := rfl
theorem i_Mo_isValid_18 : ix_nx mMo_isValid 18 = some (0, .aload_n 0, 19, none, [], 0) := rfl
theorem i_Mo_isValid_19 : ix_nx mMo_isValid 19 = some (0, .iload_n 1, 20, none, [], 0) := rfl
theorem i_Mo_isValid_20 : ix_nx mMo_isValid 20 = some (0, .iload_n 3, 21, none, [], 0) := rfl
theorem i_Mo_isValid_21 : ix_nx mMo_isValid 21 = some (3, .invokevirtual 272, 24, none, [0, 218, 226], 0) := rfl
theorem i_Mo_isValid_24 : ix_nx mMo_isValid 24 = some (3, .invokevirtual 102, 27, none, [0, 160, 181], 0) := rfl
theorem i_Mo_isValid_27 : ix_nx mMo_isValid 27 = some (0, .ifCond .eq 7, 30, none, [], 0) := rfl
theorem i_Mo_isValid_30 : ix_nx mMo_isValid 30 = some (0, .iconst 1, 31, none, [], 0) := rfl
theorem i_Mo_isValid_31 : ix_nx mMo_isValid 31 = some (0, .goto 4, 34, none, [], 0) := rfl
theorem i_Mo_isValid_34 : ix_nx mMo_isValid 34 = some (0, .iconst 0, 35, none, [], 0) := rfl
theorem i_Mo_isValid_35 : ix_nx mMo_isValid 35 = some (0, .istore_n 2, 36, none, [], 0) := rfl
theorem i_Mo_isValid_36 : ix_nx mMo_isValid 36 = some (0, .iinc 3 1, 39, none, [], 0) := rfl
theorem i_Mo_isValid_39 : ix_nx mMo_isValid 39 = some (0, .goto (-35), 42, none, [], 0) := rfl
theorem i_Mo_isValid_42 : ix_nx mMo_isValid 42 = some (0, .iload_n 2, 43, none, [], 0) := rfl
theorem i_Mo_isValid_43 : ix_nx mMo_isValid 43 = some (4, .ireturn, 44, none, [], 0) := rfl
noncomputable def l_Mo_isValid_4 (a0 : Nat) (x1 : Int32) (b2 : Bool) (x3 : Int32) (h : ixH) : Option (List Value × ixH) := ix_D mMo_isValid 4 [some (.ref a0), some (.int x1), some (.int (ix_bi b2)), some (.int x3)] [] h
set_option maxRecDepth 20000 in
set_option maxHeartbeats 1000000 in
theorem e_Mo_isValid_4 (a0 : Nat) (x1 : Int32) (b2 : Bool) (x3 : Int32) (h : ixH) : l_Mo_isValid_4 a0 x1 b2 x3 h = (ix_M mMo_length [.ref a0, .int x1] h).bind fun r => ix_kI r fun v2 h1 => if v2 ≤ x3 then some ([.int (ix_bi b2)], h1) else if b2 = true then (ix_M mMo_cellOf [.ref a0, .int x1, .int x3] h1).bind fun r => ix_kI r fun v4 h3 => (ix_M mMo_isOpen [.ref a0, .int v4] h3).bind fun r => ix_kZ r fun v6 h5 => if v6 = true then l_Mo_isValid_4 a0 x1 true (x3 + 1) h5 else l_Mo_isValid_4 a0 x1 false (x3 + 1) h5 else l_Mo_isValid_4 a0 x1 false (x3 + 1) h1 := by
  unfold l_Mo_isValid_4
  refine ix_K_px kq_Mo_isValid i_Mo_isValid_4 rfl rfl ?_
  refine ix_K_px kq_Mo_isValid i_Mo_isValid_5 rfl rfl ?_
  refine ix_K_px kq_Mo_isValid i_Mo_isValid_6 rfl rfl ?_
  refine ix_K_callI (as := [.ref a0, .int x1]) (rest := [.int x3]) kq_Mo_isValid i_Mo_isValid_7 rfl kq_Mo_length (by decide) rfl (Or.inl rfl) (fun v2 h1 => ?_)
  refine ix_K_ic_ge (tgt := 42) kq_Mo_isValid i_Mo_isValid_10 rfl (by decide) ?_ ?_
  · refine ix_K_px kq_Mo_isValid i_Mo_isValid_42 rfl rfl ?_
    exact ix_D_ret kq_Mo_isValid i_Mo_isValid_43 (ix_rtZ rfl _)
  · refine ix_K_px kq_Mo_isValid i_Mo_isValid_13 rfl rfl ?_
    refine ix_K_bz_eq (tgt := 34) kq_Mo_isValid i_Mo_isValid_14 rfl (by decide) ?_ ?_
    · refine ix_K_px kq_Mo_isValid i_Mo_isValid_17 rfl rfl ?_
      refine ix_K_px kq_Mo_isValid i_Mo_isValid_18 rfl rfl ?_
      refine ix_K_px kq_Mo_isValid i_Mo_isValid_19 rfl rfl ?_
      refine ix_K_px kq_Mo_isValid i_Mo_isValid_20 rfl rfl ?_
      refine ix_K_callI (as := [.ref a0, .int x1, .int x3]) (rest := [.ref a0]) kq_Mo_isValid i_Mo_isValid_21 rfl kq_Mo_cellOf (by decide) rfl (Or.inl rfl) (fun v4 h3 => ?_)
      refine ix_K_callZ (as := [.ref a0, .int v4]) (rest := []) kq_Mo_isValid i_Mo_isValid_24 rfl kq_Mo_isOpen (by decide) rfl rfl (fun v6 h5 => ?_)
      refine ix_K_bz_eq (tgt := 34) kq_Mo_isValid i_Mo_isValid_27 rfl (by decide) ?_ ?_
      · refine ix_K_ci kq_Mo_isValid i_Mo_isValid_30 rfl kci_1 ?_
        refine ix_K_goto (tgt := 35) kq_Mo_isValid i_Mo_isValid_31 rfl (by decide) ?_
        refine ix_K_si (L2 := [some (.ref a0), some (.int x1), some (.int 1), some (.int x3)]) kq_Mo_isValid i_Mo_isValid_35 rfl (Or.inr ⟨_, rfl, rfl⟩) (Nat.le_of_ble_eq_true rfl) rfl ?_
        refine ix_K_inc (L2 := [some (.ref a0), some (.int x1), some (.int 1), some (.int (x3 + 1))]) kq_Mo_isValid i_Mo_isValid_36 rfl rfl (Nat.le_of_ble_eq_true rfl) kci_1 rfl ?_
        refine ix_K_goto (tgt := 4) kq_Mo_isValid i_Mo_isValid_39 rfl (by decide) ?_
        exact ix_D_cut i_Mo_isValid_4 rfl
      · refine ix_K_ci kq_Mo_isValid i_Mo_isValid_34 rfl kci_0 ?_
        refine ix_K_si (L2 := [some (.ref a0), some (.int x1), some (.int 0), some (.int x3)]) kq_Mo_isValid i_Mo_isValid_35 rfl (Or.inr ⟨_, rfl, rfl⟩) (Nat.le_of_ble_eq_true rfl) rfl ?_
        refine ix_K_inc (L2 := [some (.ref a0), some (.int x1), some (.int 0), some (.int (x3 + 1))]) kq_Mo_isValid i_Mo_isValid_36 rfl rfl (Nat.le_of_ble_eq_true rfl) kci_1 rfl ?_
        refine ix_K_goto (tgt := 4) kq_Mo_isValid i_Mo_isValid_39 rfl (by decide) ?_
        exact ix_D_cut i_Mo_isValid_4 rfl
    · refine ix_K_ci kq_Mo_isValid i_Mo_isValid_34 rfl kci_0 ?_
      refine ix_K_si (L2 := [some (.ref a0), some (.int x1), some (.int 0), some (.int x3)]) kq_Mo_isValid i_Mo_isValid_35 rfl (Or.inr ⟨_, rfl, rfl⟩) (Nat.le_of_ble_eq_true rfl) rfl ?_
      refine ix_K_inc (L2 := [some (.ref a0), some (.int x1), some (.int 0), some (.int (x3 + 1))]) kq_Mo_isValid i_Mo_isValid_36 rfl rfl (Nat.le_of_ble_eq_true rfl) kci_1 rfl ?_
      refine ix_K_goto (tgt := 4) kq_Mo_isValid i_Mo_isValid_39 rfl (by decide) ?_
      exact ix_D_cut i_Mo_isValid_4 rfl
set_option maxRecDepth 20000 in
set_option maxHeartbeats 1000000 in
theorem e_Mo_isValid (a0 : Nat) (x1 : Int32) (h : ixH) : ix_D mMo_isValid 0 [some (.ref a0), some (.int x1), none, none] [] h = l_Mo_isValid_4 a0 x1 true 0 h := by
  refine ix_K_ci kq_Mo_isValid i_Mo_isValid_0 rfl kci_1 ?_
  refine ix_K_si (L2 := [some (.ref a0), some (.int x1), some (.int 1), none]) kq_Mo_isValid i_Mo_isValid_1 rfl (Or.inr ⟨_, rfl, rfl⟩) (Nat.le_of_ble_eq_true rfl) rfl ?_
  refine ix_K_ci kq_Mo_isValid i_Mo_isValid_2 rfl kci_0 ?_
  refine ix_K_si (L2 := [some (.ref a0), some (.int x1), some (.int 1), some (.int 0)]) kq_Mo_isValid i_Mo_isValid_3 rfl (Or.inr ⟨_, rfl, rfl⟩) (Nat.le_of_ble_eq_true rfl) rfl ?_
  exact ix_D_cut i_Mo_isValid_4 rfl
theorem x_Mo_isValid {a0 : Nat} {x1 : Int32} {h h1 : ixH} {v : Bool} (hr : ix_rc h a0 = some 11) (hd : ix_D mMo_isValid 0 [some (.ref a0), some (.int x1), none, none] [] h = some ([.int (ix_bi v)], h1)) : ix_M mMo_isValid [.ref a0, .int x1] h = some ([.int (ix_bi v)], h1) := ix_M_of (ix_ent_i kq_Mo_isValid rfl hr rfl (Nat.le_of_ble_eq_true rfl) rfl) hd (ix_okrZ rfl v)
theorem i_Mo_isFalling_0 : ix_nx mMo_isFalling 0 = some (0, .aload_n 0, 1, none, [], 0) := rfl
theorem i_Mo_isFalling_1 : ix_nx mMo_isFalling 1 = some (0, .iload_n 1, 2, none, [], 0) := rfl
theorem i_Mo_isFalling_2 : ix_nx mMo_isFalling 2 = some (3, .invokevirtual 284, 5, none, [0, 223, 228], 0) := rfl
theorem i_Mo_isFalling_5 : ix_nx mMo_isFalling 5 = some (0, .istore_n 2, 6, none, [], 0) := rfl
theorem i_Mo_isFalling_6 : ix_nx mMo_isFalling 6 = some (0, .iconst 1, 7, none, [], 0) := rfl
theorem i_Mo_isFalling_7 : ix_nx mMo_isFalling 7 = some (0, .istore_n 3, 8, none, [], 0) := rfl
theorem i_Mo_isFalling_8 : ix_nx mMo_isFalling 8 = some (0, .iload_n 3, 9, some [true, true, true, true], [], 0) := rfl
theorem i_Mo_isFalling_9 : ix_nx mMo_isFalling 9 = some (0, .aload_n 0, 10, none, [], 0) := rfl
theorem i_Mo_isFalling_10 : ix_nx mMo_isFalling 10 = some (0, .iload_n 1, 11, none, [], 0) := rfl
theorem i_Mo_isFalling_11 : ix_nx mMo_isFalling 11 = some (3, .invokevirtual 269, 14, none, [0, 216, 224], 0) := rfl
theorem i_Mo_isFalling_14 : ix_nx mMo_isFalling 14 = some (0, .if_icmp .ge 36, 17, none, [], 0) := rfl
theorem i_Mo_isFalling_17 : ix_nx mMo_isFalling 17 = some (0, .iload_n 2, 18, none, [], 0) := rfl
theorem i_Mo_isFalling_18 : ix_nx mMo_isFalling 18 = some (0, .ifCond .eq 24, 21, none, [], 0) := rfl
theorem i_Mo_isFalling_21 : ix_nx mMo_isFalling 21 = some (0, .aload_n 0, 22, none, [], 0) := rfl
theorem i_Mo_isFalling_22 : ix_nx mMo_isFalling 22 = some (0, .iload_n 1, 23, none, [], 0) := rfl
theorem i_Mo_isFalling_23 : ix_nx mMo_isFalling 23 = some (0, .iload_n 3, 24, none, [], 0) := rfl
theorem i_Mo_isFalling_24 : ix_nx mMo_isFalling 24 = some (3, .invokevirtual 272, 27, none, [0, 218, 226], 0) := rfl
theorem i_Mo_isFalling_27 : ix_nx mMo_isFalling 27 = some (0, .aload_n 0, 28, none, [], 0) := rfl
theorem i_Mo_isFalling_28 : ix_nx mMo_isFalling 28 = some (0, .iload_n 1, 29, none, [], 0) := rfl
theorem i_Mo_isFalling_29 : ix_nx mMo_isFalling 29 = some (0, .iload_n 3, 30, none, [], 0) := rfl
theorem i_Mo_isFalling_30 : ix_nx mMo_isFalling 30 = some (0, .iconst 1, 31, none, [], 0) := rfl
theorem i_Mo_isFalling_31 : ix_nx mMo_isFalling 31 = some (0, .isub, 32, none, [], 0) := rfl
theorem i_Mo_isFalling_32 : ix_nx mMo_isFalling 32 = some (3, .invokevirtual 272, 35, none, [0, 218, 226], 0) := rfl
theorem i_Mo_isFalling_35 : ix_nx mMo_isFalling 35 = some (0, .if_icmp .le 7, 38, none, [], 0) := rfl
theorem i_Mo_isFalling_38 : ix_nx mMo_isFalling 38 = some (0, .iconst 1, 39, none, [], 0) := rfl
theorem i_Mo_isFalling_39 : ix_nx mMo_isFalling 39 = some (0, .goto 4, 42, none, [], 0) := rfl
theorem i_Mo_isFalling_42 : ix_nx mMo_isFalling 42 = some (0, .iconst 0, 43, none, [], 0) := rfl
theorem i_Mo_isFalling_43 : ix_nx mMo_isFalling 43 = some (0, .istore_n 2, 44, none, [], 0) := rfl
theorem i_Mo_isFalling_44 : ix_nx mMo_isFalling 44 = some (0, .iinc 3 1, 47, none, [], 0) := rfl
theorem i_Mo_isFalling_47 : ix_nx mMo_isFalling 47 = some (0, .goto (-39), 50, none, [], 0) := rfl
theorem i_Mo_isFalling_50 : ix_nx mMo_isFalling 50 = some (0, .iload_n 2, 51, none, [], 0) := rfl
theorem i_Mo_isFalling_51 : ix_nx mMo_isFalling 51 = some (4, .ireturn, 52, none, [], 0) := rfl
noncomputable def l_Mo_isFalling_8 (a0 : Nat) (x1 : Int32) (b2 : Bool) (x3 : Int32) (h : ixH) : Option (List Value × ixH) := ix_D mMo_isFalling 8 [some (.ref a0), some (.int x1), some (.int (ix_bi b2)), some (.int x3)] [] h
set_option maxRecDepth 20000 in
set_option maxHeartbeats 1000000 in
theorem e_Mo_isFalling_8 (a0 : Nat) (x1 : Int32) (b2 : Bool) (x3 : Int32) (h : ixH) : l_Mo_isFalling_8 a0 x1 b2 x3 h = (ix_M mMo_length [.ref a0, .int x1] h).bind fun r => ix_kI r fun v2 h1 => if v2 ≤ x3 then some ([.int (ix_bi b2)], h1) else if b2 = true then (ix_M mMo_cellOf [.ref a0, .int x1, .int x3] h1).bind fun r => ix_kI r fun v4 h3 => (ix_M mMo_cellOf [.ref a0, .int x1, .int (x3 - 1)] h3).bind fun r => ix_kI r fun v6 h5 => if v4 ≤ v6 then l_Mo_isFalling_8 a0 x1 false (x3 + 1) h5 else l_Mo_isFalling_8 a0 x1 true (x3 + 1) h5 else l_Mo_isFalling_8 a0 x1 false (x3 + 1) h1 := by
  unfold l_Mo_isFalling_8
  refine ix_K_px kq_Mo_isFalling i_Mo_isFalling_8 rfl rfl ?_
  refine ix_K_px kq_Mo_isFalling i_Mo_isFalling_9 rfl rfl ?_
  refine ix_K_px kq_Mo_isFalling i_Mo_isFalling_10 rfl rfl ?_
  refine ix_K_callI (as := [.ref a0, .int x1]) (rest := [.int x3]) kq_Mo_isFalling i_Mo_isFalling_11 rfl kq_Mo_length (by decide) rfl (Or.inl rfl) (fun v2 h1 => ?_)
  refine ix_K_ic_ge (tgt := 50) kq_Mo_isFalling i_Mo_isFalling_14 rfl (by decide) ?_ ?_
  · refine ix_K_px kq_Mo_isFalling i_Mo_isFalling_50 rfl rfl ?_
    exact ix_D_ret kq_Mo_isFalling i_Mo_isFalling_51 (ix_rtZ rfl _)
  · refine ix_K_px kq_Mo_isFalling i_Mo_isFalling_17 rfl rfl ?_
    refine ix_K_bz_eq (tgt := 42) kq_Mo_isFalling i_Mo_isFalling_18 rfl (by decide) ?_ ?_
    · refine ix_K_px kq_Mo_isFalling i_Mo_isFalling_21 rfl rfl ?_
      refine ix_K_px kq_Mo_isFalling i_Mo_isFalling_22 rfl rfl ?_
      refine ix_K_px kq_Mo_isFalling i_Mo_isFalling_23 rfl rfl ?_
      refine ix_K_callI (as := [.ref a0, .int x1, .int x3]) (rest := []) kq_Mo_isFalling i_Mo_isFalling_24 rfl kq_Mo_cellOf (by decide) rfl (Or.inl rfl) (fun v4 h3 => ?_)
      refine ix_K_px kq_Mo_isFalling i_Mo_isFalling_27 rfl rfl ?_
      refine ix_K_px kq_Mo_isFalling i_Mo_isFalling_28 rfl rfl ?_
      refine ix_K_px kq_Mo_isFalling i_Mo_isFalling_29 rfl rfl ?_
      refine ix_K_ci kq_Mo_isFalling i_Mo_isFalling_30 rfl kci_1 ?_
      refine ix_K_px kq_Mo_isFalling i_Mo_isFalling_31 rfl rfl ?_
      refine ix_K_callI (as := [.ref a0, .int x1, .int (x3 - 1)]) (rest := [.int v4]) kq_Mo_isFalling i_Mo_isFalling_32 rfl kq_Mo_cellOf (by decide) rfl (Or.inl rfl) (fun v6 h5 => ?_)
      refine ix_K_ic_le (tgt := 42) kq_Mo_isFalling i_Mo_isFalling_35 rfl (by decide) ?_ ?_
      · refine ix_K_ci kq_Mo_isFalling i_Mo_isFalling_42 rfl kci_0 ?_
        refine ix_K_si (L2 := [some (.ref a0), some (.int x1), some (.int 0), some (.int x3)]) kq_Mo_isFalling i_Mo_isFalling_43 rfl (Or.inr ⟨_, rfl, rfl⟩) (Nat.le_of_ble_eq_true rfl) rfl ?_
        refine ix_K_inc (L2 := [some (.ref a0), some (.int x1), some (.int 0), some (.int (x3 + 1))]) kq_Mo_isFalling i_Mo_isFalling_44 rfl rfl (Nat.le_of_ble_eq_true rfl) kci_1 rfl ?_
        refine ix_K_goto (tgt := 8) kq_Mo_isFalling i_Mo_isFalling_47 rfl (by decide) ?_
        exact ix_D_cut i_Mo_isFalling_8 rfl
      · refine ix_K_ci kq_Mo_isFalling i_Mo_isFalling_38 rfl kci_1 ?_
        refine ix_K_goto (tgt := 43) kq_Mo_isFalling i_Mo_isFalling_39 rfl (by decide) ?_
        refine ix_K_si (L2 := [some (.ref a0), some (.int x1), some (.int 1), some (.int x3)]) kq_Mo_isFalling i_Mo_isFalling_43 rfl (Or.inr ⟨_, rfl, rfl⟩) (Nat.le_of_ble_eq_true rfl) rfl ?_
        refine ix_K_inc (L2 := [some (.ref a0), some (.int x1), some (.int 1), some (.int (x3 + 1))]) kq_Mo_isFalling i_Mo_isFalling_44 rfl rfl (Nat.le_of_ble_eq_true rfl) kci_1 rfl ?_
        refine ix_K_goto (tgt := 8) kq_Mo_isFalling i_Mo_isFalling_47 rfl (by decide) ?_
        exact ix_D_cut i_Mo_isFalling_8 rfl
    · refine ix_K_ci kq_Mo_isFalling i_Mo_isFalling_42 rfl kci_0 ?_
      refine ix_K_si (L2 := [some (.ref a0), some (.int x1), some (.int 0), some (.int x3)]) kq_Mo_isFalling i_Mo_isFalling_43 rfl (Or.inr ⟨_, rfl, rfl⟩) (Nat.le_of_ble_eq_true rfl) rfl ?_
      refine ix_K_inc (L2 := [some (.ref a0), some (.int x1), some (.int 0), some (.int (x3 + 1))]) kq_Mo_isFalling i_Mo_isFalling_44 rfl rfl (Nat.le_of_ble_eq_true rfl) kci_1 rfl ?_
      refine ix_K_goto (tgt := 8) kq_Mo_isFalling i_Mo_isFalling_47 rfl (by decide) ?_
      exact ix_D_cut i_Mo_isFalling_8 rfl
set_option maxRecDepth 20000 in
set_option maxHeartbeats 1000000 in
theorem e_Mo_isFalling (a0 : Nat) (x1 : Int32) (h : ixH) : ix_D mMo_isFalling 0 [some (.ref a0), some (.int x1), none, none] [] h = (ix_M mMo_isValid [.ref a0, .int x1] h).bind fun r => ix_kZ r fun v2 h1 => l_Mo_isFalling_8 a0 x1 v2 1 h1 := by
  refine ix_K_px kq_Mo_isFalling i_Mo_isFalling_0 rfl rfl ?_
  refine ix_K_px kq_Mo_isFalling i_Mo_isFalling_1 rfl rfl ?_
  refine ix_K_callZ (as := [.ref a0, .int x1]) (rest := []) kq_Mo_isFalling i_Mo_isFalling_2 rfl kq_Mo_isValid (by decide) rfl rfl (fun v2 h1 => ?_)
  refine ix_K_si (L2 := [some (.ref a0), some (.int x1), some (.int (ix_bi v2)), none]) kq_Mo_isFalling i_Mo_isFalling_5 rfl (Or.inr ⟨_, rfl, rfl⟩) (Nat.le_of_ble_eq_true rfl) rfl ?_
  refine ix_K_ci kq_Mo_isFalling i_Mo_isFalling_6 rfl kci_1 ?_
  refine ix_K_si (L2 := [some (.ref a0), some (.int x1), some (.int (ix_bi v2)), some (.int 1)]) kq_Mo_isFalling i_Mo_isFalling_7 rfl (Or.inr ⟨_, rfl, rfl⟩) (Nat.le_of_ble_eq_true rfl) rfl ?_
  exact ix_D_cut i_Mo_isFalling_8 rfl
theorem x_Mo_isFalling {a0 : Nat} {x1 : Int32} {h h1 : ixH} {v : Bool} (hr : ix_rc h a0 = some 11) (hd : ix_D mMo_isFalling 0 [some (.ref a0), some (.int x1), none, none] [] h = some ([.int (ix_bi v)], h1)) : ix_M mMo_isFalling [.ref a0, .int x1] h = some ([.int (ix_bi v)], h1) := ix_M_of (ix_ent_i kq_Mo_isFalling rfl hr rfl (Nat.le_of_ble_eq_true rfl) rfl) hd (ix_okrZ rfl v)
theorem i_Mo_isFromTo_0 : ix_nx mMo_isFromTo 0 = some (0, .aload_n 0, 1, none, [], 0) := rfl
theorem i_Mo_isFromTo_1 : ix_nx mMo_isFromTo 1 = some (0, .iload_n 1, 2, none, [], 0) := rfl
theorem i_Mo_isFromTo_2 : ix_nx mMo_isFromTo 2 = some (3, .invokevirtual 269, 5, none, [0, 216, 224], 0) := rfl
theorem i_Mo_isFromTo_5 : ix_nx mMo_isFromTo 5 = some (0, .istore_n 2, 6, none, [], 0) := rfl
theorem i_Mo_isFromTo_6 : ix_nx mMo_isFromTo 6 = some (0, .iload_n 2, 7, none, [], 0) := rfl
theorem i_Mo_isFromTo_7 : ix_nx mMo_isFromTo 7 = some (0, .ifCond .le 45, 10, none, [], 0) := rfl
theorem i_Mo_isFromTo_10 : ix_nx mMo_isFromTo 10 = some (0, .aload_n 0, 11, none, [], 0) := rfl
theorem i_Mo_isFromTo_11 : ix_nx mMo_isFromTo 11 = some (0, .iload_n 1, 12, none, [], 0) := rfl
theorem i_Mo_isFromTo_12 : ix_nx mMo_isFromTo 12 = some (3, .invokevirtual 284, 15, none, [0, 223, 228], 0) := rfl
theorem i_Mo_isFromTo_15 : ix_nx mMo_isFromTo 15 = some (0, .ifCond .eq 37, 18, none, [], 0) := rfl
theorem i_Mo_isFromTo_18 : ix_nx mMo_isFromTo 18 = some (0, .aload_n 0, 19, none, [], 0) := rfl
theorem i_Mo_isFromTo_19 : ix_nx mMo_isFromTo 19 = some (0, .aload_n 0, 20, none, [], 0) := rfl
theorem i_Mo_isFromTo_20 : ix_nx mMo_isFromTo 20 = some (0, .iload_n 1, 21, none, [], 0) := rfl
theorem i_Mo_isFromTo_21 : ix_nx mMo_isFromTo 21 = some (0, .iconst 0, 22, none, [], 0) := rfl
theorem i_Mo_isFromTo_22 : ix_nx mMo_isFromTo 22 = some (3, .invokevirtual 272, 25, none, [0, 218, 226], 0) := rfl
theorem i_Mo_isFromTo_25 : ix_nx mMo_isFromTo 25 = some (0, .iconst 1, 26, none, [], 0) := rfl
theorem i_Mo_isFromTo_26 : ix_nx mMo_isFromTo 26 = some (3, .invokevirtual 175, 29, none, [0, 183, 198], 0) := rfl
theorem i_Mo_isFromTo_29 : ix_nx mMo_isFromTo 29 = some (0, .ifCond .eq 23, 32, none, [], 0) := rfl
theorem i_Mo_isFromTo_32 : ix_nx mMo_isFromTo 32 = some (0, .aload_n 0, 33, none, [], 0) := rfl
theorem i_Mo_isFromTo_33 : ix_nx mMo_isFromTo 33 = some (0, .aload_n 0, 34, none, [], 0) := rfl
theorem i_Mo_isFromTo_34 : ix_nx mMo_isFromTo 34 = some (0, .iload_n 1, 35, none, [], 0) := rfl
theorem i_Mo_isFromTo_35 : ix_nx mMo_isFromTo 35 = some (0, .iload_n 2, 36, none, [], 0) := rfl
theorem i_Mo_isFromTo_36 : ix_nx mMo_isFromTo 36 = some (0, .iconst 1, 37, none, [], 0) := rfl
theorem i_Mo_isFromTo_37 : ix_nx mMo_isFromTo 37 = some (0, .isub, 38, none, [], 0) := rfl
theorem i_Mo_isFromTo_38 : ix_nx mMo_isFromTo 38 = some (3, .invokevirtual 272, 41, none, [0, 218, 226], 0) := rfl
theorem i_Mo_isFromTo_41 : ix_nx mMo_isFromTo 41 = some (0, .iconst 2, 42, none, [], 0) := rfl
theorem i_Mo_isFromTo_42 : ix_nx mMo_isFromTo 42 = some (3, .invokevirtual 175, 45, none, [0, 183, 198], 0) := rfl
theorem i_Mo_isFromTo_45 : ix_nx mMo_isFromTo 45 = some (0, .ifCond .eq 7, 48, none, [], 0) := rfl
theorem i_Mo_isFromTo_48 : ix_nx mMo_isFromTo 48 = some (0, .iconst 1, 49, none, [], 0) := rfl
theorem i_Mo_isFromTo_49 : ix_nx mMo_isFromTo 49 = some (0, .goto 4, 52, none, [], 0) := rfl
theorem i_Mo_isFromTo_52 : ix_nx mMo_isFromTo 52 = some (0, .iconst 0, 53, none, [], 0) := rfl
theorem i_Mo_isFromTo_53 : ix_nx mMo_isFromTo 53 = some (4, .ireturn, 54, none, [], 0) := rfl
set_option maxRecDepth 20000 in
set_option maxHeartbeats 1000000 in
theorem e_Mo_isFromTo (a0 : Nat) (x1 : Int32) (h : ixH) : ix_D mMo_isFromTo 0 [some (.ref a0), some (.int x1), none] [] h = (ix_M mMo_length [.ref a0, .int x1] h).bind fun r => ix_kI r fun v2 h1 => if v2 ≤ 0 then some ([.int (ix_bi false)], h1) else (ix_M mMo_isValid [.ref a0, .int x1] h1).bind fun r => ix_kZ r fun v4 h3 => if v4 = true then (ix_M mMo_cellOf [.ref a0, .int x1, .int 0] h3).bind fun r => ix_kI r fun v6 h5 => (ix_M mMo_has [.ref a0, .int v6, .int 1] h5).bind fun r => ix_kZ r fun v8 h7 => if v8 = true then (ix_M mMo_cellOf [.ref a0, .int x1, .int (v2 - 1)] h7).bind fun r => ix_kI r fun v10 h9 => (ix_M mMo_has [.ref a0, .int v10, .int 2] h9).bind fun r => ix_kZ r fun v12 h11 => if v12 = true then some ([.int (ix_bi true)], h11) else some ([.int (ix_bi false)], h11) else some ([.int (ix_bi false)], h7) else some ([.int (ix_bi false)], h3) := by
  refine ix_K_px kq_Mo_isFromTo i_Mo_isFromTo_0 rfl rfl ?_
  refine ix_K_px kq_Mo_isFromTo i_Mo_isFromTo_1 rfl rfl ?_
  refine ix_K_callI (as := [.ref a0, .int x1]) (rest := []) kq_Mo_isFromTo i_Mo_isFromTo_2 rfl kq_Mo_length (by decide) rfl (Or.inl rfl) (fun v2 h1 => ?_)
  refine ix_K_si (L2 := [some (.ref a0), some (.int x1), some (.int v2)]) kq_Mo_isFromTo i_Mo_isFromTo_5 rfl (Or.inr ⟨_, rfl, rfl⟩) (Nat.le_of_ble_eq_true rfl) rfl ?_
  refine ix_K_px kq_Mo_isFromTo i_Mo_isFromTo_6 rfl rfl ?_
  refine ix_K_if_le (tgt := 52) kq_Mo_isFromTo i_Mo_isFromTo_7 rfl (by decide) ?_ ?_
  · refine ix_K_ci kq_Mo_isFromTo i_Mo_isFromTo_52 rfl kci_0 ?_
    exact ix_D_ret kq_Mo_isFromTo i_Mo_isFromTo_53 (ix_rtZ rfl false)
  · refine ix_K_px kq_Mo_isFromTo i_Mo_isFromTo_10 rfl rfl ?_
    refine ix_K_px kq_Mo_isFromTo i_Mo_isFromTo_11 rfl rfl ?_
    refine ix_K_callZ (as := [.ref a0, .int x1]) (rest := []) kq_Mo_isFromTo i_Mo_isFromTo_12 rfl kq_Mo_isValid (by decide) rfl rfl (fun v4 h3 => ?_)
    refine ix_K_bz_eq (tgt := 52) kq_Mo_isFromTo i_Mo_isFromTo_15 rfl (by decide) ?_ ?_
    · refine ix_K_px kq_Mo_isFromTo i_Mo_isFromTo_18 rfl rfl ?_
      refine ix_K_px kq_Mo_isFromTo i_Mo_isFromTo_19 rfl rfl ?_
      refine ix_K_px kq_Mo_isFromTo i_Mo_isFromTo_20 rfl rfl ?_
      refine ix_K_ci kq_Mo_isFromTo i_Mo_isFromTo_21 rfl kci_0 ?_
      refine ix_K_callI (as := [.ref a0, .int x1, .int 0]) (rest := [.ref a0]) kq_Mo_isFromTo i_Mo_isFromTo_22 rfl kq_Mo_cellOf (by decide) rfl (Or.inl rfl) (fun v6 h5 => ?_)
      refine ix_K_ci kq_Mo_isFromTo i_Mo_isFromTo_25 rfl kci_1 ?_
      refine ix_K_callZ (as := [.ref a0, .int v6, .int 1]) (rest := []) kq_Mo_isFromTo i_Mo_isFromTo_26 rfl kq_Mo_has (by decide) rfl rfl (fun v8 h7 => ?_)
      refine ix_K_bz_eq (tgt := 52) kq_Mo_isFromTo i_Mo_isFromTo_29 rfl (by decide) ?_ ?_
      · refine ix_K_px kq_Mo_isFromTo i_Mo_isFromTo_32 rfl rfl ?_
        refine ix_K_px kq_Mo_isFromTo i_Mo_isFromTo_33 rfl rfl ?_
        refine ix_K_px kq_Mo_isFromTo i_Mo_isFromTo_34 rfl rfl ?_
        refine ix_K_px kq_Mo_isFromTo i_Mo_isFromTo_35 rfl rfl ?_
        refine ix_K_ci kq_Mo_isFromTo i_Mo_isFromTo_36 rfl kci_1 ?_
        refine ix_K_px kq_Mo_isFromTo i_Mo_isFromTo_37 rfl rfl ?_
        refine ix_K_callI (as := [.ref a0, .int x1, .int (v2 - 1)]) (rest := [.ref a0]) kq_Mo_isFromTo i_Mo_isFromTo_38 rfl kq_Mo_cellOf (by decide) rfl (Or.inl rfl) (fun v10 h9 => ?_)
        refine ix_K_ci kq_Mo_isFromTo i_Mo_isFromTo_41 rfl kci_2 ?_
        refine ix_K_callZ (as := [.ref a0, .int v10, .int 2]) (rest := []) kq_Mo_isFromTo i_Mo_isFromTo_42 rfl kq_Mo_has (by decide) rfl rfl (fun v12 h11 => ?_)
        refine ix_K_bz_eq (tgt := 52) kq_Mo_isFromTo i_Mo_isFromTo_45 rfl (by decide) ?_ ?_
        · refine ix_K_ci kq_Mo_isFromTo i_Mo_isFromTo_48 rfl kci_1 ?_
          refine ix_K_goto (tgt := 53) kq_Mo_isFromTo i_Mo_isFromTo_49 rfl (by decide) ?_
          exact ix_D_ret kq_Mo_isFromTo i_Mo_isFromTo_53 (ix_rtZ rfl true)
        · refine ix_K_ci kq_Mo_isFromTo i_Mo_isFromTo_52 rfl kci_0 ?_
          exact ix_D_ret kq_Mo_isFromTo i_Mo_isFromTo_53 (ix_rtZ rfl false)
      · refine ix_K_ci kq_Mo_isFromTo i_Mo_isFromTo_52 rfl kci_0 ?_
        exact ix_D_ret kq_Mo_isFromTo i_Mo_isFromTo_53 (ix_rtZ rfl false)
    · refine ix_K_ci kq_Mo_isFromTo i_Mo_isFromTo_52 rfl kci_0 ?_
      exact ix_D_ret kq_Mo_isFromTo i_Mo_isFromTo_53 (ix_rtZ rfl false)
theorem x_Mo_isFromTo {a0 : Nat} {x1 : Int32} {h h1 : ixH} {v : Bool} (hr : ix_rc h a0 = some 11) (hd : ix_D mMo_isFromTo 0 [some (.ref a0), some (.int x1), none] [] h = some ([.int (ix_bi v)], h1)) : ix_M mMo_isFromTo [.ref a0, .int x1] h = some ([.int (ix_bi v)], h1) := ix_M_of (ix_ent_i kq_Mo_isFromTo rfl hr rfl (Nat.le_of_ble_eq_true rfl) rfl) hd (ix_okrZ rfl v)
theorem i_Mo_markedOn_0 : ix_nx mMo_markedOn 0 = some (0, .iconst 0, 1, none, [], 0) := rfl
theorem i_Mo_markedOn_1 : ix_nx mMo_markedOn 1 = some (0, .istore_n 2, 2, none, [], 0) := rfl
theorem i_Mo_markedOn_2 : ix_nx mMo_markedOn 2 = some (0, .iconst 0, 3, none, [], 0) := rfl
theorem i_Mo_markedOn_3 : ix_nx mMo_markedOn 3 = some (0, .istore_n 3, 4, none, [], 0) := rfl
theorem i_Mo_markedOn_4 : ix_nx mMo_markedOn 4 = some (0, .iload_n 3, 5, some [true, true, true, true], [], 0) := rfl
theorem i_Mo_markedOn_5 : ix_nx mMo_markedOn 5 = some (0, .aload_n 0, 6, none, [], 0) := rfl
theorem i_Mo_markedOn_6 : ix_nx mMo_markedOn 6 = some (0, .iload_n 1, 7, none, [], 0) := rfl
theorem i_Mo_markedOn_7 : ix_nx mMo_markedOn 7 = some (3, .invokevirtual 269, 10, none, [0, 216, 224], 0) := rfl
theorem i_Mo_markedOn_10 : ix_nx mMo_markedOn 10 = some (0, .if_icmp .ge 31, 13, none, [], 0) := rfl
theorem i_Mo_markedOn_13 : ix_nx mMo_markedOn 13 = some (0, .iload_n 2, 14, none, [], 0) := rfl
theorem i_Mo_markedOn_14 : ix_nx mMo_markedOn 14 = some (0, .aload_n 0, 15, none, [], 0) := rfl
theorem i_Mo_markedOn_15 : ix_nx mMo_markedOn 15 = some (0, .aload_n 0, 16, none, [], 0) := rfl
theorem i_Mo_markedOn_16 : ix_nx mMo_markedOn 16 = some (0, .iload_n 1, 17, none, [], 0) := rfl
theorem i_Mo_markedOn_17 : ix_nx mMo_markedOn 17 = some (0, .iload_n 3, 18, none, [], 0) := rfl
theorem i_Mo_markedOn_18 : ix_nx mMo_markedOn 18 = some (3, .invokevirtual 272, 21, none, [0, 218, 226], 0) := rfl
theorem i_Mo_markedOn_21 : ix_nx mMo_markedOn 21 = some (0, .iconst 3, 22, none, [], 0) := rfl
theorem i_Mo_markedOn_22 : ix_nx mMo_markedOn 22 = some (3, .invokevirtual 175, 25, none, [0, 183, 198], 0) := rfl
theorem i_Mo_markedOn_25 : ix_nx mMo_markedOn 25 = some (0, .ifCond .eq 7, 28, none, [], 0) := rfl
theorem i_Mo_markedOn_28 : ix_nx mMo_markedOn 28 = some (0, .iconst 1, 29, none, [], 0) := rfl
theorem i_Mo_markedOn_29 : ix_nx mMo_markedOn 29 = some (0, .goto 4, 32, none, [], 0) := rfl
theorem i_Mo_markedOn_32 : ix_nx mMo_markedOn 32 = some (0, .iconst 0, 33, none, [], 0) := rfl
theorem i_Mo_markedOn_33 : ix_nx mMo_markedOn 33 = some (0, .iadd, 34, none, [], 0) := rfl
theorem i_Mo_markedOn_34 : ix_nx mMo_markedOn 34 = some (0, .istore_n 2, 35, none, [], 0) := rfl
theorem i_Mo_markedOn_35 : ix_nx mMo_markedOn 35 = some (0, .iinc 3 1, 38, none, [], 0) := rfl
theorem i_Mo_markedOn_38 : ix_nx mMo_markedOn 38 = some (0, .goto (-34), 41, none, [], 0) := rfl
theorem i_Mo_markedOn_41 : ix_nx mMo_markedOn 41 = some (0, .iload_n 2, 42, none, [], 0) := rfl
theorem i_Mo_markedOn_42 : ix_nx mMo_markedOn 42 = some (4, .ireturn, 43, none, [], 0) := rfl
noncomputable def l_Mo_markedOn_4 (a0 : Nat) (x1 : Int32) (x2 : Int32) (x3 : Int32) (h : ixH) : Option (List Value × ixH) := ix_D mMo_markedOn 4 [some (.ref a0), some (.int x1), some (.int x2), some (.int x3)] [] h
set_option maxRecDepth 20000 in
set_option maxHeartbeats 1000000 in
theorem e_Mo_markedOn_4 (a0 : Nat) (x1 : Int32) (x2 : Int32) (x3 : Int32) (h : ixH) : l_Mo_markedOn_4 a0 x1 x2 x3 h = (ix_M mMo_length [.ref a0, .int x1] h).bind fun r => ix_kI r fun v2 h1 => if v2 ≤ x3 then some ([.int x2], h1) else (ix_M mMo_cellOf [.ref a0, .int x1, .int x3] h1).bind fun r => ix_kI r fun v4 h3 => (ix_M mMo_has [.ref a0, .int v4, .int 3] h3).bind fun r => ix_kZ r fun v6 h5 => if v6 = true then l_Mo_markedOn_4 a0 x1 (x2 + 1) (x3 + 1) h5 else l_Mo_markedOn_4 a0 x1 (x2 + 0) (x3 + 1) h5 := by
  unfold l_Mo_markedOn_4
  refine ix_K_px kq_Mo_markedOn i_Mo_markedOn_4 rfl rfl ?_
  refine ix_K_px kq_Mo_markedOn i_Mo_markedOn_5 rfl rfl ?_
  refine ix_K_px kq_Mo_markedOn i_Mo_markedOn_6 rfl rfl ?_
  refine ix_K_callI (as := [.ref a0, .int x1]) (rest := [.int x3]) kq_Mo_markedOn i_Mo_markedOn_7 rfl kq_Mo_length (by decide) rfl (Or.inl rfl) (fun v2 h1 => ?_)
  refine ix_K_ic_ge (tgt := 41) kq_Mo_markedOn i_Mo_markedOn_10 rfl (by decide) ?_ ?_
  · refine ix_K_px kq_Mo_markedOn i_Mo_markedOn_41 rfl rfl ?_
    exact ix_D_ret kq_Mo_markedOn i_Mo_markedOn_42 (ix_rtI rfl _)
  · refine ix_K_px kq_Mo_markedOn i_Mo_markedOn_13 rfl rfl ?_
    refine ix_K_px kq_Mo_markedOn i_Mo_markedOn_14 rfl rfl ?_
    refine ix_K_px kq_Mo_markedOn i_Mo_markedOn_15 rfl rfl ?_
    refine ix_K_px kq_Mo_markedOn i_Mo_markedOn_16 rfl rfl ?_
    refine ix_K_px kq_Mo_markedOn i_Mo_markedOn_17 rfl rfl ?_
    refine ix_K_callI (as := [.ref a0, .int x1, .int x3]) (rest := [.ref a0, .int x2]) kq_Mo_markedOn i_Mo_markedOn_18 rfl kq_Mo_cellOf (by decide) rfl (Or.inl rfl) (fun v4 h3 => ?_)
    refine ix_K_ci kq_Mo_markedOn i_Mo_markedOn_21 rfl kci_3 ?_
    refine ix_K_callZ (as := [.ref a0, .int v4, .int 3]) (rest := [.int x2]) kq_Mo_markedOn i_Mo_markedOn_22 rfl kq_Mo_has (by decide) rfl rfl (fun v6 h5 => ?_)
    refine ix_K_bz_eq (tgt := 32) kq_Mo_markedOn i_Mo_markedOn_25 rfl (by decide) ?_ ?_
    · refine ix_K_ci kq_Mo_markedOn i_Mo_markedOn_28 rfl kci_1 ?_
      refine ix_K_goto (tgt := 33) kq_Mo_markedOn i_Mo_markedOn_29 rfl (by decide) ?_
      refine ix_K_px kq_Mo_markedOn i_Mo_markedOn_33 rfl rfl ?_
      refine ix_K_si (L2 := [some (.ref a0), some (.int x1), some (.int (x2 + 1)), some (.int x3)]) kq_Mo_markedOn i_Mo_markedOn_34 rfl (Or.inr ⟨_, rfl, rfl⟩) (Nat.le_of_ble_eq_true rfl) rfl ?_
      refine ix_K_inc (L2 := [some (.ref a0), some (.int x1), some (.int (x2 + 1)), some (.int (x3 + 1))]) kq_Mo_markedOn i_Mo_markedOn_35 rfl rfl (Nat.le_of_ble_eq_true rfl) kci_1 rfl ?_
      refine ix_K_goto (tgt := 4) kq_Mo_markedOn i_Mo_markedOn_38 rfl (by decide) ?_
      exact ix_D_cut i_Mo_markedOn_4 rfl
    · refine ix_K_ci kq_Mo_markedOn i_Mo_markedOn_32 rfl kci_0 ?_
      refine ix_K_px kq_Mo_markedOn i_Mo_markedOn_33 rfl rfl ?_
      refine ix_K_si (L2 := [some (.ref a0), some (.int x1), some (.int (x2 + 0)), some (.int x3)]) kq_Mo_markedOn i_Mo_markedOn_34 rfl (Or.inr ⟨_, rfl, rfl⟩) (Nat.le_of_ble_eq_true rfl) rfl ?_
      refine ix_K_inc (L2 := [some (.ref a0), some (.int x1), some (.int (x2 + 0)), some (.int (x3 + 1))]) kq_Mo_markedOn i_Mo_markedOn_35 rfl rfl (Nat.le_of_ble_eq_true rfl) kci_1 rfl ?_
      refine ix_K_goto (tgt := 4) kq_Mo_markedOn i_Mo_markedOn_38 rfl (by decide) ?_
      exact ix_D_cut i_Mo_markedOn_4 rfl
set_option maxRecDepth 20000 in
set_option maxHeartbeats 1000000 in
theorem e_Mo_markedOn (a0 : Nat) (x1 : Int32) (h : ixH) : ix_D mMo_markedOn 0 [some (.ref a0), some (.int x1), none, none] [] h = l_Mo_markedOn_4 a0 x1 0 0 h := by
  refine ix_K_ci kq_Mo_markedOn i_Mo_markedOn_0 rfl kci_0 ?_
  refine ix_K_si (L2 := [some (.ref a0), some (.int x1), some (.int 0), none]) kq_Mo_markedOn i_Mo_markedOn_1 rfl (Or.inr ⟨_, rfl, rfl⟩) (Nat.le_of_ble_eq_true rfl) rfl ?_
  refine ix_K_ci kq_Mo_markedOn i_Mo_markedOn_2 rfl kci_0 ?_
  refine ix_K_si (L2 := [some (.ref a0), some (.int x1), some (.int 0), some (.int 0)]) kq_Mo_markedOn i_Mo_markedOn_3 rfl (Or.inr ⟨_, rfl, rfl⟩) (Nat.le_of_ble_eq_true rfl) rfl ?_
  exact ix_D_cut i_Mo_markedOn_4 rfl
theorem x_Mo_markedOn {a0 : Nat} {x1 : Int32} {h h1 : ixH} {v : Int32} (hr : ix_rc h a0 = some 11) (hd : ix_D mMo_markedOn 0 [some (.ref a0), some (.int x1), none, none] [] h = some ([.int v], h1)) : ix_M mMo_markedOn [.ref a0, .int x1] h = some ([.int v], h1) := ix_M_of (ix_ent_i kq_Mo_markedOn rfl hr rfl (Nat.le_of_ble_eq_true rfl) rfl) hd (ix_okrI (Or.inl rfl) v)
theorem i_Mo_meets_0 : ix_nx mMo_meets 0 = some (0, .iconst 0, 1, none, [], 0) := rfl
theorem i_Mo_meets_1 : ix_nx mMo_meets 1 = some (0, .istore_n 2, 2, none, [], 0) := rfl
theorem i_Mo_meets_2 : ix_nx mMo_meets 2 = some (0, .iconst 0, 3, none, [], 0) := rfl
theorem i_Mo_meets_3 : ix_nx mMo_meets 3 = some (0, .istore_n 3, 4, none, [], 0) := rfl
theorem i_Mo_meets_4 : ix_nx mMo_meets 4 = some (0, .iload_n 3, 5, some [true, true, true, true], [], 0) := rfl
theorem i_Mo_meets_5 : ix_nx mMo_meets 5 = some (0, .iconst 5, 6, none, [], 0) := rfl
theorem i_Mo_meets_6 : ix_nx mMo_meets 6 = some (0, .if_icmp .ge 33, 9, none, [], 0) := rfl
theorem i_Mo_meets_9 : ix_nx mMo_meets 9 = some (0, .iload_n 2, 10, none, [], 0) := rfl
theorem i_Mo_meets_10 : ix_nx mMo_meets 10 = some (0, .iload_n 3, 11, none, [], 0) := rfl
theorem i_Mo_meets_11 : ix_nx mMo_meets 11 = some (0, .iload_n 1, 12, none, [], 0) := rfl
theorem i_Mo_meets_12 : ix_nx mMo_meets 12 = some (0, .if_icmp .eq 18, 15, none, [], 0) := rfl
theorem i_Mo_meets_15 : ix_nx mMo_meets 15 = some (0, .aload_n 0, 16, none, [], 0) := rfl
theorem i_Mo_meets_16 : ix_nx mMo_meets 16 = some (0, .iload_n 1, 17, none, [], 0) := rfl
theorem i_Mo_meets_17 : ix_nx mMo_meets 17 = some (0, .iload_n 3, 18, none, [], 0) := rfl
theorem i_Mo_meets_18 : ix_nx mMo_meets 18 = some (3, .invokevirtual 287, 21, none, [0, 228, 233], 0) := rfl
theorem i_Mo_meets_21 : ix_nx mMo_meets 21 = some (0, .ifCond .lt 9, 24, none, [], 0) := rfl
theorem i_Mo_meets_24 : ix_nx mMo_meets 24 = some (0, .iconst 1, 25, none, [], 0) := rfl
theorem i_Mo_meets_25 : ix_nx mMo_meets 25 = some (0, .iload_n 3, 26, none, [], 0) := rfl
theorem i_Mo_meets_26 : ix_nx mMo_meets 26 = some (0, .ishl, 27, none, [], 0) := rfl
theorem i_Mo_meets_27 : ix_nx mMo_meets 27 = some (0, .goto 4, 30, none, [], 0) := rfl
theorem i_Mo_meets_30 : ix_nx mMo_meets 30 = some (0, .iconst 0, 31, none, [], 0) := rfl
theorem i_Mo_meets_31 : ix_nx mMo_meets 31 = some (0, .ior, 32, none, [], 0) := rfl
theorem i_Mo_meets_32 : ix_nx mMo_meets 32 = some (0, .istore_n 2, 33, none, [], 0) := rfl
theorem i_Mo_meets_33 : ix_nx mMo_meets 33 = some (0, .iinc 3 1, 36, none, [], 0) := rfl
theorem i_Mo_meets_36 : ix_nx mMo_meets 36 = some (0, .goto (-32), 39, none, [], 0) := rfl
theorem i_Mo_meets_39 : ix_nx mMo_meets 39 = some (0, .iload_n 2, 40, none, [], 0) := rfl
theorem i_Mo_meets_40 : ix_nx mMo_meets 40 = some (4, .ireturn, 41, none, [], 0) := rfl
noncomputable def l_Mo_meets_4 (a0 : Nat) (x1 : Int32) (x2 : Int32) (x3 : Int32) (h : ixH) : Option (List Value × ixH) := ix_D mMo_meets 4 [some (.ref a0), some (.int x1), some (.int x2), some (.int x3)] [] h
set_option maxRecDepth 20000 in
set_option maxHeartbeats 1000000 in
theorem e_Mo_meets_4 (a0 : Nat) (x1 : Int32) (x2 : Int32) (x3 : Int32) (h : ixH) : l_Mo_meets_4 a0 x1 x2 x3 h = if 5 ≤ x3 then some ([.int x2], h) else if x3 = x1 then l_Mo_meets_4 a0 x1 (x2 ||| 0) (x3 + 1) h else (ix_M mMo_meetingOf [.ref a0, .int x1, .int x3] h).bind fun r => ix_kI r fun v2 h1 => if v2 < 0 then l_Mo_meets_4 a0 x1 (x2 ||| 0) (x3 + 1) h1 else l_Mo_meets_4 a0 x1 (x2 ||| (ix_ishl 1 x3)) (x3 + 1) h1 := by
  unfold l_Mo_meets_4
  refine ix_K_px kq_Mo_meets i_Mo_meets_4 rfl rfl ?_
  refine ix_K_ci kq_Mo_meets i_Mo_meets_5 rfl kci_5 ?_
  refine ix_K_ic_ge (tgt := 39) kq_Mo_meets i_Mo_meets_6 rfl (by decide) ?_ ?_
  · refine ix_K_px kq_Mo_meets i_Mo_meets_39 rfl rfl ?_
    exact ix_D_ret kq_Mo_meets i_Mo_meets_40 (ix_rtI rfl _)
  · refine ix_K_px kq_Mo_meets i_Mo_meets_9 rfl rfl ?_
    refine ix_K_px kq_Mo_meets i_Mo_meets_10 rfl rfl ?_
    refine ix_K_px kq_Mo_meets i_Mo_meets_11 rfl rfl ?_
    refine ix_K_ic_eq (tgt := 30) kq_Mo_meets i_Mo_meets_12 rfl (by decide) ?_ ?_
    · refine ix_K_ci kq_Mo_meets i_Mo_meets_30 rfl kci_0 ?_
      refine ix_K_px kq_Mo_meets i_Mo_meets_31 rfl rfl ?_
      refine ix_K_si (L2 := [some (.ref a0), some (.int x1), some (.int (x2 ||| 0)), some (.int x3)]) kq_Mo_meets i_Mo_meets_32 rfl (Or.inr ⟨_, rfl, rfl⟩) (Nat.le_of_ble_eq_true rfl) rfl ?_
      refine ix_K_inc (L2 := [some (.ref a0), some (.int x1), some (.int (x2 ||| 0)), some (.int (x3 + 1))]) kq_Mo_meets i_Mo_meets_33 rfl rfl (Nat.le_of_ble_eq_true rfl) kci_1 rfl ?_
      refine ix_K_goto (tgt := 4) kq_Mo_meets i_Mo_meets_36 rfl (by decide) ?_
      exact ix_D_cut i_Mo_meets_4 rfl
    · refine ix_K_px kq_Mo_meets i_Mo_meets_15 rfl rfl ?_
      refine ix_K_px kq_Mo_meets i_Mo_meets_16 rfl rfl ?_
      refine ix_K_px kq_Mo_meets i_Mo_meets_17 rfl rfl ?_
      refine ix_K_callI (as := [.ref a0, .int x1, .int x3]) (rest := [.int x2]) kq_Mo_meets i_Mo_meets_18 rfl kq_Mo_meetingOf (by decide) rfl (Or.inl rfl) (fun v2 h1 => ?_)
      refine ix_K_if_lt (tgt := 30) kq_Mo_meets i_Mo_meets_21 rfl (by decide) ?_ ?_
      · refine ix_K_ci kq_Mo_meets i_Mo_meets_30 rfl kci_0 ?_
        refine ix_K_px kq_Mo_meets i_Mo_meets_31 rfl rfl ?_
        refine ix_K_si (L2 := [some (.ref a0), some (.int x1), some (.int (x2 ||| 0)), some (.int x3)]) kq_Mo_meets i_Mo_meets_32 rfl (Or.inr ⟨_, rfl, rfl⟩) (Nat.le_of_ble_eq_true rfl) rfl ?_
        refine ix_K_inc (L2 := [some (.ref a0), some (.int x1), some (.int (x2 ||| 0)), some (.int (x3 + 1))]) kq_Mo_meets i_Mo_meets_33 rfl rfl (Nat.le_of_ble_eq_true rfl) kci_1 rfl ?_
        refine ix_K_goto (tgt := 4) kq_Mo_meets i_Mo_meets_36 rfl (by decide) ?_
        exact ix_D_cut i_Mo_meets_4 rfl
      · refine ix_K_ci kq_Mo_meets i_Mo_meets_24 rfl kci_1 ?_
        refine ix_K_px kq_Mo_meets i_Mo_meets_25 rfl rfl ?_
        refine ix_K_px kq_Mo_meets i_Mo_meets_26 rfl rfl ?_
        refine ix_K_goto (tgt := 31) kq_Mo_meets i_Mo_meets_27 rfl (by decide) ?_
        refine ix_K_px kq_Mo_meets i_Mo_meets_31 rfl rfl ?_
        refine ix_K_si (L2 := [some (.ref a0), some (.int x1), some (.int (x2 ||| (ix_ishl 1 x3))), some (.int x3)]) kq_Mo_meets i_Mo_meets_32 rfl (Or.inr ⟨_, rfl, rfl⟩) (Nat.le_of_ble_eq_true rfl) rfl ?_
        refine ix_K_inc (L2 := [some (.ref a0), some (.int x1), some (.int (x2 ||| (ix_ishl 1 x3))), some (.int (x3 + 1))]) kq_Mo_meets i_Mo_meets_33 rfl rfl (Nat.le_of_ble_eq_true rfl) kci_1 rfl ?_
        refine ix_K_goto (tgt := 4) kq_Mo_meets i_Mo_meets_36 rfl (by decide) ?_
        exact ix_D_cut i_Mo_meets_4 rfl
set_option maxRecDepth 20000 in
set_option maxHeartbeats 1000000 in
theorem e_Mo_meets (a0 : Nat) (x1 : Int32) (h : ixH) : ix_D mMo_meets 0 [some (.ref a0), some (.int x1), none, none] [] h = l_Mo_meets_4 a0 x1 0 0 h := by
  refine ix_K_ci kq_Mo_meets i_Mo_meets_0 rfl kci_0 ?_
  refine ix_K_si (L2 := [some (.ref a0), some (.int x1), some (.int 0), none]) kq_Mo_meets i_Mo_meets_1 rfl (Or.inr ⟨_, rfl, rfl⟩) (Nat.le_of_ble_eq_true rfl) rfl ?_
  refine ix_K_ci kq_Mo_meets i_Mo_meets_2 rfl kci_0 ?_
  refine ix_K_si (L2 := [some (.ref a0), some (.int x1), some (.int 0), some (.int 0)]) kq_Mo_meets i_Mo_meets_3 rfl (Or.inr ⟨_, rfl, rfl⟩) (Nat.le_of_ble_eq_true rfl) rfl ?_
  exact ix_D_cut i_Mo_meets_4 rfl
theorem x_Mo_meets {a0 : Nat} {x1 : Int32} {h h1 : ixH} {v : Int32} (hr : ix_rc h a0 = some 11) (hd : ix_D mMo_meets 0 [some (.ref a0), some (.int x1), none, none] [] h = some ([.int v], h1)) : ix_M mMo_meets [.ref a0, .int x1] h = some ([.int v], h1) := ix_M_of (ix_ent_i kq_Mo_meets rfl hr rfl (Nat.le_of_ble_eq_true rfl) rfl) hd (ix_okrI (Or.inl rfl) v)
theorem i_Mo_meetingOf_0 : ix_nx mMo_meetingOf 0 = some (0, .iload_n 1, 1, none, [], 0) := rfl
theorem i_Mo_meetingOf_1 : ix_nx mMo_meetingOf 1 = some (0, .iload_n 2, 2, none, [], 0) := rfl
theorem i_Mo_meetingOf_2 : ix_nx mMo_meetingOf 2 = some (0, .if_icmp .ge 7, 5, none, [], 0) := rfl
theorem i_Mo_meetingOf_5 : ix_nx mMo_meetingOf 5 = some (0, .iload_n 1, 6, none, [], 0) := rfl
theorem i_Mo_meetingOf_6 : ix_nx mMo_meetingOf 6 = some (0, .goto 4, 9, none, [], 0) := rfl
theorem i_Mo_meetingOf_9 : ix_nx mMo_meetingOf 9 = some (0, .iload_n 2, 10, none, [], 0) := rfl
theorem i_Mo_meetingOf_10 : ix_nx mMo_meetingOf 10 = some (0, .istore_n 3, 11, none, [], 0) := rfl
theorem i_Mo_meetingOf_11 : ix_nx mMo_meetingOf 11 = some (0, .iload_n 1, 12, none, [], 0) := rfl
theorem i_Mo_meetingOf_12 : ix_nx mMo_meetingOf 12 = some (0, .iload_n 2, 13, none, [], 0) := rfl
theorem i_Mo_meetingOf_13 : ix_nx mMo_meetingOf 13 = some (0, .if_icmp .ge 7, 16, none, [], 0) := rfl
theorem i_Mo_meetingOf_16 : ix_nx mMo_meetingOf 16 = some (0, .iload_n 2, 17, none, [], 0) := rfl
theorem i_Mo_meetingOf_17 : ix_nx mMo_meetingOf 17 = some (0, .goto 4, 20, none, [], 0) := rfl
theorem i_Mo_meetingOf_20 : ix_nx mMo_meetingOf 20 = some (0, .iload_n 1, 21, none, [], 0) := rfl
theorem i_Mo_meetingOf_21 : ix_nx mMo_meetingOf 21 = some (0, .istore 4, 23, none, [], 0) := rfl
theorem i_Mo_meetingOf_23 : ix_nx mMo_meetingOf 23 = some (0, .iconst 0, 24, none, [], 0) := rfl
theorem i_Mo_meetingOf_24 : ix_nx mMo_meetingOf 24 = some (0, .istore 5, 26, none, [], 0) := rfl
theorem i_Mo_meetingOf_26 : ix_nx mMo_meetingOf 26 = some (0, .iload 5, 28, some [true, false, false, true, true, true], [], 0) := rfl
theorem i_Mo_meetingOf_28 : ix_nx mMo_meetingOf 28 = some (0, .aload_n 0, 29, none, [], 0) := rfl
theorem i_Mo_meetingOf_29 : ix_nx mMo_meetingOf 29 = some (0, .iload_n 3, 30, none, [], 0) := rfl
theorem i_Mo_meetingOf_30 : ix_nx mMo_meetingOf 30 = some (3, .invokevirtual 269, 33, none, [0, 216, 224], 0) := rfl
theorem i_Mo_meetingOf_33 : ix_nx mMo_meetingOf 33 = some (0, .if_icmp .ge 33, 36, none, [], 0) := rfl
theorem i_Mo_meetingOf_36 : ix_nx mMo_meetingOf 36 = some (0, .aload_n 0, 37, none, [], 0) := rfl
theorem i_Mo_meetingOf_37 : ix_nx mMo_meetingOf 37 = some (0, .iload 4, 39, none, [], 0) := rfl
theorem i_Mo_meetingOf_39 : ix_nx mMo_meetingOf 39 = some (0, .aload_n 0, 40, none, [], 0) := rfl
theorem i_Mo_meetingOf_40 : ix_nx mMo_meetingOf 40 = some (0, .iload_n 3, 41, none, [], 0) := rfl
theorem i_Mo_meetingOf_41 : ix_nx mMo_meetingOf 41 = some (0, .iload 5, 43, none, [], 0) := rfl
theorem i_Mo_meetingOf_43 : ix_nx mMo_meetingOf 43 = some (3, .invokevirtual 272, 46, none, [0, 218, 226], 0) := rfl
theorem i_Mo_meetingOf_46 : ix_nx mMo_meetingOf 46 = some (3, .invokevirtual 278, 49, none, [0, 217, 225], 0) := rfl
theorem i_Mo_meetingOf_49 : ix_nx mMo_meetingOf 49 = some (0, .ifCond .lt 11, 52, none, [], 0) := rfl
theorem i_Mo_meetingOf_52 : ix_nx mMo_meetingOf 52 = some (0, .aload_n 0, 53, none, [], 0) := rfl
theorem i_Mo_meetingOf_53 : ix_nx mMo_meetingOf 53 = some (0, .iload_n 3, 54, none, [], 0) := rfl
theorem i_Mo_meetingOf_54 : ix_nx mMo_meetingOf 54 = some (0, .iload 5, 56, none, [], 0) := rfl
theorem i_Mo_meetingOf_56 : ix_nx mMo_meetingOf 56 = some (3, .invokevirtual 272, 59, none, [0, 218, 226], 0) := rfl
theorem i_Mo_meetingOf_59 : ix_nx mMo_meetingOf 59 = some (4, .ireturn, 60, none, [], 0) := rfl
theorem i_Mo_meetingOf_60 : ix_nx mMo_meetingOf 60 = some (0, .iinc 5 1, 63, none, [], 0) := rfl
theorem i_Mo_meetingOf_63 : ix_nx mMo_meetingOf 63 = some (0, .goto (-37), 66, none, [], 0) := rfl
theorem i_Mo_meetingOf_66 : ix_nx mMo_meetingOf 66 = some (0, .bipush (-6), 68, none, [], 0) := rfl
theorem i_Mo_meetingOf_68 : ix_nx mMo_meetingOf 68 = some (4, .ireturn, 69, none, [], 0) := rfl
noncomputable def l_Mo_meetingOf_26 (a0 : Nat) (x3 : Int32) (x4 : Int32) (x5 : Int32) (h : ixH) : Option (List Value × ixH) := ix_D mMo_meetingOf 26 [some (.ref a0), none, none, some (.int x3), some (.int x4), some (.int x5)] [] h
set_option maxRecDepth 20000 in
set_option maxHeartbeats 1000000 in
theorem e_Mo_meetingOf_26 (a0 : Nat) (x3 : Int32) (x4 : Int32) (x5 : Int32) (h : ixH) : l_Mo_meetingOf_26 a0 x3 x4 x5 h = (ix_M mMo_length [.ref a0, .int x3] h).bind fun r => ix_kI r fun v2 h1 => if v2 ≤ x5 then some ([.int (-6)], h1) else (ix_M mMo_cellOf [.ref a0, .int x3, .int x5] h1).bind fun r => ix_kI r fun v4 h3 => (ix_M mMo_indexOf [.ref a0, .int x4, .int v4] h3).bind fun r => ix_kI r fun v6 h5 => if v6 < 0 then l_Mo_meetingOf_26 a0 x3 x4 (x5 + 1) h5 else (ix_M mMo_cellOf [.ref a0, .int x3, .int x5] h5).bind fun r => ix_kI r fun v8 h7 => some ([.int v8], h7) := by
  unfold l_Mo_meetingOf_26
  refine ix_K_px kq_Mo_meetingOf i_Mo_meetingOf_26 rfl rfl ?_
  refine ix_K_px kq_Mo_meetingOf i_Mo_meetingOf_28 rfl rfl ?_
  refine ix_K_px kq_Mo_meetingOf i_Mo_meetingOf_29 rfl rfl ?_
  refine ix_K_callI (as := [.ref a0, .int x3]) (rest := [.int x5]) kq_Mo_meetingOf i_Mo_meetingOf_30 rfl kq_Mo_length (by decide) rfl (Or.inl rfl) (fun v2 h1 => ?_)
  refine ix_K_ic_ge (tgt := 66) kq_Mo_meetingOf i_Mo_meetingOf_33 rfl (by decide) ?_ ?_
  · refine ix_K_cb kq_Mo_meetingOf i_Mo_meetingOf_66 rfl kcb_m6 ?_
    exact ix_D_ret kq_Mo_meetingOf i_Mo_meetingOf_68 (ix_rtI rfl _)
  · refine ix_K_px kq_Mo_meetingOf i_Mo_meetingOf_36 rfl rfl ?_
    refine ix_K_px kq_Mo_meetingOf i_Mo_meetingOf_37 rfl rfl ?_
    refine ix_K_px kq_Mo_meetingOf i_Mo_meetingOf_39 rfl rfl ?_
    refine ix_K_px kq_Mo_meetingOf i_Mo_meetingOf_40 rfl rfl ?_
    refine ix_K_px kq_Mo_meetingOf i_Mo_meetingOf_41 rfl rfl ?_
    refine ix_K_callI (as := [.ref a0, .int x3, .int x5]) (rest := [.int x4, .ref a0]) kq_Mo_meetingOf i_Mo_meetingOf_43 rfl kq_Mo_cellOf (by decide) rfl (Or.inl rfl) (fun v4 h3 => ?_)
    refine ix_K_callI (as := [.ref a0, .int x4, .int v4]) (rest := []) kq_Mo_meetingOf i_Mo_meetingOf_46 rfl kq_Mo_indexOf (by decide) rfl (Or.inl rfl) (fun v6 h5 => ?_)
    refine ix_K_if_lt (tgt := 60) kq_Mo_meetingOf i_Mo_meetingOf_49 rfl (by decide) ?_ ?_
    · refine ix_K_inc (L2 := [some (.ref a0), none, none, some (.int x3), some (.int x4), some (.int (x5 + 1))]) kq_Mo_meetingOf i_Mo_meetingOf_60 rfl rfl (Nat.le_of_ble_eq_true rfl) kci_1 rfl ?_
      refine ix_K_goto (tgt := 26) kq_Mo_meetingOf i_Mo_meetingOf_63 rfl (by decide) ?_
      exact ix_D_cut i_Mo_meetingOf_26 rfl
    · refine ix_K_px kq_Mo_meetingOf i_Mo_meetingOf_52 rfl rfl ?_
      refine ix_K_px kq_Mo_meetingOf i_Mo_meetingOf_53 rfl rfl ?_
      refine ix_K_px kq_Mo_meetingOf i_Mo_meetingOf_54 rfl rfl ?_
      refine ix_K_callI (as := [.ref a0, .int x3, .int x5]) (rest := []) kq_Mo_meetingOf i_Mo_meetingOf_56 rfl kq_Mo_cellOf (by decide) rfl (Or.inl rfl) (fun v8 h7 => ?_)
      exact ix_D_ret kq_Mo_meetingOf i_Mo_meetingOf_59 (ix_rtI rfl _)
set_option maxRecDepth 20000 in
set_option maxHeartbeats 1000000 in
theorem e_Mo_meetingOf (a0 : Nat) (x1 : Int32) (x2 : Int32) (h : ixH) : ix_D mMo_meetingOf 0 [some (.ref a0), some (.int x1), some (.int x2), none, none, none] [] h = if x2 ≤ x1 then if x2 ≤ x1 then l_Mo_meetingOf_26 a0 x2 x1 0 h else l_Mo_meetingOf_26 a0 x2 x2 0 h else if x2 ≤ x1 then l_Mo_meetingOf_26 a0 x1 x1 0 h else l_Mo_meetingOf_26 a0 x1 x2 0 h := by
  refine ix_K_px kq_Mo_meetingOf i_Mo_meetingOf_0 rfl rfl ?_
  refine ix_K_px kq_Mo_meetingOf i_Mo_meetingOf_1 rfl rfl ?_
  refine ix_K_ic_ge (tgt := 9) kq_Mo_meetingOf i_Mo_meetingOf_2 rfl (by decide) ?_ ?_
  · refine ix_K_px kq_Mo_meetingOf i_Mo_meetingOf_9 rfl rfl ?_
    refine ix_K_si (L2 := [some (.ref a0), some (.int x1), some (.int x2), some (.int x2), none, none]) kq_Mo_meetingOf i_Mo_meetingOf_10 rfl (Or.inr ⟨_, rfl, rfl⟩) (Nat.le_of_ble_eq_true rfl) rfl ?_
    refine ix_K_px kq_Mo_meetingOf i_Mo_meetingOf_11 rfl rfl ?_
    refine ix_K_px kq_Mo_meetingOf i_Mo_meetingOf_12 rfl rfl ?_
    refine ix_K_ic_ge (tgt := 20) kq_Mo_meetingOf i_Mo_meetingOf_13 rfl (by decide) ?_ ?_
    · refine ix_K_px kq_Mo_meetingOf i_Mo_meetingOf_20 rfl rfl ?_
      refine ix_K_si (L2 := [some (.ref a0), some (.int x1), some (.int x2), some (.int x2), some (.int x1), none]) kq_Mo_meetingOf i_Mo_meetingOf_21 rfl (Or.inl rfl) (Nat.le_of_ble_eq_true rfl) rfl ?_
      refine ix_K_ci kq_Mo_meetingOf i_Mo_meetingOf_23 rfl kci_0 ?_
      refine ix_K_si (L2 := [some (.ref a0), some (.int x1), some (.int x2), some (.int x2), some (.int x1), some (.int 0)]) kq_Mo_meetingOf i_Mo_meetingOf_24 rfl (Or.inl rfl) (Nat.le_of_ble_eq_true rfl) rfl ?_
      exact ix_D_cut i_Mo_meetingOf_26 rfl
    · refine ix_K_px kq_Mo_meetingOf i_Mo_meetingOf_16 rfl rfl ?_
      refine ix_K_goto (tgt := 21) kq_Mo_meetingOf i_Mo_meetingOf_17 rfl (by decide) ?_
      refine ix_K_si (L2 := [some (.ref a0), some (.int x1), some (.int x2), some (.int x2), some (.int x2), none]) kq_Mo_meetingOf i_Mo_meetingOf_21 rfl (Or.inl rfl) (Nat.le_of_ble_eq_true rfl) rfl ?_
      refine ix_K_ci kq_Mo_meetingOf i_Mo_meetingOf_23 rfl kci_0 ?_
      refine ix_K_si (L2 := [some (.ref a0), some (.int x1), some (.int x2), some (.int x2), some (.int x2), some (.int 0)]) kq_Mo_meetingOf i_Mo_meetingOf_24 rfl (Or.inl rfl) (Nat.le_of_ble_eq_true rfl) rfl ?_
      exact ix_D_cut i_Mo_meetingOf_26 rfl
  · refine ix_K_px kq_Mo_meetingOf i_Mo_meetingOf_5 rfl rfl ?_
    refine ix_K_goto (tgt := 10) kq_Mo_meetingOf i_Mo_meetingOf_6 rfl (by decide) ?_
    refine ix_K_si (L2 := [some (.ref a0), some (.int x1), some (.int x2), some (.int x1), none, none]) kq_Mo_meetingOf i_Mo_meetingOf_10 rfl (Or.inr ⟨_, rfl, rfl⟩) (Nat.le_of_ble_eq_true rfl) rfl ?_
    refine ix_K_px kq_Mo_meetingOf i_Mo_meetingOf_11 rfl rfl ?_
    refine ix_K_px kq_Mo_meetingOf i_Mo_meetingOf_12 rfl rfl ?_
    refine ix_K_ic_ge (tgt := 20) kq_Mo_meetingOf i_Mo_meetingOf_13 rfl (by decide) ?_ ?_
    · refine ix_K_px kq_Mo_meetingOf i_Mo_meetingOf_20 rfl rfl ?_
      refine ix_K_si (L2 := [some (.ref a0), some (.int x1), some (.int x2), some (.int x1), some (.int x1), none]) kq_Mo_meetingOf i_Mo_meetingOf_21 rfl (Or.inl rfl) (Nat.le_of_ble_eq_true rfl) rfl ?_
      refine ix_K_ci kq_Mo_meetingOf i_Mo_meetingOf_23 rfl kci_0 ?_
      refine ix_K_si (L2 := [some (.ref a0), some (.int x1), some (.int x2), some (.int x1), some (.int x1), some (.int 0)]) kq_Mo_meetingOf i_Mo_meetingOf_24 rfl (Or.inl rfl) (Nat.le_of_ble_eq_true rfl) rfl ?_
      exact ix_D_cut i_Mo_meetingOf_26 rfl
    · refine ix_K_px kq_Mo_meetingOf i_Mo_meetingOf_16 rfl rfl ?_
      refine ix_K_goto (tgt := 21) kq_Mo_meetingOf i_Mo_meetingOf_17 rfl (by decide) ?_
      refine ix_K_si (L2 := [some (.ref a0), some (.int x1), some (.int x2), some (.int x1), some (.int x2), none]) kq_Mo_meetingOf i_Mo_meetingOf_21 rfl (Or.inl rfl) (Nat.le_of_ble_eq_true rfl) rfl ?_
      refine ix_K_ci kq_Mo_meetingOf i_Mo_meetingOf_23 rfl kci_0 ?_
      refine ix_K_si (L2 := [some (.ref a0), some (.int x1), some (.int x2), some (.int x1), some (.int x2), some (.int 0)]) kq_Mo_meetingOf i_Mo_meetingOf_24 rfl (Or.inl rfl) (Nat.le_of_ble_eq_true rfl) rfl ?_
      exact ix_D_cut i_Mo_meetingOf_26 rfl
theorem x_Mo_meetingOf {a0 : Nat} {x1 : Int32} {x2 : Int32} {h h1 : ixH} {v : Int32} (hr : ix_rc h a0 = some 11) (hd : ix_D mMo_meetingOf 0 [some (.ref a0), some (.int x1), some (.int x2), none, none, none] [] h = some ([.int v], h1)) : ix_M mMo_meetingOf [.ref a0, .int x1, .int x2] h = some ([.int v], h1) := ix_M_of (ix_ent_i kq_Mo_meetingOf rfl hr rfl (Nat.le_of_ble_eq_true rfl) rfl) hd (ix_okrI (Or.inl rfl) v)
theorem i_Mo_meeting_0 : ix_nx mMo_meeting 0 = some (0, .iload_n 1, 1, none, [], 0) := rfl
theorem i_Mo_meeting_1 : ix_nx mMo_meeting 1 = some (3, .invokestatic 275, 4, none, [1, 215, 223], 0) := rfl
theorem i_Mo_meeting_4 : ix_nx mMo_meeting 4 = some (0, .ifCond .eq 10, 7, none, [], 0) := rfl
theorem i_Mo_meeting_7 : ix_nx mMo_meeting 7 = some (0, .iload_n 2, 8, none, [], 0) := rfl
theorem i_Mo_meeting_8 : ix_nx mMo_meeting 8 = some (3, .invokestatic 275, 11, none, [1, 215, 223], 0) := rfl
theorem i_Mo_meeting_11 : ix_nx mMo_meeting 11 = some (0, .ifCond .ne 5, 14, none, [], 0) := rfl
theorem i_Mo_meeting_14 : ix_nx mMo_meeting 14 = some (0, .iconst (-1), 15, none, [], 0) := rfl
theorem i_Mo_meeting_15 : ix_nx mMo_meeting 15 = some (4, .ireturn, 16, none, [], 0) := rfl
theorem i_Mo_meeting_16 : ix_nx mMo_meeting 16 = some (0, .iload_n 1, 17, none, [], 0) := rfl
theorem i_Mo_meeting_17 : ix_nx mMo_meeting 17 = some (0, .iload_n 2, 18, none, [], 0) := rfl
theorem i_Mo_meeting_18 : ix_nx mMo_meeting 18 = some (0, .if_icmp .ne 8, 21, none, [], 0) := rfl
theorem i_Mo_meeting_21 : ix_nx mMo_meeting 21 = some (0, .bipush (-2), 23, none, [], 0) := rfl
theorem i_Mo_meeting_23 : ix_nx mMo_meeting 23 = some (0, .goto 9, 26, none, [], 0) := rfl
theorem i_Mo_meeting_26 : ix_nx mMo_meeting 26 = some (0, .aload_n 0, 27, none, [], 0) := rfl
theorem i_Mo_meeting_27 : ix_nx mMo_meeting 27 = some (0, .iload_n 1, 28, none, [], 0) := rfl
theorem i_Mo_meeting_28 : ix_nx mMo_meeting 28 = some (0, .iload_n 2, 29, none, [], 0) := rfl
theorem i_Mo_meeting_29 : ix_nx mMo_meeting 29 = some (3, .invokevirtual 287, 32, none, [0, 228, 233], 0) := rfl
theorem i_Mo_meeting_32 : ix_nx mMo_meeting 32 = some (4, .ireturn, 33, none, [], 0) := rfl
set_option maxRecDepth 20000 in
set_option maxHeartbeats 1000000 in
theorem e_Mo_meeting (a0 : Nat) (x1 : Int32) (x2 : Int32) (h : ixH) : ix_D mMo_meeting 0 [some (.ref a0), some (.int x1), some (.int x2)] [] h = (ix_M mMo_isSlot [.int x1] h).bind fun r => ix_kZ r fun v2 h1 => if v2 = true then (ix_M mMo_isSlot [.int x2] h1).bind fun r => ix_kZ r fun v4 h3 => if v4 = true then if ¬ x1 = x2 then (ix_M mMo_meetingOf [.ref a0, .int x1, .int x2] h3).bind fun r => ix_kI r fun v6 h5 => some ([.int v6], h5) else some ([.int (-2)], h3) else some ([.int (-1)], h3) else some ([.int (-1)], h1) := by
  refine ix_K_px kq_Mo_meeting i_Mo_meeting_0 rfl rfl ?_
  refine ix_K_callZ (as := [.int x1]) (rest := []) kq_Mo_meeting i_Mo_meeting_1 rfl kq_Mo_isSlot (by decide) rfl rfl (fun v2 h1 => ?_)
  refine ix_K_bz_eq (tgt := 14) kq_Mo_meeting i_Mo_meeting_4 rfl (by decide) ?_ ?_
  · refine ix_K_px kq_Mo_meeting i_Mo_meeting_7 rfl rfl ?_
    refine ix_K_callZ (as := [.int x2]) (rest := []) kq_Mo_meeting i_Mo_meeting_8 rfl kq_Mo_isSlot (by decide) rfl rfl (fun v4 h3 => ?_)
    refine ix_K_bz_ne (tgt := 16) kq_Mo_meeting i_Mo_meeting_11 rfl (by decide) ?_ ?_
    · refine ix_K_px kq_Mo_meeting i_Mo_meeting_16 rfl rfl ?_
      refine ix_K_px kq_Mo_meeting i_Mo_meeting_17 rfl rfl ?_
      refine ix_K_ic_ne (tgt := 26) kq_Mo_meeting i_Mo_meeting_18 rfl (by decide) ?_ ?_
      · refine ix_K_px kq_Mo_meeting i_Mo_meeting_26 rfl rfl ?_
        refine ix_K_px kq_Mo_meeting i_Mo_meeting_27 rfl rfl ?_
        refine ix_K_px kq_Mo_meeting i_Mo_meeting_28 rfl rfl ?_
        refine ix_K_callI (as := [.ref a0, .int x1, .int x2]) (rest := []) kq_Mo_meeting i_Mo_meeting_29 rfl kq_Mo_meetingOf (by decide) rfl (Or.inl rfl) (fun v6 h5 => ?_)
        exact ix_D_ret kq_Mo_meeting i_Mo_meeting_32 (ix_rtI rfl _)
      · refine ix_K_cb kq_Mo_meeting i_Mo_meeting_21 rfl kcb_m2 ?_
        refine ix_K_goto (tgt := 32) kq_Mo_meeting i_Mo_meeting_23 rfl (by decide) ?_
        exact ix_D_ret kq_Mo_meeting i_Mo_meeting_32 (ix_rtI rfl _)
    · refine ix_K_ci kq_Mo_meeting i_Mo_meeting_14 rfl kci_m1 ?_
      exact ix_D_ret kq_Mo_meeting i_Mo_meeting_15 (ix_rtI rfl _)
  · refine ix_K_ci kq_Mo_meeting i_Mo_meeting_14 rfl kci_m1 ?_
    exact ix_D_ret kq_Mo_meeting i_Mo_meeting_15 (ix_rtI rfl _)
theorem x_Mo_meeting {a0 : Nat} {x1 : Int32} {x2 : Int32} {h h1 : ixH} {v : Int32} (hr : ix_rc h a0 = some 11) (hd : ix_D mMo_meeting 0 [some (.ref a0), some (.int x1), some (.int x2)] [] h = some ([.int v], h1)) : ix_M mMo_meeting [.ref a0, .int x1, .int x2] h = some ([.int v], h1) := ix_M_of (ix_ent_i kq_Mo_meeting rfl hr rfl (Nat.le_of_ble_eq_true rfl) rfl) hd (ix_okrI (Or.inl rfl) v)
theorem i_Mo_exchange_0 : ix_nx mMo_exchange 0 = some (0, .iload_n 1, 1, none, [], 0) := rfl
theorem i_Mo_exchange_1 : ix_nx mMo_exchange 1 = some (3, .invokestatic 275, 4, none, [1, 215, 223], 0) := rfl
theorem i_Mo_exchange_4 : ix_nx mMo_exchange 4 = some (0, .ifCond .eq 10, 7, none, [], 0) := rfl
theorem i_Mo_exchange_7 : ix_nx mMo_exchange 7 = some (0, .iload_n 2, 8, none, [], 0) := rfl
theorem i_Mo_exchange_8 : ix_nx mMo_exchange 8 = some (3, .invokestatic 275, 11, none, [1, 215, 223], 0) := rfl
theorem i_Mo_exchange_11 : ix_nx mMo_exchange 11 = some (0, .ifCond .ne 5, 14, none, [], 0) := rfl
theorem i_Mo_exchange_14 : ix_nx mMo_exchange 14 = some (0, .iconst (-1), 15, none, [], 0) := rfl
theorem i_Mo_exchange_15 : ix_nx mMo_exchange 15 = some (4, .ireturn, 16, none, [], 0) := rfl
theorem i_Mo_exchange_16 : ix_nx mMo_exchange 16 = some (0, .iload_n 1, 17, none, [], 0) := rfl
theorem i_Mo_exchange_17 : ix_nx mMo_exchange 17 = some (0, .iload_n 2, 18, none, [], 0) := rfl
theorem i_Mo_exchange_18 : ix_nx mMo_exchange 18 = some (0, .if_icmp .ne 6, 21, none, [], 0) := rfl
theorem i_Mo_exchange_21 : ix_nx mMo_exchange 21 = some (0, .bipush (-2), 23, none, [], 0) := rfl
theorem i_Mo_exchange_23 : ix_nx mMo_exchange 23 = some (4, .ireturn, 24, none, [], 0) := rfl
theorem i_Mo_exchange_24 : ix_nx mMo_exchange 24 = some (0, .aload_n 0, 25, none, [], 0) := rfl
theorem i_Mo_exchange_25 : ix_nx mMo_exchange 25 = some (0, .iload_n 1, 26, none, [], 0) := rfl
theorem i_Mo_exchange_26 : ix_nx mMo_exchange 26 = some (0, .iload_n 2, 27, none, [], 0) := rfl
theorem i_Mo_exchange_27 : ix_nx mMo_exchange 27 = some (3, .invokevirtual 287, 30, none, [0, 228, 233], 0) := rfl
theorem i_Mo_exchange_30 : ix_nx mMo_exchange 30 = some (0, .istore_n 3, 31, none, [], 0) := rfl
theorem i_Mo_exchange_31 : ix_nx mMo_exchange 31 = some (0, .iload_n 3, 32, none, [], 0) := rfl
theorem i_Mo_exchange_32 : ix_nx mMo_exchange 32 = some (0, .ifCond .lt 25, 35, none, [], 0) := rfl
theorem i_Mo_exchange_35 : ix_nx mMo_exchange 35 = some (0, .aload_n 0, 36, none, [], 0) := rfl
theorem i_Mo_exchange_36 : ix_nx mMo_exchange 36 = some (0, .iconst 0, 37, none, [], 0) := rfl
theorem i_Mo_exchange_37 : ix_nx mMo_exchange 37 = some (0, .iload_n 1, 38, none, [], 0) := rfl
theorem i_Mo_exchange_38 : ix_nx mMo_exchange 38 = some (0, .iload_n 2, 39, none, [], 0) := rfl
theorem i_Mo_exchange_39 : ix_nx mMo_exchange 39 = some (0, .iload_n 3, 40, none, [], 0) := rfl
theorem i_Mo_exchange_40 : ix_nx mMo_exchange 40 = some (3, .invokevirtual 302, 43, none, [0, 231, 234], 0) := rfl
theorem i_Mo_exchange_43 : ix_nx mMo_exchange 43 = some (0, .ifCond .eq 14, 46, none, [], 0) := rfl
theorem i_Mo_exchange_46 : ix_nx mMo_exchange 46 = some (0, .aload_n 0, 47, none, [], 0) := rfl
theorem i_Mo_exchange_47 : ix_nx mMo_exchange 47 = some (0, .iconst 1, 48, none, [], 0) := rfl
theorem i_Mo_exchange_48 : ix_nx mMo_exchange 48 = some (0, .iload_n 2, 49, none, [], 0) := rfl
theorem i_Mo_exchange_49 : ix_nx mMo_exchange 49 = some (0, .iload_n 1, 50, none, [], 0) := rfl
theorem i_Mo_exchange_50 : ix_nx mMo_exchange 50 = some (0, .iload_n 3, 51, none, [], 0) := rfl
theorem i_Mo_exchange_51 : ix_nx mMo_exchange 51 = some (3, .invokevirtual 302, 54, none, [0, 231, 234], 0) := rfl
theorem i_Mo_exchange_54 : ix_nx mMo_exchange 54 = some (0, .ifCond .ne 6, 57, none, [], 0) := rfl
theorem i_Mo_exchange_57 : ix_nx mMo_exchange 57 = some (0, .bipush (-5), 59, none, [], 0) := rfl
theorem i_Mo_exchange_59 : ix_nx mMo_exchange 59 = some (4, .ireturn, 60, none, [], 0) := rfl
theorem i_Mo_exchange_60 : ix_nx mMo_exchange 60 = some (0, .aload_n 0, 61, none, [], 0) := rfl
theorem i_Mo_exchange_61 : ix_nx mMo_exchange 61 = some (0, .iconst 0, 62, none, [], 0) := rfl
theorem i_Mo_exchange_62 : ix_nx mMo_exchange 62 = some (0, .iload_n 1, 63, none, [], 0) := rfl
theorem i_Mo_exchange_63 : ix_nx mMo_exchange 63 = some (3, .invokevirtual 306, 66, none, [0, 232, 235], 0) := rfl
theorem i_Mo_exchange_66 : ix_nx mMo_exchange 66 = some (0, .aload_n 0, 67, none, [], 0) := rfl
theorem i_Mo_exchange_67 : ix_nx mMo_exchange 67 = some (0, .iconst 1, 68, none, [], 0) := rfl
theorem i_Mo_exchange_68 : ix_nx mMo_exchange 68 = some (0, .iload_n 2, 69, none, [], 0) := rfl
theorem i_Mo_exchange_69 : ix_nx mMo_exchange 69 = some (3, .invokevirtual 306, 72, none, [0, 232, 235], 0) := rfl
theorem i_Mo_exchange_72 : ix_nx mMo_exchange 72 = some (0, .iload_n 3, 73, none, [], 0) := rfl
theorem i_Mo_exchange_73 : ix_nx mMo_exchange 73 = some (4, .ireturn, 74, none, [], 0) := rfl
set_option maxRecDepth 20000 in
set_option maxHeartbeats 1000000 in
theorem e_Mo_exchange (a0 : Nat) (x1 : Int32) (x2 : Int32) (h : ixH) : ix_D mMo_exchange 0 [some (.ref a0), some (.int x1), some (.int x2), none] [] h = (ix_M mMo_isSlot [.int x1] h).bind fun r => ix_kZ r fun v2 h1 => if v2 = true then (ix_M mMo_isSlot [.int x2] h1).bind fun r => ix_kZ r fun v4 h3 => if v4 = true then if ¬ x1 = x2 then (ix_M mMo_meetingOf [.ref a0, .int x1, .int x2] h3).bind fun r => ix_kI r fun v6 h5 => if v6 < 0 then some ([.int (-5)], h5) else (ix_M mMo_joins [.ref a0, .int 0, .int x1, .int x2, .int v6] h5).bind fun r => ix_kZ r fun v8 h7 => if v8 = true then (ix_M mMo_joins [.ref a0, .int 1, .int x2, .int x1, .int v6] h7).bind fun r => ix_kZ r fun v10 h9 => if v10 = true then (ix_M mMo_layJoined [.ref a0, .int 0, .int x1] h9).bind fun r => ix_kV r fun h11 => (ix_M mMo_layJoined [.ref a0, .int 1, .int x2] h11).bind fun r => ix_kV r fun h12 => some ([.int v6], h12) else some ([.int (-5)], h9) else some ([.int (-5)], h7) else some ([.int (-2)], h3) else some ([.int (-1)], h3) else some ([.int (-1)], h1) := by
  refine ix_K_px kq_Mo_exchange i_Mo_exchange_0 rfl rfl ?_
  refine ix_K_callZ (as := [.int x1]) (rest := []) kq_Mo_exchange i_Mo_exchange_1 rfl kq_Mo_isSlot (by decide) rfl rfl (fun v2 h1 => ?_)
  refine ix_K_bz_eq (tgt := 14) kq_Mo_exchange i_Mo_exchange_4 rfl (by decide) ?_ ?_
  · refine ix_K_px kq_Mo_exchange i_Mo_exchange_7 rfl rfl ?_
    refine ix_K_callZ (as := [.int x2]) (rest := []) kq_Mo_exchange i_Mo_exchange_8 rfl kq_Mo_isSlot (by decide) rfl rfl (fun v4 h3 => ?_)
    refine ix_K_bz_ne (tgt := 16) kq_Mo_exchange i_Mo_exchange_11 rfl (by decide) ?_ ?_
    · refine ix_K_px kq_Mo_exchange i_Mo_exchange_16 rfl rfl ?_
      refine ix_K_px kq_Mo_exchange i_Mo_exchange_17 rfl rfl ?_
      refine ix_K_ic_ne (tgt := 24) kq_Mo_exchange i_Mo_exchange_18 rfl (by decide) ?_ ?_
      · refine ix_K_px kq_Mo_exchange i_Mo_exchange_24 rfl rfl ?_
        refine ix_K_px kq_Mo_exchange i_Mo_exchange_25 rfl rfl ?_
        refine ix_K_px kq_Mo_exchange i_Mo_exchange_26 rfl rfl ?_
        refine ix_K_callI (as := [.ref a0, .int x1, .int x2]) (rest := []) kq_Mo_exchange i_Mo_exchange_27 rfl kq_Mo_meetingOf (by decide) rfl (Or.inl rfl) (fun v6 h5 => ?_)
        refine ix_K_si (L2 := [some (.ref a0), some (.int x1), some (.int x2), some (.int v6)]) kq_Mo_exchange i_Mo_exchange_30 rfl (Or.inr ⟨_, rfl, rfl⟩) (Nat.le_of_ble_eq_true rfl) rfl ?_
        refine ix_K_px kq_Mo_exchange i_Mo_exchange_31 rfl rfl ?_
        refine ix_K_if_lt (tgt := 57) kq_Mo_exchange i_Mo_exchange_32 rfl (by decide) ?_ ?_
        · refine ix_K_cb kq_Mo_exchange i_Mo_exchange_57 rfl kcb_m5 ?_
          exact ix_D_ret kq_Mo_exchange i_Mo_exchange_59 (ix_rtI rfl _)
        · refine ix_K_px kq_Mo_exchange i_Mo_exchange_35 rfl rfl ?_
          refine ix_K_ci kq_Mo_exchange i_Mo_exchange_36 rfl kci_0 ?_
          refine ix_K_px kq_Mo_exchange i_Mo_exchange_37 rfl rfl ?_
          refine ix_K_px kq_Mo_exchange i_Mo_exchange_38 rfl rfl ?_
          refine ix_K_px kq_Mo_exchange i_Mo_exchange_39 rfl rfl ?_
          refine ix_K_callZ (as := [.ref a0, .int 0, .int x1, .int x2, .int v6]) (rest := []) kq_Mo_exchange i_Mo_exchange_40 rfl kq_Mo_joins (by decide) rfl rfl (fun v8 h7 => ?_)
          refine ix_K_bz_eq (tgt := 57) kq_Mo_exchange i_Mo_exchange_43 rfl (by decide) ?_ ?_
          · refine ix_K_px kq_Mo_exchange i_Mo_exchange_46 rfl rfl ?_
            refine ix_K_ci kq_Mo_exchange i_Mo_exchange_47 rfl kci_1 ?_
            refine ix_K_px kq_Mo_exchange i_Mo_exchange_48 rfl rfl ?_
            refine ix_K_px kq_Mo_exchange i_Mo_exchange_49 rfl rfl ?_
            refine ix_K_px kq_Mo_exchange i_Mo_exchange_50 rfl rfl ?_
            refine ix_K_callZ (as := [.ref a0, .int 1, .int x2, .int x1, .int v6]) (rest := []) kq_Mo_exchange i_Mo_exchange_51 rfl kq_Mo_joins (by decide) rfl rfl (fun v10 h9 => ?_)
            refine ix_K_bz_ne (tgt := 60) kq_Mo_exchange i_Mo_exchange_54 rfl (by decide) ?_ ?_
            · refine ix_K_px kq_Mo_exchange i_Mo_exchange_60 rfl rfl ?_
              refine ix_K_ci kq_Mo_exchange i_Mo_exchange_61 rfl kci_0 ?_
              refine ix_K_px kq_Mo_exchange i_Mo_exchange_62 rfl rfl ?_
              refine ix_K_callV (as := [.ref a0, .int 0, .int x1]) (rest := []) kq_Mo_exchange i_Mo_exchange_63 rfl kq_Mo_layJoined (by decide) rfl rfl (fun h11 => ?_)
              refine ix_K_px kq_Mo_exchange i_Mo_exchange_66 rfl rfl ?_
              refine ix_K_ci kq_Mo_exchange i_Mo_exchange_67 rfl kci_1 ?_
              refine ix_K_px kq_Mo_exchange i_Mo_exchange_68 rfl rfl ?_
              refine ix_K_callV (as := [.ref a0, .int 1, .int x2]) (rest := []) kq_Mo_exchange i_Mo_exchange_69 rfl kq_Mo_layJoined (by decide) rfl rfl (fun h12 => ?_)
              refine ix_K_px kq_Mo_exchange i_Mo_exchange_72 rfl rfl ?_
              exact ix_D_ret kq_Mo_exchange i_Mo_exchange_73 (ix_rtI rfl _)
            · refine ix_K_cb kq_Mo_exchange i_Mo_exchange_57 rfl kcb_m5 ?_
              exact ix_D_ret kq_Mo_exchange i_Mo_exchange_59 (ix_rtI rfl _)
          · refine ix_K_cb kq_Mo_exchange i_Mo_exchange_57 rfl kcb_m5 ?_
            exact ix_D_ret kq_Mo_exchange i_Mo_exchange_59 (ix_rtI rfl _)
      · refine ix_K_cb kq_Mo_exchange i_Mo_exchange_21 rfl kcb_m2 ?_
        exact ix_D_ret kq_Mo_exchange i_Mo_exchange_23 (ix_rtI rfl _)
    · refine ix_K_ci kq_Mo_exchange i_Mo_exchange_14 rfl kci_m1 ?_
      exact ix_D_ret kq_Mo_exchange i_Mo_exchange_15 (ix_rtI rfl _)
  · refine ix_K_ci kq_Mo_exchange i_Mo_exchange_14 rfl kci_m1 ?_
    exact ix_D_ret kq_Mo_exchange i_Mo_exchange_15 (ix_rtI rfl _)
theorem x_Mo_exchange {a0 : Nat} {x1 : Int32} {x2 : Int32} {h h1 : ixH} {v : Int32} (hr : ix_rc h a0 = some 11) (hd : ix_D mMo_exchange 0 [some (.ref a0), some (.int x1), some (.int x2), none] [] h = some ([.int v], h1)) : ix_M mMo_exchange [.ref a0, .int x1, .int x2] h = some ([.int v], h1) := ix_M_of (ix_ent_i kq_Mo_exchange rfl hr rfl (Nat.le_of_ble_eq_true rfl) rfl) hd (ix_okrI (Or.inl rfl) v)
theorem i_Mo_joins_0 : ix_nx mMo_joins 0 = some (0, .iconst 0, 1, none, [], 0) := rfl
theorem i_Mo_joins_1 : ix_nx mMo_joins 1 = some (0, .istore 5, 3, none, [], 0) := rfl
theorem i_Mo_joins_3 : ix_nx mMo_joins 3 = some (0, .bipush 65, 5, none, [], 0) := rfl
theorem i_Mo_joins_5 : ix_nx mMo_joins 5 = some (0, .iload_n 1, 6, none, [], 0) := rfl
theorem i_Mo_joins_6 : ix_nx mMo_joins 6 = some (0, .imul, 7, none, [], 0) := rfl
theorem i_Mo_joins_7 : ix_nx mMo_joins 7 = some (0, .istore 6, 9, none, [], 0) := rfl
theorem i_Mo_joins_9 : ix_nx mMo_joins 9 = some (0, .iconst 0, 10, none, [], 0) := rfl
theorem i_Mo_joins_10 : ix_nx mMo_joins 10 = some (0, .istore 7, 12, none, [], 0) := rfl
theorem i_Mo_joins_12 : ix_nx mMo_joins 12 = some (0, .iload 7, 14, some [true, true, true, true, true, true, true, true, false, false, false], [], 0) := rfl
theorem i_Mo_joins_14 : ix_nx mMo_joins 14 = some (0, .aload_n 0, 15, none, [], 0) := rfl
theorem i_Mo_joins_15 : ix_nx mMo_joins 15 = some (0, .iload_n 2, 16, none, [], 0) := rfl
theorem i_Mo_joins_16 : ix_nx mMo_joins 16 = some (0, .iload 4, 18, none, [], 0) := rfl
theorem i_Mo_joins_18 : ix_nx mMo_joins 18 = some (3, .invokevirtual 278, 21, none, [0, 217, 225], 0) := rfl
theorem i_Mo_joins_21 : ix_nx mMo_joins 21 = some (0, .if_icmp .gt 29, 24, none, [], 0) := rfl
theorem i_Mo_joins_24 : ix_nx mMo_joins 24 = some (0, .aload_n 0, 25, none, [], 0) := rfl
theorem i_Mo_joins_25 : ix_nx mMo_joins 25 = some (1, .getfield 81, 28, none, [11, 28, 2, 118], 0) := rfl
theorem i_Mo_joins_28 : ix_nx mMo_joins 28 = some (0, .iload 6, 30, none, [], 0) := rfl
theorem i_Mo_joins_30 : ix_nx mMo_joins 30 = some (0, .iload 5, 32, none, [], 0) := rfl
theorem i_Mo_joins_32 : ix_nx mMo_joins 32 = some (0, .iadd, 33, none, [], 0) := rfl
theorem i_Mo_joins_33 : ix_nx mMo_joins 33 = some (0, .aload_n 0, 34, none, [], 0) := rfl
theorem i_Mo_joins_34 : ix_nx mMo_joins 34 = some (0, .iload_n 2, 35, none, [], 0) := rfl
theorem i_Mo_joins_35 : ix_nx mMo_joins 35 = some (0, .iload 7, 37, none, [], 0) := rfl
theorem i_Mo_joins_37 : ix_nx mMo_joins 37 = some (3, .invokevirtual 272, 40, none, [0, 218, 226], 0) := rfl
theorem i_Mo_joins_40 : ix_nx mMo_joins 40 = some (2, .iastore, 41, none, [], 0) := rfl
theorem i_Mo_joins_41 : ix_nx mMo_joins 41 = some (0, .iinc 5 1, 44, none, [], 0) := rfl
theorem i_Mo_joins_44 : ix_nx mMo_joins 44 = some (0, .iinc 7 1, 47, none, [], 0) := rfl
theorem i_Mo_joins_47 : ix_nx mMo_joins 47 = some (0, .goto (-35), 50, none, [], 0) := rfl
theorem i_Mo_joins_50 : ix_nx mMo_joins 50 = some (0, .iload 5, 52, none, [], 0) := rfl
theorem i_Mo_joins_52 : ix_nx mMo_joins 52 = some (0, .istore 7, 54, none, [], 0) := rfl
theorem i_Mo_joins_54 : ix_nx mMo_joins 54 = some (0, .iconst 1, 55, none, [], 0) := rfl
theorem i_Mo_joins_55 : ix_nx mMo_joins 55 = some (0, .istore 8, 57, none, [], 0) := rfl
theorem i_Mo_joins_57 : ix_nx mMo_joins 57 = some (0, .aload_n 0, 58, none, [], 0) := rfl
theorem i_Mo_joins_58 : ix_nx mMo_joins 58 = some (0, .iload_n 3, 59, none, [], 0) := rfl
theorem i_Mo_joins_59 : ix_nx mMo_joins 59 = some (0, .iload 4, 61, none, [], 0) := rfl
theorem i_Mo_joins_61 : ix_nx mMo_joins 61 = some (3, .invokevirtual 278, 64, none, [0, 217, 225], 0) := rfl
theorem i_Mo_joins_64 : ix_nx mMo_joins 64 = some (0, .iconst 1, 65, none, [], 0) := rfl
theorem i_Mo_joins_65 : ix_nx mMo_joins 65 = some (0, .iadd, 66, none, [], 0) := rfl
theorem i_Mo_joins_66 : ix_nx mMo_joins 66 = some (0, .istore 9, 68, none, [], 0) := rfl
theorem i_Mo_joins_68 : ix_nx mMo_joins 68 = some (0, .iload 9, 70, some [true, true, false, true, false, true, true, true, true, true, false], [], 0) := rfl
theorem i_Mo_joins_70 : ix_nx mMo_joins 70 = some (0, .aload_n 0, 71, none, [], 0) := rfl
theorem i_Mo_joins_71 : ix_nx mMo_joins 71 = some (0, .iload_n 3, 72, none, [], 0) := rfl
theorem i_Mo_joins_72 : ix_nx mMo_joins 72 = some (3, .invokevirtual 269, 75, none, [0, 216, 224], 0) := rfl
theorem i_Mo_joins_75 : ix_nx mMo_joins 75 = some (0, .if_icmp .ge 82, 78, none, [], 0) := rfl
theorem i_Mo_joins_78 : ix_nx mMo_joins 78 = some (0, .iconst 0, 79, none, [], 0) := rfl
theorem i_Mo_joins_79 : ix_nx mMo_joins 79 = some (0, .istore 10, 81, none, [], 0) := rfl
theorem i_Mo_joins_81 : ix_nx mMo_joins 81 = some (0, .iload 10, 83, some [true, true, false, true, false, true, true, true, true, true, true], [], 0) := rfl
theorem i_Mo_joins_83 : ix_nx mMo_joins 83 = some (0, .iload 7, 85, none, [], 0) := rfl
theorem i_Mo_joins_85 : ix_nx mMo_joins 85 = some (0, .if_icmp .ge 41, 88, none, [], 0) := rfl
theorem i_Mo_joins_88 : ix_nx mMo_joins 88 = some (0, .iload 8, 90, none, [], 0) := rfl
theorem i_Mo_joins_90 : ix_nx mMo_joins 90 = some (0, .ifCond .eq 27, 93, none, [], 0) := rfl
theorem i_Mo_joins_93 : ix_nx mMo_joins 93 = some (0, .aload_n 0, 94, none, [], 0) := rfl
theorem i_Mo_joins_94 : ix_nx mMo_joins 94 = some (1, .getfield 81, 97, none, [11, 28, 2, 118], 0) := rfl
theorem i_Mo_joins_97 : ix_nx mMo_joins 97 = some (0, .iload 6, 99, none, [], 0) := rfl
theorem i_Mo_joins_99 : ix_nx mMo_joins 99 = some (0, .iload 10, 101, none, [], 0) := rfl
theorem i_Mo_joins_101 : ix_nx mMo_joins 101 = some (0, .iadd, 102, none, [], 0) := rfl
theorem i_Mo_joins_102 : ix_nx mMo_joins 102 = some (1, .iaload, 103, none, [], 0) := rfl
theorem i_Mo_joins_103 : ix_nx mMo_joins 103 = some (0, .aload_n 0, 104, none, [], 0) := rfl
theorem i_Mo_joins_104 : ix_nx mMo_joins 104 = some (0, .iload_n 3, 105, none, [], 0) := rfl
theorem i_Mo_joins_105 : ix_nx mMo_joins 105 = some (0, .iload 9, 107, none, [], 0) := rfl
theorem i_Mo_joins_107 : ix_nx mMo_joins 107 = some (3, .invokevirtual 272, 110, none, [0, 218, 226], 0) := rfl
theorem i_Mo_joins_110 : ix_nx mMo_joins 110 = some (0, .if_icmp .eq 7, 113, none, [], 0) := rfl
theorem i_Mo_joins_113 : ix_nx mMo_joins 113 = some (0, .iconst 1, 114, none, [], 0) := rfl
theorem i_Mo_joins_114 : ix_nx mMo_joins 114 = some (0, .goto 4, 117, none, [], 0) := rfl
theorem i_Mo_joins_117 : ix_nx mMo_joins 117 = some (0, .iconst 0, 118, none, [], 0) := rfl
theorem i_Mo_joins_118 : ix_nx mMo_joins 118 = some (0, .istore 8, 120, none, [], 0) := rfl
theorem i_Mo_joins_120 : ix_nx mMo_joins 120 = some (0, .iinc 10 1, 123, none, [], 0) := rfl
theorem i_Mo_joins_123 : ix_nx mMo_joins 123 = some (0, .goto (-42), 126, none, [], 0) := rfl
theorem i_Mo_joins_126 : ix_nx mMo_joins 126 = some (0, .iload 8, 128, none, [], 0) := rfl
theorem i_Mo_joins_128 : ix_nx mMo_joins 128 = some (0, .ifCond .eq 23, 131, none, [], 0) := rfl
theorem i_Mo_joins_131 : ix_nx mMo_joins 131 = some (0, .aload_n 0, 132, none, [], 0) := rfl
theorem i_Mo_joins_132 : ix_nx mMo_joins 132 = some (1, .getfield 81, 135, none, [11, 28, 2, 118], 0) := rfl
theorem i_Mo_joins_135 : ix_nx mMo_joins 135 = some (0, .iload 6, 137, none, [], 0) := rfl
theorem i_Mo_joins_137 : ix_nx mMo_joins 137 = some (0, .iload 5, 139, none, [], 0) := rfl
theorem i_Mo_joins_139 : ix_nx mMo_joins 139 = some (0, .iadd, 140, none, [], 0) := rfl
theorem i_Mo_joins_140 : ix_nx mMo_joins 140 = some (0, .aload_n 0, 141, none, [], 0) := rfl
theorem i_Mo_joins_141 : ix_nx mMo_joins 141 = some (0, .iload_n 3, 142, none, [], 0) := rfl
theorem i_Mo_joins_142 : ix_nx mMo_joins 142 = some (0, .iload 9, 144, none, [], 0) := rfl
theorem i_Mo_joins_144 : ix_nx mMo_joins 144 = some (3, .invokevirtual 272, 147, none, [0, 218, 226], 0) := rfl
theorem i_Mo_joins_147 : ix_nx mMo_joins 147 = some (2, .iastore, 148, none, [], 0) := rfl
theorem i_Mo_joins_148 : ix_nx mMo_joins 148 = some (0, .iinc 5 1, 151, none, [], 0) := rfl
theorem i_Mo_joins_151 : ix_nx mMo_joins 151 = some (0, .iinc 9 1, 154, none, [], 0) := rfl
set_option maxRecDepth 50000 in
theorem i_Mo_joins_154 : ix_nx mMo_joins 154 = some (0, .goto (-86), 157, none, [], 0) := rfl
set_option maxRecDepth 50000 in
theorem i_Mo_joins_157 : ix_nx mMo_joins 157 = some (0, .aload_n 0, 158, none, [], 0) := rfl
set_option maxRecDepth 50000 in
theorem i_Mo_joins_158 : ix_nx mMo_joins 158 = some (1, .getfield 84, 161, none, [11, 29, 2, 119], 0) := rfl
set_option maxRecDepth 50000 in
theorem i_Mo_joins_161 : ix_nx mMo_joins 161 = some (0, .iload_n 1, 162, none, [], 0) := rfl
set_option maxRecDepth 50000 in
theorem i_Mo_joins_162 : ix_nx mMo_joins 162 = some (0, .iload 5, 164, none, [], 0) := rfl
set_option maxRecDepth 50000 in
theorem i_Mo_joins_164 : ix_nx mMo_joins 164 = some (2, .iastore, 165, none, [], 0) := rfl
set_option maxRecDepth 50000 in
theorem i_Mo_joins_165 : ix_nx mMo_joins 165 = some (0, .iload 8, 167, none, [], 0) := rfl
set_option maxRecDepth 50000 in
theorem i_Mo_joins_167 : ix_nx mMo_joins 167 = some (4, .ireturn, 168, none, [], 0) := rfl
noncomputable def l_Mo_joins_12 (a0 : Nat) (x1 : Int32) (x2 : Int32) (x3 : Int32) (x4 : Int32) (x5 : Int32) (x6 : Int32) (x7 : Int32) (h : ixH) : Option (List Value × ixH) := ix_D mMo_joins 12 [some (.ref a0), some (.int x1), some (.int x2), some (.int x3), some (.int x4), some (.int x5), some (.int x6), some (.int x7), none, none, none] [] h
noncomputable def l_Mo_joins_68 (a0 : Nat) (x1 : Int32) (x3 : Int32) (x5 : Int32) (x6 : Int32) (x7 : Int32) (b8 : Bool) (x9 : Int32) (h : ixH) : Option (List Value × ixH) := ix_D mMo_joins 68 [some (.ref a0), some (.int x1), none, some (.int x3), none, some (.int x5), some (.int x6), some (.int x7), some (.int (ix_bi b8)), some (.int x9), none] [] h
noncomputable def l_Mo_joins_81 (a0 : Nat) (x1 : Int32) (x3 : Int32) (x5 : Int32) (x6 : Int32) (x7 : Int32) (b8 : Bool) (x9 : Int32) (x10 : Int32) (h : ixH) : Option (List Value × ixH) := ix_D mMo_joins 81 [some (.ref a0), some (.int x1), none, some (.int x3), none, some (.int x5), some (.int x6), some (.int x7), some (.int (ix_bi b8)), some (.int x9), some (.int x10)] [] h
set_option maxRecDepth 20000 in
set_option maxHeartbeats 1000000 in
theorem e_Mo_joins_12 (a0 : Nat) (x1 : Int32) (x2 : Int32) (x3 : Int32) (x4 : Int32) (x5 : Int32) (x6 : Int32) (x7 : Int32) (h : ixH) : l_Mo_joins_12 a0 x1 x2 x3 x4 x5 x6 x7 h = (ix_M mMo_indexOf [.ref a0, .int x2, .int x4] h).bind fun r => ix_kI r fun v2 h1 => if v2 < x7 then (ix_M mMo_indexOf [.ref a0, .int x3, .int x4] h1).bind fun r => ix_kI r fun v4 h3 => l_Mo_joins_68 a0 x1 x3 x5 x6 x5 true (v4 + 1) h3 else (ix_gr h1 a0 11 28).bind fun v5 => (ix_M mMo_cellOf [.ref a0, .int x2, .int x7] h1).bind fun r => ix_kI r fun v7 h6 => (ix_si h6 v5 (x6 + x5) v7).bind fun h8 => l_Mo_joins_12 a0 x1 x2 x3 x4 (x5 + 1) x6 (x7 + 1) h8 := by
  unfold l_Mo_joins_12
  refine ix_K_px kq_Mo_joins i_Mo_joins_12 rfl rfl ?_
  refine ix_K_px kq_Mo_joins i_Mo_joins_14 rfl rfl ?_
  refine ix_K_px kq_Mo_joins i_Mo_joins_15 rfl rfl ?_
  refine ix_K_px kq_Mo_joins i_Mo_joins_16 rfl rfl ?_
  refine ix_K_callI (as := [.ref a0, .int x2, .int x4]) (rest := [.int x7]) kq_Mo_joins i_Mo_joins_18 rfl kq_Mo_indexOf (by decide) rfl (Or.inl rfl) (fun v2 h1 => ?_)
  refine ix_K_ic_gt (tgt := 50) kq_Mo_joins i_Mo_joins_21 rfl (by decide) ?_ ?_
  · refine ix_K_px kq_Mo_joins i_Mo_joins_50 rfl rfl ?_
    refine ix_K_si (L2 := [some (.ref a0), some (.int x1), some (.int x2), some (.int x3), some (.int x4), some (.int x5), some (.int x6), some (.int x5), none, none, none]) kq_Mo_joins i_Mo_joins_52 rfl (Or.inl rfl) (Nat.le_of_ble_eq_true rfl) rfl ?_
    refine ix_K_ci kq_Mo_joins i_Mo_joins_54 rfl kci_1 ?_
    refine ix_K_si (L2 := [some (.ref a0), some (.int x1), some (.int x2), some (.int x3), some (.int x4), some (.int x5), some (.int x6), some (.int x5), some (.int 1), none, none]) kq_Mo_joins i_Mo_joins_55 rfl (Or.inl rfl) (Nat.le_of_ble_eq_true rfl) rfl ?_
    refine ix_K_px kq_Mo_joins i_Mo_joins_57 rfl rfl ?_
    refine ix_K_px kq_Mo_joins i_Mo_joins_58 rfl rfl ?_
    refine ix_K_px kq_Mo_joins i_Mo_joins_59 rfl rfl ?_
    refine ix_K_callI (as := [.ref a0, .int x3, .int x4]) (rest := []) kq_Mo_joins i_Mo_joins_61 rfl kq_Mo_indexOf (by decide) rfl (Or.inl rfl) (fun v4 h3 => ?_)
    refine ix_K_ci kq_Mo_joins i_Mo_joins_64 rfl kci_1 ?_
    refine ix_K_px kq_Mo_joins i_Mo_joins_65 rfl rfl ?_
    refine ix_K_si (L2 := [some (.ref a0), some (.int x1), some (.int x2), some (.int x3), some (.int x4), some (.int x5), some (.int x6), some (.int x5), some (.int 1), some (.int (v4 + 1)), none]) kq_Mo_joins i_Mo_joins_66 rfl (Or.inl rfl) (Nat.le_of_ble_eq_true rfl) rfl ?_
    exact ix_D_cut i_Mo_joins_68 rfl
  · refine ix_K_px kq_Mo_joins i_Mo_joins_24 rfl rfl ?_
    refine ix_K_gr kq_Mo_joins i_Mo_joins_25 rfl (fun v5 => ?_)
    refine ix_K_px kq_Mo_joins i_Mo_joins_28 rfl rfl ?_
    refine ix_K_px kq_Mo_joins i_Mo_joins_30 rfl rfl ?_
    refine ix_K_px kq_Mo_joins i_Mo_joins_32 rfl rfl ?_
    refine ix_K_px kq_Mo_joins i_Mo_joins_33 rfl rfl ?_
    refine ix_K_px kq_Mo_joins i_Mo_joins_34 rfl rfl ?_
    refine ix_K_px kq_Mo_joins i_Mo_joins_35 rfl rfl ?_
    refine ix_K_callI (as := [.ref a0, .int x2, .int x7]) (rest := [.int (x6 + x5), .ref v5]) kq_Mo_joins i_Mo_joins_37 rfl kq_Mo_cellOf (by decide) rfl (Or.inl rfl) (fun v7 h6 => ?_)
    refine ix_K_ti kq_Mo_joins i_Mo_joins_40 rfl (fun h8 => ?_)
    refine ix_K_inc (L2 := [some (.ref a0), some (.int x1), some (.int x2), some (.int x3), some (.int x4), some (.int (x5 + 1)), some (.int x6), some (.int x7), none, none, none]) kq_Mo_joins i_Mo_joins_41 rfl rfl (Nat.le_of_ble_eq_true rfl) kci_1 rfl ?_
    refine ix_K_inc (L2 := [some (.ref a0), some (.int x1), some (.int x2), some (.int x3), some (.int x4), some (.int (x5 + 1)), some (.int x6), some (.int (x7 + 1)), none, none, none]) kq_Mo_joins i_Mo_joins_44 rfl rfl (Nat.le_of_ble_eq_true rfl) kci_1 rfl ?_
    refine ix_K_goto (tgt := 12) kq_Mo_joins i_Mo_joins_47 rfl (by decide) ?_
    exact ix_D_cut i_Mo_joins_12 rfl
set_option maxRecDepth 20000 in
set_option maxHeartbeats 1000000 in
theorem e_Mo_joins_68 (a0 : Nat) (x1 : Int32) (x3 : Int32) (x5 : Int32) (x6 : Int32) (x7 : Int32) (b8 : Bool) (x9 : Int32) (h : ixH) : l_Mo_joins_68 a0 x1 x3 x5 x6 x7 b8 x9 h = (ix_M mMo_length [.ref a0, .int x3] h).bind fun r => ix_kI r fun v2 h1 => if v2 ≤ x9 then (ix_gr h1 a0 11 29).bind fun v3 => (ix_si h1 v3 x1 x5).bind fun h4 => some ([.int (ix_bi b8)], h4) else l_Mo_joins_81 a0 x1 x3 x5 x6 x7 b8 x9 0 h1 := by
  unfold l_Mo_joins_68
  refine ix_K_px kq_Mo_joins i_Mo_joins_68 rfl rfl ?_
  refine ix_K_px kq_Mo_joins i_Mo_joins_70 rfl rfl ?_
  refine ix_K_px kq_Mo_joins i_Mo_joins_71 rfl rfl ?_
  refine ix_K_callI (as := [.ref a0, .int x3]) (rest := [.int x9]) kq_Mo_joins i_Mo_joins_72 rfl kq_Mo_length (by decide) rfl (Or.inl rfl) (fun v2 h1 => ?_)
  refine ix_K_ic_ge (tgt := 157) kq_Mo_joins i_Mo_joins_75 rfl (by decide) ?_ ?_
  · refine ix_K_px kq_Mo_joins i_Mo_joins_157 rfl rfl ?_
    refine ix_K_gr kq_Mo_joins i_Mo_joins_158 rfl (fun v3 => ?_)
    refine ix_K_px kq_Mo_joins i_Mo_joins_161 rfl rfl ?_
    refine ix_K_px kq_Mo_joins i_Mo_joins_162 rfl rfl ?_
    refine ix_K_ti kq_Mo_joins i_Mo_joins_164 rfl (fun h4 => ?_)
    refine ix_K_px kq_Mo_joins i_Mo_joins_165 rfl rfl ?_
    exact ix_D_ret kq_Mo_joins i_Mo_joins_167 (ix_rtZ rfl _)
  · refine ix_K_ci kq_Mo_joins i_Mo_joins_78 rfl kci_0 ?_
    refine ix_K_si (L2 := [some (.ref a0), some (.int x1), none, some (.int x3), none, some (.int x5), some (.int x6), some (.int x7), some (.int (ix_bi b8)), some (.int x9), some (.int 0)]) kq_Mo_joins i_Mo_joins_79 rfl (Or.inl rfl) (Nat.le_of_ble_eq_true rfl) rfl ?_
    exact ix_D_cut i_Mo_joins_81 rfl
set_option maxRecDepth 20000 in
set_option maxHeartbeats 1000000 in
theorem e_Mo_joins_81 (a0 : Nat) (x1 : Int32) (x3 : Int32) (x5 : Int32) (x6 : Int32) (x7 : Int32) (b8 : Bool) (x9 : Int32) (x10 : Int32) (h : ixH) : l_Mo_joins_81 a0 x1 x3 x5 x6 x7 b8 x9 x10 h = if x7 ≤ x10 then if b8 = true then (ix_gr h a0 11 28).bind fun v1 => (ix_M mMo_cellOf [.ref a0, .int x3, .int x9] h).bind fun r => ix_kI r fun v3 h2 => (ix_si h2 v1 (x6 + x5) v3).bind fun h4 => l_Mo_joins_68 a0 x1 x3 (x5 + 1) x6 x7 b8 (x9 + 1) h4 else l_Mo_joins_68 a0 x1 x3 x5 x6 x7 b8 (x9 + 1) h else if b8 = true then (ix_gr h a0 11 28).bind fun v5 => (ix_ai h v5 (x6 + x10)).bind fun v6 => (ix_M mMo_cellOf [.ref a0, .int x3, .int x9] h).bind fun r => ix_kI r fun v8 h7 => if v6 = v8 then l_Mo_joins_81 a0 x1 x3 x5 x6 x7 false x9 (x10 + 1) h7 else l_Mo_joins_81 a0 x1 x3 x5 x6 x7 true x9 (x10 + 1) h7 else l_Mo_joins_81 a0 x1 x3 x5 x6 x7 false x9 (x10 + 1) h := by
  unfold l_Mo_joins_81
  refine ix_K_px kq_Mo_joins i_Mo_joins_81 rfl rfl ?_
  refine ix_K_px kq_Mo_joins i_Mo_joins_83 rfl rfl ?_
  refine ix_K_ic_ge (tgt := 126) kq_Mo_joins i_Mo_joins_85 rfl (by decide) ?_ ?_
  · refine ix_K_px kq_Mo_joins i_Mo_joins_126 rfl rfl ?_
    refine ix_K_bz_eq (tgt := 151) kq_Mo_joins i_Mo_joins_128 rfl (by decide) ?_ ?_
    · refine ix_K_px kq_Mo_joins i_Mo_joins_131 rfl rfl ?_
      refine ix_K_gr kq_Mo_joins i_Mo_joins_132 rfl (fun v1 => ?_)
      refine ix_K_px kq_Mo_joins i_Mo_joins_135 rfl rfl ?_
      refine ix_K_px kq_Mo_joins i_Mo_joins_137 rfl rfl ?_
      refine ix_K_px kq_Mo_joins i_Mo_joins_139 rfl rfl ?_
      refine ix_K_px kq_Mo_joins i_Mo_joins_140 rfl rfl ?_
      refine ix_K_px kq_Mo_joins i_Mo_joins_141 rfl rfl ?_
      refine ix_K_px kq_Mo_joins i_Mo_joins_142 rfl rfl ?_
      refine ix_K_callI (as := [.ref a0, .int x3, .int x9]) (rest := [.int (x6 + x5), .ref v1]) kq_Mo_joins i_Mo_joins_144 rfl kq_Mo_cellOf (by decide) rfl (Or.inl rfl) (fun v3 h2 => ?_)
      refine ix_K_ti kq_Mo_joins i_Mo_joins_147 rfl (fun h4 => ?_)
      refine ix_K_inc (L2 := [some (.ref a0), some (.int x1), none, some (.int x3), none, some (.int (x5 + 1)), some (.int x6), some (.int x7), some (.int (ix_bi b8)), some (.int x9), some (.int x10)]) kq_Mo_joins i_Mo_joins_148 rfl rfl (Nat.le_of_ble_eq_true rfl) kci_1 rfl ?_
      refine ix_K_inc (L2 := [some (.ref a0), some (.int x1), none, some (.int x3), none, some (.int (x5 + 1)), some (.int x6), some (.int x7), some (.int (ix_bi b8)), some (.int (x9 + 1)), some (.int x10)]) kq_Mo_joins i_Mo_joins_151 rfl rfl (Nat.le_of_ble_eq_true rfl) kci_1 rfl ?_
      refine ix_K_goto (tgt := 68) kq_Mo_joins i_Mo_joins_154 rfl (by decide) ?_
      exact ix_D_cut i_Mo_joins_68 rfl
    · refine ix_K_inc (L2 := [some (.ref a0), some (.int x1), none, some (.int x3), none, some (.int x5), some (.int x6), some (.int x7), some (.int (ix_bi b8)), some (.int (x9 + 1)), some (.int x10)]) kq_Mo_joins i_Mo_joins_151 rfl rfl (Nat.le_of_ble_eq_true rfl) kci_1 rfl ?_
      refine ix_K_goto (tgt := 68) kq_Mo_joins i_Mo_joins_154 rfl (by decide) ?_
      exact ix_D_cut i_Mo_joins_68 rfl
  · refine ix_K_px kq_Mo_joins i_Mo_joins_88 rfl rfl ?_
    refine ix_K_bz_eq (tgt := 117) kq_Mo_joins i_Mo_joins_90 rfl (by decide) ?_ ?_
    · refine ix_K_px kq_Mo_joins i_Mo_joins_93 rfl rfl ?_
      refine ix_K_gr kq_Mo_joins i_Mo_joins_94 rfl (fun v5 => ?_)
      refine ix_K_px kq_Mo_joins i_Mo_joins_97 rfl rfl ?_
      refine ix_K_px kq_Mo_joins i_Mo_joins_99 rfl rfl ?_
      refine ix_K_px kq_Mo_joins i_Mo_joins_101 rfl rfl ?_
      refine ix_K_ai kq_Mo_joins i_Mo_joins_102 rfl (fun v6 => ?_)
      refine ix_K_px kq_Mo_joins i_Mo_joins_103 rfl rfl ?_
      refine ix_K_px kq_Mo_joins i_Mo_joins_104 rfl rfl ?_
      refine ix_K_px kq_Mo_joins i_Mo_joins_105 rfl rfl ?_
      refine ix_K_callI (as := [.ref a0, .int x3, .int x9]) (rest := [.int v6]) kq_Mo_joins i_Mo_joins_107 rfl kq_Mo_cellOf (by decide) rfl (Or.inl rfl) (fun v8 h7 => ?_)
      refine ix_K_ic_eq (tgt := 117) kq_Mo_joins i_Mo_joins_110 rfl (by decide) ?_ ?_
      · refine ix_K_ci kq_Mo_joins i_Mo_joins_117 rfl kci_0 ?_
        refine ix_K_si (L2 := [some (.ref a0), some (.int x1), none, some (.int x3), none, some (.int x5), some (.int x6), some (.int x7), some (.int 0), some (.int x9), some (.int x10)]) kq_Mo_joins i_Mo_joins_118 rfl (Or.inl rfl) (Nat.le_of_ble_eq_true rfl) rfl ?_
        refine ix_K_inc (L2 := [some (.ref a0), some (.int x1), none, some (.int x3), none, some (.int x5), some (.int x6), some (.int x7), some (.int 0), some (.int x9), some (.int (x10 + 1))]) kq_Mo_joins i_Mo_joins_120 rfl rfl (Nat.le_of_ble_eq_true rfl) kci_1 rfl ?_
        refine ix_K_goto (tgt := 81) kq_Mo_joins i_Mo_joins_123 rfl (by decide) ?_
        exact ix_D_cut i_Mo_joins_81 rfl
      · refine ix_K_ci kq_Mo_joins i_Mo_joins_113 rfl kci_1 ?_
        refine ix_K_goto (tgt := 118) kq_Mo_joins i_Mo_joins_114 rfl (by decide) ?_
        refine ix_K_si (L2 := [some (.ref a0), some (.int x1), none, some (.int x3), none, some (.int x5), some (.int x6), some (.int x7), some (.int 1), some (.int x9), some (.int x10)]) kq_Mo_joins i_Mo_joins_118 rfl (Or.inl rfl) (Nat.le_of_ble_eq_true rfl) rfl ?_
        refine ix_K_inc (L2 := [some (.ref a0), some (.int x1), none, some (.int x3), none, some (.int x5), some (.int x6), some (.int x7), some (.int 1), some (.int x9), some (.int (x10 + 1))]) kq_Mo_joins i_Mo_joins_120 rfl rfl (Nat.le_of_ble_eq_true rfl) kci_1 rfl ?_
        refine ix_K_goto (tgt := 81) kq_Mo_joins i_Mo_joins_123 rfl (by decide) ?_
        exact ix_D_cut i_Mo_joins_81 rfl
    · refine ix_K_ci kq_Mo_joins i_Mo_joins_117 rfl kci_0 ?_
      refine ix_K_si (L2 := [some (.ref a0), some (.int x1), none, some (.int x3), none, some (.int x5), some (.int x6), some (.int x7), some (.int 0), some (.int x9), some (.int x10)]) kq_Mo_joins i_Mo_joins_118 rfl (Or.inl rfl) (Nat.le_of_ble_eq_true rfl) rfl ?_
      refine ix_K_inc (L2 := [some (.ref a0), some (.int x1), none, some (.int x3), none, some (.int x5), some (.int x6), some (.int x7), some (.int 0), some (.int x9), some (.int (x10 + 1))]) kq_Mo_joins i_Mo_joins_120 rfl rfl (Nat.le_of_ble_eq_true rfl) kci_1 rfl ?_
      refine ix_K_goto (tgt := 81) kq_Mo_joins i_Mo_joins_123 rfl (by decide) ?_
      exact ix_D_cut i_Mo_joins_81 rfl
set_option maxRecDepth 20000 in
set_option maxHeartbeats 1000000 in
theorem e_Mo_joins (a0 : Nat) (x1 : Int32) (x2 : Int32) (x3 : Int32) (x4 : Int32) (h : ixH) : ix_D mMo_joins 0 [some (.ref a0), some (.int x1), some (.int x2), some (.int x3), some (.int x4), none, none, none, none, none, none] [] h = l_Mo_joins_12 a0 x1 x2 x3 x4 0 (65 * x1) 0 h := by
  refine ix_K_ci kq_Mo_joins i_Mo_joins_0 rfl kci_0 ?_
  refine ix_K_si (L2 := [some (.ref a0), some (.int x1), some (.int x2), some (.int x3), some (.int x4), some (.int 0), none, none, none, none, none]) kq_Mo_joins i_Mo_joins_1 rfl (Or.inl rfl) (Nat.le_of_ble_eq_true rfl) rfl ?_
  refine ix_K_cb kq_Mo_joins i_Mo_joins_3 rfl kcb_65 ?_
  refine ix_K_px kq_Mo_joins i_Mo_joins_5 rfl rfl ?_
  refine ix_K_px kq_Mo_joins i_Mo_joins_6 rfl rfl ?_
  refine ix_K_si (L2 := [some (.ref a0), some (.int x1), some (.int x2), some (.int x3), some (.int x4), some (.int 0), some (.int (65 * x1)), none, none, none, none]) kq_Mo_joins i_Mo_joins_7 rfl (Or.inl rfl) (Nat.le_of_ble_eq_true rfl) rfl ?_
  refine ix_K_ci kq_Mo_joins i_Mo_joins_9 rfl kci_0 ?_
  refine ix_K_si (L2 := [some (.ref a0), some (.int x1), some (.int x2), some (.int x3), some (.int x4), some (.int 0), some (.int (65 * x1)), some (.int 0), none, none, none]) kq_Mo_joins i_Mo_joins_10 rfl (Or.inl rfl) (Nat.le_of_ble_eq_true rfl) rfl ?_
  exact ix_D_cut i_Mo_joins_12 rfl
theorem x_Mo_joins {a0 : Nat} {x1 : Int32} {x2 : Int32} {x3 : Int32} {x4 : Int32} {h h1 : ixH} {v : Bool} (hr : ix_rc h a0 = some 11) (hd : ix_D mMo_joins 0 [some (.ref a0), some (.int x1), some (.int x2), some (.int x3), some (.int x4), none, none, none, none, none, none] [] h = some ([.int (ix_bi v)], h1)) : ix_M mMo_joins [.ref a0, .int x1, .int x2, .int x3, .int x4] h = some ([.int (ix_bi v)], h1) := ix_M_of (ix_ent_i kq_Mo_joins rfl hr rfl (Nat.le_of_ble_eq_true rfl) rfl) hd (ix_okrZ rfl v)
theorem i_Mo_layJoined_0 : ix_nx mMo_layJoined 0 = some (0, .aload_n 0, 1, none, [], 0) := rfl
theorem i_Mo_layJoined_1 : ix_nx mMo_layJoined 1 = some (1, .getfield 7, 4, none, [11, 0, 2, 90], 0) := rfl
theorem i_Mo_layJoined_4 : ix_nx mMo_layJoined 4 = some (0, .sipush 395, 7, none, [], 0) := rfl
theorem i_Mo_layJoined_7 : ix_nx mMo_layJoined 7 = some (0, .bipush 65, 9, none, [], 0) := rfl
theorem i_Mo_layJoined_9 : ix_nx mMo_layJoined 9 = some (0, .iload_n 2, 10, none, [], 0) := rfl
theorem i_Mo_layJoined_10 : ix_nx mMo_layJoined 10 = some (0, .imul, 11, none, [], 0) := rfl
theorem i_Mo_layJoined_11 : ix_nx mMo_layJoined 11 = some (0, .iadd, 12, none, [], 0) := rfl
theorem i_Mo_layJoined_12 : ix_nx mMo_layJoined 12 = some (0, .aload_n 0, 13, none, [], 0) := rfl
theorem i_Mo_layJoined_13 : ix_nx mMo_layJoined 13 = some (1, .getfield 84, 16, none, [11, 29, 2, 119], 0) := rfl
theorem i_Mo_layJoined_16 : ix_nx mMo_layJoined 16 = some (0, .iload_n 1, 17, none, [], 0) := rfl
theorem i_Mo_layJoined_17 : ix_nx mMo_layJoined 17 = some (1, .iaload, 18, none, [], 0) := rfl
theorem i_Mo_layJoined_18 : ix_nx mMo_layJoined 18 = some (2, .iastore, 19, none, [], 0) := rfl
theorem i_Mo_layJoined_19 : ix_nx mMo_layJoined 19 = some (0, .iconst 0, 20, none, [], 0) := rfl
theorem i_Mo_layJoined_20 : ix_nx mMo_layJoined 20 = some (0, .istore_n 3, 21, none, [], 0) := rfl
theorem i_Mo_layJoined_21 : ix_nx mMo_layJoined 21 = some (0, .iload_n 3, 22, some [true, true, true, true], [], 0) := rfl
theorem i_Mo_layJoined_22 : ix_nx mMo_layJoined 22 = some (0, .aload_n 0, 23, none, [], 0) := rfl
theorem i_Mo_layJoined_23 : ix_nx mMo_layJoined 23 = some (1, .getfield 84, 26, none, [11, 29, 2, 119], 0) := rfl
theorem i_Mo_layJoined_26 : ix_nx mMo_layJoined 26 = some (0, .iload_n 1, 27, none, [], 0) := rfl
theorem i_Mo_layJoined_27 : ix_nx mMo_layJoined 27 = some (1, .iaload, 28, none, [], 0) := rfl
theorem i_Mo_layJoined_28 : ix_nx mMo_layJoined 28 = some (0, .if_icmp .ge 37, 31, none, [], 0) := rfl
theorem i_Mo_layJoined_31 : ix_nx mMo_layJoined 31 = some (0, .aload_n 0, 32, none, [], 0) := rfl
theorem i_Mo_layJoined_32 : ix_nx mMo_layJoined 32 = some (1, .getfield 7, 35, none, [11, 0, 2, 90], 0) := rfl
theorem i_Mo_layJoined_35 : ix_nx mMo_layJoined 35 = some (0, .sipush 395, 38, none, [], 0) := rfl
theorem i_Mo_layJoined_38 : ix_nx mMo_layJoined 38 = some (0, .bipush 65, 40, none, [], 0) := rfl
theorem i_Mo_layJoined_40 : ix_nx mMo_layJoined 40 = some (0, .iload_n 2, 41, none, [], 0) := rfl
theorem i_Mo_layJoined_41 : ix_nx mMo_layJoined 41 = some (0, .imul, 42, none, [], 0) := rfl
theorem i_Mo_layJoined_42 : ix_nx mMo_layJoined 42 = some (0, .iadd, 43, none, [], 0) := rfl
theorem i_Mo_layJoined_43 : ix_nx mMo_layJoined 43 = some (0, .iconst 1, 44, none, [], 0) := rfl
theorem i_Mo_layJoined_44 : ix_nx mMo_layJoined 44 = some (0, .iadd, 45, none, [], 0) := rfl
theorem i_Mo_layJoined_45 : ix_nx mMo_layJoined 45 = some (0, .iload_n 3, 46, none, [], 0) := rfl
theorem i_Mo_layJoined_46 : ix_nx mMo_layJoined 46 = some (0, .iadd, 47, none, [], 0) := rfl
theorem i_Mo_layJoined_47 : ix_nx mMo_layJoined 47 = some (0, .aload_n 0, 48, none, [], 0) := rfl
theorem i_Mo_layJoined_48 : ix_nx mMo_layJoined 48 = some (1, .getfield 81, 51, none, [11, 28, 2, 118], 0) := rfl
theorem i_Mo_layJoined_51 : ix_nx mMo_layJoined 51 = some (0, .bipush 65, 53, none, [], 0) := rfl
theorem i_Mo_layJoined_53 : ix_nx mMo_layJoined 53 = some (0, .iload_n 1, 54, none, [], 0) := rfl
theorem i_Mo_layJoined_54 : ix_nx mMo_layJoined 54 = some (0, .imul, 55, none, [], 0) := rfl
theorem i_Mo_layJoined_55 : ix_nx mMo_layJoined 55 = some (0, .iload_n 3, 56, none, [], 0) := rfl
theorem i_Mo_layJoined_56 : ix_nx mMo_layJoined 56 = some (0, .iadd, 57, none, [], 0) := rfl
theorem i_Mo_layJoined_57 : ix_nx mMo_layJoined 57 = some (1, .iaload, 58, none, [], 0) := rfl
theorem i_Mo_layJoined_58 : ix_nx mMo_layJoined 58 = some (2, .iastore, 59, none, [], 0) := rfl
theorem i_Mo_layJoined_59 : ix_nx mMo_layJoined 59 = some (0, .iinc 3 1, 62, none, [], 0) := rfl
theorem i_Mo_layJoined_62 : ix_nx mMo_layJoined 62 = some (0, .goto (-41), 65, none, [], 0) := rfl
theorem i_Mo_layJoined_65 : ix_nx mMo_layJoined 65 = some (4, .return_, 66, none, [], 0) := rfl
noncomputable def l_Mo_layJoined_21 (a0 : Nat) (x1 : Int32) (x2 : Int32) (x3 : Int32) (h : ixH) : Option (List Value × ixH) := ix_D mMo_layJoined 21 [some (.ref a0), some (.int x1), some (.int x2), some (.int x3)] [] h
set_option maxRecDepth 20000 in
set_option maxHeartbeats 1000000 in
theorem e_Mo_layJoined_21 (a0 : Nat) (x1 : Int32) (x2 : Int32) (x3 : Int32) (h : ixH) : l_Mo_layJoined_21 a0 x1 x2 x3 h = (ix_gr h a0 11 29).bind fun v1 => (ix_ai h v1 x1).bind fun v2 => if v2 ≤ x3 then some ([], h) else (ix_gr h a0 11 0).bind fun v3 => (ix_gr h a0 11 28).bind fun v4 => (ix_ai h v4 ((65 * x1) + x3)).bind fun v5 => (ix_si h v3 (((395 + (65 * x2)) + 1) + x3) v5).bind fun h6 => l_Mo_layJoined_21 a0 x1 x2 (x3 + 1) h6 := by
  unfold l_Mo_layJoined_21
  refine ix_K_px kq_Mo_layJoined i_Mo_layJoined_21 rfl rfl ?_
  refine ix_K_px kq_Mo_layJoined i_Mo_layJoined_22 rfl rfl ?_
  refine ix_K_gr kq_Mo_layJoined i_Mo_layJoined_23 rfl (fun v1 => ?_)
  refine ix_K_px kq_Mo_layJoined i_Mo_layJoined_26 rfl rfl ?_
  refine ix_K_ai kq_Mo_layJoined i_Mo_layJoined_27 rfl (fun v2 => ?_)
  refine ix_K_ic_ge (tgt := 65) kq_Mo_layJoined i_Mo_layJoined_28 rfl (by decide) ?_ ?_
  · exact ix_D_ret kq_Mo_layJoined i_Mo_layJoined_65 (ix_rtV rfl)
  · refine ix_K_px kq_Mo_layJoined i_Mo_layJoined_31 rfl rfl ?_
    refine ix_K_gr kq_Mo_layJoined i_Mo_layJoined_32 rfl (fun v3 => ?_)
    refine ix_K_cs kq_Mo_layJoined i_Mo_layJoined_35 rfl kcs_395 ?_
    refine ix_K_cb kq_Mo_layJoined i_Mo_layJoined_38 rfl kcb_65 ?_
    refine ix_K_px kq_Mo_layJoined i_Mo_layJoined_40 rfl rfl ?_
    refine ix_K_px kq_Mo_layJoined i_Mo_layJoined_41 rfl rfl ?_
    refine ix_K_px kq_Mo_layJoined i_Mo_layJoined_42 rfl rfl ?_
    refine ix_K_ci kq_Mo_layJoined i_Mo_layJoined_43 rfl kci_1 ?_
    refine ix_K_px kq_Mo_layJoined i_Mo_layJoined_44 rfl rfl ?_
    refine ix_K_px kq_Mo_layJoined i_Mo_layJoined_45 rfl rfl ?_
    refine ix_K_px kq_Mo_layJoined i_Mo_layJoined_46 rfl rfl ?_
    refine ix_K_px kq_Mo_layJoined i_Mo_layJoined_47 rfl rfl ?_
    refine ix_K_gr kq_Mo_layJoined i_Mo_layJoined_48 rfl (fun v4 => ?_)
    refine ix_K_cb kq_Mo_layJoined i_Mo_layJoined_51 rfl kcb_65 ?_
    refine ix_K_px kq_Mo_layJoined i_Mo_layJoined_53 rfl rfl ?_
    refine ix_K_px kq_Mo_layJoined i_Mo_layJoined_54 rfl rfl ?_
    refine ix_K_px kq_Mo_layJoined i_Mo_layJoined_55 rfl rfl ?_
    refine ix_K_px kq_Mo_layJoined i_Mo_layJoined_56 rfl rfl ?_
    refine ix_K_ai kq_Mo_layJoined i_Mo_layJoined_57 rfl (fun v5 => ?_)
    refine ix_K_ti kq_Mo_layJoined i_Mo_layJoined_58 rfl (fun h6 => ?_)
    refine ix_K_inc (L2 := [some (.ref a0), some (.int x1), some (.int x2), some (.int (x3 + 1))]) kq_Mo_layJoined i_Mo_layJoined_59 rfl rfl (Nat.le_of_ble_eq_true rfl) kci_1 rfl ?_
    refine ix_K_goto (tgt := 21) kq_Mo_layJoined i_Mo_layJoined_62 rfl (by decide) ?_
    exact ix_D_cut i_Mo_layJoined_21 rfl
set_option maxRecDepth 20000 in
set_option maxHeartbeats 1000000 in
theorem e_Mo_layJoined (a0 : Nat) (x1 : Int32) (x2 : Int32) (h : ixH) : ix_D mMo_layJoined 0 [some (.ref a0), some (.int x1), some (.int x2), none] [] h = (ix_gr h a0 11 0).bind fun v1 => (ix_gr h a0 11 29).bind fun v2 => (ix_ai h v2 x1).bind fun v3 => (ix_si h v1 (395 + (65 * x2)) v3).bind fun h4 => l_Mo_layJoined_21 a0 x1 x2 0 h4 := by
  refine ix_K_px kq_Mo_layJoined i_Mo_layJoined_0 rfl rfl ?_
  refine ix_K_gr kq_Mo_layJoined i_Mo_layJoined_1 rfl (fun v1 => ?_)
  refine ix_K_cs kq_Mo_layJoined i_Mo_layJoined_4 rfl kcs_395 ?_
  refine ix_K_cb kq_Mo_layJoined i_Mo_layJoined_7 rfl kcb_65 ?_
  refine ix_K_px kq_Mo_layJoined i_Mo_layJoined_9 rfl rfl ?_
  refine ix_K_px kq_Mo_layJoined i_Mo_layJoined_10 rfl rfl ?_
  refine ix_K_px kq_Mo_layJoined i_Mo_layJoined_11 rfl rfl ?_
  refine ix_K_px kq_Mo_layJoined i_Mo_layJoined_12 rfl rfl ?_
  refine ix_K_gr kq_Mo_layJoined i_Mo_layJoined_13 rfl (fun v2 => ?_)
  refine ix_K_px kq_Mo_layJoined i_Mo_layJoined_16 rfl rfl ?_
  refine ix_K_ai kq_Mo_layJoined i_Mo_layJoined_17 rfl (fun v3 => ?_)
  refine ix_K_ti kq_Mo_layJoined i_Mo_layJoined_18 rfl (fun h4 => ?_)
  refine ix_K_ci kq_Mo_layJoined i_Mo_layJoined_19 rfl kci_0 ?_
  refine ix_K_si (L2 := [some (.ref a0), some (.int x1), some (.int x2), some (.int 0)]) kq_Mo_layJoined i_Mo_layJoined_20 rfl (Or.inr ⟨_, rfl, rfl⟩) (Nat.le_of_ble_eq_true rfl) rfl ?_
  exact ix_D_cut i_Mo_layJoined_21 rfl
theorem x_Mo_layJoined {a0 : Nat} {x1 : Int32} {x2 : Int32} {h h1 : ixH} (hr : ix_rc h a0 = some 11) (hd : ix_D mMo_layJoined 0 [some (.ref a0), some (.int x1), some (.int x2), none] [] h = some ([], h1)) : ix_M mMo_layJoined [.ref a0, .int x1, .int x2] h = some ([], h1) := ix_M_of (ix_ent_i kq_Mo_layJoined rfl hr rfl (Nat.le_of_ble_eq_true rfl) rfl) hd (ix_okrV rfl)
theorem i_Mo_check_0 : ix_nx mMo_check 0 = some (0, .iload_n 1, 1, none, [], 0) := rfl
theorem i_Mo_check_1 : ix_nx mMo_check 1 = some (0, .iconst 0, 2, none, [], 0) := rfl
theorem i_Mo_check_2 : ix_nx mMo_check 2 = some (0, .bipush 31, 4, none, [], 0) := rfl
theorem i_Mo_check_4 : ix_nx mMo_check 4 = some (3, .invokestatic 98, 7, none, [1, 148, 174], 0) := rfl
theorem i_Mo_check_7 : ix_nx mMo_check 7 = some (0, .ifCond .ne 5, 10, none, [], 0) := rfl
theorem i_Mo_check_10 : ix_nx mMo_check 10 = some (0, .iconst (-1), 11, none, [], 0) := rfl
theorem i_Mo_check_11 : ix_nx mMo_check 11 = some (4, .ireturn, 12, none, [], 0) := rfl
theorem i_Mo_check_12 : ix_nx mMo_check 12 = some (0, .iload_n 2, 13, none, [], 0) := rfl
theorem i_Mo_check_13 : ix_nx mMo_check 13 = some (0, .ifCond .ne 11, 16, none, [], 0) := rfl
theorem i_Mo_check_16 : ix_nx mMo_check 16 = some (0, .aload_n 0, 17, none, [], 0) := rfl
theorem i_Mo_check_17 : ix_nx mMo_check 17 = some (0, .iload_n 1, 18, none, [], 0) := rfl
theorem i_Mo_check_18 : ix_nx mMo_check 18 = some (3, .invokevirtual 309, 21, none, [0, 234, 236], 0) := rfl
theorem i_Mo_check_21 : ix_nx mMo_check 21 = some (0, .goto 26, 24, none, [], 0) := rfl
theorem i_Mo_check_24 : ix_nx mMo_check 24 = some (0, .iload_n 2, 25, none, [], 0) := rfl
theorem i_Mo_check_25 : ix_nx mMo_check 25 = some (0, .iconst 1, 26, none, [], 0) := rfl
theorem i_Mo_check_26 : ix_nx mMo_check 26 = some (0, .if_icmp .ne 19, 29, none, [], 0) := rfl
theorem i_Mo_check_29 : ix_nx mMo_check 29 = some (0, .aload_n 0, 30, none, [], 0) := rfl
theorem i_Mo_check_30 : ix_nx mMo_check 30 = some (0, .iload_n 1, 31, none, [], 0) := rfl
theorem i_Mo_check_31 : ix_nx mMo_check 31 = some (3, .invokevirtual 312, 34, none, [0, 235, 237], 0) := rfl
theorem i_Mo_check_34 : ix_nx mMo_check 34 = some (0, .ifCond .eq 7, 37, none, [], 0) := rfl
theorem i_Mo_check_37 : ix_nx mMo_check 37 = some (0, .iconst 1, 38, none, [], 0) := rfl
theorem i_Mo_check_38 : ix_nx mMo_check 38 = some (0, .goto 9, 41, none, [], 0) := rfl
theorem i_Mo_check_41 : ix_nx mMo_check 41 = some (0, .iconst 0, 42, none, [], 0) := rfl
theorem i_Mo_check_42 : ix_nx mMo_check 42 = some (0, .goto 5, 45, none, [], 0) := rfl
theorem i_Mo_check_45 : ix_nx mMo_check 45 = some (0, .bipush (-2), 47, none, [], 0) := rfl
theorem i_Mo_check_47 : ix_nx mMo_check 47 = some (4, .ireturn, 48, none, [], 0) := rfl
set_option maxRecDepth 20000 in
set_option maxHeartbeats 1000000 in
theorem e_Mo_check (a0 : Nat) (x1 : Int32) (x2 : Int32) (h : ixH) : ix_D mMo_check 0 [some (.ref a0), some (.int x1), some (.int x2)] [] h = (ix_M mMo_in [.int x1, .int 0, .int 31] h).bind fun r => ix_kZ r fun v2 h1 => if v2 = true then if ¬ x2 = 0 then if ¬ x2 = 1 then some ([.int (-2)], h1) else (ix_M mMo_isProof [.ref a0, .int x1] h1).bind fun r => ix_kZ r fun v4 h3 => if v4 = true then some ([.int 1], h3) else some ([.int 0], h3) else (ix_M mMo_uncovered [.ref a0, .int x1] h1).bind fun r => ix_kI r fun v6 h5 => some ([.int v6], h5) else some ([.int (-1)], h1) := by
  refine ix_K_px kq_Mo_check i_Mo_check_0 rfl rfl ?_
  refine ix_K_ci kq_Mo_check i_Mo_check_1 rfl kci_0 ?_
  refine ix_K_cb kq_Mo_check i_Mo_check_2 rfl kcb_31 ?_
  refine ix_K_callZ (as := [.int x1, .int 0, .int 31]) (rest := []) kq_Mo_check i_Mo_check_4 rfl kq_Mo_in (by decide) rfl rfl (fun v2 h1 => ?_)
  refine ix_K_bz_ne (tgt := 12) kq_Mo_check i_Mo_check_7 rfl (by decide) ?_ ?_
  · refine ix_K_px kq_Mo_check i_Mo_check_12 rfl rfl ?_
    refine ix_K_if_ne (tgt := 24) kq_Mo_check i_Mo_check_13 rfl (by decide) ?_ ?_
    · refine ix_K_px kq_Mo_check i_Mo_check_24 rfl rfl ?_
      refine ix_K_ci kq_Mo_check i_Mo_check_25 rfl kci_1 ?_
      refine ix_K_ic_ne (tgt := 45) kq_Mo_check i_Mo_check_26 rfl (by decide) ?_ ?_
      · refine ix_K_cb kq_Mo_check i_Mo_check_45 rfl kcb_m2 ?_
        exact ix_D_ret kq_Mo_check i_Mo_check_47 (ix_rtI rfl _)
      · refine ix_K_px kq_Mo_check i_Mo_check_29 rfl rfl ?_
        refine ix_K_px kq_Mo_check i_Mo_check_30 rfl rfl ?_
        refine ix_K_callZ (as := [.ref a0, .int x1]) (rest := []) kq_Mo_check i_Mo_check_31 rfl kq_Mo_isProof (by decide) rfl rfl (fun v4 h3 => ?_)
        refine ix_K_bz_eq (tgt := 41) kq_Mo_check i_Mo_check_34 rfl (by decide) ?_ ?_
        · refine ix_K_ci kq_Mo_check i_Mo_check_37 rfl kci_1 ?_
          refine ix_K_goto (tgt := 47) kq_Mo_check i_Mo_check_38 rfl (by decide) ?_
          exact ix_D_ret kq_Mo_check i_Mo_check_47 (ix_rtI rfl _)
        · refine ix_K_ci kq_Mo_check i_Mo_check_41 rfl kci_0 ?_
          refine ix_K_goto (tgt := 47) kq_Mo_check i_Mo_check_42 rfl (by decide) ?_
          exact ix_D_ret kq_Mo_check i_Mo_check_47 (ix_rtI rfl _)
    · refine ix_K_px kq_Mo_check i_Mo_check_16 rfl rfl ?_
      refine ix_K_px kq_Mo_check i_Mo_check_17 rfl rfl ?_
      refine ix_K_callI (as := [.ref a0, .int x1]) (rest := []) kq_Mo_check i_Mo_check_18 rfl kq_Mo_uncovered (by decide) rfl (Or.inl rfl) (fun v6 h5 => ?_)
      refine ix_K_goto (tgt := 47) kq_Mo_check i_Mo_check_21 rfl (by decide) ?_
      exact ix_D_ret kq_Mo_check i_Mo_check_47 (ix_rtI rfl _)
  · refine ix_K_ci kq_Mo_check i_Mo_check_10 rfl kci_m1 ?_
    exact ix_D_ret kq_Mo_check i_Mo_check_11 (ix_rtI rfl _)
theorem x_Mo_check {a0 : Nat} {x1 : Int32} {x2 : Int32} {h h1 : ixH} {v : Int32} (hr : ix_rc h a0 = some 11) (hd : ix_D mMo_check 0 [some (.ref a0), some (.int x1), some (.int x2)] [] h = some ([.int v], h1)) : ix_M mMo_check [.ref a0, .int x1, .int x2] h = some ([.int v], h1) := ix_M_of (ix_ent_i kq_Mo_check rfl hr rfl (Nat.le_of_ble_eq_true rfl) rfl) hd (ix_okrI (Or.inl rfl) v)
theorem i_Mo_uncovered_0 : ix_nx mMo_uncovered 0 = some (0, .iconst 0, 1, none, [], 0) := rfl
theorem i_Mo_uncovered_1 : ix_nx mMo_uncovered 1 = some (0, .istore_n 2, 2, none, [], 0) := rfl
theorem i_Mo_uncovered_2 : ix_nx mMo_uncovered 2 = some (0, .iconst 0, 3, none, [], 0) := rfl
theorem i_Mo_uncovered_3 : ix_nx mMo_uncovered 3 = some (0, .istore_n 3, 4, none, [], 0) := rfl
theorem i_Mo_uncovered_4 : ix_nx mMo_uncovered 4 = some (0, .iload_n 3, 5, some [true, true, true, true, false, false], [], 0) := rfl
theorem i_Mo_uncovered_5 : ix_nx mMo_uncovered 5 = some (0, .aload_n 0, 6, none, [], 0) := rfl
theorem i_Mo_uncovered_6 : ix_nx mMo_uncovered 6 = some (3, .invokevirtual 94, 9, none, [0, 149, 175], 0) := rfl
theorem i_Mo_uncovered_9 : ix_nx mMo_uncovered 9 = some (0, .if_icmp .ge 76, 12, none, [], 0) := rfl
theorem i_Mo_uncovered_12 : ix_nx mMo_uncovered 12 = some (0, .aload_n 0, 13, none, [], 0) := rfl
theorem i_Mo_uncovered_13 : ix_nx mMo_uncovered 13 = some (0, .iload_n 3, 14, none, [], 0) := rfl
theorem i_Mo_uncovered_14 : ix_nx mMo_uncovered 14 = some (0, .iconst 3, 15, none, [], 0) := rfl
theorem i_Mo_uncovered_15 : ix_nx mMo_uncovered 15 = some (3, .invokevirtual 175, 18, none, [0, 183, 198], 0) := rfl
theorem i_Mo_uncovered_18 : ix_nx mMo_uncovered 18 = some (0, .istore 4, 20, none, [], 0) := rfl
theorem i_Mo_uncovered_20 : ix_nx mMo_uncovered 20 = some (0, .iconst 0, 21, none, [], 0) := rfl
theorem i_Mo_uncovered_21 : ix_nx mMo_uncovered 21 = some (0, .istore 5, 23, none, [], 0) := rfl
theorem i_Mo_uncovered_23 : ix_nx mMo_uncovered 23 = some (0, .iload 5, 25, some [true, true, true, true, true, true], [], 0) := rfl
theorem i_Mo_uncovered_25 : ix_nx mMo_uncovered 25 = some (0, .iconst 5, 26, none, [], 0) := rfl
theorem i_Mo_uncovered_26 : ix_nx mMo_uncovered 26 = some (0, .if_icmp .ge 40, 29, none, [], 0) := rfl
theorem i_Mo_uncovered_29 : ix_nx mMo_uncovered 29 = some (0, .iload 4, 31, none, [], 0) := rfl
theorem i_Mo_uncovered_31 : ix_nx mMo_uncovered 31 = some (0, .ifCond .eq 26, 34, none, [], 0) := rfl
theorem i_Mo_uncovered_34 : ix_nx mMo_uncovered 34 = some (0, .iload_n 1, 35, none, [], 0) := rfl
theorem i_Mo_uncovered_35 : ix_nx mMo_uncovered 35 = some (0, .iload 5, 37, none, [], 0) := rfl
theorem i_Mo_uncovered_37 : ix_nx mMo_uncovered 37 = some (0, .ishr, 38, none, [], 0) := rfl
theorem i_Mo_uncovered_38 : ix_nx mMo_uncovered 38 = some (0, .iconst 1, 39, none, [], 0) := rfl
theorem i_Mo_uncovered_39 : ix_nx mMo_uncovered 39 = some (0, .iand, 40, none, [], 0) := rfl
theorem i_Mo_uncovered_40 : ix_nx mMo_uncovered 40 = some (0, .ifCond .eq 13, 43, none, [], 0) := rfl
theorem i_Mo_uncovered_43 : ix_nx mMo_uncovered 43 = some (0, .aload_n 0, 44, none, [], 0) := rfl
theorem i_Mo_uncovered_44 : ix_nx mMo_uncovered 44 = some (0, .iload 5, 46, none, [], 0) := rfl
theorem i_Mo_uncovered_46 : ix_nx mMo_uncovered 46 = some (0, .iload_n 3, 47, none, [], 0) := rfl
theorem i_Mo_uncovered_47 : ix_nx mMo_uncovered 47 = some (3, .invokevirtual 278, 50, none, [0, 217, 225], 0) := rfl
theorem i_Mo_uncovered_50 : ix_nx mMo_uncovered 50 = some (0, .ifCond .ge 7, 53, none, [], 0) := rfl
theorem i_Mo_uncovered_53 : ix_nx mMo_uncovered 53 = some (0, .iconst 1, 54, none, [], 0) := rfl
theorem i_Mo_uncovered_54 : ix_nx mMo_uncovered 54 = some (0, .goto 4, 57, none, [], 0) := rfl
theorem i_Mo_uncovered_57 : ix_nx mMo_uncovered 57 = some (0, .iconst 0, 58, none, [], 0) := rfl
theorem i_Mo_uncovered_58 : ix_nx mMo_uncovered 58 = some (0, .istore 4, 60, none, [], 0) := rfl
theorem i_Mo_uncovered_60 : ix_nx mMo_uncovered 60 = some (0, .iinc 5 1, 63, none, [], 0) := rfl
theorem i_Mo_uncovered_63 : ix_nx mMo_uncovered 63 = some (0, .goto (-40), 66, none, [], 0) := rfl
theorem i_Mo_uncovered_66 : ix_nx mMo_uncovered 66 = some (0, .iload_n 2, 67, none, [], 0) := rfl
theorem i_Mo_uncovered_67 : ix_nx mMo_uncovered 67 = some (0, .iload 4, 69, none, [], 0) := rfl
theorem i_Mo_uncovered_69 : ix_nx mMo_uncovered 69 = some (0, .ifCond .eq 7, 72, none, [], 0) := rfl
theorem i_Mo_uncovered_72 : ix_nx mMo_uncovered 72 = some (0, .iconst 1, 73, none, [], 0) := rfl
theorem i_Mo_uncovered_73 : ix_nx mMo_uncovered 73 = some (0, .goto 4, 76, none, [], 0) := rfl
theorem i_Mo_uncovered_76 : ix_nx mMo_uncovered 76 = some (0, .iconst 0, 77, none, [], 0) := rfl
theorem i_Mo_uncovered_77 : ix_nx mMo_uncovered 77 = some (0, .iadd, 78, none, [], 0) := rfl
theorem i_Mo_uncovered_78 : ix_nx mMo_uncovered 78 = some (0, .istore_n 2, 79, none, [], 0) := rfl
theorem i_Mo_uncovered_79 : ix_nx mMo_uncovered 79 = some (0, .iinc 3 1, 82, none, [], 0) := rfl
theorem i_Mo_uncovered_82 : ix_nx mMo_uncovered 82 = some (0, .goto (-78), 85, none, [], 0) := rfl
theorem i_Mo_uncovered_85 : ix_nx mMo_uncovered 85 = some (0, .iload_n 2, 86, none, [], 0) := rfl
theorem i_Mo_uncovered_86 : ix_nx mMo_uncovered 86 = some (4, .ireturn, 87, none, [], 0) := rfl
noncomputable def l_Mo_uncovered_4 (a0 : Nat) (x1 : Int32) (x2 : Int32) (x3 : Int32) (h : ixH) : Option (List Value × ixH) := ix_D mMo_uncovered 4 [some (.ref a0), some (.int x1), some (.int x2), some (.int x3), none, none] [] h
noncomputable def l_Mo_uncovered_23 (a0 : Nat) (x1 : Int32) (x2 : Int32) (x3 : Int32) (b4 : Bool) (x5 : Int32) (h : ixH) : Option (List Value × ixH) := ix_D mMo_uncovered 23 [some (.ref a0), some (.int x1), some (.int x2), some (.int x3), some (.int (ix_bi b4)), some (.int x5)] [] h
set_option maxRecDepth 20000 in
set_option maxHeartbeats 1000000 in
theorem e_Mo_uncovered_4 (a0 : Nat) (x1 : Int32) (x2 : Int32) (x3 : Int32) (h : ixH) : l_Mo_uncovered_4 a0 x1 x2 x3 h = (ix_M mMo_cells [.ref a0] h).bind fun r => ix_kI r fun v2 h1 => if v2 ≤ x3 then some ([.int x2], h1) else (ix_M mMo_has [.ref a0, .int x3, .int 3] h1).bind fun r => ix_kZ r fun v4 h3 => l_Mo_uncovered_23 a0 x1 x2 x3 v4 0 h3 := by
  unfold l_Mo_uncovered_4
  refine ix_K_px kq_Mo_uncovered i_Mo_uncovered_4 rfl rfl ?_
  refine ix_K_px kq_Mo_uncovered i_Mo_uncovered_5 rfl rfl ?_
  refine ix_K_callI (as := [.ref a0]) (rest := [.int x3]) kq_Mo_uncovered i_Mo_uncovered_6 rfl kq_Mo_cells (by decide) rfl (Or.inl rfl) (fun v2 h1 => ?_)
  refine ix_K_ic_ge (tgt := 85) kq_Mo_uncovered i_Mo_uncovered_9 rfl (by decide) ?_ ?_
  · refine ix_K_px kq_Mo_uncovered i_Mo_uncovered_85 rfl rfl ?_
    exact ix_D_ret kq_Mo_uncovered i_Mo_uncovered_86 (ix_rtI rfl _)
  · refine ix_K_px kq_Mo_uncovered i_Mo_uncovered_12 rfl rfl ?_
    refine ix_K_px kq_Mo_uncovered i_Mo_uncovered_13 rfl rfl ?_
    refine ix_K_ci kq_Mo_uncovered i_Mo_uncovered_14 rfl kci_3 ?_
    refine ix_K_callZ (as := [.ref a0, .int x3, .int 3]) (rest := []) kq_Mo_uncovered i_Mo_uncovered_15 rfl kq_Mo_has (by decide) rfl rfl (fun v4 h3 => ?_)
    refine ix_K_si (L2 := [some (.ref a0), some (.int x1), some (.int x2), some (.int x3), some (.int (ix_bi v4)), none]) kq_Mo_uncovered i_Mo_uncovered_18 rfl (Or.inl rfl) (Nat.le_of_ble_eq_true rfl) rfl ?_
    refine ix_K_ci kq_Mo_uncovered i_Mo_uncovered_20 rfl kci_0 ?_
    refine ix_K_si (L2 := [some (.ref a0), some (.int x1), some (.int x2), some (.int x3), some (.int (ix_bi v4)), some (.int 0)]) kq_Mo_uncovered i_Mo_uncovered_21 rfl (Or.inl rfl) (Nat.le_of_ble_eq_true rfl) rfl ?_
    exact ix_D_cut i_Mo_uncovered_23 rfl
set_option maxRecDepth 20000 in
set_option maxHeartbeats 1000000 in
theorem e_Mo_uncovered_23 (a0 : Nat) (x1 : Int32) (x2 : Int32) (x3 : Int32) (b4 : Bool) (x5 : Int32) (h : ixH) : l_Mo_uncovered_23 a0 x1 x2 x3 b4 x5 h = if 5 ≤ x5 then if b4 = true then l_Mo_uncovered_4 a0 x1 (x2 + 1) (x3 + 1) h else l_Mo_uncovered_4 a0 x1 (x2 + 0) (x3 + 1) h else if b4 = true then if ((ix_ishr x1 x5) &&& 1) = 0 then l_Mo_uncovered_23 a0 x1 x2 x3 true (x5 + 1) h else (ix_M mMo_indexOf [.ref a0, .int x5, .int x3] h).bind fun r => ix_kI r fun v2 h1 => if 0 ≤ v2 then l_Mo_uncovered_23 a0 x1 x2 x3 false (x5 + 1) h1 else l_Mo_uncovered_23 a0 x1 x2 x3 true (x5 + 1) h1 else l_Mo_uncovered_23 a0 x1 x2 x3 false (x5 + 1) h := by
  unfold l_Mo_uncovered_23
  refine ix_K_px kq_Mo_uncovered i_Mo_uncovered_23 rfl rfl ?_
  refine ix_K_ci kq_Mo_uncovered i_Mo_uncovered_25 rfl kci_5 ?_
  refine ix_K_ic_ge (tgt := 66) kq_Mo_uncovered i_Mo_uncovered_26 rfl (by decide) ?_ ?_
  · refine ix_K_px kq_Mo_uncovered i_Mo_uncovered_66 rfl rfl ?_
    refine ix_K_px kq_Mo_uncovered i_Mo_uncovered_67 rfl rfl ?_
    refine ix_K_bz_eq (tgt := 76) kq_Mo_uncovered i_Mo_uncovered_69 rfl (by decide) ?_ ?_
    · refine ix_K_ci kq_Mo_uncovered i_Mo_uncovered_72 rfl kci_1 ?_
      refine ix_K_goto (tgt := 77) kq_Mo_uncovered i_Mo_uncovered_73 rfl (by decide) ?_
      refine ix_K_px kq_Mo_uncovered i_Mo_uncovered_77 rfl rfl ?_
      refine ix_K_si (L2 := [some (.ref a0), some (.int x1), some (.int (x2 + 1)), some (.int x3), some (.int (ix_bi b4)), some (.int x5)]) kq_Mo_uncovered i_Mo_uncovered_78 rfl (Or.inr ⟨_, rfl, rfl⟩) (Nat.le_of_ble_eq_true rfl) rfl ?_
      refine ix_K_inc (L2 := [some (.ref a0), some (.int x1), some (.int (x2 + 1)), some (.int (x3 + 1)), some (.int (ix_bi b4)), some (.int x5)]) kq_Mo_uncovered i_Mo_uncovered_79 rfl rfl (Nat.le_of_ble_eq_true rfl) kci_1 rfl ?_
      refine ix_K_goto (tgt := 4) kq_Mo_uncovered i_Mo_uncovered_82 rfl (by decide) ?_
      exact ix_D_cut i_Mo_uncovered_4 rfl
    · refine ix_K_ci kq_Mo_uncovered i_Mo_uncovered_76 rfl kci_0 ?_
      refine ix_K_px kq_Mo_uncovered i_Mo_uncovered_77 rfl rfl ?_
      refine ix_K_si (L2 := [some (.ref a0), some (.int x1), some (.int (x2 + 0)), some (.int x3), some (.int (ix_bi b4)), some (.int x5)]) kq_Mo_uncovered i_Mo_uncovered_78 rfl (Or.inr ⟨_, rfl, rfl⟩) (Nat.le_of_ble_eq_true rfl) rfl ?_
      refine ix_K_inc (L2 := [some (.ref a0), some (.int x1), some (.int (x2 + 0)), some (.int (x3 + 1)), some (.int (ix_bi b4)), some (.int x5)]) kq_Mo_uncovered i_Mo_uncovered_79 rfl rfl (Nat.le_of_ble_eq_true rfl) kci_1 rfl ?_
      refine ix_K_goto (tgt := 4) kq_Mo_uncovered i_Mo_uncovered_82 rfl (by decide) ?_
      exact ix_D_cut i_Mo_uncovered_4 rfl
  · refine ix_K_px kq_Mo_uncovered i_Mo_uncovered_29 rfl rfl ?_
    refine ix_K_bz_eq (tgt := 57) kq_Mo_uncovered i_Mo_uncovered_31 rfl (by decide) ?_ ?_
    · refine ix_K_px kq_Mo_uncovered i_Mo_uncovered_34 rfl rfl ?_
      refine ix_K_px kq_Mo_uncovered i_Mo_uncovered_35 rfl rfl ?_
      refine ix_K_px kq_Mo_uncovered i_Mo_uncovered_37 rfl rfl ?_
      refine ix_K_ci kq_Mo_uncovered i_Mo_uncovered_38 rfl kci_1 ?_
      refine ix_K_px kq_Mo_uncovered i_Mo_uncovered_39 rfl rfl ?_
      refine ix_K_if_eq (tgt := 53) kq_Mo_uncovered i_Mo_uncovered_40 rfl (by decide) ?_ ?_
      · refine ix_K_ci kq_Mo_uncovered i_Mo_uncovered_53 rfl kci_1 ?_
        refine ix_K_goto (tgt := 58) kq_Mo_uncovered i_Mo_uncovered_54 rfl (by decide) ?_
        refine ix_K_si (L2 := [some (.ref a0), some (.int x1), some (.int x2), some (.int x3), some (.int 1), some (.int x5)]) kq_Mo_uncovered i_Mo_uncovered_58 rfl (Or.inl rfl) (Nat.le_of_ble_eq_true rfl) rfl ?_
        refine ix_K_inc (L2 := [some (.ref a0), some (.int x1), some (.int x2), some (.int x3), some (.int 1), some (.int (x5 + 1))]) kq_Mo_uncovered i_Mo_uncovered_60 rfl rfl (Nat.le_of_ble_eq_true rfl) kci_1 rfl ?_
        refine ix_K_goto (tgt := 23) kq_Mo_uncovered i_Mo_uncovered_63 rfl (by decide) ?_
        exact ix_D_cut i_Mo_uncovered_23 rfl
      · refine ix_K_px kq_Mo_uncovered i_Mo_uncovered_43 rfl rfl ?_
        refine ix_K_px kq_Mo_uncovered i_Mo_uncovered_44 rfl rfl ?_
        refine ix_K_px kq_Mo_uncovered i_Mo_uncovered_46 rfl rfl ?_
        refine ix_K_callI (as := [.ref a0, .int x5, .int x3]) (rest := []) kq_Mo_uncovered i_Mo_uncovered_47 rfl kq_Mo_indexOf (by decide) rfl (Or.inl rfl) (fun v2 h1 => ?_)
        refine ix_K_if_ge (tgt := 57) kq_Mo_uncovered i_Mo_uncovered_50 rfl (by decide) ?_ ?_
        · refine ix_K_ci kq_Mo_uncovered i_Mo_uncovered_57 rfl kci_0 ?_
          refine ix_K_si (L2 := [some (.ref a0), some (.int x1), some (.int x2), some (.int x3), some (.int 0), some (.int x5)]) kq_Mo_uncovered i_Mo_uncovered_58 rfl (Or.inl rfl) (Nat.le_of_ble_eq_true rfl) rfl ?_
          refine ix_K_inc (L2 := [some (.ref a0), some (.int x1), some (.int x2), some (.int x3), some (.int 0), some (.int (x5 + 1))]) kq_Mo_uncovered i_Mo_uncovered_60 rfl rfl (Nat.le_of_ble_eq_true rfl) kci_1 rfl ?_
          refine ix_K_goto (tgt := 23) kq_Mo_uncovered i_Mo_uncovered_63 rfl (by decide) ?_
          exact ix_D_cut i_Mo_uncovered_23 rfl
        · refine ix_K_ci kq_Mo_uncovered i_Mo_uncovered_53 rfl kci_1 ?_
          refine ix_K_goto (tgt := 58) kq_Mo_uncovered i_Mo_uncovered_54 rfl (by decide) ?_
          refine ix_K_si (L2 := [some (.ref a0), some (.int x1), some (.int x2), some (.int x3), some (.int 1), some (.int x5)]) kq_Mo_uncovered i_Mo_uncovered_58 rfl (Or.inl rfl) (Nat.le_of_ble_eq_true rfl) rfl ?_
          refine ix_K_inc (L2 := [some (.ref a0), some (.int x1), some (.int x2), some (.int x3), some (.int 1), some (.int (x5 + 1))]) kq_Mo_uncovered i_Mo_uncovered_60 rfl rfl (Nat.le_of_ble_eq_true rfl) kci_1 rfl ?_
          refine ix_K_goto (tgt := 23) kq_Mo_uncovered i_Mo_uncovered_63 rfl (by decide) ?_
          exact ix_D_cut i_Mo_uncovered_23 rfl
    · refine ix_K_ci kq_Mo_uncovered i_Mo_uncovered_57 rfl kci_0 ?_
      refine ix_K_si (L2 := [some (.ref a0), some (.int x1), some (.int x2), some (.int x3), some (.int 0), some (.int x5)]) kq_Mo_uncovered i_Mo_uncovered_58 rfl (Or.inl rfl) (Nat.le_of_ble_eq_true rfl) rfl ?_
      refine ix_K_inc (L2 := [some (.ref a0), some (.int x1), some (.int x2), some (.int x3), some (.int 0), some (.int (x5 + 1))]) kq_Mo_uncovered i_Mo_uncovered_60 rfl rfl (Nat.le_of_ble_eq_true rfl) kci_1 rfl ?_
      refine ix_K_goto (tgt := 23) kq_Mo_uncovered i_Mo_uncovered_63 rfl (by decide) ?_
      exact ix_D_cut i_Mo_uncovered_23 rfl
set_option maxRecDepth 20000 in
set_option maxHeartbeats 1000000 in
theorem e_Mo_uncovered (a0 : Nat) (x1 : Int32) (h : ixH) : ix_D mMo_uncovered 0 [some (.ref a0), some (.int x1), none, none, none, none] [] h = l_Mo_uncovered_4 a0 x1 0 0 h := by
  refine ix_K_ci kq_Mo_uncovered i_Mo_uncovered_0 rfl kci_0 ?_
  refine ix_K_si (L2 := [some (.ref a0), some (.int x1), some (.int 0), none, none, none]) kq_Mo_uncovered i_Mo_uncovered_1 rfl (Or.inr ⟨_, rfl, rfl⟩) (Nat.le_of_ble_eq_true rfl) rfl ?_
  refine ix_K_ci kq_Mo_uncovered i_Mo_uncovered_2 rfl kci_0 ?_
  refine ix_K_si (L2 := [some (.ref a0), some (.int x1), some (.int 0), some (.int 0), none, none]) kq_Mo_uncovered i_Mo_uncovered_3 rfl (Or.inr ⟨_, rfl, rfl⟩) (Nat.le_of_ble_eq_true rfl) rfl ?_
  exact ix_D_cut i_Mo_uncovered_4 rfl
theorem x_Mo_uncovered {a0 : Nat} {x1 : Int32} {h h1 : ixH} {v : Int32} (hr : ix_rc h a0 = some 11) (hd : ix_D mMo_uncovered 0 [some (.ref a0), some (.int x1), none, none, none, none] [] h = some ([.int v], h1)) : ix_M mMo_uncovered [.ref a0, .int x1] h = some ([.int v], h1) := ix_M_of (ix_ent_i kq_Mo_uncovered rfl hr rfl (Nat.le_of_ble_eq_true rfl) rfl) hd (ix_okrI (Or.inl rfl) v)
theorem i_Mo_isProof_0 : ix_nx mMo_isProof 0 = some (0, .iconst 1, 1, none, [], 0) := rfl
theorem i_Mo_isProof_1 : ix_nx mMo_isProof 1 = some (0, .istore_n 2, 2, none, [], 0) := rfl
theorem i_Mo_isProof_2 : ix_nx mMo_isProof 2 = some (0, .iconst 0, 3, none, [], 0) := rfl
theorem i_Mo_isProof_3 : ix_nx mMo_isProof 3 = some (0, .istore_n 3, 4, none, [], 0) := rfl
theorem i_Mo_isProof_4 : ix_nx mMo_isProof 4 = some (0, .iload_n 3, 5, some [true, true, true, true], [], 0) := rfl
theorem i_Mo_isProof_5 : ix_nx mMo_isProof 5 = some (0, .iconst 5, 6, none, [], 0) := rfl
theorem i_Mo_isProof_6 : ix_nx mMo_isProof 6 = some (0, .if_icmp .ge 46, 9, none, [], 0) := rfl
theorem i_Mo_isProof_9 : ix_nx mMo_isProof 9 = some (0, .iload_n 1, 10, none, [], 0) := rfl
theorem i_Mo_isProof_10 : ix_nx mMo_isProof 10 = some (0, .iload_n 3, 11, none, [], 0) := rfl
theorem i_Mo_isProof_11 : ix_nx mMo_isProof 11 = some (0, .ishr, 12, none, [], 0) := rfl
theorem i_Mo_isProof_12 : ix_nx mMo_isProof 12 = some (0, .iconst 1, 13, none, [], 0) := rfl
theorem i_Mo_isProof_13 : ix_nx mMo_isProof 13 = some (0, .iand, 14, none, [], 0) := rfl
theorem i_Mo_isProof_14 : ix_nx mMo_isProof 14 = some (0, .iconst 1, 15, none, [], 0) := rfl
theorem i_Mo_isProof_15 : ix_nx mMo_isProof 15 = some (0, .if_icmp .ne 31, 18, none, [], 0) := rfl
theorem i_Mo_isProof_18 : ix_nx mMo_isProof 18 = some (0, .iload_n 2, 19, none, [], 0) := rfl
theorem i_Mo_isProof_19 : ix_nx mMo_isProof 19 = some (0, .ifCond .eq 25, 22, none, [], 0) := rfl
theorem i_Mo_isProof_22 : ix_nx mMo_isProof 22 = some (0, .aload_n 0, 23, none, [], 0) := rfl
theorem i_Mo_isProof_23 : ix_nx mMo_isProof 23 = some (0, .iload_n 3, 24, none, [], 0) := rfl
theorem i_Mo_isProof_24 : ix_nx mMo_isProof 24 = some (3, .invokevirtual 293, 27, none, [0, 225, 230], 0) := rfl
theorem i_Mo_isProof_27 : ix_nx mMo_isProof 27 = some (0, .ifCond .eq 17, 30, none, [], 0) := rfl
theorem i_Mo_isProof_30 : ix_nx mMo_isProof 30 = some (0, .aload_n 0, 31, none, [], 0) := rfl
theorem i_Mo_isProof_31 : ix_nx mMo_isProof 31 = some (0, .iload_n 3, 32, none, [], 0) := rfl
theorem i_Mo_isProof_32 : ix_nx mMo_isProof 32 = some (3, .invokevirtual 299, 35, none, [0, 227, 232], 0) := rfl
theorem i_Mo_isProof_35 : ix_nx mMo_isProof 35 = some (0, .iload_n 1, 36, none, [], 0) := rfl
theorem i_Mo_isProof_36 : ix_nx mMo_isProof 36 = some (0, .iand, 37, none, [], 0) := rfl
theorem i_Mo_isProof_37 : ix_nx mMo_isProof 37 = some (0, .ifCond .ne 7, 40, none, [], 0) := rfl
theorem i_Mo_isProof_40 : ix_nx mMo_isProof 40 = some (0, .iconst 1, 41, none, [], 0) := rfl
theorem i_Mo_isProof_41 : ix_nx mMo_isProof 41 = some (0, .goto 4, 44, none, [], 0) := rfl
theorem i_Mo_isProof_44 : ix_nx mMo_isProof 44 = some (0, .iconst 0, 45, none, [], 0) := rfl
theorem i_Mo_isProof_45 : ix_nx mMo_isProof 45 = some (0, .istore_n 2, 46, none, [], 0) := rfl
theorem i_Mo_isProof_46 : ix_nx mMo_isProof 46 = some (0, .iinc 3 1, 49, none, [], 0) := rfl
theorem i_Mo_isProof_49 : ix_nx mMo_isProof 49 = some (0, .goto (-45), 52, none, [], 0) := rfl
theorem i_Mo_isProof_52 : ix_nx mMo_isProof 52 = some (0, .iload_n 2, 53, none, [], 0) := rfl
theorem i_Mo_isProof_53 : ix_nx mMo_isProof 53 = some (4, .ireturn, 54, none, [], 0) := rfl
noncomputable def l_Mo_isProof_4 (a0 : Nat) (x1 : Int32) (b2 : Bool) (x3 : Int32) (h : ixH) : Option (List Value × ixH) := ix_D mMo_isProof 4 [some (.ref a0), some (.int x1), some (.int (ix_bi b2)), some (.int x3)] [] h
set_option maxRecDepth 20000 in
set_option maxHeartbeats 1000000 in
theorem e_Mo_isProof_4 (a0 : Nat) (x1 : Int32) (b2 : Bool) (x3 : Int32) (h : ixH) : l_Mo_isProof_4 a0 x1 b2 x3 h = if 5 ≤ x3 then some ([.int (ix_bi b2)], h) else if ¬ ((ix_ishr x1 x3) &&& 1) = 1 then l_Mo_isProof_4 a0 x1 b2 (x3 + 1) h else if b2 = true then (ix_M mMo_isFromTo [.ref a0, .int x3] h).bind fun r => ix_kZ r fun v2 h1 => if v2 = true then (ix_M mMo_meets [.ref a0, .int x3] h1).bind fun r => ix_kI r fun v4 h3 => if ¬ (v4 &&& x1) = 0 then l_Mo_isProof_4 a0 x1 false (x3 + 1) h3 else l_Mo_isProof_4 a0 x1 true (x3 + 1) h3 else l_Mo_isProof_4 a0 x1 false (x3 + 1) h1 else l_Mo_isProof_4 a0 x1 false (x3 + 1) h := by
  unfold l_Mo_isProof_4
  refine ix_K_px kq_Mo_isProof i_Mo_isProof_4 rfl rfl ?_
  refine ix_K_ci kq_Mo_isProof i_Mo_isProof_5 rfl kci_5 ?_
  refine ix_K_ic_ge (tgt := 52) kq_Mo_isProof i_Mo_isProof_6 rfl (by decide) ?_ ?_
  · refine ix_K_px kq_Mo_isProof i_Mo_isProof_52 rfl rfl ?_
    exact ix_D_ret kq_Mo_isProof i_Mo_isProof_53 (ix_rtZ rfl _)
  · refine ix_K_px kq_Mo_isProof i_Mo_isProof_9 rfl rfl ?_
    refine ix_K_px kq_Mo_isProof i_Mo_isProof_10 rfl rfl ?_
    refine ix_K_px kq_Mo_isProof i_Mo_isProof_11 rfl rfl ?_
    refine ix_K_ci kq_Mo_isProof i_Mo_isProof_12 rfl kci_1 ?_
    refine ix_K_px kq_Mo_isProof i_Mo_isProof_13 rfl rfl ?_
    refine ix_K_ci kq_Mo_isProof i_Mo_isProof_14 rfl kci_1 ?_
    refine ix_K_ic_ne (tgt := 46) kq_Mo_isProof i_Mo_isProof_15 rfl (by decide) ?_ ?_
    · refine ix_K_inc (L2 := [some (.ref a0), some (.int x1), some (.int (ix_bi b2)), some (.int (x3 + 1))]) kq_Mo_isProof i_Mo_isProof_46 rfl rfl (Nat.le_of_ble_eq_true rfl) kci_1 rfl ?_
      refine ix_K_goto (tgt := 4) kq_Mo_isProof i_Mo_isProof_49 rfl (by decide) ?_
      exact ix_D_cut i_Mo_isProof_4 rfl
    · refine ix_K_px kq_Mo_isProof i_Mo_isProof_18 rfl rfl ?_
      refine ix_K_bz_eq (tgt := 44) kq_Mo_isProof i_Mo_isProof_19 rfl (by decide) ?_ ?_
      · refine ix_K_px kq_Mo_isProof i_Mo_isProof_22 rfl rfl ?_
        refine ix_K_px kq_Mo_isProof i_Mo_isProof_23 rfl rfl ?_
        refine ix_K_callZ (as := [.ref a0, .int x3]) (rest := []) kq_Mo_isProof i_Mo_isProof_24 rfl kq_Mo_isFromTo (by decide) rfl rfl (fun v2 h1 => ?_)
        refine ix_K_bz_eq (tgt := 44) kq_Mo_isProof i_Mo_isProof_27 rfl (by decide) ?_ ?_
        · refine ix_K_px kq_Mo_isProof i_Mo_isProof_30 rfl rfl ?_
          refine ix_K_px kq_Mo_isProof i_Mo_isProof_31 rfl rfl ?_
          refine ix_K_callI (as := [.ref a0, .int x3]) (rest := []) kq_Mo_isProof i_Mo_isProof_32 rfl kq_Mo_meets (by decide) rfl (Or.inl rfl) (fun v4 h3 => ?_)
          refine ix_K_px kq_Mo_isProof i_Mo_isProof_35 rfl rfl ?_
          refine ix_K_px kq_Mo_isProof i_Mo_isProof_36 rfl rfl ?_
          refine ix_K_if_ne (tgt := 44) kq_Mo_isProof i_Mo_isProof_37 rfl (by decide) ?_ ?_
          · refine ix_K_ci kq_Mo_isProof i_Mo_isProof_44 rfl kci_0 ?_
            refine ix_K_si (L2 := [some (.ref a0), some (.int x1), some (.int 0), some (.int x3)]) kq_Mo_isProof i_Mo_isProof_45 rfl (Or.inr ⟨_, rfl, rfl⟩) (Nat.le_of_ble_eq_true rfl) rfl ?_
            refine ix_K_inc (L2 := [some (.ref a0), some (.int x1), some (.int 0), some (.int (x3 + 1))]) kq_Mo_isProof i_Mo_isProof_46 rfl rfl (Nat.le_of_ble_eq_true rfl) kci_1 rfl ?_
            refine ix_K_goto (tgt := 4) kq_Mo_isProof i_Mo_isProof_49 rfl (by decide) ?_
            exact ix_D_cut i_Mo_isProof_4 rfl
          · refine ix_K_ci kq_Mo_isProof i_Mo_isProof_40 rfl kci_1 ?_
            refine ix_K_goto (tgt := 45) kq_Mo_isProof i_Mo_isProof_41 rfl (by decide) ?_
            refine ix_K_si (L2 := [some (.ref a0), some (.int x1), some (.int 1), some (.int x3)]) kq_Mo_isProof i_Mo_isProof_45 rfl (Or.inr ⟨_, rfl, rfl⟩) (Nat.le_of_ble_eq_true rfl) rfl ?_
            refine ix_K_inc (L2 := [some (.ref a0), some (.int x1), some (.int 1), some (.int (x3 + 1))]) kq_Mo_isProof i_Mo_isProof_46 rfl rfl (Nat.le_of_ble_eq_true rfl) kci_1 rfl ?_
            refine ix_K_goto (tgt := 4) kq_Mo_isProof i_Mo_isProof_49 rfl (by decide) ?_
            exact ix_D_cut i_Mo_isProof_4 rfl
        · refine ix_K_ci kq_Mo_isProof i_Mo_isProof_44 rfl kci_0 ?_
          refine ix_K_si (L2 := [some (.ref a0), some (.int x1), some (.int 0), some (.int x3)]) kq_Mo_isProof i_Mo_isProof_45 rfl (Or.inr ⟨_, rfl, rfl⟩) (Nat.le_of_ble_eq_true rfl) rfl ?_
          refine ix_K_inc (L2 := [some (.ref a0), some (.int x1), some (.int 0), some (.int (x3 + 1))]) kq_Mo_isProof i_Mo_isProof_46 rfl rfl (Nat.le_of_ble_eq_true rfl) kci_1 rfl ?_
          refine ix_K_goto (tgt := 4) kq_Mo_isProof i_Mo_isProof_49 rfl (by decide) ?_
          exact ix_D_cut i_Mo_isProof_4 rfl
      · refine ix_K_ci kq_Mo_isProof i_Mo_isProof_44 rfl kci_0 ?_
        refine ix_K_si (L2 := [some (.ref a0), some (.int x1), some (.int 0), some (.int x3)]) kq_Mo_isProof i_Mo_isProof_45 rfl (Or.inr ⟨_, rfl, rfl⟩) (Nat.le_of_ble_eq_true rfl) rfl ?_
        refine ix_K_inc (L2 := [some (.ref a0), some (.int x1), some (.int 0), some (.int (x3 + 1))]) kq_Mo_isProof i_Mo_isProof_46 rfl rfl (Nat.le_of_ble_eq_true rfl) kci_1 rfl ?_
        refine ix_K_goto (tgt := 4) kq_Mo_isProof i_Mo_isProof_49 rfl (by decide) ?_
        exact ix_D_cut i_Mo_isProof_4 rfl
set_option maxRecDepth 20000 in
set_option maxHeartbeats 1000000 in
theorem e_Mo_isProof (a0 : Nat) (x1 : Int32) (h : ixH) : ix_D mMo_isProof 0 [some (.ref a0), some (.int x1), none, none] [] h = l_Mo_isProof_4 a0 x1 true 0 h := by
  refine ix_K_ci kq_Mo_isProof i_Mo_isProof_0 rfl kci_1 ?_
  refine ix_K_si (L2 := [some (.ref a0), some (.int x1), some (.int 1), none]) kq_Mo_isProof i_Mo_isProof_1 rfl (Or.inr ⟨_, rfl, rfl⟩) (Nat.le_of_ble_eq_true rfl) rfl ?_
  refine ix_K_ci kq_Mo_isProof i_Mo_isProof_2 rfl kci_0 ?_
  refine ix_K_si (L2 := [some (.ref a0), some (.int x1), some (.int 1), some (.int 0)]) kq_Mo_isProof i_Mo_isProof_3 rfl (Or.inr ⟨_, rfl, rfl⟩) (Nat.le_of_ble_eq_true rfl) rfl ?_
  exact ix_D_cut i_Mo_isProof_4 rfl
theorem x_Mo_isProof {a0 : Nat} {x1 : Int32} {h h1 : ixH} {v : Bool} (hr : ix_rc h a0 = some 11) (hd : ix_D mMo_isProof 0 [some (.ref a0), some (.int x1), none, none] [] h = some ([.int (ix_bi v)], h1)) : ix_M mMo_isProof [.ref a0, .int x1] h = some ([.int (ix_bi v)], h1) := ix_M_of (ix_ent_i kq_Mo_isProof rfl hr rfl (Nat.le_of_ble_eq_true rfl) rfl) hd (ix_okrZ rfl v)
theorem i_Mo_put_0 : ix_nx mMo_put 0 = some (0, .iconst 0, 1, none, [], 0) := rfl
theorem i_Mo_put_1 : ix_nx mMo_put 1 = some (0, .istore_n 3, 2, none, [], 0) := rfl
theorem i_Mo_put_2 : ix_nx mMo_put 2 = some (0, .lload_n 1, 3, none, [], 0) := rfl
theorem i_Mo_put_3 : ix_nx mMo_put 3 = some (0, .lstore 4, 5, none, [], 0) := rfl
theorem i_Mo_put_5 : ix_nx mMo_put 5 = some (0, .iload_n 3, 6, some [true, true, false, true, true, false, false], [], 0) := rfl
theorem i_Mo_put_6 : ix_nx mMo_put 6 = some (0, .bipush 8, 8, none, [], 0) := rfl
theorem i_Mo_put_8 : ix_nx mMo_put 8 = some (0, .if_icmp .ge 47, 11, none, [], 0) := rfl
theorem i_Mo_put_11 : ix_nx mMo_put 11 = some (0, .lload 4, 13, none, [], 0) := rfl
theorem i_Mo_put_13 : ix_nx mMo_put 13 = some (0, .ldc2_w 315, 16, none, [11], 255) := rfl
theorem i_Mo_put_16 : ix_nx mMo_put 16 = some (0, .land, 17, none, [], 0) := rfl
theorem i_Mo_put_17 : ix_nx mMo_put 17 = some (0, .lconst 0, 18, none, [], 0) := rfl
theorem i_Mo_put_18 : ix_nx mMo_put 18 = some (0, .lcmp, 19, none, [], 0) := rfl
theorem i_Mo_put_19 : ix_nx mMo_put 19 = some (0, .ifCond .eq 36, 22, none, [], 0) := rfl
theorem i_Mo_put_22 : ix_nx mMo_put 22 = some (0, .lload 4, 24, none, [], 0) := rfl
theorem i_Mo_put_24 : ix_nx mMo_put 24 = some (0, .ldc2_w 315, 27, none, [11], 255) := rfl
theorem i_Mo_put_27 : ix_nx mMo_put 27 = some (0, .land, 28, none, [], 0) := rfl
theorem i_Mo_put_28 : ix_nx mMo_put 28 = some (0, .l2i, 29, none, [], 0) := rfl
theorem i_Mo_put_29 : ix_nx mMo_put 29 = some (0, .bipush 33, 31, none, [], 0) := rfl
theorem i_Mo_put_31 : ix_nx mMo_put 31 = some (0, .bipush 126, 33, none, [], 0) := rfl
theorem i_Mo_put_33 : ix_nx mMo_put 33 = some (3, .invokestatic 98, 36, none, [1, 148, 174], 0) := rfl
theorem i_Mo_put_36 : ix_nx mMo_put 36 = some (0, .ifCond .ne 6, 39, none, [], 0) := rfl
theorem i_Mo_put_39 : ix_nx mMo_put 39 = some (0, .bipush (-2), 41, none, [], 0) := rfl
theorem i_Mo_put_41 : ix_nx mMo_put 41 = some (4, .ireturn, 42, none, [], 0) := rfl
theorem i_Mo_put_42 : ix_nx mMo_put 42 = some (0, .iinc 3 1, 45, none, [], 0) := rfl
theorem i_Mo_put_45 : ix_nx mMo_put 45 = some (0, .lload 4, 47, none, [], 0) := rfl
theorem i_Mo_put_47 : ix_nx mMo_put 47 = some (0, .bipush 8, 49, none, [], 0) := rfl
theorem i_Mo_put_49 : ix_nx mMo_put 49 = some (0, .lushr, 50, none, [], 0) := rfl
theorem i_Mo_put_50 : ix_nx mMo_put 50 = some (0, .lstore 4, 52, none, [], 0) := rfl
theorem i_Mo_put_52 : ix_nx mMo_put 52 = some (0, .goto (-47), 55, none, [], 0) := rfl
theorem i_Mo_put_55 : ix_nx mMo_put 55 = some (0, .iload_n 3, 56, some [true, true, false, true, true, false, false], [], 0) := rfl
theorem i_Mo_put_56 : ix_nx mMo_put 56 = some (0, .ifCond .eq 10, 59, none, [], 0) := rfl
theorem i_Mo_put_59 : ix_nx mMo_put 59 = some (0, .lload 4, 61, none, [], 0) := rfl
theorem i_Mo_put_61 : ix_nx mMo_put 61 = some (0, .lconst 0, 62, none, [], 0) := rfl
theorem i_Mo_put_62 : ix_nx mMo_put 62 = some (0, .lcmp, 63, none, [], 0) := rfl
theorem i_Mo_put_63 : ix_nx mMo_put 63 = some (0, .ifCond .eq 6, 66, none, [], 0) := rfl
theorem i_Mo_put_66 : ix_nx mMo_put 66 = some (0, .bipush (-2), 68, none, [], 0) := rfl
theorem i_Mo_put_68 : ix_nx mMo_put 68 = some (4, .ireturn, 69, none, [], 0) := rfl
theorem i_Mo_put_69 : ix_nx mMo_put 69 = some (0, .aload_n 0, 70, none, [], 0) := rfl
theorem i_Mo_put_70 : ix_nx mMo_put 70 = some (1, .getfield 317, 73, none, [11, 31, 0, 121], 0) := rfl
theorem i_Mo_put_73 : ix_nx mMo_put 73 = some (0, .iload_n 3, 74, none, [], 0) := rfl
theorem i_Mo_put_74 : ix_nx mMo_put 74 = some (0, .iadd, 75, none, [], 0) := rfl
theorem i_Mo_put_75 : ix_nx mMo_put 75 = some (0, .bipush 80, 77, none, [], 0) := rfl
theorem i_Mo_put_77 : ix_nx mMo_put 77 = some (0, .if_icmp .le 6, 80, none, [], 0) := rfl
theorem i_Mo_put_80 : ix_nx mMo_put 80 = some (0, .bipush (-4), 82, none, [], 0) := rfl
theorem i_Mo_put_82 : ix_nx mMo_put 82 = some (4, .ireturn, 83, none, [], 0) := rfl
theorem i_Mo_put_83 : ix_nx mMo_put 83 = some (0, .iconst 0, 84, none, [], 0) := rfl
theorem i_Mo_put_84 : ix_nx mMo_put 84 = some (0, .istore 6, 86, none, [], 0) := rfl
theorem i_Mo_put_86 : ix_nx mMo_put 86 = some (0, .iload 6, 88, some [true, true, false, true, false, false, true], [], 0) := rfl
theorem i_Mo_put_88 : ix_nx mMo_put 88 = some (0, .iload_n 3, 89, none, [], 0) := rfl
theorem i_Mo_put_89 : ix_nx mMo_put 89 = some (0, .if_icmp .ge 37, 92, none, [], 0) := rfl
theorem i_Mo_put_92 : ix_nx mMo_put 92 = some (0, .aload_n 0, 93, none, [], 0) := rfl
theorem i_Mo_put_93 : ix_nx mMo_put 93 = some (1, .getfield 87, 96, none, [11, 30, 2, 120], 0) := rfl
theorem i_Mo_put_96 : ix_nx mMo_put 96 = some (0, .aload_n 0, 97, none, [], 0) := rfl
theorem i_Mo_put_97 : ix_nx mMo_put 97 = some (1, .getfield 317, 100, none, [11, 31, 0, 121], 0) := rfl
theorem i_Mo_put_100 : ix_nx mMo_put 100 = some (0, .iload 6, 102, none, [], 0) := rfl
theorem i_Mo_put_102 : ix_nx mMo_put 102 = some (0, .iadd, 103, none, [], 0) := rfl
theorem i_Mo_put_103 : ix_nx mMo_put 103 = some (0, .lload_n 1, 104, none, [], 0) := rfl
theorem i_Mo_put_104 : ix_nx mMo_put 104 = some (0, .bipush 8, 106, none, [], 0) := rfl
theorem i_Mo_put_106 : ix_nx mMo_put 106 = some (0, .iload_n 3, 107, none, [], 0) := rfl
theorem i_Mo_put_107 : ix_nx mMo_put 107 = some (0, .iconst 1, 108, none, [], 0) := rfl
theorem i_Mo_put_108 : ix_nx mMo_put 108 = some (0, .isub, 109, none, [], 0) := rfl
theorem i_Mo_put_109 : ix_nx mMo_put 109 = some (0, .iload 6, 111, none, [], 0) := rfl
theorem i_Mo_put_111 : ix_nx mMo_put 111 = some (0, .isub, 112, none, [], 0) := rfl
theorem i_Mo_put_112 : ix_nx mMo_put 112 = some (0, .imul, 113, none, [], 0) := rfl
theorem i_Mo_put_113 : ix_nx mMo_put 113 = some (0, .lshr, 114, none, [], 0) := rfl
theorem i_Mo_put_114 : ix_nx mMo_put 114 = some (0, .ldc2_w 315, 117, none, [11], 255) := rfl
theorem i_Mo_put_117 : ix_nx mMo_put 117 = some (0, .land, 118, none, [], 0) := rfl
theorem i_Mo_put_118 : ix_nx mMo_put 118 = some (0, .l2i, 119, none, [], 0) := rfl
theorem i_Mo_put_119 : ix_nx mMo_put 119 = some (2, .iastore, 120, none, [], 0) := rfl
theorem i_Mo_put_120 : ix_nx mMo_put 120 = some (0, .iinc 6 1, 123, none, [], 0) := rfl
theorem i_Mo_put_123 : ix_nx mMo_put 123 = some (0, .goto (-37), 126, none, [], 0) := rfl
theorem i_Mo_put_126 : ix_nx mMo_put 126 = some (0, .aload_n 0, 127, none, [], 0) := rfl
theorem i_Mo_put_127 : ix_nx mMo_put 127 = some (0, .dup, 128, none, [], 0) := rfl
theorem i_Mo_put_128 : ix_nx mMo_put 128 = some (1, .getfield 317, 131, none, [11, 31, 0, 121], 0) := rfl
theorem i_Mo_put_131 : ix_nx mMo_put 131 = some (0, .iload_n 3, 132, none, [], 0) := rfl
theorem i_Mo_put_132 : ix_nx mMo_put 132 = some (0, .iadd, 133, none, [], 0) := rfl
theorem i_Mo_put_133 : ix_nx mMo_put 133 = some (2, .putfield 317, 136, none, [11, 31, 0, 121], 0) := rfl
theorem i_Mo_put_136 : ix_nx mMo_put 136 = some (0, .aload_n 0, 137, none, [], 0) := rfl
theorem i_Mo_put_137 : ix_nx mMo_put 137 = some (1, .getfield 317, 140, none, [11, 31, 0, 121], 0) := rfl
theorem i_Mo_put_140 : ix_nx mMo_put 140 = some (4, .ireturn, 141, none, [], 0) := rfl
noncomputable def l_Mo_put_5 (a0 : Nat) (x1 : Int64) (x3 : Int32) (x4 : Int64) (h : ixH) : Option (List Value × ixH) := ix_D mMo_put 5 [some (.ref a0), some (.long x1), none, some (.int x3), some (.long x4), none, none] [] h
noncomputable def l_Mo_put_55 (a0 : Nat) (x1 : Int64) (x3 : Int32) (x4 : Int64) (h : ixH) : Option (List Value × ixH) := ix_D mMo_put 55 [some (.ref a0), some (.long x1), none, some (.int x3), some (.long x4), none, none] [] h
noncomputable def l_Mo_put_86 (a0 : Nat) (x1 : Int64) (x3 : Int32) (x6 : Int32) (h : ixH) : Option (List Value × ixH) := ix_D mMo_put 86 [some (.ref a0), some (.long x1), none, some (.int x3), none, none, some (.int x6)] [] h
set_option maxRecDepth 20000 in
set_option maxHeartbeats 1000000 in
theorem e_Mo_put_5 (a0 : Nat) (x1 : Int64) (x3 : Int32) (x4 : Int64) (h : ixH) : l_Mo_put_5 a0 x1 x3 x4 h = if 8 ≤ x3 then l_Mo_put_55 a0 x1 x3 x4 h else if (x4 &&& 255) = 0 then l_Mo_put_55 a0 x1 x3 x4 h else (ix_M mMo_in [.int (Int64.toInt32 (x4 &&& 255)), .int 33, .int 126] h).bind fun r => ix_kZ r fun v2 h1 => if v2 = true then l_Mo_put_5 a0 x1 (x3 + 1) (ix_ush x4 8) h1 else some ([.int (-2)], h1) := by
  unfold l_Mo_put_5
  refine ix_K_px kq_Mo_put i_Mo_put_5 rfl rfl ?_
  refine ix_K_cb kq_Mo_put i_Mo_put_6 rfl kcb_8 ?_
  refine ix_K_ic_ge (tgt := 55) kq_Mo_put i_Mo_put_8 rfl (by decide) ?_ ?_
  · exact ix_D_cut i_Mo_put_55 rfl
  · refine ix_K_px kq_Mo_put i_Mo_put_11 rfl rfl ?_
    refine ix_K_c2 kq_Mo_put i_Mo_put_13 rfl kc2_255 ?_
    refine ix_K_px kq_Mo_put i_Mo_put_16 rfl rfl ?_
    refine ix_K_cl kq_Mo_put i_Mo_put_17 rfl kcl_0 ?_
    refine ix_K_px kq_Mo_put i_Mo_put_18 rfl rfl ?_
    refine ix_K_lc_eq (tgt := 55) kq_Mo_put i_Mo_put_19 rfl (by decide) ?_ ?_
    · exact ix_D_cut i_Mo_put_55 rfl
    · refine ix_K_px kq_Mo_put i_Mo_put_22 rfl rfl ?_
      refine ix_K_c2 kq_Mo_put i_Mo_put_24 rfl kc2_255 ?_
      refine ix_K_px kq_Mo_put i_Mo_put_27 rfl rfl ?_
      refine ix_K_px kq_Mo_put i_Mo_put_28 rfl rfl ?_
      refine ix_K_cb kq_Mo_put i_Mo_put_29 rfl kcb_33 ?_
      refine ix_K_cb kq_Mo_put i_Mo_put_31 rfl kcb_126 ?_
      refine ix_K_callZ (as := [.int (Int64.toInt32 (x4 &&& 255)), .int 33, .int 126]) (rest := []) kq_Mo_put i_Mo_put_33 rfl kq_Mo_in (by decide) rfl rfl (fun v2 h1 => ?_)
      refine ix_K_bz_ne (tgt := 42) kq_Mo_put i_Mo_put_36 rfl (by decide) ?_ ?_
      · refine ix_K_inc (L2 := [some (.ref a0), some (.long x1), none, some (.int (x3 + 1)), some (.long x4), none, none]) kq_Mo_put i_Mo_put_42 rfl rfl (Nat.le_of_ble_eq_true rfl) kci_1 rfl ?_
        refine ix_K_px kq_Mo_put i_Mo_put_45 rfl rfl ?_
        refine ix_K_cb kq_Mo_put i_Mo_put_47 rfl kcb_8 ?_
        refine ix_K_px kq_Mo_put i_Mo_put_49 rfl rfl ?_
        refine ix_K_sl (L2 := [some (.ref a0), some (.long x1), none, some (.int (x3 + 1)), some (.long (ix_ush x4 8)), none, none]) kq_Mo_put i_Mo_put_50 rfl (Or.inl rfl) (Nat.le_of_ble_eq_true rfl) rfl ?_
        refine ix_K_goto (tgt := 5) kq_Mo_put i_Mo_put_52 rfl (by decide) ?_
        exact ix_D_cut i_Mo_put_5 rfl
      · refine ix_K_cb kq_Mo_put i_Mo_put_39 rfl kcb_m2 ?_
        exact ix_D_ret kq_Mo_put i_Mo_put_41 (ix_rtI rfl _)
set_option maxRecDepth 20000 in
set_option maxHeartbeats 1000000 in
theorem e_Mo_put_55 (a0 : Nat) (x1 : Int64) (x3 : Int32) (x4 : Int64) (h : ixH) : l_Mo_put_55 a0 x1 x3 x4 h = if x3 = 0 then some ([.int (-2)], h) else if x4 = 0 then (ix_gi h a0 11 31).bind fun v1 => if (v1 + x3) ≤ 80 then l_Mo_put_86 a0 x1 x3 0 h else some ([.int (-4)], h) else some ([.int (-2)], h) := by
  unfold l_Mo_put_55
  refine ix_K_px kq_Mo_put i_Mo_put_55 rfl rfl ?_
  refine ix_K_if_eq (tgt := 66) kq_Mo_put i_Mo_put_56 rfl (by decide) ?_ ?_
  · refine ix_K_cb kq_Mo_put i_Mo_put_66 rfl kcb_m2 ?_
    exact ix_D_ret kq_Mo_put i_Mo_put_68 (ix_rtI rfl _)
  · refine ix_K_px kq_Mo_put i_Mo_put_59 rfl rfl ?_
    refine ix_K_cl kq_Mo_put i_Mo_put_61 rfl kcl_0 ?_
    refine ix_K_px kq_Mo_put i_Mo_put_62 rfl rfl ?_
    refine ix_K_lc_eq (tgt := 69) kq_Mo_put i_Mo_put_63 rfl (by decide) ?_ ?_
    · refine ix_K_px kq_Mo_put i_Mo_put_69 rfl rfl ?_
      refine ix_K_gi kq_Mo_put i_Mo_put_70 rfl (fun v1 => ?_)
      refine ix_K_px kq_Mo_put i_Mo_put_73 rfl rfl ?_
      refine ix_K_px kq_Mo_put i_Mo_put_74 rfl rfl ?_
      refine ix_K_cb kq_Mo_put i_Mo_put_75 rfl kcb_80 ?_
      refine ix_K_ic_le (tgt := 83) kq_Mo_put i_Mo_put_77 rfl (by decide) ?_ ?_
      · refine ix_K_ci kq_Mo_put i_Mo_put_83 rfl kci_0 ?_
        refine ix_K_si (L2 := [some (.ref a0), some (.long x1), none, some (.int x3), some (.long x4), none, some (.int 0)]) kq_Mo_put i_Mo_put_84 rfl (Or.inl rfl) (Nat.le_of_ble_eq_true rfl) rfl ?_
        exact ix_D_cut i_Mo_put_86 rfl
      · refine ix_K_cb kq_Mo_put i_Mo_put_80 rfl kcb_m4 ?_
        exact ix_D_ret kq_Mo_put i_Mo_put_82 (ix_rtI rfl _)
    · refine ix_K_cb kq_Mo_put i_Mo_put_66 rfl kcb_m2 ?_
      exact ix_D_ret kq_Mo_put i_Mo_put_68 (ix_rtI rfl _)
set_option maxRecDepth 20000 in
set_option maxHeartbeats 1000000 in
theorem e_Mo_put_86 (a0 : Nat) (x1 : Int64) (x3 : Int32) (x6 : Int32) (h : ixH) : l_Mo_put_86 a0 x1 x3 x6 h = if x3 ≤ x6 then (ix_gi h a0 11 31).bind fun v1 => (ix_pf h a0 11 31 (.int (v1 + x3))).bind fun h2 => (ix_gi h2 a0 11 31).bind fun v3 => some ([.int v3], h2) else (ix_gr h a0 11 30).bind fun v4 => (ix_gi h a0 11 31).bind fun v5 => (ix_si h v4 (v5 + x6) (Int64.toInt32 ((ix_shr x1 (8 * ((x3 - 1) - x6))) &&& 255))).bind fun h6 => l_Mo_put_86 a0 x1 x3 (x6 + 1) h6 := by
  unfold l_Mo_put_86
  refine ix_K_px kq_Mo_put i_Mo_put_86 rfl rfl ?_
  refine ix_K_px kq_Mo_put i_Mo_put_88 rfl rfl ?_
  refine ix_K_ic_ge (tgt := 126) kq_Mo_put i_Mo_put_89 rfl (by decide) ?_ ?_
  · refine ix_K_px kq_Mo_put i_Mo_put_126 rfl rfl ?_
    refine ix_K_px kq_Mo_put i_Mo_put_127 rfl rfl ?_
    refine ix_K_gi kq_Mo_put i_Mo_put_128 rfl (fun v1 => ?_)
    refine ix_K_px kq_Mo_put i_Mo_put_131 rfl rfl ?_
    refine ix_K_px kq_Mo_put i_Mo_put_132 rfl rfl ?_
    refine ix_K_pf kq_Mo_put i_Mo_put_133 rfl rfl (fun h2 => ?_)
    refine ix_K_px kq_Mo_put i_Mo_put_136 rfl rfl ?_
    refine ix_K_gi kq_Mo_put i_Mo_put_137 rfl (fun v3 => ?_)
    exact ix_D_ret kq_Mo_put i_Mo_put_140 (ix_rtI rfl _)
  · refine ix_K_px kq_Mo_put i_Mo_put_92 rfl rfl ?_
    refine ix_K_gr kq_Mo_put i_Mo_put_93 rfl (fun v4 => ?_)
    refine ix_K_px kq_Mo_put i_Mo_put_96 rfl rfl ?_
    refine ix_K_gi kq_Mo_put i_Mo_put_97 rfl (fun v5 => ?_)
    refine ix_K_px kq_Mo_put i_Mo_put_100 rfl rfl ?_
    refine ix_K_px kq_Mo_put i_Mo_put_102 rfl rfl ?_
    refine ix_K_px kq_Mo_put i_Mo_put_103 rfl rfl ?_
    refine ix_K_cb kq_Mo_put i_Mo_put_104 rfl kcb_8 ?_
    refine ix_K_px kq_Mo_put i_Mo_put_106 rfl rfl ?_
    refine ix_K_ci kq_Mo_put i_Mo_put_107 rfl kci_1 ?_
    refine ix_K_px kq_Mo_put i_Mo_put_108 rfl rfl ?_
    refine ix_K_px kq_Mo_put i_Mo_put_109 rfl rfl ?_
    refine ix_K_px kq_Mo_put i_Mo_put_111 rfl rfl ?_
    refine ix_K_px kq_Mo_put i_Mo_put_112 rfl rfl ?_
    refine ix_K_px kq_Mo_put i_Mo_put_113 rfl rfl ?_
    refine ix_K_c2 kq_Mo_put i_Mo_put_114 rfl kc2_255 ?_
    refine ix_K_px kq_Mo_put i_Mo_put_117 rfl rfl ?_
    refine ix_K_px kq_Mo_put i_Mo_put_118 rfl rfl ?_
    refine ix_K_ti kq_Mo_put i_Mo_put_119 rfl (fun h6 => ?_)
    refine ix_K_inc (L2 := [some (.ref a0), some (.long x1), none, some (.int x3), none, none, some (.int (x6 + 1))]) kq_Mo_put i_Mo_put_120 rfl rfl (Nat.le_of_ble_eq_true rfl) kci_1 rfl ?_
    refine ix_K_goto (tgt := 86) kq_Mo_put i_Mo_put_123 rfl (by decide) ?_
    exact ix_D_cut i_Mo_put_86 rfl
set_option maxRecDepth 20000 in
set_option maxHeartbeats 1000000 in
theorem e_Mo_put (a0 : Nat) (x1 : Int64) (h : ixH) : ix_D mMo_put 0 [some (.ref a0), some (.long x1), none, none, none, none, none] [] h = l_Mo_put_5 a0 x1 0 x1 h := by
  refine ix_K_ci kq_Mo_put i_Mo_put_0 rfl kci_0 ?_
  refine ix_K_si (L2 := [some (.ref a0), some (.long x1), none, some (.int 0), none, none, none]) kq_Mo_put i_Mo_put_1 rfl (Or.inr ⟨_, rfl, rfl⟩) (Nat.le_of_ble_eq_true rfl) rfl ?_
  refine ix_K_px kq_Mo_put i_Mo_put_2 rfl rfl ?_
  refine ix_K_sl (L2 := [some (.ref a0), some (.long x1), none, some (.int 0), some (.long x1), none, none]) kq_Mo_put i_Mo_put_3 rfl (Or.inl rfl) (Nat.le_of_ble_eq_true rfl) rfl ?_
  exact ix_D_cut i_Mo_put_5 rfl
theorem x_Mo_put {a0 : Nat} {x1 : Int64} {h h1 : ixH} {v : Int32} (hr : ix_rc h a0 = some 11) (hd : ix_D mMo_put 0 [some (.ref a0), some (.long x1), none, none, none, none, none] [] h = some ([.int v], h1)) : ix_M mMo_put [.ref a0, .long x1] h = some ([.int v], h1) := ix_M_of (ix_ent_i kq_Mo_put rfl hr rfl (Nat.le_of_ble_eq_true rfl) rfl) hd (ix_okrI (Or.inl rfl) v)
theorem i_Mo_wipe_0 : ix_nx mMo_wipe 0 = some (0, .aload_n 0, 1, none, [], 0) := rfl
theorem i_Mo_wipe_1 : ix_nx mMo_wipe 1 = some (1, .getfield 317, 4, none, [11, 31, 0, 121], 0) := rfl
theorem i_Mo_wipe_4 : ix_nx mMo_wipe 4 = some (0, .istore_n 1, 5, none, [], 0) := rfl
theorem i_Mo_wipe_5 : ix_nx mMo_wipe 5 = some (0, .aload_n 0, 6, none, [], 0) := rfl
theorem i_Mo_wipe_6 : ix_nx mMo_wipe 6 = some (0, .iconst 0, 7, none, [], 0) := rfl
theorem i_Mo_wipe_7 : ix_nx mMo_wipe 7 = some (2, .putfield 317, 10, none, [11, 31, 0, 121], 0) := rfl
theorem i_Mo_wipe_10 : ix_nx mMo_wipe 10 = some (0, .iload_n 1, 11, none, [], 0) := rfl
theorem i_Mo_wipe_11 : ix_nx mMo_wipe 11 = some (4, .ireturn, 12, none, [], 0) := rfl
set_option maxRecDepth 20000 in
set_option maxHeartbeats 1000000 in
theorem e_Mo_wipe (a0 : Nat) (h : ixH) : ix_D mMo_wipe 0 [some (.ref a0), none] [] h = (ix_gi h a0 11 31).bind fun v1 => (ix_pf h a0 11 31 (.int 0)).bind fun h2 => some ([.int v1], h2) := by
  refine ix_K_px kq_Mo_wipe i_Mo_wipe_0 rfl rfl ?_
  refine ix_K_gi kq_Mo_wipe i_Mo_wipe_1 rfl (fun v1 => ?_)
  refine ix_K_si (L2 := [some (.ref a0), some (.int v1)]) kq_Mo_wipe i_Mo_wipe_4 rfl (Or.inr ⟨_, rfl, rfl⟩) (Nat.le_of_ble_eq_true rfl) rfl ?_
  refine ix_K_px kq_Mo_wipe i_Mo_wipe_5 rfl rfl ?_
  refine ix_K_ci kq_Mo_wipe i_Mo_wipe_6 rfl kci_0 ?_
  refine ix_K_pf kq_Mo_wipe i_Mo_wipe_7 rfl rfl (fun h2 => ?_)
  refine ix_K_px kq_Mo_wipe i_Mo_wipe_10 rfl rfl ?_
  exact ix_D_ret kq_Mo_wipe i_Mo_wipe_11 (ix_rtI rfl _)
theorem x_Mo_wipe {a0 : Nat} {h h1 : ixH} {v : Int32} (hr : ix_rc h a0 = some 11) (hd : ix_D mMo_wipe 0 [some (.ref a0), none] [] h = some ([.int v], h1)) : ix_M mMo_wipe [.ref a0] h = some ([.int v], h1) := ix_M_of (ix_ent_i kq_Mo_wipe rfl hr rfl (Nat.le_of_ble_eq_true rfl) rfl) hd (ix_okrI (Or.inl rfl) v)
theorem i_Mo_fault_0 : ix_nx mMo_fault 0 = some (0, .aload_n 0, 1, none, [], 0) := rfl
theorem i_Mo_fault_1 : ix_nx mMo_fault 1 = some (0, .iconst 0, 2, none, [], 0) := rfl
theorem i_Mo_fault_2 : ix_nx mMo_fault 2 = some (2, .putfield 320, 5, none, [11, 32, 0, 122], 0) := rfl
theorem i_Mo_fault_5 : ix_nx mMo_fault 5 = some (0, .aload_n 0, 6, none, [], 0) := rfl
theorem i_Mo_fault_6 : ix_nx mMo_fault 6 = some (0, .iconst 1, 7, none, [], 0) := rfl
theorem i_Mo_fault_7 : ix_nx mMo_fault 7 = some (2, .putfield 323, 10, none, [11, 33, 0, 123], 0) := rfl
theorem i_Mo_fault_10 : ix_nx mMo_fault 10 = some (0, .iconst 0, 11, none, [], 0) := rfl
theorem i_Mo_fault_11 : ix_nx mMo_fault 11 = some (0, .istore_n 1, 12, none, [], 0) := rfl
theorem i_Mo_fault_12 : ix_nx mMo_fault 12 = some (0, .iconst 0, 13, none, [], 0) := rfl
theorem i_Mo_fault_13 : ix_nx mMo_fault 13 = some (0, .istore_n 2, 14, none, [], 0) := rfl
theorem i_Mo_fault_14 : ix_nx mMo_fault 14 = some (0, .iload_n 2, 15, some [true, true, true, false, false], [], 0) := rfl
theorem i_Mo_fault_15 : ix_nx mMo_fault 15 = some (0, .aload_n 0, 16, none, [], 0) := rfl
theorem i_Mo_fault_16 : ix_nx mMo_fault 16 = some (1, .getfield 317, 19, none, [11, 31, 0, 121], 0) := rfl
theorem i_Mo_fault_19 : ix_nx mMo_fault 19 = some (0, .if_icmp .ge 135, 22, none, [], 0) := rfl
theorem i_Mo_fault_22 : ix_nx mMo_fault 22 = some (0, .aload_n 0, 23, none, [], 0) := rfl
theorem i_Mo_fault_23 : ix_nx mMo_fault 23 = some (1, .getfield 87, 26, none, [11, 30, 2, 120], 0) := rfl
theorem i_Mo_fault_26 : ix_nx mMo_fault 26 = some (0, .iload_n 2, 27, none, [], 0) := rfl
theorem i_Mo_fault_27 : ix_nx mMo_fault 27 = some (1, .iaload, 28, none, [], 0) := rfl
theorem i_Mo_fault_28 : ix_nx mMo_fault 28 = some (0, .bipush 47, 30, none, [], 0) := rfl
theorem i_Mo_fault_30 : ix_nx mMo_fault 30 = some (0, .if_icmp .ne 7, 33, none, [], 0) := rfl
theorem i_Mo_fault_33 : ix_nx mMo_fault 33 = some (0, .iconst 1, 34, none, [], 0) := rfl
theorem i_Mo_fault_34 : ix_nx mMo_fault 34 = some (0, .goto 4, 37, none, [], 0) := rfl
theorem i_Mo_fault_37 : ix_nx mMo_fault 37 = some (0, .iconst 0, 38, none, [], 0) := rfl
theorem i_Mo_fault_38 : ix_nx mMo_fault 38 = some (0, .istore_n 3, 39, some [true, true, true, false, false], [], 0) := rfl
theorem i_Mo_fault_39 : ix_nx mMo_fault 39 = some (0, .iload_n 3, 40, none, [], 0) := rfl
theorem i_Mo_fault_40 : ix_nx mMo_fault 40 = some (0, .ifCond .eq 70, 43, none, [], 0) := rfl
theorem i_Mo_fault_43 : ix_nx mMo_fault 43 = some (0, .aload_n 0, 44, none, [], 0) := rfl
theorem i_Mo_fault_44 : ix_nx mMo_fault 44 = some (1, .getfield 323, 47, none, [11, 33, 0, 123], 0) := rfl
theorem i_Mo_fault_47 : ix_nx mMo_fault 47 = some (0, .bipush 8, 49, none, [], 0) := rfl
theorem i_Mo_fault_49 : ix_nx mMo_fault 49 = some (0, .if_icmp .ge 31, 52, none, [], 0) := rfl
theorem i_Mo_fault_52 : ix_nx mMo_fault 52 = some (0, .aload_n 0, 53, none, [], 0) := rfl
theorem i_Mo_fault_53 : ix_nx mMo_fault 53 = some (1, .getfield 323, 56, none, [11, 33, 0, 123], 0) := rfl
theorem i_Mo_fault_56 : ix_nx mMo_fault 56 = some (0, .iconst 1, 57, none, [], 0) := rfl
theorem i_Mo_fault_57 : ix_nx mMo_fault 57 = some (0, .if_icmp .ne 11, 60, none, [], 0) := rfl
theorem i_Mo_fault_60 : ix_nx mMo_fault 60 = some (0, .iload_n 1, 61, none, [], 0) := rfl
theorem i_Mo_fault_61 : ix_nx mMo_fault 61 = some (0, .iconst 2, 62, none, [], 0) := rfl
theorem i_Mo_fault_62 : ix_nx mMo_fault 62 = some (0, .if_icmp .lt 18, 65, none, [], 0) := rfl
theorem i_Mo_fault_65 : ix_nx mMo_fault 65 = some (0, .goto 11, 68, none, [], 0) := rfl
theorem i_Mo_fault_68 : ix_nx mMo_fault 68 = some (0, .iload_n 1, 69, none, [], 0) := rfl
theorem i_Mo_fault_69 : ix_nx mMo_fault 69 = some (0, .aload_n 0, 70, none, [], 0) := rfl
theorem i_Mo_fault_70 : ix_nx mMo_fault 70 = some (1, .getfield 320, 73, none, [11, 32, 0, 122], 0) := rfl
theorem i_Mo_fault_73 : ix_nx mMo_fault 73 = some (0, .if_icmp .ne 7, 76, none, [], 0) := rfl
theorem i_Mo_fault_76 : ix_nx mMo_fault 76 = some (0, .iconst 1, 77, none, [], 0) := rfl
theorem i_Mo_fault_77 : ix_nx mMo_fault 77 = some (0, .goto 4, 80, none, [], 0) := rfl
theorem i_Mo_fault_80 : ix_nx mMo_fault 80 = some (0, .iconst 0, 81, none, [], 0) := rfl
theorem i_Mo_fault_81 : ix_nx mMo_fault 81 = some (0, .istore 4, 83, some [true, true, true, false, false], [], 0) := rfl
theorem i_Mo_fault_83 : ix_nx mMo_fault 83 = some (0, .iload 4, 85, none, [], 0) := rfl
theorem i_Mo_fault_85 : ix_nx mMo_fault 85 = some (0, .ifCond .ne 5, 88, none, [], 0) := rfl
theorem i_Mo_fault_88 : ix_nx mMo_fault 88 = some (0, .iload_n 2, 89, none, [], 0) := rfl
theorem i_Mo_fault_89 : ix_nx mMo_fault 89 = some (4, .ireturn, 90, none, [], 0) := rfl
theorem i_Mo_fault_90 : ix_nx mMo_fault 90 = some (0, .aload_n 0, 91, none, [], 0) := rfl
theorem i_Mo_fault_91 : ix_nx mMo_fault 91 = some (0, .iload_n 1, 92, none, [], 0) := rfl
theorem i_Mo_fault_92 : ix_nx mMo_fault 92 = some (2, .putfield 320, 95, none, [11, 32, 0, 122], 0) := rfl
theorem i_Mo_fault_95 : ix_nx mMo_fault 95 = some (0, .aload_n 0, 96, none, [], 0) := rfl
theorem i_Mo_fault_96 : ix_nx mMo_fault 96 = some (0, .dup, 97, none, [], 0) := rfl
theorem i_Mo_fault_97 : ix_nx mMo_fault 97 = some (1, .getfield 323, 100, none, [11, 33, 0, 123], 0) := rfl
theorem i_Mo_fault_100 : ix_nx mMo_fault 100 = some (0, .iconst 1, 101, none, [], 0) := rfl
theorem i_Mo_fault_101 : ix_nx mMo_fault 101 = some (0, .iadd, 102, none, [], 0) := rfl
theorem i_Mo_fault_102 : ix_nx mMo_fault 102 = some (2, .putfield 323, 105, none, [11, 33, 0, 123], 0) := rfl
theorem i_Mo_fault_105 : ix_nx mMo_fault 105 = some (0, .iconst 0, 106, none, [], 0) := rfl
theorem i_Mo_fault_106 : ix_nx mMo_fault 106 = some (0, .istore_n 1, 107, none, [], 0) := rfl
theorem i_Mo_fault_107 : ix_nx mMo_fault 107 = some (0, .goto 41, 110, none, [], 0) := rfl
theorem i_Mo_fault_110 : ix_nx mMo_fault 110 = some (0, .aload_n 0, 111, none, [], 0) := rfl
theorem i_Mo_fault_111 : ix_nx mMo_fault 111 = some (1, .getfield 87, 114, none, [11, 30, 2, 120], 0) := rfl
theorem i_Mo_fault_114 : ix_nx mMo_fault 114 = some (0, .iload_n 2, 115, none, [], 0) := rfl
theorem i_Mo_fault_115 : ix_nx mMo_fault 115 = some (1, .iaload, 116, none, [], 0) := rfl
theorem i_Mo_fault_116 : ix_nx mMo_fault 116 = some (3, .invokestatic 326, 119, none, [1, 239, 238], 0) := rfl
theorem i_Mo_fault_119 : ix_nx mMo_fault 119 = some (0, .ifCond .lt 24, 122, none, [], 0) := rfl
theorem i_Mo_fault_122 : ix_nx mMo_fault 122 = some (0, .iload_n 1, 123, none, [], 0) := rfl
theorem i_Mo_fault_123 : ix_nx mMo_fault 123 = some (0, .aload_n 0, 124, none, [], 0) := rfl
theorem i_Mo_fault_124 : ix_nx mMo_fault 124 = some (1, .getfield 323, 127, none, [11, 33, 0, 123], 0) := rfl
theorem i_Mo_fault_127 : ix_nx mMo_fault 127 = some (0, .iconst 1, 128, none, [], 0) := rfl
theorem i_Mo_fault_128 : ix_nx mMo_fault 128 = some (0, .if_icmp .ne 8, 131, none, [], 0) := rfl
theorem i_Mo_fault_131 : ix_nx mMo_fault 131 = some (0, .bipush 8, 133, none, [], 0) := rfl
theorem i_Mo_fault_133 : ix_nx mMo_fault 133 = some (0, .goto 7, 136, none, [], 0) := rfl
theorem i_Mo_fault_136 : ix_nx mMo_fault 136 = some (0, .aload_n 0, 137, none, [], 0) := rfl
theorem i_Mo_fault_137 : ix_nx mMo_fault 137 = some (1, .getfield 320, 140, none, [11, 32, 0, 122], 0) := rfl
theorem i_Mo_fault_140 : ix_nx mMo_fault 140 = some (0, .if_icmp .ne 5, 143, none, [], 0) := rfl
theorem i_Mo_fault_143 : ix_nx mMo_fault 143 = some (0, .iload_n 2, 144, none, [], 0) := rfl
theorem i_Mo_fault_144 : ix_nx mMo_fault 144 = some (4, .ireturn, 145, none, [], 0) := rfl
theorem i_Mo_fault_145 : ix_nx mMo_fault 145 = some (0, .iinc 1 1, 148, none, [], 0) := rfl
set_option maxRecDepth 50000 in
theorem i_Mo_fault_148 : ix_nx mMo_fault 148 = some (0, .iinc 2 1, 151, none, [], 0) := rfl
set_option maxRecDepth 50000 in
theorem i_Mo_fault_151 : ix_nx mMo_fault 151 = some (0, .goto (-137), 154, none, [], 0) := rfl
set_option maxRecDepth 50000 in
theorem i_Mo_fault_154 : ix_nx mMo_fault 154 = some (0, .aload_n 0, 155, none, [], 0) := rfl
set_option maxRecDepth 50000 in
theorem i_Mo_fault_155 : ix_nx mMo_fault 155 = some (1, .getfield 323, 158, none, [11, 33, 0, 123], 0) := rfl
set_option maxRecDepth 50000 in
theorem i_Mo_fault_158 : ix_nx mMo_fault 158 = some (0, .iconst 1, 159, none, [], 0) := rfl
set_option maxRecDepth 50000 in
theorem i_Mo_fault_159 : ix_nx mMo_fault 159 = some (0, .if_icmp .le 16, 162, none, [], 0) := rfl
set_option maxRecDepth 50000 in
theorem i_Mo_fault_162 : ix_nx mMo_fault 162 = some (0, .iload_n 1, 163, none, [], 0) := rfl
set_option maxRecDepth 50000 in
theorem i_Mo_fault_163 : ix_nx mMo_fault 163 = some (0, .aload_n 0, 164, none, [], 0) := rfl
set_option maxRecDepth 50000 in
theorem i_Mo_fault_164 : ix_nx mMo_fault 164 = some (1, .getfield 320, 167, none, [11, 32, 0, 122], 0) := rfl
set_option maxRecDepth 50000 in
theorem i_Mo_fault_167 : ix_nx mMo_fault 167 = some (0, .if_icmp .ne 8, 170, none, [], 0) := rfl
set_option maxRecDepth 50000 in
theorem i_Mo_fault_170 : ix_nx mMo_fault 170 = some (0, .bipush (-6), 172, none, [], 0) := rfl
set_option maxRecDepth 50000 in
theorem i_Mo_fault_172 : ix_nx mMo_fault 172 = some (0, .goto 7, 175, none, [], 0) := rfl
set_option maxRecDepth 50000 in
theorem i_Mo_fault_175 : ix_nx mMo_fault 175 = some (0, .aload_n 0, 176, none, [], 0) := rfl
set_option maxRecDepth 50000 in
theorem i_Mo_fault_176 : ix_nx mMo_fault 176 = some (1, .getfield 317, 179, none, [11, 31, 0, 121], 0) := rfl
set_option maxRecDepth 50000 in
theorem i_Mo_fault_179 : ix_nx mMo_fault 179 = some (4, .ireturn, 180, none, [], 0) := rfl
noncomputable def l_Mo_fault_14 (a0 : Nat) (x1 : Int32) (x2 : Int32) (h : ixH) : Option (List Value × ixH) := ix_D mMo_fault 14 [some (.ref a0), some (.int x1), some (.int x2), none, none] [] h
noncomputable def l_Mo_fault_38 (a0 : Nat) (x1 : Int32) (x2 : Int32) (sb0 : Bool) (h : ixH) : Option (List Value × ixH) := ix_D mMo_fault 38 [some (.ref a0), some (.int x1), some (.int x2), none, none] [.int (ix_bi sb0)] h
noncomputable def l_Mo_fault_81 (a0 : Nat) (x1 : Int32) (x2 : Int32) (sb0 : Bool) (h : ixH) : Option (List Value × ixH) := ix_D mMo_fault 81 [some (.ref a0), some (.int x1), some (.int x2), none, none] [.int (ix_bi sb0)] h
set_option maxRecDepth 20000 in
set_option maxHeartbeats 1000000 in
theorem e_Mo_fault_14 (a0 : Nat) (x1 : Int32) (x2 : Int32) (h : ixH) : l_Mo_fault_14 a0 x1 x2 h = (ix_gi h a0 11 31).bind fun v1 => if v1 ≤ x2 then (ix_gi h a0 11 33).bind fun v2 => if v2 ≤ 1 then (ix_gi h a0 11 31).bind fun v3 => some ([.int v3], h) else (ix_gi h a0 11 32).bind fun v4 => if ¬ x1 = v4 then (ix_gi h a0 11 31).bind fun v5 => some ([.int v5], h) else some ([.int (-6)], h) else (ix_gr h a0 11 30).bind fun v6 => (ix_ai h v6 x2).bind fun v7 => if ¬ v7 = 47 then l_Mo_fault_38 a0 x1 x2 false h else l_Mo_fault_38 a0 x1 x2 true h := by
  unfold l_Mo_fault_14
  refine ix_K_px kq_Mo_fault i_Mo_fault_14 rfl rfl ?_
  refine ix_K_px kq_Mo_fault i_Mo_fault_15 rfl rfl ?_
  refine ix_K_gi kq_Mo_fault i_Mo_fault_16 rfl (fun v1 => ?_)
  refine ix_K_ic_ge (tgt := 154) kq_Mo_fault i_Mo_fault_19 rfl (by decide) ?_ ?_
  · refine ix_K_px kq_Mo_fault i_Mo_fault_154 rfl rfl ?_
    refine ix_K_gi kq_Mo_fault i_Mo_fault_155 rfl (fun v2 => ?_)
    refine ix_K_ci kq_Mo_fault i_Mo_fault_158 rfl kci_1 ?_
    refine ix_K_ic_le (tgt := 175) kq_Mo_fault i_Mo_fault_159 rfl (by decide) ?_ ?_
    · refine ix_K_px kq_Mo_fault i_Mo_fault_175 rfl rfl ?_
      refine ix_K_gi kq_Mo_fault i_Mo_fault_176 rfl (fun v3 => ?_)
      exact ix_D_ret kq_Mo_fault i_Mo_fault_179 (ix_rtI rfl _)
    · refine ix_K_px kq_Mo_fault i_Mo_fault_162 rfl rfl ?_
      refine ix_K_px kq_Mo_fault i_Mo_fault_163 rfl rfl ?_
      refine ix_K_gi kq_Mo_fault i_Mo_fault_164 rfl (fun v4 => ?_)
      refine ix_K_ic_ne (tgt := 175) kq_Mo_fault i_Mo_fault_167 rfl (by decide) ?_ ?_
      · refine ix_K_px kq_Mo_fault i_Mo_fault_175 rfl rfl ?_
        refine ix_K_gi kq_Mo_fault i_Mo_fault_176 rfl (fun v5 => ?_)
        exact ix_D_ret kq_Mo_fault i_Mo_fault_179 (ix_rtI rfl _)
      · refine ix_K_cb kq_Mo_fault i_Mo_fault_170 rfl kcb_m6 ?_
        refine ix_K_goto (tgt := 179) kq_Mo_fault i_Mo_fault_172 rfl (by decide) ?_
        exact ix_D_ret kq_Mo_fault i_Mo_fault_179 (ix_rtI rfl _)
  · refine ix_K_px kq_Mo_fault i_Mo_fault_22 rfl rfl ?_
    refine ix_K_gr kq_Mo_fault i_Mo_fault_23 rfl (fun v6 => ?_)
    refine ix_K_px kq_Mo_fault i_Mo_fault_26 rfl rfl ?_
    refine ix_K_ai kq_Mo_fault i_Mo_fault_27 rfl (fun v7 => ?_)
    refine ix_K_cb kq_Mo_fault i_Mo_fault_28 rfl kcb_47 ?_
    refine ix_K_ic_ne (tgt := 37) kq_Mo_fault i_Mo_fault_30 rfl (by decide) ?_ ?_
    · refine ix_K_ci kq_Mo_fault i_Mo_fault_37 rfl kci_0 ?_
      exact ix_D_cut i_Mo_fault_38 rfl
    · refine ix_K_ci kq_Mo_fault i_Mo_fault_33 rfl kci_1 ?_
      refine ix_K_goto (tgt := 38) kq_Mo_fault i_Mo_fault_34 rfl (by decide) ?_
      exact ix_D_cut i_Mo_fault_38 rfl
set_option maxRecDepth 20000 in
set_option maxHeartbeats 1000000 in
theorem e_Mo_fault_38 (a0 : Nat) (x1 : Int32) (x2 : Int32) (sb0 : Bool) (h : ixH) : l_Mo_fault_38 a0 x1 x2 sb0 h = if sb0 = true then (ix_gi h a0 11 33).bind fun v1 => if 8 ≤ v1 then l_Mo_fault_81 a0 x1 x2 false h else (ix_gi h a0 11 33).bind fun v2 => if ¬ v2 = 1 then (ix_gi h a0 11 32).bind fun v3 => if ¬ x1 = v3 then l_Mo_fault_81 a0 x1 x2 false h else l_Mo_fault_81 a0 x1 x2 true h else if x1 < 2 then l_Mo_fault_81 a0 x1 x2 false h else l_Mo_fault_81 a0 x1 x2 true h else (ix_gr h a0 11 30).bind fun v4 => (ix_ai h v4 x2).bind fun v5 => (ix_M mMo_roleOf [.int v5] h).bind fun r => ix_kI r fun v7 h6 => if v7 < 0 then some ([.int x2], h6) else (ix_gi h6 a0 11 33).bind fun v8 => if ¬ v8 = 1 then (ix_gi h6 a0 11 32).bind fun v9 => if ¬ x1 = v9 then l_Mo_fault_14 a0 (x1 + 1) (x2 + 1) h6 else some ([.int x2], h6) else if ¬ x1 = 8 then l_Mo_fault_14 a0 (x1 + 1) (x2 + 1) h6 else some ([.int x2], h6) := by
  unfold l_Mo_fault_38
  refine ix_K_si (L2 := [some (.ref a0), some (.int x1), some (.int x2), some (.int (ix_bi sb0)), none]) kq_Mo_fault i_Mo_fault_38 rfl (Or.inr ⟨_, rfl, rfl⟩) (Nat.le_of_ble_eq_true rfl) rfl ?_
  refine ix_K_px kq_Mo_fault i_Mo_fault_39 rfl rfl ?_
  refine ix_K_bz_eq (tgt := 110) kq_Mo_fault i_Mo_fault_40 rfl (by decide) ?_ ?_
  · refine ix_K_px kq_Mo_fault i_Mo_fault_43 rfl rfl ?_
    refine ix_K_gi kq_Mo_fault i_Mo_fault_44 rfl (fun v1 => ?_)
    refine ix_K_cb kq_Mo_fault i_Mo_fault_47 rfl kcb_8 ?_
    refine ix_K_ic_ge (tgt := 80) kq_Mo_fault i_Mo_fault_49 rfl (by decide) ?_ ?_
    · refine ix_K_ci kq_Mo_fault i_Mo_fault_80 rfl kci_0 ?_
      exact ix_D_cut i_Mo_fault_81 rfl
    · refine ix_K_px kq_Mo_fault i_Mo_fault_52 rfl rfl ?_
      refine ix_K_gi kq_Mo_fault i_Mo_fault_53 rfl (fun v2 => ?_)
      refine ix_K_ci kq_Mo_fault i_Mo_fault_56 rfl kci_1 ?_
      refine ix_K_ic_ne (tgt := 68) kq_Mo_fault i_Mo_fault_57 rfl (by decide) ?_ ?_
      · refine ix_K_px kq_Mo_fault i_Mo_fault_68 rfl rfl ?_
        refine ix_K_px kq_Mo_fault i_Mo_fault_69 rfl rfl ?_
        refine ix_K_gi kq_Mo_fault i_Mo_fault_70 rfl (fun v3 => ?_)
        refine ix_K_ic_ne (tgt := 80) kq_Mo_fault i_Mo_fault_73 rfl (by decide) ?_ ?_
        · refine ix_K_ci kq_Mo_fault i_Mo_fault_80 rfl kci_0 ?_
          exact ix_D_cut i_Mo_fault_81 rfl
        · refine ix_K_ci kq_Mo_fault i_Mo_fault_76 rfl kci_1 ?_
          refine ix_K_goto (tgt := 81) kq_Mo_fault i_Mo_fault_77 rfl (by decide) ?_
          exact ix_D_cut i_Mo_fault_81 rfl
      · refine ix_K_px kq_Mo_fault i_Mo_fault_60 rfl rfl ?_
        refine ix_K_ci kq_Mo_fault i_Mo_fault_61 rfl kci_2 ?_
        refine ix_K_ic_lt (tgt := 80) kq_Mo_fault i_Mo_fault_62 rfl (by decide) ?_ ?_
        · refine ix_K_ci kq_Mo_fault i_Mo_fault_80 rfl kci_0 ?_
          exact ix_D_cut i_Mo_fault_81 rfl
        · refine ix_K_goto (tgt := 76) kq_Mo_fault i_Mo_fault_65 rfl (by decide) ?_
          refine ix_K_ci kq_Mo_fault i_Mo_fault_76 rfl kci_1 ?_
          refine ix_K_goto (tgt := 81) kq_Mo_fault i_Mo_fault_77 rfl (by decide) ?_
          exact ix_D_cut i_Mo_fault_81 rfl
  · refine ix_K_px kq_Mo_fault i_Mo_fault_110 rfl rfl ?_
    refine ix_K_gr kq_Mo_fault i_Mo_fault_111 rfl (fun v4 => ?_)
    refine ix_K_px kq_Mo_fault i_Mo_fault_114 rfl rfl ?_
    refine ix_K_ai kq_Mo_fault i_Mo_fault_115 rfl (fun v5 => ?_)
    refine ix_K_callI (as := [.int v5]) (rest := []) kq_Mo_fault i_Mo_fault_116 rfl kq_Mo_roleOf (by decide) rfl (Or.inl rfl) (fun v7 h6 => ?_)
    refine ix_K_if_lt (tgt := 143) kq_Mo_fault i_Mo_fault_119 rfl (by decide) ?_ ?_
    · refine ix_K_px kq_Mo_fault i_Mo_fault_143 rfl rfl ?_
      exact ix_D_ret kq_Mo_fault i_Mo_fault_144 (ix_rtI rfl _)
    · refine ix_K_px kq_Mo_fault i_Mo_fault_122 rfl rfl ?_
      refine ix_K_px kq_Mo_fault i_Mo_fault_123 rfl rfl ?_
      refine ix_K_gi kq_Mo_fault i_Mo_fault_124 rfl (fun v8 => ?_)
      refine ix_K_ci kq_Mo_fault i_Mo_fault_127 rfl kci_1 ?_
      refine ix_K_ic_ne (tgt := 136) kq_Mo_fault i_Mo_fault_128 rfl (by decide) ?_ ?_
      · refine ix_K_px kq_Mo_fault i_Mo_fault_136 rfl rfl ?_
        refine ix_K_gi kq_Mo_fault i_Mo_fault_137 rfl (fun v9 => ?_)
        refine ix_K_ic_ne (tgt := 145) kq_Mo_fault i_Mo_fault_140 rfl (by decide) ?_ ?_
        · refine ix_K_inc (L2 := [some (.ref a0), some (.int (x1 + 1)), some (.int x2), some (.int (ix_bi sb0)), none]) kq_Mo_fault i_Mo_fault_145 rfl rfl (Nat.le_of_ble_eq_true rfl) kci_1 rfl ?_
          refine ix_K_inc (L2 := [some (.ref a0), some (.int (x1 + 1)), some (.int (x2 + 1)), some (.int (ix_bi sb0)), none]) kq_Mo_fault i_Mo_fault_148 rfl rfl (Nat.le_of_ble_eq_true rfl) kci_1 rfl ?_
          refine ix_K_goto (tgt := 14) kq_Mo_fault i_Mo_fault_151 rfl (by decide) ?_
          exact ix_D_cut i_Mo_fault_14 rfl
        · refine ix_K_px kq_Mo_fault i_Mo_fault_143 rfl rfl ?_
          exact ix_D_ret kq_Mo_fault i_Mo_fault_144 (ix_rtI rfl _)
      · refine ix_K_cb kq_Mo_fault i_Mo_fault_131 rfl kcb_8 ?_
        refine ix_K_goto (tgt := 140) kq_Mo_fault i_Mo_fault_133 rfl (by decide) ?_
        refine ix_K_ic_ne (tgt := 145) kq_Mo_fault i_Mo_fault_140 rfl (by decide) ?_ ?_
        · refine ix_K_inc (L2 := [some (.ref a0), some (.int (x1 + 1)), some (.int x2), some (.int (ix_bi sb0)), none]) kq_Mo_fault i_Mo_fault_145 rfl rfl (Nat.le_of_ble_eq_true rfl) kci_1 rfl ?_
          refine ix_K_inc (L2 := [some (.ref a0), some (.int (x1 + 1)), some (.int (x2 + 1)), some (.int (ix_bi sb0)), none]) kq_Mo_fault i_Mo_fault_148 rfl rfl (Nat.le_of_ble_eq_true rfl) kci_1 rfl ?_
          refine ix_K_goto (tgt := 14) kq_Mo_fault i_Mo_fault_151 rfl (by decide) ?_
          exact ix_D_cut i_Mo_fault_14 rfl
        · refine ix_K_px kq_Mo_fault i_Mo_fault_143 rfl rfl ?_
          exact ix_D_ret kq_Mo_fault i_Mo_fault_144 (ix_rtI rfl _)
set_option maxRecDepth 20000 in
set_option maxHeartbeats 1000000 in
theorem e_Mo_fault_81 (a0 : Nat) (x1 : Int32) (x2 : Int32) (sb0 : Bool) (h : ixH) : l_Mo_fault_81 a0 x1 x2 sb0 h = if sb0 = true then (ix_pf h a0 11 32 (.int x1)).bind fun h1 => (ix_gi h1 a0 11 33).bind fun v2 => (ix_pf h1 a0 11 33 (.int (v2 + 1))).bind fun h3 => l_Mo_fault_14 a0 0 (x2 + 1) h3 else some ([.int x2], h) := by
  unfold l_Mo_fault_81
  refine ix_K_si (L2 := [some (.ref a0), some (.int x1), some (.int x2), none, some (.int (ix_bi sb0))]) kq_Mo_fault i_Mo_fault_81 rfl (Or.inl rfl) (Nat.le_of_ble_eq_true rfl) rfl ?_
  refine ix_K_px kq_Mo_fault i_Mo_fault_83 rfl rfl ?_
  refine ix_K_bz_ne (tgt := 90) kq_Mo_fault i_Mo_fault_85 rfl (by decide) ?_ ?_
  · refine ix_K_px kq_Mo_fault i_Mo_fault_90 rfl rfl ?_
    refine ix_K_px kq_Mo_fault i_Mo_fault_91 rfl rfl ?_
    refine ix_K_pf kq_Mo_fault i_Mo_fault_92 rfl rfl (fun h1 => ?_)
    refine ix_K_px kq_Mo_fault i_Mo_fault_95 rfl rfl ?_
    refine ix_K_px kq_Mo_fault i_Mo_fault_96 rfl rfl ?_
    refine ix_K_gi kq_Mo_fault i_Mo_fault_97 rfl (fun v2 => ?_)
    refine ix_K_ci kq_Mo_fault i_Mo_fault_100 rfl kci_1 ?_
    refine ix_K_px kq_Mo_fault i_Mo_fault_101 rfl rfl ?_
    refine ix_K_pf kq_Mo_fault i_Mo_fault_102 rfl rfl (fun h3 => ?_)
    refine ix_K_ci kq_Mo_fault i_Mo_fault_105 rfl kci_0 ?_
    refine ix_K_si (L2 := [some (.ref a0), some (.int 0), some (.int x2), none, some (.int (ix_bi sb0))]) kq_Mo_fault i_Mo_fault_106 rfl (Or.inr ⟨_, rfl, rfl⟩) (Nat.le_of_ble_eq_true rfl) rfl ?_
    refine ix_K_goto (tgt := 148) kq_Mo_fault i_Mo_fault_107 rfl (by decide) ?_
    refine ix_K_inc (L2 := [some (.ref a0), some (.int 0), some (.int (x2 + 1)), none, some (.int (ix_bi sb0))]) kq_Mo_fault i_Mo_fault_148 rfl rfl (Nat.le_of_ble_eq_true rfl) kci_1 rfl ?_
    refine ix_K_goto (tgt := 14) kq_Mo_fault i_Mo_fault_151 rfl (by decide) ?_
    exact ix_D_cut i_Mo_fault_14 rfl
  · refine ix_K_px kq_Mo_fault i_Mo_fault_88 rfl rfl ?_
    exact ix_D_ret kq_Mo_fault i_Mo_fault_89 (ix_rtI rfl _)
set_option maxRecDepth 20000 in
set_option maxHeartbeats 1000000 in
theorem e_Mo_fault (a0 : Nat) (h : ixH) : ix_D mMo_fault 0 [some (.ref a0), none, none, none, none] [] h = (ix_pf h a0 11 32 (.int 0)).bind fun h1 => (ix_pf h1 a0 11 33 (.int 1)).bind fun h2 => l_Mo_fault_14 a0 0 0 h2 := by
  refine ix_K_px kq_Mo_fault i_Mo_fault_0 rfl rfl ?_
  refine ix_K_ci kq_Mo_fault i_Mo_fault_1 rfl kci_0 ?_
  refine ix_K_pf kq_Mo_fault i_Mo_fault_2 rfl rfl (fun h1 => ?_)
  refine ix_K_px kq_Mo_fault i_Mo_fault_5 rfl rfl ?_
  refine ix_K_ci kq_Mo_fault i_Mo_fault_6 rfl kci_1 ?_
  refine ix_K_pf kq_Mo_fault i_Mo_fault_7 rfl rfl (fun h2 => ?_)
  refine ix_K_ci kq_Mo_fault i_Mo_fault_10 rfl kci_0 ?_
  refine ix_K_si (L2 := [some (.ref a0), some (.int 0), none, none, none]) kq_Mo_fault i_Mo_fault_11 rfl (Or.inr ⟨_, rfl, rfl⟩) (Nat.le_of_ble_eq_true rfl) rfl ?_
  refine ix_K_ci kq_Mo_fault i_Mo_fault_12 rfl kci_0 ?_
  refine ix_K_si (L2 := [some (.ref a0), some (.int 0), some (.int 0), none, none]) kq_Mo_fault i_Mo_fault_13 rfl (Or.inr ⟨_, rfl, rfl⟩) (Nat.le_of_ble_eq_true rfl) rfl ?_
  exact ix_D_cut i_Mo_fault_14 rfl
theorem x_Mo_fault {a0 : Nat} {h h1 : ixH} {v : Int32} (hr : ix_rc h a0 = some 11) (hd : ix_D mMo_fault 0 [some (.ref a0), none, none, none, none] [] h = some ([.int v], h1)) : ix_M mMo_fault [.ref a0] h = some ([.int v], h1) := ix_M_of (ix_ent_i kq_Mo_fault rfl hr rfl (Nat.le_of_ble_eq_true rfl) rfl) hd (ix_okrI (Or.inl rfl) v)
theorem i_Mo_roleOf_0 : ix_nx mMo_roleOf 0 = some (0, .iload_n 0, 1, none, [], 0) := rfl
theorem i_Mo_roleOf_1 : ix_nx mMo_roleOf 1 = some (0, .lookupswitch 93 #[(35, 83), (46, 75), (77, 90), (83, 85), (84, 87), (109, 81), (115, 77), (116, 79)], 76, none, [], 0) := rfl
theorem i_Mo_roleOf_76 : ix_nx mMo_roleOf 76 = some (0, .iconst 0, 77, none, [], 0) := rfl
theorem i_Mo_roleOf_77 : ix_nx mMo_roleOf 77 = some (4, .ireturn, 78, none, [], 0) := rfl
theorem i_Mo_roleOf_78 : ix_nx mMo_roleOf 78 = some (0, .iconst 1, 79, none, [], 0) := rfl
theorem i_Mo_roleOf_79 : ix_nx mMo_roleOf 79 = some (4, .ireturn, 80, none, [], 0) := rfl
theorem i_Mo_roleOf_80 : ix_nx mMo_roleOf 80 = some (0, .iconst 2, 81, none, [], 0) := rfl
theorem i_Mo_roleOf_81 : ix_nx mMo_roleOf 81 = some (4, .ireturn, 82, none, [], 0) := rfl
theorem i_Mo_roleOf_82 : ix_nx mMo_roleOf 82 = some (0, .iconst 3, 83, none, [], 0) := rfl
theorem i_Mo_roleOf_83 : ix_nx mMo_roleOf 83 = some (4, .ireturn, 84, none, [], 0) := rfl
theorem i_Mo_roleOf_84 : ix_nx mMo_roleOf 84 = some (0, .iconst 4, 85, none, [], 0) := rfl
theorem i_Mo_roleOf_85 : ix_nx mMo_roleOf 85 = some (4, .ireturn, 86, none, [], 0) := rfl
theorem i_Mo_roleOf_86 : ix_nx mMo_roleOf 86 = some (0, .iconst 5, 87, none, [], 0) := rfl
theorem i_Mo_roleOf_87 : ix_nx mMo_roleOf 87 = some (4, .ireturn, 88, none, [], 0) := rfl
theorem i_Mo_roleOf_88 : ix_nx mMo_roleOf 88 = some (0, .bipush 6, 90, none, [], 0) := rfl
theorem i_Mo_roleOf_90 : ix_nx mMo_roleOf 90 = some (4, .ireturn, 91, none, [], 0) := rfl
theorem i_Mo_roleOf_91 : ix_nx mMo_roleOf 91 = some (0, .bipush 7, 93, none, [], 0) := rfl
theorem i_Mo_roleOf_93 : ix_nx mMo_roleOf 93 = some (4, .ireturn, 94, none, [], 0) := rfl
theorem i_Mo_roleOf_94 : ix_nx mMo_roleOf 94 = some (0, .bipush (-6), 96, none, [], 0) := rfl
theorem i_Mo_roleOf_96 : ix_nx mMo_roleOf 96 = some (4, .ireturn, 97, none, [], 0) := rfl
theorem i_Mo_load_0 : ix_nx mMo_load 0 = some (0, .aload_n 0, 1, none, [], 0) := rfl
theorem i_Mo_load_1 : ix_nx mMo_load 1 = some (3, .invokevirtual 329, 4, none, [0, 238, 239], 0) := rfl
theorem i_Mo_load_4 : ix_nx mMo_load 4 = some (0, .bipush (-6), 6, none, [], 0) := rfl
theorem i_Mo_load_6 : ix_nx mMo_load 6 = some (0, .if_icmp .eq 6, 9, none, [], 0) := rfl
theorem i_Mo_load_9 : ix_nx mMo_load 9 = some (0, .bipush (-3), 11, none, [], 0) := rfl
theorem i_Mo_load_11 : ix_nx mMo_load 11 = some (4, .ireturn, 12, none, [], 0) := rfl
theorem i_Mo_load_12 : ix_nx mMo_load 12 = some (0, .aload_n 0, 13, none, [], 0) := rfl
theorem i_Mo_load_13 : ix_nx mMo_load 13 = some (0, .aload_n 0, 14, none, [], 0) := rfl
theorem i_Mo_load_14 : ix_nx mMo_load 14 = some (1, .getfield 320, 17, none, [11, 32, 0, 122], 0) := rfl
theorem i_Mo_load_17 : ix_nx mMo_load 17 = some (0, .aload_n 0, 18, none, [], 0) := rfl
theorem i_Mo_load_18 : ix_nx mMo_load 18 = some (1, .getfield 323, 21, none, [11, 33, 0, 123], 0) := rfl
theorem i_Mo_load_21 : ix_nx mMo_load 21 = some (3, .invokevirtual 90, 24, none, [0, 146, 173], 0) := rfl
theorem i_Mo_load_24 : ix_nx mMo_load 24 = some (0, .iconst 0, 25, none, [], 0) := rfl
theorem i_Mo_load_25 : ix_nx mMo_load 25 = some (0, .istore_n 1, 26, none, [], 0) := rfl
theorem i_Mo_load_26 : ix_nx mMo_load 26 = some (0, .iconst 0, 27, none, [], 0) := rfl
theorem i_Mo_load_27 : ix_nx mMo_load 27 = some (0, .istore_n 2, 28, none, [], 0) := rfl
theorem i_Mo_load_28 : ix_nx mMo_load 28 = some (0, .iload_n 2, 29, some [true, true, true, false], [], 0) := rfl
theorem i_Mo_load_29 : ix_nx mMo_load 29 = some (0, .aload_n 0, 30, none, [], 0) := rfl
theorem i_Mo_load_30 : ix_nx mMo_load 30 = some (1, .getfield 317, 33, none, [11, 31, 0, 121], 0) := rfl
theorem i_Mo_load_33 : ix_nx mMo_load 33 = some (0, .if_icmp .ge 56, 36, none, [], 0) := rfl
theorem i_Mo_load_36 : ix_nx mMo_load 36 = some (0, .aload_n 0, 37, none, [], 0) := rfl
theorem i_Mo_load_37 : ix_nx mMo_load 37 = some (1, .getfield 87, 40, none, [11, 30, 2, 120], 0) := rfl
theorem i_Mo_load_40 : ix_nx mMo_load 40 = some (0, .iload_n 2, 41, none, [], 0) := rfl
theorem i_Mo_load_41 : ix_nx mMo_load 41 = some (1, .iaload, 42, none, [], 0) := rfl
theorem i_Mo_load_42 : ix_nx mMo_load 42 = some (0, .bipush 47, 44, none, [], 0) := rfl
theorem i_Mo_load_44 : ix_nx mMo_load 44 = some (0, .if_icmp .eq 39, 47, none, [], 0) := rfl
theorem i_Mo_load_47 : ix_nx mMo_load 47 = some (0, .aload_n 0, 48, none, [], 0) := rfl
theorem i_Mo_load_48 : ix_nx mMo_load 48 = some (1, .getfield 87, 51, none, [11, 30, 2, 120], 0) := rfl
theorem i_Mo_load_51 : ix_nx mMo_load 51 = some (0, .iload_n 2, 52, none, [], 0) := rfl
theorem i_Mo_load_52 : ix_nx mMo_load 52 = some (1, .iaload, 53, none, [], 0) := rfl
theorem i_Mo_load_53 : ix_nx mMo_load 53 = some (3, .invokestatic 326, 56, none, [1, 239, 238], 0) := rfl
theorem i_Mo_load_56 : ix_nx mMo_load 56 = some (0, .istore_n 3, 57, none, [], 0) := rfl
theorem i_Mo_load_57 : ix_nx mMo_load 57 = some (0, .aload_n 0, 58, none, [], 0) := rfl
theorem i_Mo_load_58 : ix_nx mMo_load 58 = some (1, .getfield 7, 61, none, [11, 0, 2, 90], 0) := rfl
theorem i_Mo_load_61 : ix_nx mMo_load 61 = some (0, .iconst 2, 62, none, [], 0) := rfl
theorem i_Mo_load_62 : ix_nx mMo_load 62 = some (0, .iload_n 1, 63, none, [], 0) := rfl
theorem i_Mo_load_63 : ix_nx mMo_load 63 = some (0, .iadd, 64, none, [], 0) := rfl
theorem i_Mo_load_64 : ix_nx mMo_load 64 = some (0, .iload_n 3, 65, none, [], 0) := rfl
theorem i_Mo_load_65 : ix_nx mMo_load 65 = some (0, .iconst 4, 66, none, [], 0) := rfl
theorem i_Mo_load_66 : ix_nx mMo_load 66 = some (0, .idiv, 67, none, [], 0) := rfl
theorem i_Mo_load_67 : ix_nx mMo_load 67 = some (2, .iastore, 68, none, [], 0) := rfl
theorem i_Mo_load_68 : ix_nx mMo_load 68 = some (0, .aload_n 0, 69, none, [], 0) := rfl
theorem i_Mo_load_69 : ix_nx mMo_load 69 = some (1, .getfield 7, 72, none, [11, 0, 2, 90], 0) := rfl
theorem i_Mo_load_72 : ix_nx mMo_load 72 = some (0, .bipush 66, 74, none, [], 0) := rfl
theorem i_Mo_load_74 : ix_nx mMo_load 74 = some (0, .iload_n 1, 75, none, [], 0) := rfl
theorem i_Mo_load_75 : ix_nx mMo_load 75 = some (0, .iadd, 76, none, [], 0) := rfl
theorem i_Mo_load_76 : ix_nx mMo_load 76 = some (0, .iload_n 3, 77, none, [], 0) := rfl
theorem i_Mo_load_77 : ix_nx mMo_load 77 = some (0, .iconst 4, 78, none, [], 0) := rfl
theorem i_Mo_load_78 : ix_nx mMo_load 78 = some (0, .irem, 79, none, [], 0) := rfl
theorem i_Mo_load_79 : ix_nx mMo_load 79 = some (2, .iastore, 80, none, [], 0) := rfl
theorem i_Mo_load_80 : ix_nx mMo_load 80 = some (0, .iinc 1 1, 83, none, [], 0) := rfl
theorem i_Mo_load_83 : ix_nx mMo_load 83 = some (0, .iinc 2 1, 86, none, [], 0) := rfl
theorem i_Mo_load_86 : ix_nx mMo_load 86 = some (0, .goto (-58), 89, none, [], 0) := rfl
theorem i_Mo_load_89 : ix_nx mMo_load 89 = some (0, .aload_n 0, 90, none, [], 0) := rfl
theorem i_Mo_load_90 : ix_nx mMo_load 90 = some (0, .iconst 0, 91, none, [], 0) := rfl
theorem i_Mo_load_91 : ix_nx mMo_load 91 = some (2, .putfield 317, 94, none, [11, 31, 0, 121], 0) := rfl
theorem i_Mo_load_94 : ix_nx mMo_load 94 = some (0, .aload_n 0, 95, none, [], 0) := rfl
theorem i_Mo_load_95 : ix_nx mMo_load 95 = some (3, .invokevirtual 94, 98, none, [0, 149, 175], 0) := rfl
theorem i_Mo_load_98 : ix_nx mMo_load 98 = some (4, .ireturn, 99, none, [], 0) := rfl
noncomputable def l_Mo_load_28 (a0 : Nat) (x1 : Int32) (x2 : Int32) (h : ixH) : Option (List Value × ixH) := ix_D mMo_load 28 [some (.ref a0), some (.int x1), some (.int x2), none] [] h
set_option maxRecDepth 20000 in
set_option maxHeartbeats 1000000 in
theorem e_Mo_load_28 (a0 : Nat) (x1 : Int32) (x2 : Int32) (h : ixH) : l_Mo_load_28 a0 x1 x2 h = (ix_gi h a0 11 31).bind fun v1 => if v1 ≤ x2 then (ix_pf h a0 11 31 (.int 0)).bind fun h2 => (ix_M mMo_cells [.ref a0] h2).bind fun r => ix_kI r fun v4 h3 => some ([.int v4], h3) else (ix_gr h a0 11 30).bind fun v5 => (ix_ai h v5 x2).bind fun v6 => if v6 = 47 then l_Mo_load_28 a0 x1 (x2 + 1) h else (ix_gr h a0 11 30).bind fun v7 => (ix_ai h v7 x2).bind fun v8 => (ix_M mMo_roleOf [.int v8] h).bind fun r => ix_kI r fun v10 h9 => (ix_gr h9 a0 11 0).bind fun v11 => if 4 = 0 then none else (ix_si h9 v11 (2 + x1) (v10 / 4)).bind fun h12 => (ix_gr h12 a0 11 0).bind fun v13 => if 4 = 0 then none else (ix_si h12 v13 (66 + x1) (ix_rem v10 4)).bind fun h14 => l_Mo_load_28 a0 (x1 + 1) (x2 + 1) h14 := by
  unfold l_Mo_load_28
  refine ix_K_px kq_Mo_load i_Mo_load_28 rfl rfl ?_
  refine ix_K_px kq_Mo_load i_Mo_load_29 rfl rfl ?_
  refine ix_K_gi kq_Mo_load i_Mo_load_30 rfl (fun v1 => ?_)
  refine ix_K_ic_ge (tgt := 89) kq_Mo_load i_Mo_load_33 rfl (by decide) ?_ ?_
  · refine ix_K_px kq_Mo_load i_Mo_load_89 rfl rfl ?_
    refine ix_K_ci kq_Mo_load i_Mo_load_90 rfl kci_0 ?_
    refine ix_K_pf kq_Mo_load i_Mo_load_91 rfl rfl (fun h2 => ?_)
    refine ix_K_px kq_Mo_load i_Mo_load_94 rfl rfl ?_
    refine ix_K_callI (as := [.ref a0]) (rest := []) kq_Mo_load i_Mo_load_95 rfl kq_Mo_cells (by decide) rfl (Or.inl rfl) (fun v4 h3 => ?_)
    exact ix_D_ret kq_Mo_load i_Mo_load_98 (ix_rtI rfl _)
  · refine ix_K_px kq_Mo_load i_Mo_load_36 rfl rfl ?_
    refine ix_K_gr kq_Mo_load i_Mo_load_37 rfl (fun v5 => ?_)
    refine ix_K_px kq_Mo_load i_Mo_load_40 rfl rfl ?_
    refine ix_K_ai kq_Mo_load i_Mo_load_41 rfl (fun v6 => ?_)
    refine ix_K_cb kq_Mo_load i_Mo_load_42 rfl kcb_47 ?_
    refine ix_K_ic_eq (tgt := 83) kq_Mo_load i_Mo_load_44 rfl (by decide) ?_ ?_
    · refine ix_K_inc (L2 := [some (.ref a0), some (.int x1), some (.int (x2 + 1)), none]) kq_Mo_load i_Mo_load_83 rfl rfl (Nat.le_of_ble_eq_true rfl) kci_1 rfl ?_
      refine ix_K_goto (tgt := 28) kq_Mo_load i_Mo_load_86 rfl (by decide) ?_
      exact ix_D_cut i_Mo_load_28 rfl
    · refine ix_K_px kq_Mo_load i_Mo_load_47 rfl rfl ?_
      refine ix_K_gr kq_Mo_load i_Mo_load_48 rfl (fun v7 => ?_)
      refine ix_K_px kq_Mo_load i_Mo_load_51 rfl rfl ?_
      refine ix_K_ai kq_Mo_load i_Mo_load_52 rfl (fun v8 => ?_)
      refine ix_K_callI (as := [.int v8]) (rest := []) kq_Mo_load i_Mo_load_53 rfl kq_Mo_roleOf (by decide) rfl (Or.inl rfl) (fun v10 h9 => ?_)
      refine ix_K_si (L2 := [some (.ref a0), some (.int x1), some (.int x2), some (.int v10)]) kq_Mo_load i_Mo_load_56 rfl (Or.inr ⟨_, rfl, rfl⟩) (Nat.le_of_ble_eq_true rfl) rfl ?_
      refine ix_K_px kq_Mo_load i_Mo_load_57 rfl rfl ?_
      refine ix_K_gr kq_Mo_load i_Mo_load_58 rfl (fun v11 => ?_)
      refine ix_K_ci kq_Mo_load i_Mo_load_61 rfl kci_2 ?_
      refine ix_K_px kq_Mo_load i_Mo_load_62 rfl rfl ?_
      refine ix_K_px kq_Mo_load i_Mo_load_63 rfl rfl ?_
      refine ix_K_px kq_Mo_load i_Mo_load_64 rfl rfl ?_
      refine ix_K_ci kq_Mo_load i_Mo_load_65 rfl kci_4 ?_
      refine ix_K_div kq_Mo_load i_Mo_load_66 rfl ?_
      refine ix_K_ti kq_Mo_load i_Mo_load_67 rfl (fun h12 => ?_)
      refine ix_K_px kq_Mo_load i_Mo_load_68 rfl rfl ?_
      refine ix_K_gr kq_Mo_load i_Mo_load_69 rfl (fun v13 => ?_)
      refine ix_K_cb kq_Mo_load i_Mo_load_72 rfl kcb_66 ?_
      refine ix_K_px kq_Mo_load i_Mo_load_74 rfl rfl ?_
      refine ix_K_px kq_Mo_load i_Mo_load_75 rfl rfl ?_
      refine ix_K_px kq_Mo_load i_Mo_load_76 rfl rfl ?_
      refine ix_K_ci kq_Mo_load i_Mo_load_77 rfl kci_4 ?_
      refine ix_K_rem kq_Mo_load i_Mo_load_78 rfl ?_
      refine ix_K_ti kq_Mo_load i_Mo_load_79 rfl (fun h14 => ?_)
      refine ix_K_inc (L2 := [some (.ref a0), some (.int (x1 + 1)), some (.int x2), some (.int v10)]) kq_Mo_load i_Mo_load_80 rfl rfl (Nat.le_of_ble_eq_true rfl) kci_1 rfl ?_
      refine ix_K_inc (L2 := [some (.ref a0), some (.int (x1 + 1)), some (.int (x2 + 1)), some (.int v10)]) kq_Mo_load i_Mo_load_83 rfl rfl (Nat.le_of_ble_eq_true rfl) kci_1 rfl ?_
      refine ix_K_goto (tgt := 28) kq_Mo_load i_Mo_load_86 rfl (by decide) ?_
      exact ix_D_cut i_Mo_load_28 rfl
set_option maxRecDepth 20000 in
set_option maxHeartbeats 1000000 in
theorem e_Mo_load (a0 : Nat) (h : ixH) : ix_D mMo_load 0 [some (.ref a0), none, none, none] [] h = (ix_M mMo_fault [.ref a0] h).bind fun r => ix_kI r fun v2 h1 => if v2 = (-6) then (ix_gi h1 a0 11 32).bind fun v3 => (ix_gi h1 a0 11 33).bind fun v4 => (ix_M mMo_layGrid [.ref a0, .int v3, .int v4] h1).bind fun r => ix_kV r fun h5 => l_Mo_load_28 a0 0 0 h5 else some ([.int (-3)], h1) := by
  refine ix_K_px kq_Mo_load i_Mo_load_0 rfl rfl ?_
  refine ix_K_callI (as := [.ref a0]) (rest := []) kq_Mo_load i_Mo_load_1 rfl kq_Mo_fault (by decide) rfl (Or.inl rfl) (fun v2 h1 => ?_)
  refine ix_K_cb kq_Mo_load i_Mo_load_4 rfl kcb_m6 ?_
  refine ix_K_ic_eq (tgt := 12) kq_Mo_load i_Mo_load_6 rfl (by decide) ?_ ?_
  · refine ix_K_px kq_Mo_load i_Mo_load_12 rfl rfl ?_
    refine ix_K_px kq_Mo_load i_Mo_load_13 rfl rfl ?_
    refine ix_K_gi kq_Mo_load i_Mo_load_14 rfl (fun v3 => ?_)
    refine ix_K_px kq_Mo_load i_Mo_load_17 rfl rfl ?_
    refine ix_K_gi kq_Mo_load i_Mo_load_18 rfl (fun v4 => ?_)
    refine ix_K_callV (as := [.ref a0, .int v3, .int v4]) (rest := []) kq_Mo_load i_Mo_load_21 rfl kq_Mo_layGrid (by decide) rfl rfl (fun h5 => ?_)
    refine ix_K_ci kq_Mo_load i_Mo_load_24 rfl kci_0 ?_
    refine ix_K_si (L2 := [some (.ref a0), some (.int 0), none, none]) kq_Mo_load i_Mo_load_25 rfl (Or.inr ⟨_, rfl, rfl⟩) (Nat.le_of_ble_eq_true rfl) rfl ?_
    refine ix_K_ci kq_Mo_load i_Mo_load_26 rfl kci_0 ?_
    refine ix_K_si (L2 := [some (.ref a0), some (.int 0), some (.int 0), none]) kq_Mo_load i_Mo_load_27 rfl (Or.inr ⟨_, rfl, rfl⟩) (Nat.le_of_ble_eq_true rfl) rfl ?_
    exact ix_D_cut i_Mo_load_28 rfl
  · refine ix_K_cb kq_Mo_load i_Mo_load_9 rfl kcb_m3 ?_
    exact ix_D_ret kq_Mo_load i_Mo_load_11 (ix_rtI rfl _)
theorem x_Mo_load {a0 : Nat} {h h1 : ixH} {v : Int32} (hr : ix_rc h a0 = some 11) (hd : ix_D mMo_load 0 [some (.ref a0), none, none, none] [] h = some ([.int v], h1)) : ix_M mMo_load [.ref a0] h = some ([.int v], h1) := ix_M_of (ix_ent_i kq_Mo_load rfl hr rfl (Nat.le_of_ble_eq_true rfl) rfl) hd (ix_okrI (Or.inl rfl) v)
theorem i_Mo_count_0 : ix_nx mMo_count 0 = some (0, .iload_n 1, 1, none, [], 0) := rfl
theorem i_Mo_count_1 : ix_nx mMo_count 1 = some (0, .tableswitch 90 0 8 #[51, 51, 58, 63, 63, 63, 71, 80, 85], 52, none, [], 0) := rfl
theorem i_Mo_count_52 : ix_nx mMo_count 52 = some (0, .aload_n 0, 53, none, [], 0) := rfl
theorem i_Mo_count_53 : ix_nx mMo_count 53 = some (1, .getfield 7, 56, none, [11, 0, 2, 90], 0) := rfl
theorem i_Mo_count_56 : ix_nx mMo_count 56 = some (0, .iload_n 1, 57, none, [], 0) := rfl
theorem i_Mo_count_57 : ix_nx mMo_count 57 = some (1, .iaload, 58, none, [], 0) := rfl
theorem i_Mo_count_58 : ix_nx mMo_count 58 = some (4, .ireturn, 59, none, [], 0) := rfl
theorem i_Mo_count_59 : ix_nx mMo_count 59 = some (0, .aload_n 0, 60, none, [], 0) := rfl
theorem i_Mo_count_60 : ix_nx mMo_count 60 = some (3, .invokevirtual 120, 63, none, [0, 152, 177], 0) := rfl
theorem i_Mo_count_63 : ix_nx mMo_count 63 = some (4, .ireturn, 64, none, [], 0) := rfl
theorem i_Mo_count_64 : ix_nx mMo_count 64 = some (0, .aload_n 0, 65, none, [], 0) := rfl
theorem i_Mo_count_65 : ix_nx mMo_count 65 = some (0, .iload_n 1, 66, none, [], 0) := rfl
theorem i_Mo_count_66 : ix_nx mMo_count 66 = some (0, .iconst 2, 67, none, [], 0) := rfl
theorem i_Mo_count_67 : ix_nx mMo_count 67 = some (0, .isub, 68, none, [], 0) := rfl
theorem i_Mo_count_68 : ix_nx mMo_count 68 = some (3, .invokevirtual 332, 71, none, [0, 242, 240], 0) := rfl
theorem i_Mo_count_71 : ix_nx mMo_count 71 = some (4, .ireturn, 72, none, [], 0) := rfl
theorem i_Mo_count_72 : ix_nx mMo_count 72 = some (0, .aload_n 0, 73, none, [], 0) := rfl
theorem i_Mo_count_73 : ix_nx mMo_count 73 = some (1, .getfield 7, 76, none, [11, 0, 2, 90], 0) := rfl
theorem i_Mo_count_76 : ix_nx mMo_count 76 = some (0, .sipush 386, 79, none, [], 0) := rfl
theorem i_Mo_count_79 : ix_nx mMo_count 79 = some (1, .iaload, 80, none, [], 0) := rfl
theorem i_Mo_count_80 : ix_nx mMo_count 80 = some (4, .ireturn, 81, none, [], 0) := rfl
theorem i_Mo_count_81 : ix_nx mMo_count 81 = some (0, .aload_n 0, 82, none, [], 0) := rfl
theorem i_Mo_count_82 : ix_nx mMo_count 82 = some (3, .invokevirtual 335, 85, none, [0, 243, 241], 0) := rfl
theorem i_Mo_count_85 : ix_nx mMo_count 85 = some (4, .ireturn, 86, none, [], 0) := rfl
theorem i_Mo_count_86 : ix_nx mMo_count 86 = some (0, .aload_n 0, 87, none, [], 0) := rfl
theorem i_Mo_count_87 : ix_nx mMo_count 87 = some (1, .getfield 317, 90, none, [11, 31, 0, 121], 0) := rfl
theorem i_Mo_count_90 : ix_nx mMo_count 90 = some (4, .ireturn, 91, none, [], 0) := rfl
theorem i_Mo_count_91 : ix_nx mMo_count 91 = some (0, .bipush (-2), 93, none, [], 0) := rfl
theorem i_Mo_count_93 : ix_nx mMo_count 93 = some (4, .ireturn, 94, none, [], 0) := rfl
set_option maxRecDepth 20000 in
set_option maxHeartbeats 1000000 in
theorem e_Mo_count (a0 : Nat) (x1 : Int32) (h : ixH) : ix_D mMo_count 0 [some (.ref a0), some (.int x1)] [] h = ix_sel x1 0 [(ix_gr h a0 11 0).bind fun v1 => (ix_ai h v1 x1).bind fun v2 => some ([.int v2], h), (ix_gr h a0 11 0).bind fun v3 => (ix_ai h v3 x1).bind fun v4 => some ([.int v4], h), (ix_M mMo_walls [.ref a0] h).bind fun r => ix_kI r fun v6 h5 => some ([.int v6], h5), (ix_M mMo_withRole [.ref a0, .int (x1 - 2)] h).bind fun r => ix_kI r fun v8 h7 => some ([.int v8], h7), (ix_M mMo_withRole [.ref a0, .int (x1 - 2)] h).bind fun r => ix_kI r fun v10 h9 => some ([.int v10], h9), (ix_M mMo_withRole [.ref a0, .int (x1 - 2)] h).bind fun r => ix_kI r fun v12 h11 => some ([.int v12], h11), (ix_gr h a0 11 0).bind fun v13 => (ix_ai h v13 386).bind fun v14 => some ([.int v14], h), (ix_M mMo_routes [.ref a0] h).bind fun r => ix_kI r fun v16 h15 => some ([.int v16], h15), (ix_gi h a0 11 31).bind fun v17 => some ([.int v17], h)] (some ([.int (-2)], h)) := by
  refine ix_K_px kq_Mo_count i_Mo_count_0 rfl rfl ?_
  refine ix_K_tsw (tg := [52, 52, 59, 64, 64, 64, 72, 81, 86]) (dt := 91) kq_Mo_count i_Mo_count_1 rfl (by decide) (by decide) (by decide) (by decide) (ix_lc ?_ (ix_lc ?_ (ix_lc ?_ (ix_lc ?_ (ix_lc ?_ (ix_lc ?_ (ix_lc ?_ (ix_lc ?_ (ix_lc ?_ rfl))))))))) ?_
  · refine ix_K_px kq_Mo_count i_Mo_count_52 rfl rfl ?_
    refine ix_K_gr kq_Mo_count i_Mo_count_53 rfl (fun v1 => ?_)
    refine ix_K_px kq_Mo_count i_Mo_count_56 rfl rfl ?_
    refine ix_K_ai kq_Mo_count i_Mo_count_57 rfl (fun v2 => ?_)
    exact ix_D_ret kq_Mo_count i_Mo_count_58 (ix_rtI rfl _)
  · refine ix_K_px kq_Mo_count i_Mo_count_52 rfl rfl ?_
    refine ix_K_gr kq_Mo_count i_Mo_count_53 rfl (fun v3 => ?_)
    refine ix_K_px kq_Mo_count i_Mo_count_56 rfl rfl ?_
    refine ix_K_ai kq_Mo_count i_Mo_count_57 rfl (fun v4 => ?_)
    exact ix_D_ret kq_Mo_count i_Mo_count_58 (ix_rtI rfl _)
  · refine ix_K_px kq_Mo_count i_Mo_count_59 rfl rfl ?_
    refine ix_K_callI (as := [.ref a0]) (rest := []) kq_Mo_count i_Mo_count_60 rfl kq_Mo_walls (by decide) rfl (Or.inl rfl) (fun v6 h5 => ?_)
    exact ix_D_ret kq_Mo_count i_Mo_count_63 (ix_rtI rfl _)
  · refine ix_K_px kq_Mo_count i_Mo_count_64 rfl rfl ?_
    refine ix_K_px kq_Mo_count i_Mo_count_65 rfl rfl ?_
    refine ix_K_ci kq_Mo_count i_Mo_count_66 rfl kci_2 ?_
    refine ix_K_px kq_Mo_count i_Mo_count_67 rfl rfl ?_
    refine ix_K_callI (as := [.ref a0, .int (x1 - 2)]) (rest := []) kq_Mo_count i_Mo_count_68 rfl kq_Mo_withRole (by decide) rfl (Or.inl rfl) (fun v8 h7 => ?_)
    exact ix_D_ret kq_Mo_count i_Mo_count_71 (ix_rtI rfl _)
  · refine ix_K_px kq_Mo_count i_Mo_count_64 rfl rfl ?_
    refine ix_K_px kq_Mo_count i_Mo_count_65 rfl rfl ?_
    refine ix_K_ci kq_Mo_count i_Mo_count_66 rfl kci_2 ?_
    refine ix_K_px kq_Mo_count i_Mo_count_67 rfl rfl ?_
    refine ix_K_callI (as := [.ref a0, .int (x1 - 2)]) (rest := []) kq_Mo_count i_Mo_count_68 rfl kq_Mo_withRole (by decide) rfl (Or.inl rfl) (fun v10 h9 => ?_)
    exact ix_D_ret kq_Mo_count i_Mo_count_71 (ix_rtI rfl _)
  · refine ix_K_px kq_Mo_count i_Mo_count_64 rfl rfl ?_
    refine ix_K_px kq_Mo_count i_Mo_count_65 rfl rfl ?_
    refine ix_K_ci kq_Mo_count i_Mo_count_66 rfl kci_2 ?_
    refine ix_K_px kq_Mo_count i_Mo_count_67 rfl rfl ?_
    refine ix_K_callI (as := [.ref a0, .int (x1 - 2)]) (rest := []) kq_Mo_count i_Mo_count_68 rfl kq_Mo_withRole (by decide) rfl (Or.inl rfl) (fun v12 h11 => ?_)
    exact ix_D_ret kq_Mo_count i_Mo_count_71 (ix_rtI rfl _)
  · refine ix_K_px kq_Mo_count i_Mo_count_72 rfl rfl ?_
    refine ix_K_gr kq_Mo_count i_Mo_count_73 rfl (fun v13 => ?_)
    refine ix_K_cs kq_Mo_count i_Mo_count_76 rfl kcs_386 ?_
    refine ix_K_ai kq_Mo_count i_Mo_count_79 rfl (fun v14 => ?_)
    exact ix_D_ret kq_Mo_count i_Mo_count_80 (ix_rtI rfl _)
  · refine ix_K_px kq_Mo_count i_Mo_count_81 rfl rfl ?_
    refine ix_K_callI (as := [.ref a0]) (rest := []) kq_Mo_count i_Mo_count_82 rfl kq_Mo_routes (by decide) rfl (Or.inl rfl) (fun v16 h15 => ?_)
    exact ix_D_ret kq_Mo_count i_Mo_count_85 (ix_rtI rfl _)
  · refine ix_K_px kq_Mo_count i_Mo_count_86 rfl rfl ?_
    refine ix_K_gi kq_Mo_count i_Mo_count_87 rfl (fun v17 => ?_)
    exact ix_D_ret kq_Mo_count i_Mo_count_90 (ix_rtI rfl _)
  · refine ix_K_cb kq_Mo_count i_Mo_count_91 rfl kcb_m2 ?_
    exact ix_D_ret kq_Mo_count i_Mo_count_93 (ix_rtI rfl _)
theorem x_Mo_count {a0 : Nat} {x1 : Int32} {h h1 : ixH} {v : Int32} (hr : ix_rc h a0 = some 11) (hd : ix_D mMo_count 0 [some (.ref a0), some (.int x1)] [] h = some ([.int v], h1)) : ix_M mMo_count [.ref a0, .int x1] h = some ([.int v], h1) := ix_M_of (ix_ent_i kq_Mo_count rfl hr rfl (Nat.le_of_ble_eq_true rfl) rfl) hd (ix_okrI (Or.inl rfl) v)
theorem i_Mo_withRole_0 : ix_nx mMo_withRole 0 = some (0, .iconst 0, 1, none, [], 0) := rfl
theorem i_Mo_withRole_1 : ix_nx mMo_withRole 1 = some (0, .istore_n 2, 2, none, [], 0) := rfl
theorem i_Mo_withRole_2 : ix_nx mMo_withRole 2 = some (0, .iconst 0, 3, none, [], 0) := rfl
theorem i_Mo_withRole_3 : ix_nx mMo_withRole 3 = some (0, .istore_n 3, 4, none, [], 0) := rfl
theorem i_Mo_withRole_4 : ix_nx mMo_withRole 4 = some (0, .iload_n 3, 5, some [true, true, true, true], [], 0) := rfl
theorem i_Mo_withRole_5 : ix_nx mMo_withRole 5 = some (0, .aload_n 0, 6, none, [], 0) := rfl
theorem i_Mo_withRole_6 : ix_nx mMo_withRole 6 = some (3, .invokevirtual 94, 9, none, [0, 149, 175], 0) := rfl
theorem i_Mo_withRole_9 : ix_nx mMo_withRole 9 = some (0, .if_icmp .ge 26, 12, none, [], 0) := rfl
theorem i_Mo_withRole_12 : ix_nx mMo_withRole 12 = some (0, .iload_n 2, 13, none, [], 0) := rfl
theorem i_Mo_withRole_13 : ix_nx mMo_withRole 13 = some (0, .aload_n 0, 14, none, [], 0) := rfl
theorem i_Mo_withRole_14 : ix_nx mMo_withRole 14 = some (0, .iload_n 3, 15, none, [], 0) := rfl
theorem i_Mo_withRole_15 : ix_nx mMo_withRole 15 = some (0, .iload_n 1, 16, none, [], 0) := rfl
theorem i_Mo_withRole_16 : ix_nx mMo_withRole 16 = some (3, .invokevirtual 175, 19, none, [0, 183, 198], 0) := rfl
theorem i_Mo_withRole_19 : ix_nx mMo_withRole 19 = some (0, .ifCond .eq 7, 22, none, [], 0) := rfl
theorem i_Mo_withRole_22 : ix_nx mMo_withRole 22 = some (0, .iconst 1, 23, none, [], 0) := rfl
theorem i_Mo_withRole_23 : ix_nx mMo_withRole 23 = some (0, .goto 4, 26, none, [], 0) := rfl
theorem i_Mo_withRole_26 : ix_nx mMo_withRole 26 = some (0, .iconst 0, 27, none, [], 0) := rfl
theorem i_Mo_withRole_27 : ix_nx mMo_withRole 27 = some (0, .iadd, 28, none, [], 0) := rfl
theorem i_Mo_withRole_28 : ix_nx mMo_withRole 28 = some (0, .istore_n 2, 29, none, [], 0) := rfl
theorem i_Mo_withRole_29 : ix_nx mMo_withRole 29 = some (0, .iinc 3 1, 32, none, [], 0) := rfl
theorem i_Mo_withRole_32 : ix_nx mMo_withRole 32 = some (0, .goto (-28), 35, none, [], 0) := rfl
theorem i_Mo_withRole_35 : ix_nx mMo_withRole 35 = some (0, .iload_n 2, 36, none, [], 0) := rfl
theorem i_Mo_withRole_36 : ix_nx mMo_withRole 36 = some (4, .ireturn, 37, none, [], 0) := rfl
noncomputable def l_Mo_withRole_4 (a0 : Nat) (x1 : Int32) (x2 : Int32) (x3 : Int32) (h : ixH) : Option (List Value × ixH) := ix_D mMo_withRole 4 [some (.ref a0), some (.int x1), some (.int x2), some (.int x3)] [] h
set_option maxRecDepth 20000 in
set_option maxHeartbeats 1000000 in
theorem e_Mo_withRole_4 (a0 : Nat) (x1 : Int32) (x2 : Int32) (x3 : Int32) (h : ixH) : l_Mo_withRole_4 a0 x1 x2 x3 h = (ix_M mMo_cells [.ref a0] h).bind fun r => ix_kI r fun v2 h1 => if v2 ≤ x3 then some ([.int x2], h1) else (ix_M mMo_has [.ref a0, .int x3, .int x1] h1).bind fun r => ix_kZ r fun v4 h3 => if v4 = true then l_Mo_withRole_4 a0 x1 (x2 + 1) (x3 + 1) h3 else l_Mo_withRole_4 a0 x1 (x2 + 0) (x3 + 1) h3 := by
  unfold l_Mo_withRole_4
  refine ix_K_px kq_Mo_withRole i_Mo_withRole_4 rfl rfl ?_
  refine ix_K_px kq_Mo_withRole i_Mo_withRole_5 rfl rfl ?_
  refine ix_K_callI (as := [.ref a0]) (rest := [.int x3]) kq_Mo_withRole i_Mo_withRole_6 rfl kq_Mo_cells (by decide) rfl (Or.inl rfl) (fun v2 h1 => ?_)
  refine ix_K_ic_ge (tgt := 35) kq_Mo_withRole i_Mo_withRole_9 rfl (by decide) ?_ ?_
  · refine ix_K_px kq_Mo_withRole i_Mo_withRole_35 rfl rfl ?_
    exact ix_D_ret kq_Mo_withRole i_Mo_withRole_36 (ix_rtI rfl _)
  · refine ix_K_px kq_Mo_withRole i_Mo_withRole_12 rfl rfl ?_
    refine ix_K_px kq_Mo_withRole i_Mo_withRole_13 rfl rfl ?_
    refine ix_K_px kq_Mo_withRole i_Mo_withRole_14 rfl rfl ?_
    refine ix_K_px kq_Mo_withRole i_Mo_withRole_15 rfl rfl ?_
    refine ix_K_callZ (as := [.ref a0, .int x3, .int x1]) (rest := [.int x2]) kq_Mo_withRole i_Mo_withRole_16 rfl kq_Mo_has (by decide) rfl rfl (fun v4 h3 => ?_)
    refine ix_K_bz_eq (tgt := 26) kq_Mo_withRole i_Mo_withRole_19 rfl (by decide) ?_ ?_
    · refine ix_K_ci kq_Mo_withRole i_Mo_withRole_22 rfl kci_1 ?_
      refine ix_K_goto (tgt := 27) kq_Mo_withRole i_Mo_withRole_23 rfl (by decide) ?_
      refine ix_K_px kq_Mo_withRole i_Mo_withRole_27 rfl rfl ?_
      refine ix_K_si (L2 := [some (.ref a0), some (.int x1), some (.int (x2 + 1)), some (.int x3)]) kq_Mo_withRole i_Mo_withRole_28 rfl (Or.inr ⟨_, rfl, rfl⟩) (Nat.le_of_ble_eq_true rfl) rfl ?_
      refine ix_K_inc (L2 := [some (.ref a0), some (.int x1), some (.int (x2 + 1)), some (.int (x3 + 1))]) kq_Mo_withRole i_Mo_withRole_29 rfl rfl (Nat.le_of_ble_eq_true rfl) kci_1 rfl ?_
      refine ix_K_goto (tgt := 4) kq_Mo_withRole i_Mo_withRole_32 rfl (by decide) ?_
      exact ix_D_cut i_Mo_withRole_4 rfl
    · refine ix_K_ci kq_Mo_withRole i_Mo_withRole_26 rfl kci_0 ?_
      refine ix_K_px kq_Mo_withRole i_Mo_withRole_27 rfl rfl ?_
      refine ix_K_si (L2 := [some (.ref a0), some (.int x1), some (.int (x2 + 0)), some (.int x3)]) kq_Mo_withRole i_Mo_withRole_28 rfl (Or.inr ⟨_, rfl, rfl⟩) (Nat.le_of_ble_eq_true rfl) rfl ?_
      refine ix_K_inc (L2 := [some (.ref a0), some (.int x1), some (.int (x2 + 0)), some (.int (x3 + 1))]) kq_Mo_withRole i_Mo_withRole_29 rfl rfl (Nat.le_of_ble_eq_true rfl) kci_1 rfl ?_
      refine ix_K_goto (tgt := 4) kq_Mo_withRole i_Mo_withRole_32 rfl (by decide) ?_
      exact ix_D_cut i_Mo_withRole_4 rfl
set_option maxRecDepth 20000 in
set_option maxHeartbeats 1000000 in
theorem e_Mo_withRole (a0 : Nat) (x1 : Int32) (h : ixH) : ix_D mMo_withRole 0 [some (.ref a0), some (.int x1), none, none] [] h = l_Mo_withRole_4 a0 x1 0 0 h := by
  refine ix_K_ci kq_Mo_withRole i_Mo_withRole_0 rfl kci_0 ?_
  refine ix_K_si (L2 := [some (.ref a0), some (.int x1), some (.int 0), none]) kq_Mo_withRole i_Mo_withRole_1 rfl (Or.inr ⟨_, rfl, rfl⟩) (Nat.le_of_ble_eq_true rfl) rfl ?_
  refine ix_K_ci kq_Mo_withRole i_Mo_withRole_2 rfl kci_0 ?_
  refine ix_K_si (L2 := [some (.ref a0), some (.int x1), some (.int 0), some (.int 0)]) kq_Mo_withRole i_Mo_withRole_3 rfl (Or.inr ⟨_, rfl, rfl⟩) (Nat.le_of_ble_eq_true rfl) rfl ?_
  exact ix_D_cut i_Mo_withRole_4 rfl
theorem x_Mo_withRole {a0 : Nat} {x1 : Int32} {h h1 : ixH} {v : Int32} (hr : ix_rc h a0 = some 11) (hd : ix_D mMo_withRole 0 [some (.ref a0), some (.int x1), none, none] [] h = some ([.int v], h1)) : ix_M mMo_withRole [.ref a0, .int x1] h = some ([.int v], h1) := ix_M_of (ix_ent_i kq_Mo_withRole rfl hr rfl (Nat.le_of_ble_eq_true rfl) rfl) hd (ix_okrI (Or.inl rfl) v)
theorem i_Mo_routes_0 : ix_nx mMo_routes 0 = some (0, .iconst 0, 1, none, [], 0) := rfl
theorem i_Mo_routes_1 : ix_nx mMo_routes 1 = some (0, .istore_n 1, 2, none, [], 0) := rfl
theorem i_Mo_routes_2 : ix_nx mMo_routes 2 = some (0, .iconst 0, 3, none, [], 0) := rfl
theorem i_Mo_routes_3 : ix_nx mMo_routes 3 = some (0, .istore_n 2, 4, none, [], 0) := rfl
theorem i_Mo_routes_4 : ix_nx mMo_routes 4 = some (0, .iload_n 2, 5, some [true, true, true], [], 0) := rfl
theorem i_Mo_routes_5 : ix_nx mMo_routes 5 = some (0, .iconst 5, 6, none, [], 0) := rfl
theorem i_Mo_routes_6 : ix_nx mMo_routes 6 = some (0, .if_icmp .ge 27, 9, none, [], 0) := rfl
theorem i_Mo_routes_9 : ix_nx mMo_routes 9 = some (0, .iload_n 1, 10, none, [], 0) := rfl
theorem i_Mo_routes_10 : ix_nx mMo_routes 10 = some (0, .aload_n 0, 11, none, [], 0) := rfl
theorem i_Mo_routes_11 : ix_nx mMo_routes 11 = some (0, .iload_n 2, 12, none, [], 0) := rfl
theorem i_Mo_routes_12 : ix_nx mMo_routes 12 = some (3, .invokevirtual 269, 15, none, [0, 216, 224], 0) := rfl
theorem i_Mo_routes_15 : ix_nx mMo_routes 15 = some (0, .ifCond .le 9, 18, none, [], 0) := rfl
theorem i_Mo_routes_18 : ix_nx mMo_routes 18 = some (0, .iconst 1, 19, none, [], 0) := rfl
theorem i_Mo_routes_19 : ix_nx mMo_routes 19 = some (0, .iload_n 2, 20, none, [], 0) := rfl
theorem i_Mo_routes_20 : ix_nx mMo_routes 20 = some (0, .ishl, 21, none, [], 0) := rfl
theorem i_Mo_routes_21 : ix_nx mMo_routes 21 = some (0, .goto 4, 24, none, [], 0) := rfl
theorem i_Mo_routes_24 : ix_nx mMo_routes 24 = some (0, .iconst 0, 25, none, [], 0) := rfl
theorem i_Mo_routes_25 : ix_nx mMo_routes 25 = some (0, .ior, 26, none, [], 0) := rfl
theorem i_Mo_routes_26 : ix_nx mMo_routes 26 = some (0, .istore_n 1, 27, none, [], 0) := rfl
theorem i_Mo_routes_27 : ix_nx mMo_routes 27 = some (0, .iinc 2 1, 30, none, [], 0) := rfl
theorem i_Mo_routes_30 : ix_nx mMo_routes 30 = some (0, .goto (-26), 33, none, [], 0) := rfl
theorem i_Mo_routes_33 : ix_nx mMo_routes 33 = some (0, .iload_n 1, 34, none, [], 0) := rfl
theorem i_Mo_routes_34 : ix_nx mMo_routes 34 = some (4, .ireturn, 35, none, [], 0) := rfl
noncomputable def l_Mo_routes_4 (a0 : Nat) (x1 : Int32) (x2 : Int32) (h : ixH) : Option (List Value × ixH) := ix_D mMo_routes 4 [some (.ref a0), some (.int x1), some (.int x2)] [] h
set_option maxRecDepth 20000 in
set_option maxHeartbeats 1000000 in
theorem e_Mo_routes_4 (a0 : Nat) (x1 : Int32) (x2 : Int32) (h : ixH) : l_Mo_routes_4 a0 x1 x2 h = if 5 ≤ x2 then some ([.int x1], h) else (ix_M mMo_length [.ref a0, .int x2] h).bind fun r => ix_kI r fun v2 h1 => if v2 ≤ 0 then l_Mo_routes_4 a0 (x1 ||| 0) (x2 + 1) h1 else l_Mo_routes_4 a0 (x1 ||| (ix_ishl 1 x2)) (x2 + 1) h1 := by
  unfold l_Mo_routes_4
  refine ix_K_px kq_Mo_routes i_Mo_routes_4 rfl rfl ?_
  refine ix_K_ci kq_Mo_routes i_Mo_routes_5 rfl kci_5 ?_
  refine ix_K_ic_ge (tgt := 33) kq_Mo_routes i_Mo_routes_6 rfl (by decide) ?_ ?_
  · refine ix_K_px kq_Mo_routes i_Mo_routes_33 rfl rfl ?_
    exact ix_D_ret kq_Mo_routes i_Mo_routes_34 (ix_rtI rfl _)
  · refine ix_K_px kq_Mo_routes i_Mo_routes_9 rfl rfl ?_
    refine ix_K_px kq_Mo_routes i_Mo_routes_10 rfl rfl ?_
    refine ix_K_px kq_Mo_routes i_Mo_routes_11 rfl rfl ?_
    refine ix_K_callI (as := [.ref a0, .int x2]) (rest := [.int x1]) kq_Mo_routes i_Mo_routes_12 rfl kq_Mo_length (by decide) rfl (Or.inl rfl) (fun v2 h1 => ?_)
    refine ix_K_if_le (tgt := 24) kq_Mo_routes i_Mo_routes_15 rfl (by decide) ?_ ?_
    · refine ix_K_ci kq_Mo_routes i_Mo_routes_24 rfl kci_0 ?_
      refine ix_K_px kq_Mo_routes i_Mo_routes_25 rfl rfl ?_
      refine ix_K_si (L2 := [some (.ref a0), some (.int (x1 ||| 0)), some (.int x2)]) kq_Mo_routes i_Mo_routes_26 rfl (Or.inr ⟨_, rfl, rfl⟩) (Nat.le_of_ble_eq_true rfl) rfl ?_
      refine ix_K_inc (L2 := [some (.ref a0), some (.int (x1 ||| 0)), some (.int (x2 + 1))]) kq_Mo_routes i_Mo_routes_27 rfl rfl (Nat.le_of_ble_eq_true rfl) kci_1 rfl ?_
      refine ix_K_goto (tgt := 4) kq_Mo_routes i_Mo_routes_30 rfl (by decide) ?_
      exact ix_D_cut i_Mo_routes_4 rfl
    · refine ix_K_ci kq_Mo_routes i_Mo_routes_18 rfl kci_1 ?_
      refine ix_K_px kq_Mo_routes i_Mo_routes_19 rfl rfl ?_
      refine ix_K_px kq_Mo_routes i_Mo_routes_20 rfl rfl ?_
      refine ix_K_goto (tgt := 25) kq_Mo_routes i_Mo_routes_21 rfl (by decide) ?_
      refine ix_K_px kq_Mo_routes i_Mo_routes_25 rfl rfl ?_
      refine ix_K_si (L2 := [some (.ref a0), some (.int (x1 ||| (ix_ishl 1 x2))), some (.int x2)]) kq_Mo_routes i_Mo_routes_26 rfl (Or.inr ⟨_, rfl, rfl⟩) (Nat.le_of_ble_eq_true rfl) rfl ?_
      refine ix_K_inc (L2 := [some (.ref a0), some (.int (x1 ||| (ix_ishl 1 x2))), some (.int (x2 + 1))]) kq_Mo_routes i_Mo_routes_27 rfl rfl (Nat.le_of_ble_eq_true rfl) kci_1 rfl ?_
      refine ix_K_goto (tgt := 4) kq_Mo_routes i_Mo_routes_30 rfl (by decide) ?_
      exact ix_D_cut i_Mo_routes_4 rfl
set_option maxRecDepth 20000 in
set_option maxHeartbeats 1000000 in
theorem e_Mo_routes (a0 : Nat) (h : ixH) : ix_D mMo_routes 0 [some (.ref a0), none, none] [] h = l_Mo_routes_4 a0 0 0 h := by
  refine ix_K_ci kq_Mo_routes i_Mo_routes_0 rfl kci_0 ?_
  refine ix_K_si (L2 := [some (.ref a0), some (.int 0), none]) kq_Mo_routes i_Mo_routes_1 rfl (Or.inr ⟨_, rfl, rfl⟩) (Nat.le_of_ble_eq_true rfl) rfl ?_
  refine ix_K_ci kq_Mo_routes i_Mo_routes_2 rfl kci_0 ?_
  refine ix_K_si (L2 := [some (.ref a0), some (.int 0), some (.int 0)]) kq_Mo_routes i_Mo_routes_3 rfl (Or.inr ⟨_, rfl, rfl⟩) (Nat.le_of_ble_eq_true rfl) rfl ?_
  exact ix_D_cut i_Mo_routes_4 rfl
theorem x_Mo_routes {a0 : Nat} {h h1 : ixH} {v : Int32} (hr : ix_rc h a0 = some 11) (hd : ix_D mMo_routes 0 [some (.ref a0), none, none] [] h = some ([.int v], h1)) : ix_M mMo_routes [.ref a0] h = some ([.int v], h1) := ix_M_of (ix_ent_i kq_Mo_routes rfl hr rfl (Nat.le_of_ble_eq_true rfl) rfl) hd (ix_okrI (Or.inl rfl) v)
theorem i_Mo_save_0 : ix_nx mMo_save 0 = some (0, .iload_n 1, 1, none, [], 0) := rfl
theorem i_Mo_save_1 : ix_nx mMo_save 1 = some (0, .iconst 0, 2, none, [], 0) := rfl
theorem i_Mo_save_2 : ix_nx mMo_save 2 = some (0, .iconst 1, 3, none, [], 0) := rfl
theorem i_Mo_save_3 : ix_nx mMo_save 3 = some (3, .invokestatic 98, 6, none, [1, 148, 174], 0) := rfl
theorem i_Mo_save_6 : ix_nx mMo_save 6 = some (0, .ifCond .ne 6, 9, none, [], 0) := rfl
theorem i_Mo_save_9 : ix_nx mMo_save 9 = some (0, .bipush (-2), 11, none, [], 0) := rfl
theorem i_Mo_save_11 : ix_nx mMo_save 11 = some (4, .ireturn, 12, none, [], 0) := rfl
theorem i_Mo_save_12 : ix_nx mMo_save 12 = some (0, .iconst 0, 13, none, [], 0) := rfl
theorem i_Mo_save_13 : ix_nx mMo_save 13 = some (0, .istore_n 2, 14, none, [], 0) := rfl
theorem i_Mo_save_14 : ix_nx mMo_save 14 = some (0, .iload_n 2, 15, some [true, true, true], [], 0) := rfl
theorem i_Mo_save_15 : ix_nx mMo_save 15 = some (0, .sipush 720, 18, none, [], 0) := rfl
theorem i_Mo_save_18 : ix_nx mMo_save 18 = some (0, .if_icmp .ge 27, 21, none, [], 0) := rfl
theorem i_Mo_save_21 : ix_nx mMo_save 21 = some (0, .aload_n 0, 22, none, [], 0) := rfl
theorem i_Mo_save_22 : ix_nx mMo_save 22 = some (1, .getfield 13, 25, none, [11, 1, 2, 91], 0) := rfl
theorem i_Mo_save_25 : ix_nx mMo_save 25 = some (0, .sipush 720, 28, none, [], 0) := rfl
theorem i_Mo_save_28 : ix_nx mMo_save 28 = some (0, .iload_n 1, 29, none, [], 0) := rfl
theorem i_Mo_save_29 : ix_nx mMo_save 29 = some (0, .imul, 30, none, [], 0) := rfl
theorem i_Mo_save_30 : ix_nx mMo_save 30 = some (0, .iload_n 2, 31, none, [], 0) := rfl
theorem i_Mo_save_31 : ix_nx mMo_save 31 = some (0, .iadd, 32, none, [], 0) := rfl
theorem i_Mo_save_32 : ix_nx mMo_save 32 = some (0, .aload_n 0, 33, none, [], 0) := rfl
theorem i_Mo_save_33 : ix_nx mMo_save 33 = some (1, .getfield 7, 36, none, [11, 0, 2, 90], 0) := rfl
theorem i_Mo_save_36 : ix_nx mMo_save 36 = some (0, .iload_n 2, 37, none, [], 0) := rfl
theorem i_Mo_save_37 : ix_nx mMo_save 37 = some (1, .iaload, 38, none, [], 0) := rfl
theorem i_Mo_save_38 : ix_nx mMo_save 38 = some (2, .iastore, 39, none, [], 0) := rfl
theorem i_Mo_save_39 : ix_nx mMo_save 39 = some (0, .iinc 2 1, 42, none, [], 0) := rfl
theorem i_Mo_save_42 : ix_nx mMo_save 42 = some (0, .goto (-28), 45, none, [], 0) := rfl
theorem i_Mo_save_45 : ix_nx mMo_save 45 = some (0, .aload_n 0, 46, none, [], 0) := rfl
theorem i_Mo_save_46 : ix_nx mMo_save 46 = some (1, .getfield 16, 49, none, [11, 2, 2, 92], 0) := rfl
theorem i_Mo_save_49 : ix_nx mMo_save 49 = some (0, .iload_n 1, 50, none, [], 0) := rfl
theorem i_Mo_save_50 : ix_nx mMo_save 50 = some (0, .iconst 1, 51, none, [], 0) := rfl
theorem i_Mo_save_51 : ix_nx mMo_save 51 = some (2, .bastore, 52, none, [], 0) := rfl
theorem i_Mo_save_52 : ix_nx mMo_save 52 = some (0, .aload_n 0, 53, none, [], 0) := rfl
theorem i_Mo_save_53 : ix_nx mMo_save 53 = some (3, .invokevirtual 120, 56, none, [0, 152, 177], 0) := rfl
theorem i_Mo_save_56 : ix_nx mMo_save 56 = some (4, .ireturn, 57, none, [], 0) := rfl
noncomputable def l_Mo_save_14 (a0 : Nat) (x1 : Int32) (x2 : Int32) (h : ixH) : Option (List Value × ixH) := ix_D mMo_save 14 [some (.ref a0), some (.int x1), some (.int x2)] [] h
set_option maxRecDepth 20000 in
set_option maxHeartbeats 1000000 in
theorem e_Mo_save_14 (a0 : Nat) (x1 : Int32) (x2 : Int32) (h : ixH) : l_Mo_save_14 a0 x1 x2 h = if 720 ≤ x2 then (ix_gr h a0 11 2).bind fun v1 => (ix_sz h v1 x1 1).bind fun h2 => (ix_M mMo_walls [.ref a0] h2).bind fun r => ix_kI r fun v4 h3 => some ([.int v4], h3) else (ix_gr h a0 11 1).bind fun v5 => (ix_gr h a0 11 0).bind fun v6 => (ix_ai h v6 x2).bind fun v7 => (ix_si h v5 ((720 * x1) + x2) v7).bind fun h8 => l_Mo_save_14 a0 x1 (x2 + 1) h8 := by
  unfold l_Mo_save_14
  refine ix_K_px kq_Mo_save i_Mo_save_14 rfl rfl ?_
  refine ix_K_cs kq_Mo_save i_Mo_save_15 rfl kcs_720 ?_
  refine ix_K_ic_ge (tgt := 45) kq_Mo_save i_Mo_save_18 rfl (by decide) ?_ ?_
  · refine ix_K_px kq_Mo_save i_Mo_save_45 rfl rfl ?_
    refine ix_K_gr kq_Mo_save i_Mo_save_46 rfl (fun v1 => ?_)
    refine ix_K_px kq_Mo_save i_Mo_save_49 rfl rfl ?_
    refine ix_K_ci kq_Mo_save i_Mo_save_50 rfl kci_1 ?_
    refine ix_K_tz kq_Mo_save i_Mo_save_51 rfl (fun h2 => ?_)
    refine ix_K_px kq_Mo_save i_Mo_save_52 rfl rfl ?_
    refine ix_K_callI (as := [.ref a0]) (rest := []) kq_Mo_save i_Mo_save_53 rfl kq_Mo_walls (by decide) rfl (Or.inl rfl) (fun v4 h3 => ?_)
    exact ix_D_ret kq_Mo_save i_Mo_save_56 (ix_rtI rfl _)
  · refine ix_K_px kq_Mo_save i_Mo_save_21 rfl rfl ?_
    refine ix_K_gr kq_Mo_save i_Mo_save_22 rfl (fun v5 => ?_)
    refine ix_K_cs kq_Mo_save i_Mo_save_25 rfl kcs_720 ?_
    refine ix_K_px kq_Mo_save i_Mo_save_28 rfl rfl ?_
    refine ix_K_px kq_Mo_save i_Mo_save_29 rfl rfl ?_
    refine ix_K_px kq_Mo_save i_Mo_save_30 rfl rfl ?_
    refine ix_K_px kq_Mo_save i_Mo_save_31 rfl rfl ?_
    refine ix_K_px kq_Mo_save i_Mo_save_32 rfl rfl ?_
    refine ix_K_gr kq_Mo_save i_Mo_save_33 rfl (fun v6 => ?_)
    refine ix_K_px kq_Mo_save i_Mo_save_36 rfl rfl ?_
    refine ix_K_ai kq_Mo_save i_Mo_save_37 rfl (fun v7 => ?_)
    refine ix_K_ti kq_Mo_save i_Mo_save_38 rfl (fun h8 => ?_)
    refine ix_K_inc (L2 := [some (.ref a0), some (.int x1), some (.int (x2 + 1))]) kq_Mo_save i_Mo_save_39 rfl rfl (Nat.le_of_ble_eq_true rfl) kci_1 rfl ?_
    refine ix_K_goto (tgt := 14) kq_Mo_save i_Mo_save_42 rfl (by decide) ?_
    exact ix_D_cut i_Mo_save_14 rfl
set_option maxRecDepth 20000 in
set_option maxHeartbeats 1000000 in
theorem e_Mo_save (a0 : Nat) (x1 : Int32) (h : ixH) : ix_D mMo_save 0 [some (.ref a0), some (.int x1), none] [] h = (ix_M mMo_in [.int x1, .int 0, .int 1] h).bind fun r => ix_kZ r fun v2 h1 => if v2 = true then l_Mo_save_14 a0 x1 0 h1 else some ([.int (-2)], h1) := by
  refine ix_K_px kq_Mo_save i_Mo_save_0 rfl rfl ?_
  refine ix_K_ci kq_Mo_save i_Mo_save_1 rfl kci_0 ?_
  refine ix_K_ci kq_Mo_save i_Mo_save_2 rfl kci_1 ?_
  refine ix_K_callZ (as := [.int x1, .int 0, .int 1]) (rest := []) kq_Mo_save i_Mo_save_3 rfl kq_Mo_in (by decide) rfl rfl (fun v2 h1 => ?_)
  refine ix_K_bz_ne (tgt := 12) kq_Mo_save i_Mo_save_6 rfl (by decide) ?_ ?_
  · refine ix_K_ci kq_Mo_save i_Mo_save_12 rfl kci_0 ?_
    refine ix_K_si (L2 := [some (.ref a0), some (.int x1), some (.int 0)]) kq_Mo_save i_Mo_save_13 rfl (Or.inr ⟨_, rfl, rfl⟩) (Nat.le_of_ble_eq_true rfl) rfl ?_
    exact ix_D_cut i_Mo_save_14 rfl
  · refine ix_K_cb kq_Mo_save i_Mo_save_9 rfl kcb_m2 ?_
    exact ix_D_ret kq_Mo_save i_Mo_save_11 (ix_rtI rfl _)
theorem x_Mo_save {a0 : Nat} {x1 : Int32} {h h1 : ixH} {v : Int32} (hr : ix_rc h a0 = some 11) (hd : ix_D mMo_save 0 [some (.ref a0), some (.int x1), none] [] h = some ([.int v], h1)) : ix_M mMo_save [.ref a0, .int x1] h = some ([.int v], h1) := ix_M_of (ix_ent_i kq_Mo_save rfl hr rfl (Nat.le_of_ble_eq_true rfl) rfl) hd (ix_okrI (Or.inl rfl) v)
theorem i_Mo_restore_0 : ix_nx mMo_restore 0 = some (0, .iload_n 1, 1, none, [], 0) := rfl
theorem i_Mo_restore_1 : ix_nx mMo_restore 1 = some (0, .iconst 0, 2, none, [], 0) := rfl
theorem i_Mo_restore_2 : ix_nx mMo_restore 2 = some (0, .iconst 1, 3, none, [], 0) := rfl
theorem i_Mo_restore_3 : ix_nx mMo_restore 3 = some (3, .invokestatic 98, 6, none, [1, 148, 174], 0) := rfl
theorem i_Mo_restore_6 : ix_nx mMo_restore 6 = some (0, .ifCond .ne 6, 9, none, [], 0) := rfl
theorem i_Mo_restore_9 : ix_nx mMo_restore 9 = some (0, .bipush (-2), 11, none, [], 0) := rfl
theorem i_Mo_restore_11 : ix_nx mMo_restore 11 = some (4, .ireturn, 12, none, [], 0) := rfl
theorem i_Mo_restore_12 : ix_nx mMo_restore 12 = some (0, .aload_n 0, 13, none, [], 0) := rfl
theorem i_Mo_restore_13 : ix_nx mMo_restore 13 = some (1, .getfield 16, 16, none, [11, 2, 2, 92], 0) := rfl
theorem i_Mo_restore_16 : ix_nx mMo_restore 16 = some (0, .iload_n 1, 17, none, [], 0) := rfl
theorem i_Mo_restore_17 : ix_nx mMo_restore 17 = some (1, .baload, 18, none, [2], 0) := rfl
theorem i_Mo_restore_18 : ix_nx mMo_restore 18 = some (0, .ifCond .ne 6, 21, none, [], 0) := rfl
theorem i_Mo_restore_21 : ix_nx mMo_restore 21 = some (0, .bipush (-5), 23, none, [], 0) := rfl
theorem i_Mo_restore_23 : ix_nx mMo_restore 23 = some (4, .ireturn, 24, none, [], 0) := rfl
theorem i_Mo_restore_24 : ix_nx mMo_restore 24 = some (0, .iconst 0, 25, none, [], 0) := rfl
theorem i_Mo_restore_25 : ix_nx mMo_restore 25 = some (0, .istore_n 2, 26, none, [], 0) := rfl
theorem i_Mo_restore_26 : ix_nx mMo_restore 26 = some (0, .iload_n 2, 27, some [true, true, true], [], 0) := rfl
theorem i_Mo_restore_27 : ix_nx mMo_restore 27 = some (0, .sipush 720, 30, none, [], 0) := rfl
theorem i_Mo_restore_30 : ix_nx mMo_restore 30 = some (0, .if_icmp .ge 27, 33, none, [], 0) := rfl
theorem i_Mo_restore_33 : ix_nx mMo_restore 33 = some (0, .aload_n 0, 34, none, [], 0) := rfl
theorem i_Mo_restore_34 : ix_nx mMo_restore 34 = some (1, .getfield 7, 37, none, [11, 0, 2, 90], 0) := rfl
theorem i_Mo_restore_37 : ix_nx mMo_restore 37 = some (0, .iload_n 2, 38, none, [], 0) := rfl
theorem i_Mo_restore_38 : ix_nx mMo_restore 38 = some (0, .aload_n 0, 39, none, [], 0) := rfl
theorem i_Mo_restore_39 : ix_nx mMo_restore 39 = some (1, .getfield 13, 42, none, [11, 1, 2, 91], 0) := rfl
theorem i_Mo_restore_42 : ix_nx mMo_restore 42 = some (0, .sipush 720, 45, none, [], 0) := rfl
theorem i_Mo_restore_45 : ix_nx mMo_restore 45 = some (0, .iload_n 1, 46, none, [], 0) := rfl
theorem i_Mo_restore_46 : ix_nx mMo_restore 46 = some (0, .imul, 47, none, [], 0) := rfl
theorem i_Mo_restore_47 : ix_nx mMo_restore 47 = some (0, .iload_n 2, 48, none, [], 0) := rfl
theorem i_Mo_restore_48 : ix_nx mMo_restore 48 = some (0, .iadd, 49, none, [], 0) := rfl
theorem i_Mo_restore_49 : ix_nx mMo_restore 49 = some (1, .iaload, 50, none, [], 0) := rfl
theorem i_Mo_restore_50 : ix_nx mMo_restore 50 = some (2, .iastore, 51, none, [], 0) := rfl
theorem i_Mo_restore_51 : ix_nx mMo_restore 51 = some (0, .iinc 2 1, 54, none, [], 0) := rfl
theorem i_Mo_restore_54 : ix_nx mMo_restore 54 = some (0, .goto (-28), 57, none, [], 0) := rfl
theorem i_Mo_restore_57 : ix_nx mMo_restore 57 = some (0, .aload_n 0, 58, none, [], 0) := rfl
theorem i_Mo_restore_58 : ix_nx mMo_restore 58 = some (3, .invokevirtual 120, 61, none, [0, 152, 177], 0) := rfl
theorem i_Mo_restore_61 : ix_nx mMo_restore 61 = some (4, .ireturn, 62, none, [], 0) := rfl
noncomputable def l_Mo_restore_26 (a0 : Nat) (x1 : Int32) (x2 : Int32) (h : ixH) : Option (List Value × ixH) := ix_D mMo_restore 26 [some (.ref a0), some (.int x1), some (.int x2)] [] h
set_option maxRecDepth 20000 in
set_option maxHeartbeats 1000000 in
theorem e_Mo_restore_26 (a0 : Nat) (x1 : Int32) (x2 : Int32) (h : ixH) : l_Mo_restore_26 a0 x1 x2 h = if 720 ≤ x2 then (ix_M mMo_walls [.ref a0] h).bind fun r => ix_kI r fun v2 h1 => some ([.int v2], h1) else (ix_gr h a0 11 0).bind fun v3 => (ix_gr h a0 11 1).bind fun v4 => (ix_ai h v4 ((720 * x1) + x2)).bind fun v5 => (ix_si h v3 x2 v5).bind fun h6 => l_Mo_restore_26 a0 x1 (x2 + 1) h6 := by
  unfold l_Mo_restore_26
  refine ix_K_px kq_Mo_restore i_Mo_restore_26 rfl rfl ?_
  refine ix_K_cs kq_Mo_restore i_Mo_restore_27 rfl kcs_720 ?_
  refine ix_K_ic_ge (tgt := 57) kq_Mo_restore i_Mo_restore_30 rfl (by decide) ?_ ?_
  · refine ix_K_px kq_Mo_restore i_Mo_restore_57 rfl rfl ?_
    refine ix_K_callI (as := [.ref a0]) (rest := []) kq_Mo_restore i_Mo_restore_58 rfl kq_Mo_walls (by decide) rfl (Or.inl rfl) (fun v2 h1 => ?_)
    exact ix_D_ret kq_Mo_restore i_Mo_restore_61 (ix_rtI rfl _)
  · refine ix_K_px kq_Mo_restore i_Mo_restore_33 rfl rfl ?_
    refine ix_K_gr kq_Mo_restore i_Mo_restore_34 rfl (fun v3 => ?_)
    refine ix_K_px kq_Mo_restore i_Mo_restore_37 rfl rfl ?_
    refine ix_K_px kq_Mo_restore i_Mo_restore_38 rfl rfl ?_
    refine ix_K_gr kq_Mo_restore i_Mo_restore_39 rfl (fun v4 => ?_)
    refine ix_K_cs kq_Mo_restore i_Mo_restore_42 rfl kcs_720 ?_
    refine ix_K_px kq_Mo_restore i_Mo_restore_45 rfl rfl ?_
    refine ix_K_px kq_Mo_restore i_Mo_restore_46 rfl rfl ?_
    refine ix_K_px kq_Mo_restore i_Mo_restore_47 rfl rfl ?_
    refine ix_K_px kq_Mo_restore i_Mo_restore_48 rfl rfl ?_
    refine ix_K_ai kq_Mo_restore i_Mo_restore_49 rfl (fun v5 => ?_)
    refine ix_K_ti kq_Mo_restore i_Mo_restore_50 rfl (fun h6 => ?_)
    refine ix_K_inc (L2 := [some (.ref a0), some (.int x1), some (.int (x2 + 1))]) kq_Mo_restore i_Mo_restore_51 rfl rfl (Nat.le_of_ble_eq_true rfl) kci_1 rfl ?_
    refine ix_K_goto (tgt := 26) kq_Mo_restore i_Mo_restore_54 rfl (by decide) ?_
    exact ix_D_cut i_Mo_restore_26 rfl
set_option maxRecDepth 20000 in
set_option maxHeartbeats 1000000 in
theorem e_Mo_restore (a0 : Nat) (x1 : Int32) (h : ixH) : ix_D mMo_restore 0 [some (.ref a0), some (.int x1), none] [] h = (ix_M mMo_in [.int x1, .int 0, .int 1] h).bind fun r => ix_kZ r fun v2 h1 => if v2 = true then (ix_gr h1 a0 11 2).bind fun v3 => (ix_az h1 v3 x1).bind fun v4 => if ¬ v4 = 0 then l_Mo_restore_26 a0 x1 0 h1 else some ([.int (-5)], h1) else some ([.int (-2)], h1) := by
  refine ix_K_px kq_Mo_restore i_Mo_restore_0 rfl rfl ?_
  refine ix_K_ci kq_Mo_restore i_Mo_restore_1 rfl kci_0 ?_
  refine ix_K_ci kq_Mo_restore i_Mo_restore_2 rfl kci_1 ?_
  refine ix_K_callZ (as := [.int x1, .int 0, .int 1]) (rest := []) kq_Mo_restore i_Mo_restore_3 rfl kq_Mo_in (by decide) rfl rfl (fun v2 h1 => ?_)
  refine ix_K_bz_ne (tgt := 12) kq_Mo_restore i_Mo_restore_6 rfl (by decide) ?_ ?_
  · refine ix_K_px kq_Mo_restore i_Mo_restore_12 rfl rfl ?_
    refine ix_K_gr kq_Mo_restore i_Mo_restore_13 rfl (fun v3 => ?_)
    refine ix_K_px kq_Mo_restore i_Mo_restore_16 rfl rfl ?_
    refine ix_K_az kq_Mo_restore i_Mo_restore_17 rfl (fun v4 => ?_)
    refine ix_K_if_ne (tgt := 24) kq_Mo_restore i_Mo_restore_18 rfl (by decide) ?_ ?_
    · refine ix_K_ci kq_Mo_restore i_Mo_restore_24 rfl kci_0 ?_
      refine ix_K_si (L2 := [some (.ref a0), some (.int x1), some (.int 0)]) kq_Mo_restore i_Mo_restore_25 rfl (Or.inr ⟨_, rfl, rfl⟩) (Nat.le_of_ble_eq_true rfl) rfl ?_
      exact ix_D_cut i_Mo_restore_26 rfl
    · refine ix_K_cb kq_Mo_restore i_Mo_restore_21 rfl kcb_m5 ?_
      exact ix_D_ret kq_Mo_restore i_Mo_restore_23 (ix_rtI rfl _)
  · refine ix_K_cb kq_Mo_restore i_Mo_restore_9 rfl kcb_m2 ?_
    exact ix_D_ret kq_Mo_restore i_Mo_restore_11 (ix_rtI rfl _)
theorem x_Mo_restore {a0 : Nat} {x1 : Int32} {h h1 : ixH} {v : Int32} (hr : ix_rc h a0 = some 11) (hd : ix_D mMo_restore 0 [some (.ref a0), some (.int x1), none] [] h = some ([.int v], h1)) : ix_M mMo_restore [.ref a0, .int x1] h = some ([.int v], h1) := ix_M_of (ix_ent_i kq_Mo_restore rfl hr rfl (Nat.le_of_ble_eq_true rfl) rfl) hd (ix_okrI (Or.inl rfl) v)
