/-! PRINTED by wip/whole/gen6.py -/
theorem i_Mo_init_0 : ix_nx mMo_init 0 = some (0, .aload_n 0, 1, none, [], 0) := rfl
theorem i_Mo_init_1 : ix_nx mMo_init 1 = some (3, .invokespecial 1, 4, none, [6, 0, 172], 0) := rfl
theorem i_Mo_init_4 : ix_nx mMo_init 4 = some (0, .aload_n 0, 5, none, [], 0) := rfl
theorem i_Mo_init_5 : ix_nx mMo_init 5 = some (0, .sipush 720, 8, none, [], 0) := rfl
theorem i_Mo_init_8 : ix_nx mMo_init 8 = some (2, .newarray .int, 10, none, [], 0) := rfl
theorem i_Mo_init_10 : ix_nx mMo_init 10 = some (2, .putfield 7, 13, none, [11, 0, 2, 90], 0) := rfl
theorem i_Mo_init_13 : ix_nx mMo_init 13 = some (0, .aload_n 0, 14, none, [], 0) := rfl
theorem i_Mo_init_14 : ix_nx mMo_init 14 = some (0, .sipush 1440, 17, none, [], 0) := rfl
theorem i_Mo_init_17 : ix_nx mMo_init 17 = some (2, .newarray .int, 19, none, [], 0) := rfl
theorem i_Mo_init_19 : ix_nx mMo_init 19 = some (2, .putfield 13, 22, none, [11, 1, 2, 91], 0) := rfl
theorem i_Mo_init_22 : ix_nx mMo_init 22 = some (0, .aload_n 0, 23, none, [], 0) := rfl
theorem i_Mo_init_23 : ix_nx mMo_init 23 = some (0, .iconst 2, 24, none, [], 0) := rfl
theorem i_Mo_init_24 : ix_nx mMo_init 24 = some (2, .newarray .boolean, 26, none, [], 0) := rfl
theorem i_Mo_init_26 : ix_nx mMo_init 26 = some (2, .putfield 16, 29, none, [11, 2, 2, 92], 0) := rfl
theorem i_Mo_init_29 : ix_nx mMo_init 29 = some (0, .aload_n 0, 30, none, [], 0) := rfl
theorem i_Mo_init_30 : ix_nx mMo_init 30 = some (0, .bipush 64, 32, none, [], 0) := rfl
theorem i_Mo_init_32 : ix_nx mMo_init 32 = some (2, .newarray .long, 34, none, [], 0) := rfl
theorem i_Mo_init_34 : ix_nx mMo_init 34 = some (2, .putfield 20, 37, none, [11, 3, 2, 93], 0) := rfl
theorem i_Mo_init_37 : ix_nx mMo_init 37 = some (0, .aload_n 0, 38, none, [], 0) := rfl
theorem i_Mo_init_38 : ix_nx mMo_init 38 = some (0, .sipush 6561, 41, none, [], 0) := rfl
theorem i_Mo_init_41 : ix_nx mMo_init 41 = some (2, .newarray .long, 43, none, [], 0) := rfl
theorem i_Mo_init_43 : ix_nx mMo_init 43 = some (2, .putfield 24, 46, none, [11, 4, 2, 94], 0) := rfl
theorem i_Mo_init_46 : ix_nx mMo_init 46 = some (0, .aload_n 0, 47, none, [], 0) := rfl
theorem i_Mo_init_47 : ix_nx mMo_init 47 = some (0, .sipush 6561, 50, none, [], 0) := rfl
theorem i_Mo_init_50 : ix_nx mMo_init 50 = some (2, .newarray .long, 52, none, [], 0) := rfl
theorem i_Mo_init_52 : ix_nx mMo_init 52 = some (2, .putfield 27, 55, none, [11, 5, 2, 95], 0) := rfl
theorem i_Mo_init_55 : ix_nx mMo_init 55 = some (0, .aload_n 0, 56, none, [], 0) := rfl
theorem i_Mo_init_56 : ix_nx mMo_init 56 = some (0, .bipush 16, 58, none, [], 0) := rfl
theorem i_Mo_init_58 : ix_nx mMo_init 58 = some (2, .newarray .long, 60, none, [], 0) := rfl
theorem i_Mo_init_60 : ix_nx mMo_init 60 = some (2, .putfield 30, 63, none, [11, 6, 2, 96], 0) := rfl
theorem i_Mo_init_63 : ix_nx mMo_init 63 = some (0, .aload_n 0, 64, none, [], 0) := rfl
theorem i_Mo_init_64 : ix_nx mMo_init 64 = some (0, .bipush 64, 66, none, [], 0) := rfl
theorem i_Mo_init_66 : ix_nx mMo_init 66 = some (2, .newarray .int, 68, none, [], 0) := rfl
theorem i_Mo_init_68 : ix_nx mMo_init 68 = some (2, .putfield 33, 71, none, [11, 7, 2, 97], 0) := rfl
theorem i_Mo_init_71 : ix_nx mMo_init 71 = some (0, .aload_n 0, 72, none, [], 0) := rfl
theorem i_Mo_init_72 : ix_nx mMo_init 72 = some (0, .sipush 128, 75, none, [], 0) := rfl
theorem i_Mo_init_75 : ix_nx mMo_init 75 = some (2, .newarray .int, 77, none, [], 0) := rfl
theorem i_Mo_init_77 : ix_nx mMo_init 77 = some (2, .putfield 36, 80, none, [11, 8, 2, 98], 0) := rfl
theorem i_Mo_init_80 : ix_nx mMo_init 80 = some (0, .aload_n 0, 81, none, [], 0) := rfl
theorem i_Mo_init_81 : ix_nx mMo_init 81 = some (0, .bipush 64, 83, none, [], 0) := rfl
theorem i_Mo_init_83 : ix_nx mMo_init 83 = some (2, .newarray .int, 85, none, [], 0) := rfl
theorem i_Mo_init_85 : ix_nx mMo_init 85 = some (2, .putfield 39, 88, none, [11, 9, 2, 99], 0) := rfl
theorem i_Mo_init_88 : ix_nx mMo_init 88 = some (0, .aload_n 0, 89, none, [], 0) := rfl
theorem i_Mo_init_89 : ix_nx mMo_init 89 = some (0, .bipush 64, 91, none, [], 0) := rfl
theorem i_Mo_init_91 : ix_nx mMo_init 91 = some (2, .newarray .int, 93, none, [], 0) := rfl
theorem i_Mo_init_93 : ix_nx mMo_init 93 = some (2, .putfield 42, 96, none, [11, 10, 2, 100], 0) := rfl
theorem i_Mo_init_96 : ix_nx mMo_init 96 = some (0, .aload_n 0, 97, none, [], 0) := rfl
theorem i_Mo_init_97 : ix_nx mMo_init 97 = some (0, .sipush 128, 100, none, [], 0) := rfl
theorem i_Mo_init_100 : ix_nx mMo_init 100 = some (2, .newarray .int, 102, none, [], 0) := rfl
theorem i_Mo_init_102 : ix_nx mMo_init 102 = some (2, .putfield 45, 105, none, [11, 11, 2, 101], 0) := rfl
theorem i_Mo_init_105 : ix_nx mMo_init 105 = some (0, .aload_n 0, 106, none, [], 0) := rfl
theorem i_Mo_init_106 : ix_nx mMo_init 106 = some (0, .sipush 256, 109, none, [], 0) := rfl
theorem i_Mo_init_109 : ix_nx mMo_init 109 = some (2, .newarray .int, 111, none, [], 0) := rfl
theorem i_Mo_init_111 : ix_nx mMo_init 111 = some (2, .putfield 48, 114, none, [11, 15, 2, 105], 0) := rfl
theorem i_Mo_init_114 : ix_nx mMo_init 114 = some (0, .aload_n 0, 115, none, [], 0) := rfl
theorem i_Mo_init_115 : ix_nx mMo_init 115 = some (0, .bipush 64, 117, none, [], 0) := rfl
theorem i_Mo_init_117 : ix_nx mMo_init 117 = some (2, .newarray .int, 119, none, [], 0) := rfl
theorem i_Mo_init_119 : ix_nx mMo_init 119 = some (2, .putfield 51, 122, none, [11, 16, 2, 106], 0) := rfl
theorem i_Mo_init_122 : ix_nx mMo_init 122 = some (0, .aload_n 0, 123, none, [], 0) := rfl
theorem i_Mo_init_123 : ix_nx mMo_init 123 = some (0, .bipush 64, 125, none, [], 0) := rfl
theorem i_Mo_init_125 : ix_nx mMo_init 125 = some (2, .newarray .int, 127, none, [], 0) := rfl
theorem i_Mo_init_127 : ix_nx mMo_init 127 = some (2, .putfield 54, 130, none, [11, 17, 2, 107], 0) := rfl
theorem i_Mo_init_130 : ix_nx mMo_init 130 = some (0, .aload_n 0, 131, none, [], 0) := rfl
theorem i_Mo_init_131 : ix_nx mMo_init 131 = some (0, .bipush 64, 133, none, [], 0) := rfl
theorem i_Mo_init_133 : ix_nx mMo_init 133 = some (2, .newarray .boolean, 135, none, [], 0) := rfl
theorem i_Mo_init_135 : ix_nx mMo_init 135 = some (2, .putfield 57, 138, none, [11, 18, 2, 108], 0) := rfl
theorem i_Mo_init_138 : ix_nx mMo_init 138 = some (0, .aload_n 0, 139, none, [], 0) := rfl
theorem i_Mo_init_139 : ix_nx mMo_init 139 = some (0, .bipush 64, 141, none, [], 0) := rfl
theorem i_Mo_init_141 : ix_nx mMo_init 141 = some (2, .newarray .int, 143, none, [], 0) := rfl
theorem i_Mo_init_143 : ix_nx mMo_init 143 = some (2, .putfield 60, 146, none, [11, 19, 2, 109], 0) := rfl
theorem i_Mo_init_146 : ix_nx mMo_init 146 = some (0, .aload_n 0, 147, none, [], 0) := rfl
theorem i_Mo_init_147 : ix_nx mMo_init 147 = some (0, .sipush 4096, 150, none, [], 0) := rfl
theorem i_Mo_init_150 : ix_nx mMo_init 150 = some (2, .newarray .boolean, 152, none, [], 0) := rfl
theorem i_Mo_init_152 : ix_nx mMo_init 152 = some (2, .putfield 63, 155, none, [11, 21, 2, 111], 0) := rfl
theorem i_Mo_init_155 : ix_nx mMo_init 155 = some (0, .aload_n 0, 156, none, [], 0) := rfl
theorem i_Mo_init_156 : ix_nx mMo_init 156 = some (0, .bipush 64, 158, none, [], 0) := rfl
theorem i_Mo_init_158 : ix_nx mMo_init 158 = some (2, .newarray .boolean, 160, none, [], 0) := rfl
theorem i_Mo_init_160 : ix_nx mMo_init 160 = some (2, .putfield 66, 163, none, [11, 22, 2, 112], 0) := rfl
theorem i_Mo_init_163 : ix_nx mMo_init 163 = some (0, .aload_n 0, 164, none, [], 0) := rfl
theorem i_Mo_init_164 : ix_nx mMo_init 164 = some (0, .bipush 64, 166, none, [], 0) := rfl
theorem i_Mo_init_166 : ix_nx mMo_init 166 = some (2, .newarray .int, 168, none, [], 0) := rfl
set_option maxRecDepth 50000 in
theorem i_Mo_init_168 : ix_nx mMo_init 168 = some (2, .putfield 69, 171, none, [11, 23, 2, 113], 0) := rfl
set_option maxRecDepth 50000 in
theorem i_Mo_init_171 : ix_nx mMo_init 171 = some (0, .aload_n 0, 172, none, [], 0) := rfl
set_option maxRecDepth 50000 in
theorem i_Mo_init_172 : ix_nx mMo_init 172 = some (0, .bipush 64, 174, none, [], 0) := rfl
set_option maxRecDepth 50000 in
theorem i_Mo_init_174 : ix_nx mMo_init 174 = some (2, .newarray .int, 176, none, [], 0) := rfl
set_option maxRecDepth 50000 in
theorem i_Mo_init_176 : ix_nx mMo_init 176 = some (2, .putfield 72, 179, none, [11, 24, 2, 114], 0) := rfl
set_option maxRecDepth 50000 in
theorem i_Mo_init_179 : ix_nx mMo_init 179 = some (0, .aload_n 0, 180, none, [], 0) := rfl
set_option maxRecDepth 50000 in
theorem i_Mo_init_180 : ix_nx mMo_init 180 = some (0, .bipush 64, 182, none, [], 0) := rfl
set_option maxRecDepth 50000 in
theorem i_Mo_init_182 : ix_nx mMo_init 182 = some (2, .newarray .int, 184, none, [], 0) := rfl
set_option maxRecDepth 50000 in
theorem i_Mo_init_184 : ix_nx mMo_init 184 = some (2, .putfield 75, 187, none, [11, 25, 2, 115], 0) := rfl
set_option maxRecDepth 50000 in
theorem i_Mo_init_187 : ix_nx mMo_init 187 = some (0, .aload_n 0, 188, none, [], 0) := rfl
set_option maxRecDepth 50000 in
theorem i_Mo_init_188 : ix_nx mMo_init 188 = some (0, .bipush 64, 190, none, [], 0) := rfl
set_option maxRecDepth 50000 in
theorem i_Mo_init_190 : ix_nx mMo_init 190 = some (2, .newarray .int, 192, none, [], 0) := rfl
set_option maxRecDepth 50000 in
theorem i_Mo_init_192 : ix_nx mMo_init 192 = some (2, .putfield 78, 195, none, [11, 26, 2, 116], 0) := rfl
set_option maxRecDepth 50000 in
theorem i_Mo_init_195 : ix_nx mMo_init 195 = some (0, .aload_n 0, 196, none, [], 0) := rfl
set_option maxRecDepth 50000 in
theorem i_Mo_init_196 : ix_nx mMo_init 196 = some (0, .sipush 130, 199, none, [], 0) := rfl
set_option maxRecDepth 50000 in
theorem i_Mo_init_199 : ix_nx mMo_init 199 = some (2, .newarray .int, 201, none, [], 0) := rfl
set_option maxRecDepth 50000 in
theorem i_Mo_init_201 : ix_nx mMo_init 201 = some (2, .putfield 81, 204, none, [11, 28, 2, 118], 0) := rfl
set_option maxRecDepth 50000 in
theorem i_Mo_init_204 : ix_nx mMo_init 204 = some (0, .aload_n 0, 205, none, [], 0) := rfl
set_option maxRecDepth 50000 in
theorem i_Mo_init_205 : ix_nx mMo_init 205 = some (0, .iconst 2, 206, none, [], 0) := rfl
set_option maxRecDepth 50000 in
theorem i_Mo_init_206 : ix_nx mMo_init 206 = some (2, .newarray .int, 208, none, [], 0) := rfl
set_option maxRecDepth 50000 in
theorem i_Mo_init_208 : ix_nx mMo_init 208 = some (2, .putfield 84, 211, none, [11, 29, 2, 119], 0) := rfl
set_option maxRecDepth 50000 in
theorem i_Mo_init_211 : ix_nx mMo_init 211 = some (0, .aload_n 0, 212, none, [], 0) := rfl
set_option maxRecDepth 50000 in
theorem i_Mo_init_212 : ix_nx mMo_init 212 = some (0, .bipush 80, 214, none, [], 0) := rfl
set_option maxRecDepth 50000 in
theorem i_Mo_init_214 : ix_nx mMo_init 214 = some (2, .newarray .int, 216, none, [], 0) := rfl
set_option maxRecDepth 50000 in
theorem i_Mo_init_216 : ix_nx mMo_init 216 = some (2, .putfield 87, 219, none, [11, 30, 2, 120], 0) := rfl
set_option maxRecDepth 50000 in
theorem i_Mo_init_219 : ix_nx mMo_init 219 = some (0, .aload_n 0, 220, none, [], 0) := rfl
set_option maxRecDepth 50000 in
theorem i_Mo_init_220 : ix_nx mMo_init 220 = some (0, .bipush 6, 222, none, [], 0) := rfl
set_option maxRecDepth 50000 in
theorem i_Mo_init_222 : ix_nx mMo_init 222 = some (0, .bipush 6, 224, none, [], 0) := rfl
set_option maxRecDepth 50000 in
theorem i_Mo_init_224 : ix_nx mMo_init 224 = some (3, .invokevirtual 90, 227, none, [0, 146, 173], 0) := rfl
set_option maxRecDepth 50000 in
theorem i_Mo_init_227 : ix_nx mMo_init 227 = some (4, .return_, 228, none, [], 0) := rfl
set_option maxRecDepth 20000 in
set_option maxHeartbeats 1000000 in
theorem e_Mo_init (a0 : Nat) (h : ixH) : ix_D mMo_init 0 [some (.ref a0)] [] h = (ix_pf (ix_nw h (.inl (0, 720, .inl fun _ => 0)) 720) a0 11 0 (.ref h.1)).bind fun h1 => (ix_pf (ix_nw h1 (.inl (0, 1440, .inl fun _ => 0)) 1440) a0 11 1 (.ref h1.1)).bind fun h2 => (ix_pf (ix_nw h2 (.inl (2, 2, .inl fun _ => 0)) 2) a0 11 2 (.ref h2.1)).bind fun h3 => (ix_pf (ix_nw h3 (.inl (1, 64, .inr (.inl fun _ => 0))) 64) a0 11 3 (.ref h3.1)).bind fun h4 => (ix_pf (ix_nw h4 (.inl (1, 6561, .inr (.inl fun _ => 0))) 6561) a0 11 4 (.ref h4.1)).bind fun h5 => (ix_pf (ix_nw h5 (.inl (1, 6561, .inr (.inl fun _ => 0))) 6561) a0 11 5 (.ref h5.1)).bind fun h6 => (ix_pf (ix_nw h6 (.inl (1, 16, .inr (.inl fun _ => 0))) 16) a0 11 6 (.ref h6.1)).bind fun h7 => (ix_pf (ix_nw h7 (.inl (0, 64, .inl fun _ => 0)) 64) a0 11 7 (.ref h7.1)).bind fun h8 => (ix_pf (ix_nw h8 (.inl (0, 128, .inl fun _ => 0)) 128) a0 11 8 (.ref h8.1)).bind fun h9 => (ix_pf (ix_nw h9 (.inl (0, 64, .inl fun _ => 0)) 64) a0 11 9 (.ref h9.1)).bind fun h10 => (ix_pf (ix_nw h10 (.inl (0, 64, .inl fun _ => 0)) 64) a0 11 10 (.ref h10.1)).bind fun h11 => (ix_pf (ix_nw h11 (.inl (0, 128, .inl fun _ => 0)) 128) a0 11 11 (.ref h11.1)).bind fun h12 => (ix_pf (ix_nw h12 (.inl (0, 256, .inl fun _ => 0)) 256) a0 11 15 (.ref h12.1)).bind fun h13 => (ix_pf (ix_nw h13 (.inl (0, 64, .inl fun _ => 0)) 64) a0 11 16 (.ref h13.1)).bind fun h14 => (ix_pf (ix_nw h14 (.inl (0, 64, .inl fun _ => 0)) 64) a0 11 17 (.ref h14.1)).bind fun h15 => (ix_pf (ix_nw h15 (.inl (2, 64, .inl fun _ => 0)) 64) a0 11 18 (.ref h15.1)).bind fun h16 => (ix_pf (ix_nw h16 (.inl (0, 64, .inl fun _ => 0)) 64) a0 11 19 (.ref h16.1)).bind fun h17 => (ix_pf (ix_nw h17 (.inl (2, 4096, .inl fun _ => 0)) 4096) a0 11 21 (.ref h17.1)).bind fun h18 => (ix_pf (ix_nw h18 (.inl (2, 64, .inl fun _ => 0)) 64) a0 11 22 (.ref h18.1)).bind fun h19 => (ix_pf (ix_nw h19 (.inl (0, 64, .inl fun _ => 0)) 64) a0 11 23 (.ref h19.1)).bind fun h20 => (ix_pf (ix_nw h20 (.inl (0, 64, .inl fun _ => 0)) 64) a0 11 24 (.ref h20.1)).bind fun h21 => (ix_pf (ix_nw h21 (.inl (0, 64, .inl fun _ => 0)) 64) a0 11 25 (.ref h21.1)).bind fun h22 => (ix_pf (ix_nw h22 (.inl (0, 64, .inl fun _ => 0)) 64) a0 11 26 (.ref h22.1)).bind fun h23 => (ix_pf (ix_nw h23 (.inl (0, 130, .inl fun _ => 0)) 130) a0 11 28 (.ref h23.1)).bind fun h24 => (ix_pf (ix_nw h24 (.inl (0, 2, .inl fun _ => 0)) 2) a0 11 29 (.ref h24.1)).bind fun h25 => (ix_pf (ix_nw h25 (.inl (0, 80, .inl fun _ => 0)) 80) a0 11 30 (.ref h25.1)).bind fun h26 => (ix_M mMo_layGrid [.ref a0, .int 6, .int 6] h26).bind fun r => ix_kV r fun h27 => some ([], h27) := by
  refine ix_K_px kq_Mo_init i_Mo_init_0 rfl rfl ?_
  refine ix_K_obj kq_Mo_init i_Mo_init_1 rfl (Nat.le_of_ble_eq_true rfl) ?_
  refine ix_K_px kq_Mo_init i_Mo_init_4 rfl rfl ?_
  refine ix_K_cs kq_Mo_init i_Mo_init_5 rfl kcs_720 ?_
  refine ix_K_naI kq_Mo_init i_Mo_init_8 rfl kna_720 knb_720 (by decide) ?_
  refine ix_K_pf kq_Mo_init i_Mo_init_10 rfl rfl (fun h1 => ?_)
  refine ix_K_px kq_Mo_init i_Mo_init_13 rfl rfl ?_
  refine ix_K_cs kq_Mo_init i_Mo_init_14 rfl kcs_1440 ?_
  refine ix_K_naI kq_Mo_init i_Mo_init_17 rfl kna_1440 knb_1440 (by decide) ?_
  refine ix_K_pf kq_Mo_init i_Mo_init_19 rfl rfl (fun h2 => ?_)
  refine ix_K_px kq_Mo_init i_Mo_init_22 rfl rfl ?_
  refine ix_K_ci kq_Mo_init i_Mo_init_23 rfl kci_2 ?_
  refine ix_K_naZ kq_Mo_init i_Mo_init_24 rfl kna_2 knb_2 (by decide) ?_
  refine ix_K_pf kq_Mo_init i_Mo_init_26 rfl rfl (fun h3 => ?_)
  refine ix_K_px kq_Mo_init i_Mo_init_29 rfl rfl ?_
  refine ix_K_cb kq_Mo_init i_Mo_init_30 rfl kcb_64 ?_
  refine ix_K_naL kq_Mo_init i_Mo_init_32 rfl kna_64 knb_64 (by decide) ?_
  refine ix_K_pf kq_Mo_init i_Mo_init_34 rfl rfl (fun h4 => ?_)
  refine ix_K_px kq_Mo_init i_Mo_init_37 rfl rfl ?_
  refine ix_K_cs kq_Mo_init i_Mo_init_38 rfl kcs_6561 ?_
  refine ix_K_naL kq_Mo_init i_Mo_init_41 rfl kna_6561 knb_6561 (by decide) ?_
  refine ix_K_pf kq_Mo_init i_Mo_init_43 rfl rfl (fun h5 => ?_)
  refine ix_K_px kq_Mo_init i_Mo_init_46 rfl rfl ?_
  refine ix_K_cs kq_Mo_init i_Mo_init_47 rfl kcs_6561 ?_
  refine ix_K_naL kq_Mo_init i_Mo_init_50 rfl kna_6561 knb_6561 (by decide) ?_
  refine ix_K_pf kq_Mo_init i_Mo_init_52 rfl rfl (fun h6 => ?_)
  refine ix_K_px kq_Mo_init i_Mo_init_55 rfl rfl ?_
  refine ix_K_cb kq_Mo_init i_Mo_init_56 rfl kcb_16 ?_
  refine ix_K_naL kq_Mo_init i_Mo_init_58 rfl kna_16 knb_16 (by decide) ?_
  refine ix_K_pf kq_Mo_init i_Mo_init_60 rfl rfl (fun h7 => ?_)
  refine ix_K_px kq_Mo_init i_Mo_init_63 rfl rfl ?_
  refine ix_K_cb kq_Mo_init i_Mo_init_64 rfl kcb_64 ?_
  refine ix_K_naI kq_Mo_init i_Mo_init_66 rfl kna_64 knb_64 (by decide) ?_
  refine ix_K_pf kq_Mo_init i_Mo_init_68 rfl rfl (fun h8 => ?_)
  refine ix_K_px kq_Mo_init i_Mo_init_71 rfl rfl ?_
  refine ix_K_cs kq_Mo_init i_Mo_init_72 rfl kcs_128 ?_
  refine ix_K_naI kq_Mo_init i_Mo_init_75 rfl kna_128 knb_128 (by decide) ?_
  refine ix_K_pf kq_Mo_init i_Mo_init_77 rfl rfl (fun h9 => ?_)
  refine ix_K_px kq_Mo_init i_Mo_init_80 rfl rfl ?_
  refine ix_K_cb kq_Mo_init i_Mo_init_81 rfl kcb_64 ?_
  refine ix_K_naI kq_Mo_init i_Mo_init_83 rfl kna_64 knb_64 (by decide) ?_
  refine ix_K_pf kq_Mo_init i_Mo_init_85 rfl rfl (fun h10 => ?_)
  refine ix_K_px kq_Mo_init i_Mo_init_88 rfl rfl ?_
  refine ix_K_cb kq_Mo_init i_Mo_init_89 rfl kcb_64 ?_
  refine ix_K_naI kq_Mo_init i_Mo_init_91 rfl kna_64 knb_64 (by decide) ?_
  refine ix_K_pf kq_Mo_init i_Mo_init_93 rfl rfl (fun h11 => ?_)
  refine ix_K_px kq_Mo_init i_Mo_init_96 rfl rfl ?_
  refine ix_K_cs kq_Mo_init i_Mo_init_97 rfl kcs_128 ?_
  refine ix_K_naI kq_Mo_init i_Mo_init_100 rfl kna_128 knb_128 (by decide) ?_
  refine ix_K_pf kq_Mo_init i_Mo_init_102 rfl rfl (fun h12 => ?_)
  refine ix_K_px kq_Mo_init i_Mo_init_105 rfl rfl ?_
  refine ix_K_cs kq_Mo_init i_Mo_init_106 rfl kcs_256 ?_
  refine ix_K_naI kq_Mo_init i_Mo_init_109 rfl kna_256 knb_256 (by decide) ?_
  refine ix_K_pf kq_Mo_init i_Mo_init_111 rfl rfl (fun h13 => ?_)
  refine ix_K_px kq_Mo_init i_Mo_init_114 rfl rfl ?_
  refine ix_K_cb kq_Mo_init i_Mo_init_115 rfl kcb_64 ?_
  refine ix_K_naI kq_Mo_init i_Mo_init_117 rfl kna_64 knb_64 (by decide) ?_
  refine ix_K_pf kq_Mo_init i_Mo_init_119 rfl rfl (fun h14 => ?_)
  refine ix_K_px kq_Mo_init i_Mo_init_122 rfl rfl ?_
  refine ix_K_cb kq_Mo_init i_Mo_init_123 rfl kcb_64 ?_
  refine ix_K_naI kq_Mo_init i_Mo_init_125 rfl kna_64 knb_64 (by decide) ?_
  refine ix_K_pf kq_Mo_init i_Mo_init_127 rfl rfl (fun h15 => ?_)
  refine ix_K_px kq_Mo_init i_Mo_init_130 rfl rfl ?_
  refine ix_K_cb kq_Mo_init i_Mo_init_131 rfl kcb_64 ?_
  refine ix_K_naZ kq_Mo_init i_Mo_init_133 rfl kna_64 knb_64 (by decide) ?_
  refine ix_K_pf kq_Mo_init i_Mo_init_135 rfl rfl (fun h16 => ?_)
  refine ix_K_px kq_Mo_init i_Mo_init_138 rfl rfl ?_
  refine ix_K_cb kq_Mo_init i_Mo_init_139 rfl kcb_64 ?_
  refine ix_K_naI kq_Mo_init i_Mo_init_141 rfl kna_64 knb_64 (by decide) ?_
  refine ix_K_pf kq_Mo_init i_Mo_init_143 rfl rfl (fun h17 => ?_)
  refine ix_K_px kq_Mo_init i_Mo_init_146 rfl rfl ?_
  refine ix_K_cs kq_Mo_init i_Mo_init_147 rfl kcs_4096 ?_
  refine ix_K_naZ kq_Mo_init i_Mo_init_150 rfl kna_4096 knb_4096 (by decide) ?_
  refine ix_K_pf kq_Mo_init i_Mo_init_152 rfl rfl (fun h18 => ?_)
  refine ix_K_px kq_Mo_init i_Mo_init_155 rfl rfl ?_
  refine ix_K_cb kq_Mo_init i_Mo_init_156 rfl kcb_64 ?_
  refine ix_K_naZ kq_Mo_init i_Mo_init_158 rfl kna_64 knb_64 (by decide) ?_
  refine ix_K_pf kq_Mo_init i_Mo_init_160 rfl rfl (fun h19 => ?_)
  refine ix_K_px kq_Mo_init i_Mo_init_163 rfl rfl ?_
  refine ix_K_cb kq_Mo_init i_Mo_init_164 rfl kcb_64 ?_
  refine ix_K_naI kq_Mo_init i_Mo_init_166 rfl kna_64 knb_64 (by decide) ?_
  refine ix_K_pf kq_Mo_init i_Mo_init_168 rfl rfl (fun h20 => ?_)
  refine ix_K_px kq_Mo_init i_Mo_init_171 rfl rfl ?_
  refine ix_K_cb kq_Mo_init i_Mo_init_172 rfl kcb_64 ?_
  refine ix_K_naI kq_Mo_init i_Mo_init_174 rfl kna_64 knb_64 (by decide) ?_
  refine ix_K_pf kq_Mo_init i_Mo_init_176 rfl rfl (fun h21 => ?_)
  refine ix_K_px kq_Mo_init i_Mo_init_179 rfl rfl ?_
  refine ix_K_cb kq_Mo_init i_Mo_init_180 rfl kcb_64 ?_
  refine ix_K_naI kq_Mo_init i_Mo_init_182 rfl kna_64 knb_64 (by decide) ?_
  refine ix_K_pf kq_Mo_init i_Mo_init_184 rfl rfl (fun h22 => ?_)
  refine ix_K_px kq_Mo_init i_Mo_init_187 rfl rfl ?_
  refine ix_K_cb kq_Mo_init i_Mo_init_188 rfl kcb_64 ?_
  refine ix_K_naI kq_Mo_init i_Mo_init_190 rfl kna_64 knb_64 (by decide) ?_
  refine ix_K_pf kq_Mo_init i_Mo_init_192 rfl rfl (fun h23 => ?_)
  refine ix_K_px kq_Mo_init i_Mo_init_195 rfl rfl ?_
  refine ix_K_cs kq_Mo_init i_Mo_init_196 rfl kcs_130 ?_
  refine ix_K_naI kq_Mo_init i_Mo_init_199 rfl kna_130 knb_130 (by decide) ?_
  refine ix_K_pf kq_Mo_init i_Mo_init_201 rfl rfl (fun h24 => ?_)
  refine ix_K_px kq_Mo_init i_Mo_init_204 rfl rfl ?_
  refine ix_K_ci kq_Mo_init i_Mo_init_205 rfl kci_2 ?_
  refine ix_K_naI kq_Mo_init i_Mo_init_206 rfl kna_2 knb_2 (by decide) ?_
  refine ix_K_pf kq_Mo_init i_Mo_init_208 rfl rfl (fun h25 => ?_)
  refine ix_K_px kq_Mo_init i_Mo_init_211 rfl rfl ?_
  refine ix_K_cb kq_Mo_init i_Mo_init_212 rfl kcb_80 ?_
  refine ix_K_naI kq_Mo_init i_Mo_init_214 rfl kna_80 knb_80 (by decide) ?_
  refine ix_K_pf kq_Mo_init i_Mo_init_216 rfl rfl (fun h26 => ?_)
  refine ix_K_px kq_Mo_init i_Mo_init_219 rfl rfl ?_
  refine ix_K_cb kq_Mo_init i_Mo_init_220 rfl kcb_6 ?_
  refine ix_K_cb kq_Mo_init i_Mo_init_222 rfl kcb_6 ?_
  refine ix_K_callV (as := [.ref a0, .int 6, .int 6]) (rest := []) kq_Mo_init i_Mo_init_224 rfl kq_Mo_layGrid (by decide) rfl rfl (fun h27 => ?_)
  exact ix_D_ret kq_Mo_init i_Mo_init_227 (ix_rtV rfl)
theorem x_Mo_init {a0 : Nat} {h h1 : ixH} (hd : ix_D mMo_init 0 [some (.ref a0)] [] h = some ([], h1)) : ix_M mMo_init [.ref a0] h = some ([], h1) := ix_M_of (ix_ent_c kq_Mo_init rfl rfl (Nat.le_of_ble_eq_true rfl) rfl) hd (ix_okrV rfl)
theorem i_Mo_layGrid_0 : ix_nx mMo_layGrid 0 = some (0, .iconst 0, 1, none, [], 0) := rfl
theorem i_Mo_layGrid_1 : ix_nx mMo_layGrid 1 = some (0, .istore_n 3, 2, none, [], 0) := rfl
theorem i_Mo_layGrid_2 : ix_nx mMo_layGrid 2 = some (0, .iload_n 3, 3, some [true, true, true, true], [], 0) := rfl
theorem i_Mo_layGrid_3 : ix_nx mMo_layGrid 3 = some (0, .sipush 720, 6, none, [], 0) := rfl
theorem i_Mo_layGrid_6 : ix_nx mMo_layGrid 6 = some (0, .if_icmp .ge 16, 9, none, [], 0) := rfl
theorem i_Mo_layGrid_9 : ix_nx mMo_layGrid 9 = some (0, .aload_n 0, 10, none, [], 0) := rfl
theorem i_Mo_layGrid_10 : ix_nx mMo_layGrid 10 = some (1, .getfield 7, 13, none, [11, 0, 2, 90], 0) := rfl
theorem i_Mo_layGrid_13 : ix_nx mMo_layGrid 13 = some (0, .iload_n 3, 14, none, [], 0) := rfl
theorem i_Mo_layGrid_14 : ix_nx mMo_layGrid 14 = some (0, .iconst 0, 15, none, [], 0) := rfl
theorem i_Mo_layGrid_15 : ix_nx mMo_layGrid 15 = some (2, .iastore, 16, none, [], 0) := rfl
theorem i_Mo_layGrid_16 : ix_nx mMo_layGrid 16 = some (0, .iinc 3 1, 19, none, [], 0) := rfl
theorem i_Mo_layGrid_19 : ix_nx mMo_layGrid 19 = some (0, .goto (-17), 22, none, [], 0) := rfl
theorem i_Mo_layGrid_22 : ix_nx mMo_layGrid 22 = some (0, .aload_n 0, 23, none, [], 0) := rfl
theorem i_Mo_layGrid_23 : ix_nx mMo_layGrid 23 = some (1, .getfield 7, 26, none, [11, 0, 2, 90], 0) := rfl
theorem i_Mo_layGrid_26 : ix_nx mMo_layGrid 26 = some (0, .iconst 0, 27, none, [], 0) := rfl
theorem i_Mo_layGrid_27 : ix_nx mMo_layGrid 27 = some (0, .iload_n 1, 28, none, [], 0) := rfl
theorem i_Mo_layGrid_28 : ix_nx mMo_layGrid 28 = some (2, .iastore, 29, none, [], 0) := rfl
theorem i_Mo_layGrid_29 : ix_nx mMo_layGrid 29 = some (0, .aload_n 0, 30, none, [], 0) := rfl
theorem i_Mo_layGrid_30 : ix_nx mMo_layGrid 30 = some (1, .getfield 7, 33, none, [11, 0, 2, 90], 0) := rfl
theorem i_Mo_layGrid_33 : ix_nx mMo_layGrid 33 = some (0, .iconst 1, 34, none, [], 0) := rfl
theorem i_Mo_layGrid_34 : ix_nx mMo_layGrid 34 = some (0, .iload_n 2, 35, none, [], 0) := rfl
theorem i_Mo_layGrid_35 : ix_nx mMo_layGrid 35 = some (2, .iastore, 36, none, [], 0) := rfl
theorem i_Mo_layGrid_36 : ix_nx mMo_layGrid 36 = some (4, .return_, 37, none, [], 0) := rfl
noncomputable def l_Mo_layGrid_2 (a0 : Nat) (x1 : Int32) (x2 : Int32) (x3 : Int32) (h : ixH) : Option (List Value × ixH) := ix_D mMo_layGrid 2 [some (.ref a0), some (.int x1), some (.int x2), some (.int x3)] [] h
set_option maxRecDepth 20000 in
set_option maxHeartbeats 1000000 in
theorem e_Mo_layGrid_2 (a0 : Nat) (x1 : Int32) (x2 : Int32) (x3 : Int32) (h : ixH) : l_Mo_layGrid_2 a0 x1 x2 x3 h = if 720 ≤ x3 then (ix_gr h a0 11 0).bind fun v1 => (ix_si h v1 0 x1).bind fun h2 => (ix_gr h2 a0 11 0).bind fun v3 => (ix_si h2 v3 1 x2).bind fun h4 => some ([], h4) else (ix_gr h a0 11 0).bind fun v5 => (ix_si h v5 x3 0).bind fun h6 => l_Mo_layGrid_2 a0 x1 x2 (x3 + 1) h6 := by
  unfold l_Mo_layGrid_2
  refine ix_K_px kq_Mo_layGrid i_Mo_layGrid_2 rfl rfl ?_
  refine ix_K_cs kq_Mo_layGrid i_Mo_layGrid_3 rfl kcs_720 ?_
  refine ix_K_ic_ge (tgt := 22) kq_Mo_layGrid i_Mo_layGrid_6 rfl (by decide) ?_ ?_
  · refine ix_K_px kq_Mo_layGrid i_Mo_layGrid_22 rfl rfl ?_
    refine ix_K_gr kq_Mo_layGrid i_Mo_layGrid_23 rfl (fun v1 => ?_)
    refine ix_K_ci kq_Mo_layGrid i_Mo_layGrid_26 rfl kci_0 ?_
    refine ix_K_px kq_Mo_layGrid i_Mo_layGrid_27 rfl rfl ?_
    refine ix_K_ti kq_Mo_layGrid i_Mo_layGrid_28 rfl (fun h2 => ?_)
    refine ix_K_px kq_Mo_layGrid i_Mo_layGrid_29 rfl rfl ?_
    refine ix_K_gr kq_Mo_layGrid i_Mo_layGrid_30 rfl (fun v3 => ?_)
    refine ix_K_ci kq_Mo_layGrid i_Mo_layGrid_33 rfl kci_1 ?_
    refine ix_K_px kq_Mo_layGrid i_Mo_layGrid_34 rfl rfl ?_
    refine ix_K_ti kq_Mo_layGrid i_Mo_layGrid_35 rfl (fun h4 => ?_)
    exact ix_D_ret kq_Mo_layGrid i_Mo_layGrid_36 (ix_rtV rfl)
  · refine ix_K_px kq_Mo_layGrid i_Mo_layGrid_9 rfl rfl ?_
    refine ix_K_gr kq_Mo_layGrid i_Mo_layGrid_10 rfl (fun v5 => ?_)
    refine ix_K_px kq_Mo_layGrid i_Mo_layGrid_13 rfl rfl ?_
    refine ix_K_ci kq_Mo_layGrid i_Mo_layGrid_14 rfl kci_0 ?_
    refine ix_K_ti kq_Mo_layGrid i_Mo_layGrid_15 rfl (fun h6 => ?_)
    refine ix_K_inc (L2 := [some (.ref a0), some (.int x1), some (.int x2), some (.int (x3 + 1))]) kq_Mo_layGrid i_Mo_layGrid_16 rfl rfl (Nat.le_of_ble_eq_true rfl) kci_1 rfl ?_
    refine ix_K_goto (tgt := 2) kq_Mo_layGrid i_Mo_layGrid_19 rfl (by decide) ?_
    exact ix_D_cut i_Mo_layGrid_2 rfl
set_option maxRecDepth 20000 in
set_option maxHeartbeats 1000000 in
theorem e_Mo_layGrid (a0 : Nat) (x1 : Int32) (x2 : Int32) (h : ixH) : ix_D mMo_layGrid 0 [some (.ref a0), some (.int x1), some (.int x2), none] [] h = l_Mo_layGrid_2 a0 x1 x2 0 h := by
  refine ix_K_ci kq_Mo_layGrid i_Mo_layGrid_0 rfl kci_0 ?_
  refine ix_K_si (L2 := [some (.ref a0), some (.int x1), some (.int x2), some (.int 0)]) kq_Mo_layGrid i_Mo_layGrid_1 rfl (Or.inr ⟨_, rfl, rfl⟩) (Nat.le_of_ble_eq_true rfl) rfl ?_
  exact ix_D_cut i_Mo_layGrid_2 rfl
theorem x_Mo_layGrid {a0 : Nat} {x1 : Int32} {x2 : Int32} {h h1 : ixH} (hr : ix_rc h a0 = some 11) (hd : ix_D mMo_layGrid 0 [some (.ref a0), some (.int x1), some (.int x2), none] [] h = some ([], h1)) : ix_M mMo_layGrid [.ref a0, .int x1, .int x2] h = some ([], h1) := ix_M_of (ix_ent_i kq_Mo_layGrid rfl hr rfl (Nat.le_of_ble_eq_true rfl) rfl) hd (ix_okrV rfl)
theorem i_Mo_setUp_0 : ix_nx mMo_setUp 0 = some (0, .iload_n 1, 1, none, [], 0) := rfl
theorem i_Mo_setUp_1 : ix_nx mMo_setUp 1 = some (0, .iconst 2, 2, none, [], 0) := rfl
theorem i_Mo_setUp_2 : ix_nx mMo_setUp 2 = some (0, .bipush 8, 4, none, [], 0) := rfl
theorem i_Mo_setUp_4 : ix_nx mMo_setUp 4 = some (3, .invokestatic 98, 7, none, [1, 148, 174], 0) := rfl
theorem i_Mo_setUp_7 : ix_nx mMo_setUp 7 = some (0, .ifCond .eq 13, 10, none, [], 0) := rfl
theorem i_Mo_setUp_10 : ix_nx mMo_setUp 10 = some (0, .iload_n 2, 11, none, [], 0) := rfl
theorem i_Mo_setUp_11 : ix_nx mMo_setUp 11 = some (0, .iconst 2, 12, none, [], 0) := rfl
theorem i_Mo_setUp_12 : ix_nx mMo_setUp 12 = some (0, .bipush 8, 14, none, [], 0) := rfl
theorem i_Mo_setUp_14 : ix_nx mMo_setUp 14 = some (3, .invokestatic 98, 17, none, [1, 148, 174], 0) := rfl
theorem i_Mo_setUp_17 : ix_nx mMo_setUp 17 = some (0, .ifCond .ne 6, 20, none, [], 0) := rfl
theorem i_Mo_setUp_20 : ix_nx mMo_setUp 20 = some (0, .bipush (-2), 22, none, [], 0) := rfl
theorem i_Mo_setUp_22 : ix_nx mMo_setUp 22 = some (4, .ireturn, 23, none, [], 0) := rfl
theorem i_Mo_setUp_23 : ix_nx mMo_setUp 23 = some (0, .aload_n 0, 24, none, [], 0) := rfl
theorem i_Mo_setUp_24 : ix_nx mMo_setUp 24 = some (0, .iload_n 1, 25, none, [], 0) := rfl
theorem i_Mo_setUp_25 : ix_nx mMo_setUp 25 = some (0, .iload_n 2, 26, none, [], 0) := rfl
theorem i_Mo_setUp_26 : ix_nx mMo_setUp 26 = some (3, .invokevirtual 90, 29, none, [0, 146, 173], 0) := rfl
theorem i_Mo_setUp_29 : ix_nx mMo_setUp 29 = some (0, .aload_n 0, 30, none, [], 0) := rfl
theorem i_Mo_setUp_30 : ix_nx mMo_setUp 30 = some (3, .invokevirtual 94, 33, none, [0, 149, 175], 0) := rfl
theorem i_Mo_setUp_33 : ix_nx mMo_setUp 33 = some (4, .ireturn, 34, none, [], 0) := rfl
set_option maxRecDepth 20000 in
set_option maxHeartbeats 1000000 in
theorem e_Mo_setUp (a0 : Nat) (x1 : Int32) (x2 : Int32) (h : ixH) : ix_D mMo_setUp 0 [some (.ref a0), some (.int x1), some (.int x2)] [] h = (ix_M mMo_in [.int x1, .int 2, .int 8] h).bind fun r => ix_kZ r fun v2 h1 => if v2 = true then (ix_M mMo_in [.int x2, .int 2, .int 8] h1).bind fun r => ix_kZ r fun v4 h3 => if v4 = true then (ix_M mMo_layGrid [.ref a0, .int x1, .int x2] h3).bind fun r => ix_kV r fun h5 => (ix_M mMo_cells [.ref a0] h5).bind fun r => ix_kI r fun v7 h6 => some ([.int v7], h6) else some ([.int (-2)], h3) else some ([.int (-2)], h1) := by
  refine ix_K_px kq_Mo_setUp i_Mo_setUp_0 rfl rfl ?_
  refine ix_K_ci kq_Mo_setUp i_Mo_setUp_1 rfl kci_2 ?_
  refine ix_K_cb kq_Mo_setUp i_Mo_setUp_2 rfl kcb_8 ?_
  refine ix_K_callZ (as := [.int x1, .int 2, .int 8]) (rest := []) kq_Mo_setUp i_Mo_setUp_4 rfl kq_Mo_in (by decide) rfl rfl (fun v2 h1 => ?_)
  refine ix_K_bz_eq (tgt := 20) kq_Mo_setUp i_Mo_setUp_7 rfl (by decide) ?_ ?_
  · refine ix_K_px kq_Mo_setUp i_Mo_setUp_10 rfl rfl ?_
    refine ix_K_ci kq_Mo_setUp i_Mo_setUp_11 rfl kci_2 ?_
    refine ix_K_cb kq_Mo_setUp i_Mo_setUp_12 rfl kcb_8 ?_
    refine ix_K_callZ (as := [.int x2, .int 2, .int 8]) (rest := []) kq_Mo_setUp i_Mo_setUp_14 rfl kq_Mo_in (by decide) rfl rfl (fun v4 h3 => ?_)
    refine ix_K_bz_ne (tgt := 23) kq_Mo_setUp i_Mo_setUp_17 rfl (by decide) ?_ ?_
    · refine ix_K_px kq_Mo_setUp i_Mo_setUp_23 rfl rfl ?_
      refine ix_K_px kq_Mo_setUp i_Mo_setUp_24 rfl rfl ?_
      refine ix_K_px kq_Mo_setUp i_Mo_setUp_25 rfl rfl ?_
      refine ix_K_callV (as := [.ref a0, .int x1, .int x2]) (rest := []) kq_Mo_setUp i_Mo_setUp_26 rfl kq_Mo_layGrid (by decide) rfl rfl (fun h5 => ?_)
      refine ix_K_px kq_Mo_setUp i_Mo_setUp_29 rfl rfl ?_
      refine ix_K_callI (as := [.ref a0]) (rest := []) kq_Mo_setUp i_Mo_setUp_30 rfl kq_Mo_cells (by decide) rfl (Or.inl rfl) (fun v7 h6 => ?_)
      exact ix_D_ret kq_Mo_setUp i_Mo_setUp_33 (ix_rtI rfl _)
    · refine ix_K_cb kq_Mo_setUp i_Mo_setUp_20 rfl kcb_m2 ?_
      exact ix_D_ret kq_Mo_setUp i_Mo_setUp_22 (ix_rtI rfl _)
  · refine ix_K_cb kq_Mo_setUp i_Mo_setUp_20 rfl kcb_m2 ?_
    exact ix_D_ret kq_Mo_setUp i_Mo_setUp_22 (ix_rtI rfl _)
theorem x_Mo_setUp {a0 : Nat} {x1 : Int32} {x2 : Int32} {h h1 : ixH} {v : Int32} (hr : ix_rc h a0 = some 11) (hd : ix_D mMo_setUp 0 [some (.ref a0), some (.int x1), some (.int x2)] [] h = some ([.int v], h1)) : ix_M mMo_setUp [.ref a0, .int x1, .int x2] h = some ([.int v], h1) := ix_M_of (ix_ent_i kq_Mo_setUp rfl hr rfl (Nat.le_of_ble_eq_true rfl) rfl) hd (ix_okrI (Or.inl rfl) v)
theorem i_Mo_in_0 : ix_nx mMo_in 0 = some (0, .iload_n 0, 1, none, [], 0) := rfl
theorem i_Mo_in_1 : ix_nx mMo_in 1 = some (0, .iload_n 1, 2, none, [], 0) := rfl
theorem i_Mo_in_2 : ix_nx mMo_in 2 = some (0, .if_icmp .lt 12, 5, none, [], 0) := rfl
theorem i_Mo_in_5 : ix_nx mMo_in 5 = some (0, .iload_n 0, 6, none, [], 0) := rfl
theorem i_Mo_in_6 : ix_nx mMo_in 6 = some (0, .iload_n 2, 7, none, [], 0) := rfl
theorem i_Mo_in_7 : ix_nx mMo_in 7 = some (0, .if_icmp .gt 7, 10, none, [], 0) := rfl
theorem i_Mo_in_10 : ix_nx mMo_in 10 = some (0, .iconst 1, 11, none, [], 0) := rfl
theorem i_Mo_in_11 : ix_nx mMo_in 11 = some (0, .goto 4, 14, none, [], 0) := rfl
theorem i_Mo_in_14 : ix_nx mMo_in 14 = some (0, .iconst 0, 15, none, [], 0) := rfl
theorem i_Mo_in_15 : ix_nx mMo_in 15 = some (4, .ireturn, 16, none, [], 0) := rfl
set_option maxRecDepth 20000 in
set_option maxHeartbeats 1000000 in
theorem e_Mo_in (x0 : Int32) (x1 : Int32) (x2 : Int32) (h : ixH) : ix_D mMo_in 0 [some (.int x0), some (.int x1), some (.int x2)] [] h = if x0 < x1 then some ([.int (ix_bi false)], h) else if x2 < x0 then some ([.int (ix_bi false)], h) else some ([.int (ix_bi true)], h) := by
  refine ix_K_px kq_Mo_in i_Mo_in_0 rfl rfl ?_
  refine ix_K_px kq_Mo_in i_Mo_in_1 rfl rfl ?_
  refine ix_K_ic_lt (tgt := 14) kq_Mo_in i_Mo_in_2 rfl (by decide) ?_ ?_
  · refine ix_K_ci kq_Mo_in i_Mo_in_14 rfl kci_0 ?_
    exact ix_D_ret kq_Mo_in i_Mo_in_15 (ix_rtZ rfl false)
  · refine ix_K_px kq_Mo_in i_Mo_in_5 rfl rfl ?_
    refine ix_K_px kq_Mo_in i_Mo_in_6 rfl rfl ?_
    refine ix_K_ic_gt (tgt := 14) kq_Mo_in i_Mo_in_7 rfl (by decide) ?_ ?_
    · refine ix_K_ci kq_Mo_in i_Mo_in_14 rfl kci_0 ?_
      exact ix_D_ret kq_Mo_in i_Mo_in_15 (ix_rtZ rfl false)
    · refine ix_K_ci kq_Mo_in i_Mo_in_10 rfl kci_1 ?_
      refine ix_K_goto (tgt := 15) kq_Mo_in i_Mo_in_11 rfl (by decide) ?_
      exact ix_D_ret kq_Mo_in i_Mo_in_15 (ix_rtZ rfl true)
theorem x_Mo_in {x0 : Int32} {x1 : Int32} {x2 : Int32} {h h1 : ixH} {v : Bool} (hd : ix_D mMo_in 0 [some (.int x0), some (.int x1), some (.int x2)] [] h = some ([.int (ix_bi v)], h1)) : ix_M mMo_in [.int x0, .int x1, .int x2] h = some ([.int (ix_bi v)], h1) := ix_M_of (ix_ent_s kq_Mo_in rfl rfl (Nat.le_of_ble_eq_true rfl) rfl) hd (ix_okrZ rfl v)
theorem i_Mo_cells_0 : ix_nx mMo_cells 0 = some (0, .aload_n 0, 1, none, [], 0) := rfl
theorem i_Mo_cells_1 : ix_nx mMo_cells 1 = some (1, .getfield 7, 4, none, [11, 0, 2, 90], 0) := rfl
theorem i_Mo_cells_4 : ix_nx mMo_cells 4 = some (0, .iconst 0, 5, none, [], 0) := rfl
theorem i_Mo_cells_5 : ix_nx mMo_cells 5 = some (1, .iaload, 6, none, [], 0) := rfl
theorem i_Mo_cells_6 : ix_nx mMo_cells 6 = some (0, .aload_n 0, 7, none, [], 0) := rfl
theorem i_Mo_cells_7 : ix_nx mMo_cells 7 = some (1, .getfield 7, 10, none, [11, 0, 2, 90], 0) := rfl
theorem i_Mo_cells_10 : ix_nx mMo_cells 10 = some (0, .iconst 1, 11, none, [], 0) := rfl
theorem i_Mo_cells_11 : ix_nx mMo_cells 11 = some (1, .iaload, 12, none, [], 0) := rfl
theorem i_Mo_cells_12 : ix_nx mMo_cells 12 = some (0, .imul, 13, none, [], 0) := rfl
theorem i_Mo_cells_13 : ix_nx mMo_cells 13 = some (4, .ireturn, 14, none, [], 0) := rfl
set_option maxRecDepth 20000 in
set_option maxHeartbeats 1000000 in
theorem e_Mo_cells (a0 : Nat) (h : ixH) : ix_D mMo_cells 0 [some (.ref a0)] [] h = (ix_gr h a0 11 0).bind fun v1 => (ix_ai h v1 0).bind fun v2 => (ix_gr h a0 11 0).bind fun v3 => (ix_ai h v3 1).bind fun v4 => some ([.int (v2 * v4)], h) := by
  refine ix_K_px kq_Mo_cells i_Mo_cells_0 rfl rfl ?_
  refine ix_K_gr kq_Mo_cells i_Mo_cells_1 rfl (fun v1 => ?_)
  refine ix_K_ci kq_Mo_cells i_Mo_cells_4 rfl kci_0 ?_
  refine ix_K_ai kq_Mo_cells i_Mo_cells_5 rfl (fun v2 => ?_)
  refine ix_K_px kq_Mo_cells i_Mo_cells_6 rfl rfl ?_
  refine ix_K_gr kq_Mo_cells i_Mo_cells_7 rfl (fun v3 => ?_)
  refine ix_K_ci kq_Mo_cells i_Mo_cells_10 rfl kci_1 ?_
  refine ix_K_ai kq_Mo_cells i_Mo_cells_11 rfl (fun v4 => ?_)
  refine ix_K_px kq_Mo_cells i_Mo_cells_12 rfl rfl ?_
  exact ix_D_ret kq_Mo_cells i_Mo_cells_13 (ix_rtI rfl _)
theorem x_Mo_cells {a0 : Nat} {h h1 : ixH} {v : Int32} (hr : ix_rc h a0 = some 11) (hd : ix_D mMo_cells 0 [some (.ref a0)] [] h = some ([.int v], h1)) : ix_M mMo_cells [.ref a0] h = some ([.int v], h1) := ix_M_of (ix_ent_i kq_Mo_cells rfl hr rfl (Nat.le_of_ble_eq_true rfl) rfl) hd (ix_okrI (Or.inl rfl) v)
theorem i_Mo_wall_0 : ix_nx mMo_wall 0 = some (0, .aload_n 0, 1, none, [], 0) := rfl
theorem i_Mo_wall_1 : ix_nx mMo_wall 1 = some (0, .iload_n 1, 2, none, [], 0) := rfl
theorem i_Mo_wall_2 : ix_nx mMo_wall 2 = some (3, .invokevirtual 117, 5, none, [0, 151, 176], 0) := rfl
theorem i_Mo_wall_5 : ix_nx mMo_wall 5 = some (0, .ifCond .ne 5, 8, none, [], 0) := rfl
theorem i_Mo_wall_8 : ix_nx mMo_wall 8 = some (0, .iconst (-1), 9, none, [], 0) := rfl
theorem i_Mo_wall_9 : ix_nx mMo_wall 9 = some (4, .ireturn, 10, none, [], 0) := rfl
theorem i_Mo_wall_10 : ix_nx mMo_wall 10 = some (0, .iload_n 2, 11, none, [], 0) := rfl
theorem i_Mo_wall_11 : ix_nx mMo_wall 11 = some (0, .iconst 0, 12, none, [], 0) := rfl
theorem i_Mo_wall_12 : ix_nx mMo_wall 12 = some (0, .iconst 1, 13, none, [], 0) := rfl
theorem i_Mo_wall_13 : ix_nx mMo_wall 13 = some (3, .invokestatic 98, 16, none, [1, 148, 174], 0) := rfl
theorem i_Mo_wall_16 : ix_nx mMo_wall 16 = some (0, .ifCond .ne 6, 19, none, [], 0) := rfl
theorem i_Mo_wall_19 : ix_nx mMo_wall 19 = some (0, .bipush (-2), 21, none, [], 0) := rfl
theorem i_Mo_wall_21 : ix_nx mMo_wall 21 = some (4, .ireturn, 22, none, [], 0) := rfl
theorem i_Mo_wall_22 : ix_nx mMo_wall 22 = some (0, .aload_n 0, 23, none, [], 0) := rfl
theorem i_Mo_wall_23 : ix_nx mMo_wall 23 = some (1, .getfield 7, 26, none, [11, 0, 2, 90], 0) := rfl
theorem i_Mo_wall_26 : ix_nx mMo_wall 26 = some (0, .iconst 2, 27, none, [], 0) := rfl
theorem i_Mo_wall_27 : ix_nx mMo_wall 27 = some (0, .iload_n 1, 28, none, [], 0) := rfl
theorem i_Mo_wall_28 : ix_nx mMo_wall 28 = some (0, .iadd, 29, none, [], 0) := rfl
theorem i_Mo_wall_29 : ix_nx mMo_wall 29 = some (0, .iload_n 2, 30, none, [], 0) := rfl
theorem i_Mo_wall_30 : ix_nx mMo_wall 30 = some (2, .iastore, 31, none, [], 0) := rfl
theorem i_Mo_wall_31 : ix_nx mMo_wall 31 = some (0, .aload_n 0, 32, none, [], 0) := rfl
theorem i_Mo_wall_32 : ix_nx mMo_wall 32 = some (3, .invokevirtual 120, 35, none, [0, 152, 177], 0) := rfl
theorem i_Mo_wall_35 : ix_nx mMo_wall 35 = some (4, .ireturn, 36, none, [], 0) := rfl
set_option maxRecDepth 20000 in
set_option maxHeartbeats 1000000 in
theorem e_Mo_wall (a0 : Nat) (x1 : Int32) (x2 : Int32) (h : ixH) : ix_D mMo_wall 0 [some (.ref a0), some (.int x1), some (.int x2)] [] h = (ix_M mMo_isCell [.ref a0, .int x1] h).bind fun r => ix_kZ r fun v2 h1 => if v2 = true then (ix_M mMo_in [.int x2, .int 0, .int 1] h1).bind fun r => ix_kZ r fun v4 h3 => if v4 = true then (ix_gr h3 a0 11 0).bind fun v5 => (ix_si h3 v5 (2 + x1) x2).bind fun h6 => (ix_M mMo_walls [.ref a0] h6).bind fun r => ix_kI r fun v8 h7 => some ([.int v8], h7) else some ([.int (-2)], h3) else some ([.int (-1)], h1) := by
  refine ix_K_px kq_Mo_wall i_Mo_wall_0 rfl rfl ?_
  refine ix_K_px kq_Mo_wall i_Mo_wall_1 rfl rfl ?_
  refine ix_K_callZ (as := [.ref a0, .int x1]) (rest := []) kq_Mo_wall i_Mo_wall_2 rfl kq_Mo_isCell (by decide) rfl rfl (fun v2 h1 => ?_)
  refine ix_K_bz_ne (tgt := 10) kq_Mo_wall i_Mo_wall_5 rfl (by decide) ?_ ?_
  · refine ix_K_px kq_Mo_wall i_Mo_wall_10 rfl rfl ?_
    refine ix_K_ci kq_Mo_wall i_Mo_wall_11 rfl kci_0 ?_
    refine ix_K_ci kq_Mo_wall i_Mo_wall_12 rfl kci_1 ?_
    refine ix_K_callZ (as := [.int x2, .int 0, .int 1]) (rest := []) kq_Mo_wall i_Mo_wall_13 rfl kq_Mo_in (by decide) rfl rfl (fun v4 h3 => ?_)
    refine ix_K_bz_ne (tgt := 22) kq_Mo_wall i_Mo_wall_16 rfl (by decide) ?_ ?_
    · refine ix_K_px kq_Mo_wall i_Mo_wall_22 rfl rfl ?_
      refine ix_K_gr kq_Mo_wall i_Mo_wall_23 rfl (fun v5 => ?_)
      refine ix_K_ci kq_Mo_wall i_Mo_wall_26 rfl kci_2 ?_
      refine ix_K_px kq_Mo_wall i_Mo_wall_27 rfl rfl ?_
      refine ix_K_px kq_Mo_wall i_Mo_wall_28 rfl rfl ?_
      refine ix_K_px kq_Mo_wall i_Mo_wall_29 rfl rfl ?_
      refine ix_K_ti kq_Mo_wall i_Mo_wall_30 rfl (fun h6 => ?_)
      refine ix_K_px kq_Mo_wall i_Mo_wall_31 rfl rfl ?_
      refine ix_K_callI (as := [.ref a0]) (rest := []) kq_Mo_wall i_Mo_wall_32 rfl kq_Mo_walls (by decide) rfl (Or.inl rfl) (fun v8 h7 => ?_)
      exact ix_D_ret kq_Mo_wall i_Mo_wall_35 (ix_rtI rfl _)
    · refine ix_K_cb kq_Mo_wall i_Mo_wall_19 rfl kcb_m2 ?_
      exact ix_D_ret kq_Mo_wall i_Mo_wall_21 (ix_rtI rfl _)
  · refine ix_K_ci kq_Mo_wall i_Mo_wall_8 rfl kci_m1 ?_
    exact ix_D_ret kq_Mo_wall i_Mo_wall_9 (ix_rtI rfl _)
theorem x_Mo_wall {a0 : Nat} {x1 : Int32} {x2 : Int32} {h h1 : ixH} {v : Int32} (hr : ix_rc h a0 = some 11) (hd : ix_D mMo_wall 0 [some (.ref a0), some (.int x1), some (.int x2)] [] h = some ([.int v], h1)) : ix_M mMo_wall [.ref a0, .int x1, .int x2] h = some ([.int v], h1) := ix_M_of (ix_ent_i kq_Mo_wall rfl hr rfl (Nat.le_of_ble_eq_true rfl) rfl) hd (ix_okrI (Or.inl rfl) v)
theorem i_Mo_isCell_0 : ix_nx mMo_isCell 0 = some (0, .iload_n 1, 1, none, [], 0) := rfl
theorem i_Mo_isCell_1 : ix_nx mMo_isCell 1 = some (0, .iconst 0, 2, none, [], 0) := rfl
theorem i_Mo_isCell_2 : ix_nx mMo_isCell 2 = some (0, .aload_n 0, 3, none, [], 0) := rfl
theorem i_Mo_isCell_3 : ix_nx mMo_isCell 3 = some (3, .invokevirtual 94, 6, none, [0, 149, 175], 0) := rfl
theorem i_Mo_isCell_6 : ix_nx mMo_isCell 6 = some (0, .iconst 1, 7, none, [], 0) := rfl
theorem i_Mo_isCell_7 : ix_nx mMo_isCell 7 = some (0, .isub, 8, none, [], 0) := rfl
theorem i_Mo_isCell_8 : ix_nx mMo_isCell 8 = some (3, .invokestatic 98, 11, none, [1, 148, 174], 0) := rfl
theorem i_Mo_isCell_11 : ix_nx mMo_isCell 11 = some (4, .ireturn, 12, none, [], 0) := rfl
set_option maxRecDepth 20000 in
set_option maxHeartbeats 1000000 in
theorem e_Mo_isCell (a0 : Nat) (x1 : Int32) (h : ixH) : ix_D mMo_isCell 0 [some (.ref a0), some (.int x1)] [] h = (ix_M mMo_cells [.ref a0] h).bind fun r => ix_kI r fun v2 h1 => (ix_M mMo_in [.int x1, .int 0, .int (v2 - 1)] h1).bind fun r => ix_kZ r fun v4 h3 => some ([.int (ix_bi v4)], h3) := by
  refine ix_K_px kq_Mo_isCell i_Mo_isCell_0 rfl rfl ?_
  refine ix_K_ci kq_Mo_isCell i_Mo_isCell_1 rfl kci_0 ?_
  refine ix_K_px kq_Mo_isCell i_Mo_isCell_2 rfl rfl ?_
  refine ix_K_callI (as := [.ref a0]) (rest := [.int 0, .int x1]) kq_Mo_isCell i_Mo_isCell_3 rfl kq_Mo_cells (by decide) rfl (Or.inl rfl) (fun v2 h1 => ?_)
  refine ix_K_ci kq_Mo_isCell i_Mo_isCell_6 rfl kci_1 ?_
  refine ix_K_px kq_Mo_isCell i_Mo_isCell_7 rfl rfl ?_
  refine ix_K_callZ (as := [.int x1, .int 0, .int (v2 - 1)]) (rest := []) kq_Mo_isCell i_Mo_isCell_8 rfl kq_Mo_in (by decide) rfl rfl (fun v4 h3 => ?_)
  exact ix_D_ret kq_Mo_isCell i_Mo_isCell_11 (ix_rtZ rfl _)
theorem x_Mo_isCell {a0 : Nat} {x1 : Int32} {h h1 : ixH} {v : Bool} (hr : ix_rc h a0 = some 11) (hd : ix_D mMo_isCell 0 [some (.ref a0), some (.int x1)] [] h = some ([.int (ix_bi v)], h1)) : ix_M mMo_isCell [.ref a0, .int x1] h = some ([.int (ix_bi v)], h1) := ix_M_of (ix_ent_i kq_Mo_isCell rfl hr rfl (Nat.le_of_ble_eq_true rfl) rfl) hd (ix_okrZ rfl v)
theorem i_Mo_walls_0 : ix_nx mMo_walls 0 = some (0, .iconst 0, 1, none, [], 0) := rfl
theorem i_Mo_walls_1 : ix_nx mMo_walls 1 = some (0, .istore_n 1, 2, none, [], 0) := rfl
theorem i_Mo_walls_2 : ix_nx mMo_walls 2 = some (0, .iconst 0, 3, none, [], 0) := rfl
theorem i_Mo_walls_3 : ix_nx mMo_walls 3 = some (0, .istore_n 2, 4, none, [], 0) := rfl
theorem i_Mo_walls_4 : ix_nx mMo_walls 4 = some (0, .iload_n 2, 5, some [true, true, true], [], 0) := rfl
theorem i_Mo_walls_5 : ix_nx mMo_walls 5 = some (0, .aload_n 0, 6, none, [], 0) := rfl
theorem i_Mo_walls_6 : ix_nx mMo_walls 6 = some (3, .invokevirtual 94, 9, none, [0, 149, 175], 0) := rfl
theorem i_Mo_walls_9 : ix_nx mMo_walls 9 = some (0, .if_icmp .ge 20, 12, none, [], 0) := rfl
theorem i_Mo_walls_12 : ix_nx mMo_walls 12 = some (0, .iload_n 1, 13, none, [], 0) := rfl
theorem i_Mo_walls_13 : ix_nx mMo_walls 13 = some (0, .aload_n 0, 14, none, [], 0) := rfl
theorem i_Mo_walls_14 : ix_nx mMo_walls 14 = some (1, .getfield 7, 17, none, [11, 0, 2, 90], 0) := rfl
theorem i_Mo_walls_17 : ix_nx mMo_walls 17 = some (0, .iconst 2, 18, none, [], 0) := rfl
theorem i_Mo_walls_18 : ix_nx mMo_walls 18 = some (0, .iload_n 2, 19, none, [], 0) := rfl
theorem i_Mo_walls_19 : ix_nx mMo_walls 19 = some (0, .iadd, 20, none, [], 0) := rfl
theorem i_Mo_walls_20 : ix_nx mMo_walls 20 = some (1, .iaload, 21, none, [], 0) := rfl
theorem i_Mo_walls_21 : ix_nx mMo_walls 21 = some (0, .iadd, 22, none, [], 0) := rfl
theorem i_Mo_walls_22 : ix_nx mMo_walls 22 = some (0, .istore_n 1, 23, none, [], 0) := rfl
theorem i_Mo_walls_23 : ix_nx mMo_walls 23 = some (0, .iinc 2 1, 26, none, [], 0) := rfl
theorem i_Mo_walls_26 : ix_nx mMo_walls 26 = some (0, .goto (-22), 29, none, [], 0) := rfl
theorem i_Mo_walls_29 : ix_nx mMo_walls 29 = some (0, .iload_n 1, 30, none, [], 0) := rfl
theorem i_Mo_walls_30 : ix_nx mMo_walls 30 = some (4, .ireturn, 31, none, [], 0) := rfl
noncomputable def l_Mo_walls_4 (a0 : Nat) (x1 : Int32) (x2 : Int32) (h : ixH) : Option (List Value × ixH) := ix_D mMo_walls 4 [some (.ref a0), some (.int x1), some (.int x2)] [] h
set_option maxRecDepth 20000 in
set_option maxHeartbeats 1000000 in
theorem e_Mo_walls_4 (a0 : Nat) (x1 : Int32) (x2 : Int32) (h : ixH) : l_Mo_walls_4 a0 x1 x2 h = (ix_M mMo_cells [.ref a0] h).bind fun r => ix_kI r fun v2 h1 => if v2 ≤ x2 then some ([.int x1], h1) else (ix_gr h1 a0 11 0).bind fun v3 => (ix_ai h1 v3 (2 + x2)).bind fun v4 => l_Mo_walls_4 a0 (x1 + v4) (x2 + 1) h1 := by
  unfold l_Mo_walls_4
  refine ix_K_px kq_Mo_walls i_Mo_walls_4 rfl rfl ?_
  refine ix_K_px kq_Mo_walls i_Mo_walls_5 rfl rfl ?_
  refine ix_K_callI (as := [.ref a0]) (rest := [.int x2]) kq_Mo_walls i_Mo_walls_6 rfl kq_Mo_cells (by decide) rfl (Or.inl rfl) (fun v2 h1 => ?_)
  refine ix_K_ic_ge (tgt := 29) kq_Mo_walls i_Mo_walls_9 rfl (by decide) ?_ ?_
  · refine ix_K_px kq_Mo_walls i_Mo_walls_29 rfl rfl ?_
    exact ix_D_ret kq_Mo_walls i_Mo_walls_30 (ix_rtI rfl _)
  · refine ix_K_px kq_Mo_walls i_Mo_walls_12 rfl rfl ?_
    refine ix_K_px kq_Mo_walls i_Mo_walls_13 rfl rfl ?_
    refine ix_K_gr kq_Mo_walls i_Mo_walls_14 rfl (fun v3 => ?_)
    refine ix_K_ci kq_Mo_walls i_Mo_walls_17 rfl kci_2 ?_
    refine ix_K_px kq_Mo_walls i_Mo_walls_18 rfl rfl ?_
    refine ix_K_px kq_Mo_walls i_Mo_walls_19 rfl rfl ?_
    refine ix_K_ai kq_Mo_walls i_Mo_walls_20 rfl (fun v4 => ?_)
    refine ix_K_px kq_Mo_walls i_Mo_walls_21 rfl rfl ?_
    refine ix_K_si (L2 := [some (.ref a0), some (.int (x1 + v4)), some (.int x2)]) kq_Mo_walls i_Mo_walls_22 rfl (Or.inr ⟨_, rfl, rfl⟩) (Nat.le_of_ble_eq_true rfl) rfl ?_
    refine ix_K_inc (L2 := [some (.ref a0), some (.int (x1 + v4)), some (.int (x2 + 1))]) kq_Mo_walls i_Mo_walls_23 rfl rfl (Nat.le_of_ble_eq_true rfl) kci_1 rfl ?_
    refine ix_K_goto (tgt := 4) kq_Mo_walls i_Mo_walls_26 rfl (by decide) ?_
    exact ix_D_cut i_Mo_walls_4 rfl
set_option maxRecDepth 20000 in
set_option maxHeartbeats 1000000 in
theorem e_Mo_walls (a0 : Nat) (h : ixH) : ix_D mMo_walls 0 [some (.ref a0), none, none] [] h = l_Mo_walls_4 a0 0 0 h := by
  refine ix_K_ci kq_Mo_walls i_Mo_walls_0 rfl kci_0 ?_
  refine ix_K_si (L2 := [some (.ref a0), some (.int 0), none]) kq_Mo_walls i_Mo_walls_1 rfl (Or.inr ⟨_, rfl, rfl⟩) (Nat.le_of_ble_eq_true rfl) rfl ?_
  refine ix_K_ci kq_Mo_walls i_Mo_walls_2 rfl kci_0 ?_
  refine ix_K_si (L2 := [some (.ref a0), some (.int 0), some (.int 0)]) kq_Mo_walls i_Mo_walls_3 rfl (Or.inr ⟨_, rfl, rfl⟩) (Nat.le_of_ble_eq_true rfl) rfl ?_
  exact ix_D_cut i_Mo_walls_4 rfl
theorem x_Mo_walls {a0 : Nat} {h h1 : ixH} {v : Int32} (hr : ix_rc h a0 = some 11) (hd : ix_D mMo_walls 0 [some (.ref a0), none, none] [] h = some ([.int v], h1)) : ix_M mMo_walls [.ref a0] h = some ([.int v], h1) := ix_M_of (ix_ent_i kq_Mo_walls rfl hr rfl (Nat.le_of_ble_eq_true rfl) rfl) hd (ix_okrI (Or.inl rfl) v)
theorem i_Mo_role_0 : ix_nx mMo_role 0 = some (0, .aload_n 0, 1, none, [], 0) := rfl
theorem i_Mo_role_1 : ix_nx mMo_role 1 = some (0, .iload_n 1, 2, none, [], 0) := rfl
theorem i_Mo_role_2 : ix_nx mMo_role 2 = some (3, .invokevirtual 117, 5, none, [0, 151, 176], 0) := rfl
theorem i_Mo_role_5 : ix_nx mMo_role 5 = some (0, .ifCond .ne 5, 8, none, [], 0) := rfl
theorem i_Mo_role_8 : ix_nx mMo_role 8 = some (0, .iconst (-1), 9, none, [], 0) := rfl
theorem i_Mo_role_9 : ix_nx mMo_role 9 = some (4, .ireturn, 10, none, [], 0) := rfl
theorem i_Mo_role_10 : ix_nx mMo_role 10 = some (0, .iload_n 2, 11, none, [], 0) := rfl
theorem i_Mo_role_11 : ix_nx mMo_role 11 = some (0, .iconst 0, 12, none, [], 0) := rfl
theorem i_Mo_role_12 : ix_nx mMo_role 12 = some (0, .iconst 3, 13, none, [], 0) := rfl
theorem i_Mo_role_13 : ix_nx mMo_role 13 = some (3, .invokestatic 98, 16, none, [1, 148, 174], 0) := rfl
theorem i_Mo_role_16 : ix_nx mMo_role 16 = some (0, .ifCond .ne 6, 19, none, [], 0) := rfl
theorem i_Mo_role_19 : ix_nx mMo_role 19 = some (0, .bipush (-2), 21, none, [], 0) := rfl
theorem i_Mo_role_21 : ix_nx mMo_role 21 = some (4, .ireturn, 22, none, [], 0) := rfl
theorem i_Mo_role_22 : ix_nx mMo_role 22 = some (0, .aload_n 0, 23, none, [], 0) := rfl
theorem i_Mo_role_23 : ix_nx mMo_role 23 = some (1, .getfield 7, 26, none, [11, 0, 2, 90], 0) := rfl
theorem i_Mo_role_26 : ix_nx mMo_role 26 = some (0, .bipush 66, 28, none, [], 0) := rfl
theorem i_Mo_role_28 : ix_nx mMo_role 28 = some (0, .iload_n 1, 29, none, [], 0) := rfl
theorem i_Mo_role_29 : ix_nx mMo_role 29 = some (0, .iadd, 30, none, [], 0) := rfl
theorem i_Mo_role_30 : ix_nx mMo_role 30 = some (1, .iaload, 31, none, [], 0) := rfl
theorem i_Mo_role_31 : ix_nx mMo_role 31 = some (0, .istore_n 3, 32, none, [], 0) := rfl
theorem i_Mo_role_32 : ix_nx mMo_role 32 = some (0, .aload_n 0, 33, none, [], 0) := rfl
theorem i_Mo_role_33 : ix_nx mMo_role 33 = some (1, .getfield 7, 36, none, [11, 0, 2, 90], 0) := rfl
theorem i_Mo_role_36 : ix_nx mMo_role 36 = some (0, .bipush 66, 38, none, [], 0) := rfl
theorem i_Mo_role_38 : ix_nx mMo_role 38 = some (0, .iload_n 1, 39, none, [], 0) := rfl
theorem i_Mo_role_39 : ix_nx mMo_role 39 = some (0, .iadd, 40, none, [], 0) := rfl
theorem i_Mo_role_40 : ix_nx mMo_role 40 = some (0, .iload_n 2, 41, none, [], 0) := rfl
theorem i_Mo_role_41 : ix_nx mMo_role 41 = some (2, .iastore, 42, none, [], 0) := rfl
theorem i_Mo_role_42 : ix_nx mMo_role 42 = some (0, .iload_n 3, 43, none, [], 0) := rfl
theorem i_Mo_role_43 : ix_nx mMo_role 43 = some (4, .ireturn, 44, none, [], 0) := rfl
set_option maxRecDepth 20000 in
set_option maxHeartbeats 1000000 in
theorem e_Mo_role (a0 : Nat) (x1 : Int32) (x2 : Int32) (h : ixH) : ix_D mMo_role 0 [some (.ref a0), some (.int x1), some (.int x2), none] [] h = (ix_M mMo_isCell [.ref a0, .int x1] h).bind fun r => ix_kZ r fun v2 h1 => if v2 = true then (ix_M mMo_in [.int x2, .int 0, .int 3] h1).bind fun r => ix_kZ r fun v4 h3 => if v4 = true then (ix_gr h3 a0 11 0).bind fun v5 => (ix_ai h3 v5 (66 + x1)).bind fun v6 => (ix_gr h3 a0 11 0).bind fun v7 => (ix_si h3 v7 (66 + x1) x2).bind fun h8 => some ([.int v6], h8) else some ([.int (-2)], h3) else some ([.int (-1)], h1) := by
  refine ix_K_px kq_Mo_role i_Mo_role_0 rfl rfl ?_
  refine ix_K_px kq_Mo_role i_Mo_role_1 rfl rfl ?_
  refine ix_K_callZ (as := [.ref a0, .int x1]) (rest := []) kq_Mo_role i_Mo_role_2 rfl kq_Mo_isCell (by decide) rfl rfl (fun v2 h1 => ?_)
  refine ix_K_bz_ne (tgt := 10) kq_Mo_role i_Mo_role_5 rfl (by decide) ?_ ?_
  · refine ix_K_px kq_Mo_role i_Mo_role_10 rfl rfl ?_
    refine ix_K_ci kq_Mo_role i_Mo_role_11 rfl kci_0 ?_
    refine ix_K_ci kq_Mo_role i_Mo_role_12 rfl kci_3 ?_
    refine ix_K_callZ (as := [.int x2, .int 0, .int 3]) (rest := []) kq_Mo_role i_Mo_role_13 rfl kq_Mo_in (by decide) rfl rfl (fun v4 h3 => ?_)
    refine ix_K_bz_ne (tgt := 22) kq_Mo_role i_Mo_role_16 rfl (by decide) ?_ ?_
    · refine ix_K_px kq_Mo_role i_Mo_role_22 rfl rfl ?_
      refine ix_K_gr kq_Mo_role i_Mo_role_23 rfl (fun v5 => ?_)
      refine ix_K_cb kq_Mo_role i_Mo_role_26 rfl kcb_66 ?_
      refine ix_K_px kq_Mo_role i_Mo_role_28 rfl rfl ?_
      refine ix_K_px kq_Mo_role i_Mo_role_29 rfl rfl ?_
      refine ix_K_ai kq_Mo_role i_Mo_role_30 rfl (fun v6 => ?_)
      refine ix_K_si (L2 := [some (.ref a0), some (.int x1), some (.int x2), some (.int v6)]) kq_Mo_role i_Mo_role_31 rfl (Or.inr ⟨_, rfl, rfl⟩) (Nat.le_of_ble_eq_true rfl) rfl ?_
      refine ix_K_px kq_Mo_role i_Mo_role_32 rfl rfl ?_
      refine ix_K_gr kq_Mo_role i_Mo_role_33 rfl (fun v7 => ?_)
      refine ix_K_cb kq_Mo_role i_Mo_role_36 rfl kcb_66 ?_
      refine ix_K_px kq_Mo_role i_Mo_role_38 rfl rfl ?_
      refine ix_K_px kq_Mo_role i_Mo_role_39 rfl rfl ?_
      refine ix_K_px kq_Mo_role i_Mo_role_40 rfl rfl ?_
      refine ix_K_ti kq_Mo_role i_Mo_role_41 rfl (fun h8 => ?_)
      refine ix_K_px kq_Mo_role i_Mo_role_42 rfl rfl ?_
      exact ix_D_ret kq_Mo_role i_Mo_role_43 (ix_rtI rfl _)
    · refine ix_K_cb kq_Mo_role i_Mo_role_19 rfl kcb_m2 ?_
      exact ix_D_ret kq_Mo_role i_Mo_role_21 (ix_rtI rfl _)
  · refine ix_K_ci kq_Mo_role i_Mo_role_8 rfl kci_m1 ?_
    exact ix_D_ret kq_Mo_role i_Mo_role_9 (ix_rtI rfl _)
theorem x_Mo_role {a0 : Nat} {x1 : Int32} {x2 : Int32} {h h1 : ixH} {v : Int32} (hr : ix_rc h a0 = some 11) (hd : ix_D mMo_role 0 [some (.ref a0), some (.int x1), some (.int x2), none] [] h = some ([.int v], h1)) : ix_M mMo_role [.ref a0, .int x1, .int x2] h = some ([.int v], h1) := ix_M_of (ix_ent_i kq_Mo_role rfl hr rfl (Nat.le_of_ble_eq_true rfl) rfl) hd (ix_okrI (Or.inl rfl) v)
theorem i_Mo_wire_0 : ix_nx mMo_wire 0 = some (0, .iload_n 1, 1, none, [], 0) := rfl
theorem i_Mo_wire_1 : ix_nx mMo_wire 1 = some (3, .invokestatic 123, 4, none, [1, 155, 178], 0) := rfl
theorem i_Mo_wire_4 : ix_nx mMo_wire 4 = some (0, .ifCond .eq 11, 7, none, [], 0) := rfl
theorem i_Mo_wire_7 : ix_nx mMo_wire 7 = some (0, .aload_n 0, 8, none, [], 0) := rfl
theorem i_Mo_wire_8 : ix_nx mMo_wire 8 = some (0, .iload_n 2, 9, none, [], 0) := rfl
theorem i_Mo_wire_9 : ix_nx mMo_wire 9 = some (3, .invokevirtual 117, 12, none, [0, 151, 176], 0) := rfl
theorem i_Mo_wire_12 : ix_nx mMo_wire 12 = some (0, .ifCond .ne 5, 15, none, [], 0) := rfl
theorem i_Mo_wire_15 : ix_nx mMo_wire 15 = some (0, .iconst (-1), 16, none, [], 0) := rfl
theorem i_Mo_wire_16 : ix_nx mMo_wire 16 = some (4, .ireturn, 17, none, [], 0) := rfl
theorem i_Mo_wire_17 : ix_nx mMo_wire 17 = some (0, .sipush 130, 20, none, [], 0) := rfl
theorem i_Mo_wire_20 : ix_nx mMo_wire 20 = some (0, .bipush 64, 22, none, [], 0) := rfl
theorem i_Mo_wire_22 : ix_nx mMo_wire 22 = some (0, .iload_n 1, 23, none, [], 0) := rfl
theorem i_Mo_wire_23 : ix_nx mMo_wire 23 = some (0, .imul, 24, none, [], 0) := rfl
theorem i_Mo_wire_24 : ix_nx mMo_wire 24 = some (0, .iadd, 25, none, [], 0) := rfl
theorem i_Mo_wire_25 : ix_nx mMo_wire 25 = some (0, .istore_n 3, 26, none, [], 0) := rfl
theorem i_Mo_wire_26 : ix_nx mMo_wire 26 = some (0, .aload_n 0, 27, none, [], 0) := rfl
theorem i_Mo_wire_27 : ix_nx mMo_wire 27 = some (1, .getfield 7, 30, none, [11, 0, 2, 90], 0) := rfl
theorem i_Mo_wire_30 : ix_nx mMo_wire 30 = some (0, .iload_n 3, 31, none, [], 0) := rfl
theorem i_Mo_wire_31 : ix_nx mMo_wire 31 = some (0, .iload_n 2, 32, none, [], 0) := rfl
theorem i_Mo_wire_32 : ix_nx mMo_wire 32 = some (0, .iadd, 33, none, [], 0) := rfl
theorem i_Mo_wire_33 : ix_nx mMo_wire 33 = some (0, .iconst 1, 34, none, [], 0) := rfl
theorem i_Mo_wire_34 : ix_nx mMo_wire 34 = some (0, .aload_n 0, 35, none, [], 0) := rfl
theorem i_Mo_wire_35 : ix_nx mMo_wire 35 = some (1, .getfield 7, 38, none, [11, 0, 2, 90], 0) := rfl
theorem i_Mo_wire_38 : ix_nx mMo_wire 38 = some (0, .iload_n 3, 39, none, [], 0) := rfl
theorem i_Mo_wire_39 : ix_nx mMo_wire 39 = some (0, .iload_n 2, 40, none, [], 0) := rfl
theorem i_Mo_wire_40 : ix_nx mMo_wire 40 = some (0, .iadd, 41, none, [], 0) := rfl
theorem i_Mo_wire_41 : ix_nx mMo_wire 41 = some (1, .iaload, 42, none, [], 0) := rfl
theorem i_Mo_wire_42 : ix_nx mMo_wire 42 = some (0, .isub, 43, none, [], 0) := rfl
theorem i_Mo_wire_43 : ix_nx mMo_wire 43 = some (2, .iastore, 44, none, [], 0) := rfl
theorem i_Mo_wire_44 : ix_nx mMo_wire 44 = some (0, .iconst 0, 45, none, [], 0) := rfl
theorem i_Mo_wire_45 : ix_nx mMo_wire 45 = some (0, .istore 4, 47, none, [], 0) := rfl
theorem i_Mo_wire_47 : ix_nx mMo_wire 47 = some (0, .iconst 0, 48, none, [], 0) := rfl
theorem i_Mo_wire_48 : ix_nx mMo_wire 48 = some (0, .istore 5, 50, none, [], 0) := rfl
theorem i_Mo_wire_50 : ix_nx mMo_wire 50 = some (0, .iload 5, 52, some [true, false, false, true, true, true], [], 0) := rfl
theorem i_Mo_wire_52 : ix_nx mMo_wire 52 = some (0, .aload_n 0, 53, none, [], 0) := rfl
theorem i_Mo_wire_53 : ix_nx mMo_wire 53 = some (3, .invokevirtual 94, 56, none, [0, 149, 175], 0) := rfl
theorem i_Mo_wire_56 : ix_nx mMo_wire 56 = some (0, .if_icmp .ge 23, 59, none, [], 0) := rfl
theorem i_Mo_wire_59 : ix_nx mMo_wire 59 = some (0, .iload 4, 61, none, [], 0) := rfl
theorem i_Mo_wire_61 : ix_nx mMo_wire 61 = some (0, .aload_n 0, 62, none, [], 0) := rfl
theorem i_Mo_wire_62 : ix_nx mMo_wire 62 = some (1, .getfield 7, 65, none, [11, 0, 2, 90], 0) := rfl
theorem i_Mo_wire_65 : ix_nx mMo_wire 65 = some (0, .iload_n 3, 66, none, [], 0) := rfl
theorem i_Mo_wire_66 : ix_nx mMo_wire 66 = some (0, .iload 5, 68, none, [], 0) := rfl
theorem i_Mo_wire_68 : ix_nx mMo_wire 68 = some (0, .iadd, 69, none, [], 0) := rfl
theorem i_Mo_wire_69 : ix_nx mMo_wire 69 = some (1, .iaload, 70, none, [], 0) := rfl
theorem i_Mo_wire_70 : ix_nx mMo_wire 70 = some (0, .iadd, 71, none, [], 0) := rfl
theorem i_Mo_wire_71 : ix_nx mMo_wire 71 = some (0, .istore 4, 73, none, [], 0) := rfl
theorem i_Mo_wire_73 : ix_nx mMo_wire 73 = some (0, .iinc 5 1, 76, none, [], 0) := rfl
theorem i_Mo_wire_76 : ix_nx mMo_wire 76 = some (0, .goto (-26), 79, none, [], 0) := rfl
theorem i_Mo_wire_79 : ix_nx mMo_wire 79 = some (0, .iload 4, 81, none, [], 0) := rfl
theorem i_Mo_wire_81 : ix_nx mMo_wire 81 = some (4, .ireturn, 82, none, [], 0) := rfl
noncomputable def l_Mo_wire_50 (a0 : Nat) (x3 : Int32) (x4 : Int32) (x5 : Int32) (h : ixH) : Option (List Value × ixH) := ix_D mMo_wire 50 [some (.ref a0), none, none, some (.int x3), some (.int x4), some (.int x5)] [] h
set_option maxRecDepth 20000 in
set_option maxHeartbeats 1000000 in
theorem e_Mo_wire_50 (a0 : Nat) (x3 : Int32) (x4 : Int32) (x5 : Int32) (h : ixH) : l_Mo_wire_50 a0 x3 x4 x5 h = (ix_M mMo_cells [.ref a0] h).bind fun r => ix_kI r fun v2 h1 => if v2 ≤ x5 then some ([.int x4], h1) else (ix_gr h1 a0 11 0).bind fun v3 => (ix_ai h1 v3 (x3 + x5)).bind fun v4 => l_Mo_wire_50 a0 x3 (x4 + v4) (x5 + 1) h1 := by
  unfold l_Mo_wire_50
  refine ix_K_px kq_Mo_wire i_Mo_wire_50 rfl rfl ?_
  refine ix_K_px kq_Mo_wire i_Mo_wire_52 rfl rfl ?_
  refine ix_K_callI (as := [.ref a0]) (rest := [.int x5]) kq_Mo_wire i_Mo_wire_53 rfl kq_Mo_cells (by decide) rfl (Or.inl rfl) (fun v2 h1 => ?_)
  refine ix_K_ic_ge (tgt := 79) kq_Mo_wire i_Mo_wire_56 rfl (by decide) ?_ ?_
  · refine ix_K_px kq_Mo_wire i_Mo_wire_79 rfl rfl ?_
    exact ix_D_ret kq_Mo_wire i_Mo_wire_81 (ix_rtI rfl _)
  · refine ix_K_px kq_Mo_wire i_Mo_wire_59 rfl rfl ?_
    refine ix_K_px kq_Mo_wire i_Mo_wire_61 rfl rfl ?_
    refine ix_K_gr kq_Mo_wire i_Mo_wire_62 rfl (fun v3 => ?_)
    refine ix_K_px kq_Mo_wire i_Mo_wire_65 rfl rfl ?_
    refine ix_K_px kq_Mo_wire i_Mo_wire_66 rfl rfl ?_
    refine ix_K_px kq_Mo_wire i_Mo_wire_68 rfl rfl ?_
    refine ix_K_ai kq_Mo_wire i_Mo_wire_69 rfl (fun v4 => ?_)
    refine ix_K_px kq_Mo_wire i_Mo_wire_70 rfl rfl ?_
    refine ix_K_si (L2 := [some (.ref a0), none, none, some (.int x3), some (.int (x4 + v4)), some (.int x5)]) kq_Mo_wire i_Mo_wire_71 rfl (Or.inl rfl) (Nat.le_of_ble_eq_true rfl) rfl ?_
    refine ix_K_inc (L2 := [some (.ref a0), none, none, some (.int x3), some (.int (x4 + v4)), some (.int (x5 + 1))]) kq_Mo_wire i_Mo_wire_73 rfl rfl (Nat.le_of_ble_eq_true rfl) kci_1 rfl ?_
    refine ix_K_goto (tgt := 50) kq_Mo_wire i_Mo_wire_76 rfl (by decide) ?_
    exact ix_D_cut i_Mo_wire_50 rfl
set_option maxRecDepth 20000 in
set_option maxHeartbeats 1000000 in
theorem e_Mo_wire (a0 : Nat) (x1 : Int32) (x2 : Int32) (h : ixH) : ix_D mMo_wire 0 [some (.ref a0), some (.int x1), some (.int x2), none, none, none] [] h = (ix_M mMo_isSwitch [.int x1] h).bind fun r => ix_kZ r fun v2 h1 => if v2 = true then (ix_M mMo_isCell [.ref a0, .int x2] h1).bind fun r => ix_kZ r fun v4 h3 => if v4 = true then (ix_gr h3 a0 11 0).bind fun v5 => (ix_gr h3 a0 11 0).bind fun v6 => (ix_ai h3 v6 ((130 + (64 * x1)) + x2)).bind fun v7 => (ix_si h3 v5 ((130 + (64 * x1)) + x2) (1 - v7)).bind fun h8 => l_Mo_wire_50 a0 (130 + (64 * x1)) 0 0 h8 else some ([.int (-1)], h3) else some ([.int (-1)], h1) := by
  refine ix_K_px kq_Mo_wire i_Mo_wire_0 rfl rfl ?_
  refine ix_K_callZ (as := [.int x1]) (rest := []) kq_Mo_wire i_Mo_wire_1 rfl kq_Mo_isSwitch (by decide) rfl rfl (fun v2 h1 => ?_)
  refine ix_K_bz_eq (tgt := 15) kq_Mo_wire i_Mo_wire_4 rfl (by decide) ?_ ?_
  · refine ix_K_px kq_Mo_wire i_Mo_wire_7 rfl rfl ?_
    refine ix_K_px kq_Mo_wire i_Mo_wire_8 rfl rfl ?_
    refine ix_K_callZ (as := [.ref a0, .int x2]) (rest := []) kq_Mo_wire i_Mo_wire_9 rfl kq_Mo_isCell (by decide) rfl rfl (fun v4 h3 => ?_)
    refine ix_K_bz_ne (tgt := 17) kq_Mo_wire i_Mo_wire_12 rfl (by decide) ?_ ?_
    · refine ix_K_cs kq_Mo_wire i_Mo_wire_17 rfl kcs_130 ?_
      refine ix_K_cb kq_Mo_wire i_Mo_wire_20 rfl kcb_64 ?_
      refine ix_K_px kq_Mo_wire i_Mo_wire_22 rfl rfl ?_
      refine ix_K_px kq_Mo_wire i_Mo_wire_23 rfl rfl ?_
      refine ix_K_px kq_Mo_wire i_Mo_wire_24 rfl rfl ?_
      refine ix_K_si (L2 := [some (.ref a0), some (.int x1), some (.int x2), some (.int (130 + (64 * x1))), none, none]) kq_Mo_wire i_Mo_wire_25 rfl (Or.inr ⟨_, rfl, rfl⟩) (Nat.le_of_ble_eq_true rfl) rfl ?_
      refine ix_K_px kq_Mo_wire i_Mo_wire_26 rfl rfl ?_
      refine ix_K_gr kq_Mo_wire i_Mo_wire_27 rfl (fun v5 => ?_)
      refine ix_K_px kq_Mo_wire i_Mo_wire_30 rfl rfl ?_
      refine ix_K_px kq_Mo_wire i_Mo_wire_31 rfl rfl ?_
      refine ix_K_px kq_Mo_wire i_Mo_wire_32 rfl rfl ?_
      refine ix_K_ci kq_Mo_wire i_Mo_wire_33 rfl kci_1 ?_
      refine ix_K_px kq_Mo_wire i_Mo_wire_34 rfl rfl ?_
      refine ix_K_gr kq_Mo_wire i_Mo_wire_35 rfl (fun v6 => ?_)
      refine ix_K_px kq_Mo_wire i_Mo_wire_38 rfl rfl ?_
      refine ix_K_px kq_Mo_wire i_Mo_wire_39 rfl rfl ?_
      refine ix_K_px kq_Mo_wire i_Mo_wire_40 rfl rfl ?_
      refine ix_K_ai kq_Mo_wire i_Mo_wire_41 rfl (fun v7 => ?_)
      refine ix_K_px kq_Mo_wire i_Mo_wire_42 rfl rfl ?_
      refine ix_K_ti kq_Mo_wire i_Mo_wire_43 rfl (fun h8 => ?_)
      refine ix_K_ci kq_Mo_wire i_Mo_wire_44 rfl kci_0 ?_
      refine ix_K_si (L2 := [some (.ref a0), some (.int x1), some (.int x2), some (.int (130 + (64 * x1))), some (.int 0), none]) kq_Mo_wire i_Mo_wire_45 rfl (Or.inl rfl) (Nat.le_of_ble_eq_true rfl) rfl ?_
      refine ix_K_ci kq_Mo_wire i_Mo_wire_47 rfl kci_0 ?_
      refine ix_K_si (L2 := [some (.ref a0), some (.int x1), some (.int x2), some (.int (130 + (64 * x1))), some (.int 0), some (.int 0)]) kq_Mo_wire i_Mo_wire_48 rfl (Or.inl rfl) (Nat.le_of_ble_eq_true rfl) rfl ?_
      exact ix_D_cut i_Mo_wire_50 rfl
    · refine ix_K_ci kq_Mo_wire i_Mo_wire_15 rfl kci_m1 ?_
      exact ix_D_ret kq_Mo_wire i_Mo_wire_16 (ix_rtI rfl _)
  · refine ix_K_ci kq_Mo_wire i_Mo_wire_15 rfl kci_m1 ?_
    exact ix_D_ret kq_Mo_wire i_Mo_wire_16 (ix_rtI rfl _)
theorem x_Mo_wire {a0 : Nat} {x1 : Int32} {x2 : Int32} {h h1 : ixH} {v : Int32} (hr : ix_rc h a0 = some 11) (hd : ix_D mMo_wire 0 [some (.ref a0), some (.int x1), some (.int x2), none, none, none] [] h = some ([.int v], h1)) : ix_M mMo_wire [.ref a0, .int x1, .int x2] h = some ([.int v], h1) := ix_M_of (ix_ent_i kq_Mo_wire rfl hr rfl (Nat.le_of_ble_eq_true rfl) rfl) hd (ix_okrI (Or.inl rfl) v)
theorem i_Mo_isSwitch_0 : ix_nx mMo_isSwitch 0 = some (0, .iload_n 0, 1, none, [], 0) := rfl
theorem i_Mo_isSwitch_1 : ix_nx mMo_isSwitch 1 = some (0, .iconst 0, 2, none, [], 0) := rfl
theorem i_Mo_isSwitch_2 : ix_nx mMo_isSwitch 2 = some (0, .iconst 3, 3, none, [], 0) := rfl
theorem i_Mo_isSwitch_3 : ix_nx mMo_isSwitch 3 = some (3, .invokestatic 98, 6, none, [1, 148, 174], 0) := rfl
theorem i_Mo_isSwitch_6 : ix_nx mMo_isSwitch 6 = some (4, .ireturn, 7, none, [], 0) := rfl
set_option maxRecDepth 20000 in
set_option maxHeartbeats 1000000 in
theorem e_Mo_isSwitch (x0 : Int32) (h : ixH) : ix_D mMo_isSwitch 0 [some (.int x0)] [] h = (ix_M mMo_in [.int x0, .int 0, .int 3] h).bind fun r => ix_kZ r fun v2 h1 => some ([.int (ix_bi v2)], h1) := by
  refine ix_K_px kq_Mo_isSwitch i_Mo_isSwitch_0 rfl rfl ?_
  refine ix_K_ci kq_Mo_isSwitch i_Mo_isSwitch_1 rfl kci_0 ?_
  refine ix_K_ci kq_Mo_isSwitch i_Mo_isSwitch_2 rfl kci_3 ?_
  refine ix_K_callZ (as := [.int x0, .int 0, .int 3]) (rest := []) kq_Mo_isSwitch i_Mo_isSwitch_3 rfl kq_Mo_in (by decide) rfl rfl (fun v2 h1 => ?_)
  exact ix_D_ret kq_Mo_isSwitch i_Mo_isSwitch_6 (ix_rtZ rfl _)
theorem x_Mo_isSwitch {x0 : Int32} {h h1 : ixH} {v : Bool} (hd : ix_D mMo_isSwitch 0 [some (.int x0)] [] h = some ([.int (ix_bi v)], h1)) : ix_M mMo_isSwitch [.int x0] h = some ([.int (ix_bi v)], h1) := ix_M_of (ix_ent_s kq_Mo_isSwitch rfl rfl (Nat.le_of_ble_eq_true rfl) rfl) hd (ix_okrZ rfl v)
theorem i_Mo_turn_0 : ix_nx mMo_turn 0 = some (0, .iload_n 1, 1, none, [], 0) := rfl
theorem i_Mo_turn_1 : ix_nx mMo_turn 1 = some (3, .invokestatic 123, 4, none, [1, 155, 178], 0) := rfl
theorem i_Mo_turn_4 : ix_nx mMo_turn 4 = some (0, .ifCond .ne 5, 7, none, [], 0) := rfl
theorem i_Mo_turn_7 : ix_nx mMo_turn 7 = some (0, .iconst (-1), 8, none, [], 0) := rfl
theorem i_Mo_turn_8 : ix_nx mMo_turn 8 = some (4, .ireturn, 9, none, [], 0) := rfl
theorem i_Mo_turn_9 : ix_nx mMo_turn 9 = some (0, .aload_n 0, 10, none, [], 0) := rfl
theorem i_Mo_turn_10 : ix_nx mMo_turn 10 = some (0, .iload_n 1, 11, none, [], 0) := rfl
theorem i_Mo_turn_11 : ix_nx mMo_turn 11 = some (3, .invokevirtual 126, 14, none, [0, 157, 179], 0) := rfl
theorem i_Mo_turn_14 : ix_nx mMo_turn 14 = some (0, .aload_n 0, 15, none, [], 0) := rfl
theorem i_Mo_turn_15 : ix_nx mMo_turn 15 = some (3, .invokevirtual 120, 18, none, [0, 152, 177], 0) := rfl
theorem i_Mo_turn_18 : ix_nx mMo_turn 18 = some (4, .ireturn, 19, none, [], 0) := rfl
set_option maxRecDepth 20000 in
set_option maxHeartbeats 1000000 in
theorem e_Mo_turn (a0 : Nat) (x1 : Int32) (h : ixH) : ix_D mMo_turn 0 [some (.ref a0), some (.int x1)] [] h = (ix_M mMo_isSwitch [.int x1] h).bind fun r => ix_kZ r fun v2 h1 => if v2 = true then (ix_M mMo_turnOne [.ref a0, .int x1] h1).bind fun r => ix_kV r fun h3 => (ix_M mMo_walls [.ref a0] h3).bind fun r => ix_kI r fun v5 h4 => some ([.int v5], h4) else some ([.int (-1)], h1) := by
  refine ix_K_px kq_Mo_turn i_Mo_turn_0 rfl rfl ?_
  refine ix_K_callZ (as := [.int x1]) (rest := []) kq_Mo_turn i_Mo_turn_1 rfl kq_Mo_isSwitch (by decide) rfl rfl (fun v2 h1 => ?_)
  refine ix_K_bz_ne (tgt := 9) kq_Mo_turn i_Mo_turn_4 rfl (by decide) ?_ ?_
  · refine ix_K_px kq_Mo_turn i_Mo_turn_9 rfl rfl ?_
    refine ix_K_px kq_Mo_turn i_Mo_turn_10 rfl rfl ?_
    refine ix_K_callV (as := [.ref a0, .int x1]) (rest := []) kq_Mo_turn i_Mo_turn_11 rfl kq_Mo_turnOne (by decide) rfl rfl (fun h3 => ?_)
    refine ix_K_px kq_Mo_turn i_Mo_turn_14 rfl rfl ?_
    refine ix_K_callI (as := [.ref a0]) (rest := []) kq_Mo_turn i_Mo_turn_15 rfl kq_Mo_walls (by decide) rfl (Or.inl rfl) (fun v5 h4 => ?_)
    exact ix_D_ret kq_Mo_turn i_Mo_turn_18 (ix_rtI rfl _)
  · refine ix_K_ci kq_Mo_turn i_Mo_turn_7 rfl kci_m1 ?_
    exact ix_D_ret kq_Mo_turn i_Mo_turn_8 (ix_rtI rfl _)
theorem x_Mo_turn {a0 : Nat} {x1 : Int32} {h h1 : ixH} {v : Int32} (hr : ix_rc h a0 = some 11) (hd : ix_D mMo_turn 0 [some (.ref a0), some (.int x1)] [] h = some ([.int v], h1)) : ix_M mMo_turn [.ref a0, .int x1] h = some ([.int v], h1) := ix_M_of (ix_ent_i kq_Mo_turn rfl hr rfl (Nat.le_of_ble_eq_true rfl) rfl) hd (ix_okrI (Or.inl rfl) v)
theorem i_Mo_turnOne_0 : ix_nx mMo_turnOne 0 = some (0, .iconst 0, 1, none, [], 0) := rfl
theorem i_Mo_turnOne_1 : ix_nx mMo_turnOne 1 = some (0, .istore_n 2, 2, none, [], 0) := rfl
theorem i_Mo_turnOne_2 : ix_nx mMo_turnOne 2 = some (0, .iload_n 2, 3, some [true, true, true], [], 0) := rfl
theorem i_Mo_turnOne_3 : ix_nx mMo_turnOne 3 = some (0, .aload_n 0, 4, none, [], 0) := rfl
theorem i_Mo_turnOne_4 : ix_nx mMo_turnOne 4 = some (3, .invokevirtual 94, 7, none, [0, 149, 175], 0) := rfl
theorem i_Mo_turnOne_7 : ix_nx mMo_turnOne 7 = some (0, .if_icmp .ge 35, 10, none, [], 0) := rfl
theorem i_Mo_turnOne_10 : ix_nx mMo_turnOne 10 = some (0, .aload_n 0, 11, none, [], 0) := rfl
theorem i_Mo_turnOne_11 : ix_nx mMo_turnOne 11 = some (1, .getfield 7, 14, none, [11, 0, 2, 90], 0) := rfl
theorem i_Mo_turnOne_14 : ix_nx mMo_turnOne 14 = some (0, .iconst 2, 15, none, [], 0) := rfl
theorem i_Mo_turnOne_15 : ix_nx mMo_turnOne 15 = some (0, .iload_n 2, 16, none, [], 0) := rfl
theorem i_Mo_turnOne_16 : ix_nx mMo_turnOne 16 = some (0, .iadd, 17, none, [], 0) := rfl
theorem i_Mo_turnOne_17 : ix_nx mMo_turnOne 17 = some (0, .dup2, 18, none, [], 0) := rfl
theorem i_Mo_turnOne_18 : ix_nx mMo_turnOne 18 = some (1, .iaload, 19, none, [], 0) := rfl
theorem i_Mo_turnOne_19 : ix_nx mMo_turnOne 19 = some (0, .aload_n 0, 20, none, [], 0) := rfl
theorem i_Mo_turnOne_20 : ix_nx mMo_turnOne 20 = some (1, .getfield 7, 23, none, [11, 0, 2, 90], 0) := rfl
theorem i_Mo_turnOne_23 : ix_nx mMo_turnOne 23 = some (0, .sipush 130, 26, none, [], 0) := rfl
theorem i_Mo_turnOne_26 : ix_nx mMo_turnOne 26 = some (0, .bipush 64, 28, none, [], 0) := rfl
theorem i_Mo_turnOne_28 : ix_nx mMo_turnOne 28 = some (0, .iload_n 1, 29, none, [], 0) := rfl
theorem i_Mo_turnOne_29 : ix_nx mMo_turnOne 29 = some (0, .imul, 30, none, [], 0) := rfl
theorem i_Mo_turnOne_30 : ix_nx mMo_turnOne 30 = some (0, .iadd, 31, none, [], 0) := rfl
theorem i_Mo_turnOne_31 : ix_nx mMo_turnOne 31 = some (0, .iload_n 2, 32, none, [], 0) := rfl
theorem i_Mo_turnOne_32 : ix_nx mMo_turnOne 32 = some (0, .iadd, 33, none, [], 0) := rfl
theorem i_Mo_turnOne_33 : ix_nx mMo_turnOne 33 = some (1, .iaload, 34, none, [], 0) := rfl
theorem i_Mo_turnOne_34 : ix_nx mMo_turnOne 34 = some (0, .ixor, 35, none, [], 0) := rfl
theorem i_Mo_turnOne_35 : ix_nx mMo_turnOne 35 = some (2, .iastore, 36, none, [], 0) := rfl
theorem i_Mo_turnOne_36 : ix_nx mMo_turnOne 36 = some (0, .iinc 2 1, 39, none, [], 0) := rfl
theorem i_Mo_turnOne_39 : ix_nx mMo_turnOne 39 = some (0, .goto (-37), 42, none, [], 0) := rfl
theorem i_Mo_turnOne_42 : ix_nx mMo_turnOne 42 = some (4, .return_, 43, none, [], 0) := rfl
noncomputable def l_Mo_turnOne_2 (a0 : Nat) (x1 : Int32) (x2 : Int32) (h : ixH) : Option (List Value × ixH) := ix_D mMo_turnOne 2 [some (.ref a0), some (.int x1), some (.int x2)] [] h
set_option maxRecDepth 20000 in
set_option maxHeartbeats 1000000 in
theorem e_Mo_turnOne_2 (a0 : Nat) (x1 : Int32) (x2 : Int32) (h : ixH) : l_Mo_turnOne_2 a0 x1 x2 h = (ix_M mMo_cells [.ref a0] h).bind fun r => ix_kI r fun v2 h1 => if v2 ≤ x2 then some ([], h1) else (ix_gr h1 a0 11 0).bind fun v3 => (ix_ai h1 v3 (2 + x2)).bind fun v4 => (ix_gr h1 a0 11 0).bind fun v5 => (ix_ai h1 v5 ((130 + (64 * x1)) + x2)).bind fun v6 => (ix_si h1 v3 (2 + x2) (v4 ^^^ v6)).bind fun h7 => l_Mo_turnOne_2 a0 x1 (x2 + 1) h7 := by
  unfold l_Mo_turnOne_2
  refine ix_K_px kq_Mo_turnOne i_Mo_turnOne_2 rfl rfl ?_
  refine ix_K_px kq_Mo_turnOne i_Mo_turnOne_3 rfl rfl ?_
  refine ix_K_callI (as := [.ref a0]) (rest := [.int x2]) kq_Mo_turnOne i_Mo_turnOne_4 rfl kq_Mo_cells (by decide) rfl (Or.inl rfl) (fun v2 h1 => ?_)
  refine ix_K_ic_ge (tgt := 42) kq_Mo_turnOne i_Mo_turnOne_7 rfl (by decide) ?_ ?_
  · exact ix_D_ret kq_Mo_turnOne i_Mo_turnOne_42 (ix_rtV rfl)
  · refine ix_K_px kq_Mo_turnOne i_Mo_turnOne_10 rfl rfl ?_
    refine ix_K_gr kq_Mo_turnOne i_Mo_turnOne_11 rfl (fun v3 => ?_)
    refine ix_K_ci kq_Mo_turnOne i_Mo_turnOne_14 rfl kci_2 ?_
    refine ix_K_px kq_Mo_turnOne i_Mo_turnOne_15 rfl rfl ?_
    refine ix_K_px kq_Mo_turnOne i_Mo_turnOne_16 rfl rfl ?_
    refine ix_K_px kq_Mo_turnOne i_Mo_turnOne_17 rfl rfl ?_
    refine ix_K_ai kq_Mo_turnOne i_Mo_turnOne_18 rfl (fun v4 => ?_)
    refine ix_K_px kq_Mo_turnOne i_Mo_turnOne_19 rfl rfl ?_
    refine ix_K_gr kq_Mo_turnOne i_Mo_turnOne_20 rfl (fun v5 => ?_)
    refine ix_K_cs kq_Mo_turnOne i_Mo_turnOne_23 rfl kcs_130 ?_
    refine ix_K_cb kq_Mo_turnOne i_Mo_turnOne_26 rfl kcb_64 ?_
    refine ix_K_px kq_Mo_turnOne i_Mo_turnOne_28 rfl rfl ?_
    refine ix_K_px kq_Mo_turnOne i_Mo_turnOne_29 rfl rfl ?_
    refine ix_K_px kq_Mo_turnOne i_Mo_turnOne_30 rfl rfl ?_
    refine ix_K_px kq_Mo_turnOne i_Mo_turnOne_31 rfl rfl ?_
    refine ix_K_px kq_Mo_turnOne i_Mo_turnOne_32 rfl rfl ?_
    refine ix_K_ai kq_Mo_turnOne i_Mo_turnOne_33 rfl (fun v6 => ?_)
    refine ix_K_px kq_Mo_turnOne i_Mo_turnOne_34 rfl rfl ?_
    refine ix_K_ti kq_Mo_turnOne i_Mo_turnOne_35 rfl (fun h7 => ?_)
    refine ix_K_inc (L2 := [some (.ref a0), some (.int x1), some (.int (x2 + 1))]) kq_Mo_turnOne i_Mo_turnOne_36 rfl rfl (Nat.le_of_ble_eq_true rfl) kci_1 rfl ?_
    refine ix_K_goto (tgt := 2) kq_Mo_turnOne i_Mo_turnOne_39 rfl (by decide) ?_
    exact ix_D_cut i_Mo_turnOne_2 rfl
set_option maxRecDepth 20000 in
set_option maxHeartbeats 1000000 in
theorem e_Mo_turnOne (a0 : Nat) (x1 : Int32) (h : ixH) : ix_D mMo_turnOne 0 [some (.ref a0), some (.int x1), none] [] h = l_Mo_turnOne_2 a0 x1 0 h := by
  refine ix_K_ci kq_Mo_turnOne i_Mo_turnOne_0 rfl kci_0 ?_
  refine ix_K_si (L2 := [some (.ref a0), some (.int x1), some (.int 0)]) kq_Mo_turnOne i_Mo_turnOne_1 rfl (Or.inr ⟨_, rfl, rfl⟩) (Nat.le_of_ble_eq_true rfl) rfl ?_
  exact ix_D_cut i_Mo_turnOne_2 rfl
theorem x_Mo_turnOne {a0 : Nat} {x1 : Int32} {h h1 : ixH} (hr : ix_rc h a0 = some 11) (hd : ix_D mMo_turnOne 0 [some (.ref a0), some (.int x1), none] [] h = some ([], h1)) : ix_M mMo_turnOne [.ref a0, .int x1] h = some ([], h1) := ix_M_of (ix_ent_i kq_Mo_turnOne rfl hr rfl (Nat.le_of_ble_eq_true rfl) rfl) hd (ix_okrV rfl)
theorem i_Mo_falling_0 : ix_nx mMo_falling 0 = some (0, .aload_n 0, 1, none, [], 0) := rfl
theorem i_Mo_falling_1 : ix_nx mMo_falling 1 = some (0, .iload_n 1, 2, none, [], 0) := rfl
theorem i_Mo_falling_2 : ix_nx mMo_falling 2 = some (3, .invokevirtual 117, 5, none, [0, 151, 176], 0) := rfl
theorem i_Mo_falling_5 : ix_nx mMo_falling 5 = some (0, .ifCond .eq 11, 8, none, [], 0) := rfl
theorem i_Mo_falling_8 : ix_nx mMo_falling 8 = some (0, .aload_n 0, 9, none, [], 0) := rfl
theorem i_Mo_falling_9 : ix_nx mMo_falling 9 = some (0, .iload_n 2, 10, none, [], 0) := rfl
theorem i_Mo_falling_10 : ix_nx mMo_falling 10 = some (3, .invokevirtual 117, 13, none, [0, 151, 176], 0) := rfl
theorem i_Mo_falling_13 : ix_nx mMo_falling 13 = some (0, .ifCond .ne 7, 16, none, [], 0) := rfl
theorem i_Mo_falling_16 : ix_nx mMo_falling 16 = some (0, .ldc2_w 130, 19, none, [10], -1000000000000000001) := rfl
theorem i_Mo_falling_19 : ix_nx mMo_falling 19 = some (4, .lreturn, 20, none, [], 0) := rfl
theorem i_Mo_falling_20 : ix_nx mMo_falling 20 = some (0, .aload_n 0, 21, none, [], 0) := rfl
theorem i_Mo_falling_21 : ix_nx mMo_falling 21 = some (0, .iload_n 1, 22, none, [], 0) := rfl
theorem i_Mo_falling_22 : ix_nx mMo_falling 22 = some (3, .invokevirtual 132, 25, none, [0, 159, 180], 0) := rfl
theorem i_Mo_falling_25 : ix_nx mMo_falling 25 = some (0, .aload_n 0, 26, none, [], 0) := rfl
theorem i_Mo_falling_26 : ix_nx mMo_falling 26 = some (1, .getfield 20, 29, none, [11, 3, 2, 93], 0) := rfl
theorem i_Mo_falling_29 : ix_nx mMo_falling 29 = some (0, .iload_n 2, 30, none, [], 0) := rfl
theorem i_Mo_falling_30 : ix_nx mMo_falling 30 = some (1, .laload, 31, none, [], 0) := rfl
theorem i_Mo_falling_31 : ix_nx mMo_falling 31 = some (4, .lreturn, 32, none, [], 0) := rfl
set_option maxRecDepth 20000 in
set_option maxHeartbeats 1000000 in
theorem e_Mo_falling (a0 : Nat) (x1 : Int32) (x2 : Int32) (h : ixH) : ix_D mMo_falling 0 [some (.ref a0), some (.int x1), some (.int x2)] [] h = (ix_M mMo_isCell [.ref a0, .int x1] h).bind fun r => ix_kZ r fun v2 h1 => if v2 = true then (ix_M mMo_isCell [.ref a0, .int x2] h1).bind fun r => ix_kZ r fun v4 h3 => if v4 = true then (ix_M mMo_layFalls [.ref a0, .int x1] h3).bind fun r => ix_kV r fun h5 => (ix_gr h5 a0 11 3).bind fun v6 => (ix_al h5 v6 x2).bind fun v7 => some ([.long v7], h5) else some ([.long (-1000000000000000001)], h3) else some ([.long (-1000000000000000001)], h1) := by
  refine ix_K_px kq_Mo_falling i_Mo_falling_0 rfl rfl ?_
  refine ix_K_px kq_Mo_falling i_Mo_falling_1 rfl rfl ?_
  refine ix_K_callZ (as := [.ref a0, .int x1]) (rest := []) kq_Mo_falling i_Mo_falling_2 rfl kq_Mo_isCell (by decide) rfl rfl (fun v2 h1 => ?_)
  refine ix_K_bz_eq (tgt := 16) kq_Mo_falling i_Mo_falling_5 rfl (by decide) ?_ ?_
  · refine ix_K_px kq_Mo_falling i_Mo_falling_8 rfl rfl ?_
    refine ix_K_px kq_Mo_falling i_Mo_falling_9 rfl rfl ?_
    refine ix_K_callZ (as := [.ref a0, .int x2]) (rest := []) kq_Mo_falling i_Mo_falling_10 rfl kq_Mo_isCell (by decide) rfl rfl (fun v4 h3 => ?_)
    refine ix_K_bz_ne (tgt := 20) kq_Mo_falling i_Mo_falling_13 rfl (by decide) ?_ ?_
    · refine ix_K_px kq_Mo_falling i_Mo_falling_20 rfl rfl ?_
      refine ix_K_px kq_Mo_falling i_Mo_falling_21 rfl rfl ?_
      refine ix_K_callV (as := [.ref a0, .int x1]) (rest := []) kq_Mo_falling i_Mo_falling_22 rfl kq_Mo_layFalls (by decide) rfl rfl (fun h5 => ?_)
      refine ix_K_px kq_Mo_falling i_Mo_falling_25 rfl rfl ?_
      refine ix_K_gr kq_Mo_falling i_Mo_falling_26 rfl (fun v6 => ?_)
      refine ix_K_px kq_Mo_falling i_Mo_falling_29 rfl rfl ?_
      refine ix_K_al kq_Mo_falling i_Mo_falling_30 rfl (fun v7 => ?_)
      exact ix_D_ret kq_Mo_falling i_Mo_falling_31 (ix_rtL rfl _)
    · refine ix_K_c2 kq_Mo_falling i_Mo_falling_16 rfl kc2_m1000000000000000001 ?_
      exact ix_D_ret kq_Mo_falling i_Mo_falling_19 (ix_rtL rfl _)
  · refine ix_K_c2 kq_Mo_falling i_Mo_falling_16 rfl kc2_m1000000000000000001 ?_
    exact ix_D_ret kq_Mo_falling i_Mo_falling_19 (ix_rtL rfl _)
theorem x_Mo_falling {a0 : Nat} {x1 : Int32} {x2 : Int32} {h h1 : ixH} {v : Int64} (hr : ix_rc h a0 = some 11) (hd : ix_D mMo_falling 0 [some (.ref a0), some (.int x1), some (.int x2)] [] h = some ([.long v], h1)) : ix_M mMo_falling [.ref a0, .int x1, .int x2] h = some ([.long v], h1) := ix_M_of (ix_ent_i kq_Mo_falling rfl hr rfl (Nat.le_of_ble_eq_true rfl) rfl) hd (ix_okrL rfl v)
theorem i_Mo_layFalls_0 : ix_nx mMo_layFalls 0 = some (0, .iconst 0, 1, none, [], 0) := rfl
theorem i_Mo_layFalls_1 : ix_nx mMo_layFalls 1 = some (0, .istore_n 2, 2, none, [], 0) := rfl
theorem i_Mo_layFalls_2 : ix_nx mMo_layFalls 2 = some (0, .iload_n 2, 3, some [true, true, true], [], 0) := rfl
theorem i_Mo_layFalls_3 : ix_nx mMo_layFalls 3 = some (0, .aload_n 0, 4, none, [], 0) := rfl
theorem i_Mo_layFalls_4 : ix_nx mMo_layFalls 4 = some (3, .invokevirtual 94, 7, none, [0, 149, 175], 0) := rfl
theorem i_Mo_layFalls_7 : ix_nx mMo_layFalls 7 = some (0, .if_icmp .ge 16, 10, none, [], 0) := rfl
theorem i_Mo_layFalls_10 : ix_nx mMo_layFalls 10 = some (0, .aload_n 0, 11, none, [], 0) := rfl
theorem i_Mo_layFalls_11 : ix_nx mMo_layFalls 11 = some (1, .getfield 20, 14, none, [11, 3, 2, 93], 0) := rfl
theorem i_Mo_layFalls_14 : ix_nx mMo_layFalls 14 = some (0, .iload_n 2, 15, none, [], 0) := rfl
theorem i_Mo_layFalls_15 : ix_nx mMo_layFalls 15 = some (0, .lconst 0, 16, none, [], 0) := rfl
theorem i_Mo_layFalls_16 : ix_nx mMo_layFalls 16 = some (2, .lastore, 17, none, [], 0) := rfl
theorem i_Mo_layFalls_17 : ix_nx mMo_layFalls 17 = some (0, .iinc 2 1, 20, none, [], 0) := rfl
theorem i_Mo_layFalls_20 : ix_nx mMo_layFalls 20 = some (0, .goto (-18), 23, none, [], 0) := rfl
theorem i_Mo_layFalls_23 : ix_nx mMo_layFalls 23 = some (0, .aload_n 0, 24, none, [], 0) := rfl
theorem i_Mo_layFalls_24 : ix_nx mMo_layFalls 24 = some (1, .getfield 20, 27, none, [11, 3, 2, 93], 0) := rfl
theorem i_Mo_layFalls_27 : ix_nx mMo_layFalls 27 = some (0, .iload_n 1, 28, none, [], 0) := rfl
theorem i_Mo_layFalls_28 : ix_nx mMo_layFalls 28 = some (0, .aload_n 0, 29, none, [], 0) := rfl
theorem i_Mo_layFalls_29 : ix_nx mMo_layFalls 29 = some (0, .iload_n 1, 30, none, [], 0) := rfl
theorem i_Mo_layFalls_30 : ix_nx mMo_layFalls 30 = some (3, .invokevirtual 102, 33, none, [0, 160, 181], 0) := rfl
theorem i_Mo_layFalls_33 : ix_nx mMo_layFalls 33 = some (0, .ifCond .eq 7, 36, none, [], 0) := rfl
theorem i_Mo_layFalls_36 : ix_nx mMo_layFalls 36 = some (0, .lconst 1, 37, none, [], 0) := rfl
theorem i_Mo_layFalls_37 : ix_nx mMo_layFalls 37 = some (0, .goto 4, 40, none, [], 0) := rfl
theorem i_Mo_layFalls_40 : ix_nx mMo_layFalls 40 = some (0, .lconst 0, 41, none, [], 0) := rfl
theorem i_Mo_layFalls_41 : ix_nx mMo_layFalls 41 = some (2, .lastore, 42, none, [], 0) := rfl
theorem i_Mo_layFalls_42 : ix_nx mMo_layFalls 42 = some (0, .iload_n 1, 43, none, [], 0) := rfl
theorem i_Mo_layFalls_43 : ix_nx mMo_layFalls 43 = some (0, .iconst 1, 44, none, [], 0) := rfl
theorem i_Mo_layFalls_44 : ix_nx mMo_layFalls 44 = some (0, .iadd, 45, none, [], 0) := rfl
theorem i_Mo_layFalls_45 : ix_nx mMo_layFalls 45 = some (0, .istore_n 2, 46, none, [], 0) := rfl
theorem i_Mo_layFalls_46 : ix_nx mMo_layFalls 46 = some (0, .iload_n 2, 47, some [true, false, true], [], 0) := rfl
theorem i_Mo_layFalls_47 : ix_nx mMo_layFalls 47 = some (0, .aload_n 0, 48, none, [], 0) := rfl
theorem i_Mo_layFalls_48 : ix_nx mMo_layFalls 48 = some (3, .invokevirtual 94, 51, none, [0, 149, 175], 0) := rfl
theorem i_Mo_layFalls_51 : ix_nx mMo_layFalls 51 = some (0, .if_icmp .ge 69, 54, none, [], 0) := rfl
theorem i_Mo_layFalls_54 : ix_nx mMo_layFalls 54 = some (0, .aload_n 0, 55, none, [], 0) := rfl
theorem i_Mo_layFalls_55 : ix_nx mMo_layFalls 55 = some (0, .iload_n 2, 56, none, [], 0) := rfl
theorem i_Mo_layFalls_56 : ix_nx mMo_layFalls 56 = some (3, .invokevirtual 102, 59, none, [0, 160, 181], 0) := rfl
theorem i_Mo_layFalls_59 : ix_nx mMo_layFalls 59 = some (0, .ifCond .eq 55, 62, none, [], 0) := rfl
theorem i_Mo_layFalls_62 : ix_nx mMo_layFalls 62 = some (0, .aload_n 0, 63, none, [], 0) := rfl
theorem i_Mo_layFalls_63 : ix_nx mMo_layFalls 63 = some (1, .getfield 20, 66, none, [11, 3, 2, 93], 0) := rfl
theorem i_Mo_layFalls_66 : ix_nx mMo_layFalls 66 = some (0, .iload_n 2, 67, none, [], 0) := rfl
theorem i_Mo_layFalls_67 : ix_nx mMo_layFalls 67 = some (0, .aload_n 0, 68, none, [], 0) := rfl
theorem i_Mo_layFalls_68 : ix_nx mMo_layFalls 68 = some (0, .iload_n 2, 69, none, [], 0) := rfl
theorem i_Mo_layFalls_69 : ix_nx mMo_layFalls 69 = some (3, .invokevirtual 106, 72, none, [0, 161, 182], 0) := rfl
theorem i_Mo_layFalls_72 : ix_nx mMo_layFalls 72 = some (0, .ifCond .le 14, 75, none, [], 0) := rfl
theorem i_Mo_layFalls_75 : ix_nx mMo_layFalls 75 = some (0, .aload_n 0, 76, none, [], 0) := rfl
theorem i_Mo_layFalls_76 : ix_nx mMo_layFalls 76 = some (1, .getfield 20, 79, none, [11, 3, 2, 93], 0) := rfl
theorem i_Mo_layFalls_79 : ix_nx mMo_layFalls 79 = some (0, .iload_n 2, 80, none, [], 0) := rfl
theorem i_Mo_layFalls_80 : ix_nx mMo_layFalls 80 = some (0, .iconst 1, 81, none, [], 0) := rfl
theorem i_Mo_layFalls_81 : ix_nx mMo_layFalls 81 = some (0, .isub, 82, none, [], 0) := rfl
theorem i_Mo_layFalls_82 : ix_nx mMo_layFalls 82 = some (1, .laload, 83, none, [], 0) := rfl
theorem i_Mo_layFalls_83 : ix_nx mMo_layFalls 83 = some (0, .goto 4, 86, none, [], 0) := rfl
theorem i_Mo_layFalls_86 : ix_nx mMo_layFalls 86 = some (0, .lconst 0, 87, none, [], 0) := rfl
theorem i_Mo_layFalls_87 : ix_nx mMo_layFalls 87 = some (0, .aload_n 0, 88, some [true, false, true], [], 0) := rfl
theorem i_Mo_layFalls_88 : ix_nx mMo_layFalls 88 = some (0, .iload_n 2, 89, none, [], 0) := rfl
theorem i_Mo_layFalls_89 : ix_nx mMo_layFalls 89 = some (3, .invokevirtual 110, 92, none, [0, 162, 183], 0) := rfl
theorem i_Mo_layFalls_92 : ix_nx mMo_layFalls 92 = some (0, .ifCond .le 19, 95, none, [], 0) := rfl
theorem i_Mo_layFalls_95 : ix_nx mMo_layFalls 95 = some (0, .aload_n 0, 96, none, [], 0) := rfl
theorem i_Mo_layFalls_96 : ix_nx mMo_layFalls 96 = some (1, .getfield 20, 99, none, [11, 3, 2, 93], 0) := rfl
theorem i_Mo_layFalls_99 : ix_nx mMo_layFalls 99 = some (0, .iload_n 2, 100, none, [], 0) := rfl
theorem i_Mo_layFalls_100 : ix_nx mMo_layFalls 100 = some (0, .aload_n 0, 101, none, [], 0) := rfl
theorem i_Mo_layFalls_101 : ix_nx mMo_layFalls 101 = some (1, .getfield 7, 104, none, [11, 0, 2, 90], 0) := rfl
theorem i_Mo_layFalls_104 : ix_nx mMo_layFalls 104 = some (0, .iconst 0, 105, none, [], 0) := rfl
theorem i_Mo_layFalls_105 : ix_nx mMo_layFalls 105 = some (1, .iaload, 106, none, [], 0) := rfl
theorem i_Mo_layFalls_106 : ix_nx mMo_layFalls 106 = some (0, .isub, 107, none, [], 0) := rfl
theorem i_Mo_layFalls_107 : ix_nx mMo_layFalls 107 = some (1, .laload, 108, none, [], 0) := rfl
theorem i_Mo_layFalls_108 : ix_nx mMo_layFalls 108 = some (0, .goto 4, 111, none, [], 0) := rfl
theorem i_Mo_layFalls_111 : ix_nx mMo_layFalls 111 = some (0, .lconst 0, 112, none, [], 0) := rfl
theorem i_Mo_layFalls_112 : ix_nx mMo_layFalls 112 = some (0, .ladd, 113, none, [], 0) := rfl
theorem i_Mo_layFalls_113 : ix_nx mMo_layFalls 113 = some (2, .lastore, 114, none, [], 0) := rfl
theorem i_Mo_layFalls_114 : ix_nx mMo_layFalls 114 = some (0, .iinc 2 1, 117, none, [], 0) := rfl
theorem i_Mo_layFalls_117 : ix_nx mMo_layFalls 117 = some (0, .goto (-71), 120, none, [], 0) := rfl
theorem i_Mo_layFalls_120 : ix_nx mMo_layFalls 120 = some (4, .return_, 121, none, [], 0) := rfl
noncomputable def l_Mo_layFalls_2 (a0 : Nat) (x1 : Int32) (x2 : Int32) (h : ixH) : Option (List Value × ixH) := ix_D mMo_layFalls 2 [some (.ref a0), some (.int x1), some (.int x2)] [] h
noncomputable def l_Mo_layFalls_46 (a0 : Nat) (x2 : Int32) (h : ixH) : Option (List Value × ixH) := ix_D mMo_layFalls 46 [some (.ref a0), none, some (.int x2)] [] h
noncomputable def l_Mo_layFalls_87 (a0 : Nat) (x2 : Int32) (sa0 : Nat) (s1 : Int32) (s2 : Int64) (h : ixH) : Option (List Value × ixH) := ix_D mMo_layFalls 87 [some (.ref a0), none, some (.int x2)] [.long s2, .int s1, .ref sa0] h
set_option maxRecDepth 20000 in
set_option maxHeartbeats 1000000 in
theorem e_Mo_layFalls_2 (a0 : Nat) (x1 : Int32) (x2 : Int32) (h : ixH) : l_Mo_layFalls_2 a0 x1 x2 h = (ix_M mMo_cells [.ref a0] h).bind fun r => ix_kI r fun v2 h1 => if v2 ≤ x2 then (ix_gr h1 a0 11 3).bind fun v3 => (ix_M mMo_isOpen [.ref a0, .int x1] h1).bind fun r => ix_kZ r fun v5 h4 => if v5 = true then (ix_sl h4 v3 x1 1).bind fun h6 => l_Mo_layFalls_46 a0 (x1 + 1) h6 else (ix_sl h4 v3 x1 0).bind fun h7 => l_Mo_layFalls_46 a0 (x1 + 1) h7 else (ix_gr h1 a0 11 3).bind fun v8 => (ix_sl h1 v8 x2 0).bind fun h9 => l_Mo_layFalls_2 a0 x1 (x2 + 1) h9 := by
  unfold l_Mo_layFalls_2
  refine ix_K_px kq_Mo_layFalls i_Mo_layFalls_2 rfl rfl ?_
  refine ix_K_px kq_Mo_layFalls i_Mo_layFalls_3 rfl rfl ?_
  refine ix_K_callI (as := [.ref a0]) (rest := [.int x2]) kq_Mo_layFalls i_Mo_layFalls_4 rfl kq_Mo_cells (by decide) rfl (Or.inl rfl) (fun v2 h1 => ?_)
  refine ix_K_ic_ge (tgt := 23) kq_Mo_layFalls i_Mo_layFalls_7 rfl (by decide) ?_ ?_
  · refine ix_K_px kq_Mo_layFalls i_Mo_layFalls_23 rfl rfl ?_
    refine ix_K_gr kq_Mo_layFalls i_Mo_layFalls_24 rfl (fun v3 => ?_)
    refine ix_K_px kq_Mo_layFalls i_Mo_layFalls_27 rfl rfl ?_
    refine ix_K_px kq_Mo_layFalls i_Mo_layFalls_28 rfl rfl ?_
    refine ix_K_px kq_Mo_layFalls i_Mo_layFalls_29 rfl rfl ?_
    refine ix_K_callZ (as := [.ref a0, .int x1]) (rest := [.int x1, .ref v3]) kq_Mo_layFalls i_Mo_layFalls_30 rfl kq_Mo_isOpen (by decide) rfl rfl (fun v5 h4 => ?_)
    refine ix_K_bz_eq (tgt := 40) kq_Mo_layFalls i_Mo_layFalls_33 rfl (by decide) ?_ ?_
    · refine ix_K_cl kq_Mo_layFalls i_Mo_layFalls_36 rfl kcl_1 ?_
      refine ix_K_goto (tgt := 41) kq_Mo_layFalls i_Mo_layFalls_37 rfl (by decide) ?_
      refine ix_K_tl kq_Mo_layFalls i_Mo_layFalls_41 rfl (fun h6 => ?_)
      refine ix_K_px kq_Mo_layFalls i_Mo_layFalls_42 rfl rfl ?_
      refine ix_K_ci kq_Mo_layFalls i_Mo_layFalls_43 rfl kci_1 ?_
      refine ix_K_px kq_Mo_layFalls i_Mo_layFalls_44 rfl rfl ?_
      refine ix_K_si (L2 := [some (.ref a0), some (.int x1), some (.int (x1 + 1))]) kq_Mo_layFalls i_Mo_layFalls_45 rfl (Or.inr ⟨_, rfl, rfl⟩) (Nat.le_of_ble_eq_true rfl) rfl ?_
      exact ix_D_cut i_Mo_layFalls_46 rfl
    · refine ix_K_cl kq_Mo_layFalls i_Mo_layFalls_40 rfl kcl_0 ?_
      refine ix_K_tl kq_Mo_layFalls i_Mo_layFalls_41 rfl (fun h7 => ?_)
      refine ix_K_px kq_Mo_layFalls i_Mo_layFalls_42 rfl rfl ?_
      refine ix_K_ci kq_Mo_layFalls i_Mo_layFalls_43 rfl kci_1 ?_
      refine ix_K_px kq_Mo_layFalls i_Mo_layFalls_44 rfl rfl ?_
      refine ix_K_si (L2 := [some (.ref a0), some (.int x1), some (.int (x1 + 1))]) kq_Mo_layFalls i_Mo_layFalls_45 rfl (Or.inr ⟨_, rfl, rfl⟩) (Nat.le_of_ble_eq_true rfl) rfl ?_
      exact ix_D_cut i_Mo_layFalls_46 rfl
  · refine ix_K_px kq_Mo_layFalls i_Mo_layFalls_10 rfl rfl ?_
    refine ix_K_gr kq_Mo_layFalls i_Mo_layFalls_11 rfl (fun v8 => ?_)
    refine ix_K_px kq_Mo_layFalls i_Mo_layFalls_14 rfl rfl ?_
    refine ix_K_cl kq_Mo_layFalls i_Mo_layFalls_15 rfl kcl_0 ?_
    refine ix_K_tl kq_Mo_layFalls i_Mo_layFalls_16 rfl (fun h9 => ?_)
    refine ix_K_inc (L2 := [some (.ref a0), some (.int x1), some (.int (x2 + 1))]) kq_Mo_layFalls i_Mo_layFalls_17 rfl rfl (Nat.le_of_ble_eq_true rfl) kci_1 rfl ?_
    refine ix_K_goto (tgt := 2) kq_Mo_layFalls i_Mo_layFalls_20 rfl (by decide) ?_
    exact ix_D_cut i_Mo_layFalls_2 rfl
set_option maxRecDepth 20000 in
set_option maxHeartbeats 1000000 in
theorem e_Mo_layFalls_46 (a0 : Nat) (x2 : Int32) (h : ixH) : l_Mo_layFalls_46 a0 x2 h = (ix_M mMo_cells [.ref a0] h).bind fun r => ix_kI r fun v2 h1 => if v2 ≤ x2 then some ([], h1) else (ix_M mMo_isOpen [.ref a0, .int x2] h1).bind fun r => ix_kZ r fun v4 h3 => if v4 = true then (ix_gr h3 a0 11 3).bind fun v5 => (ix_M mMo_x [.ref a0, .int x2] h3).bind fun r => ix_kI r fun v7 h6 => if v7 ≤ 0 then l_Mo_layFalls_87 a0 x2 v5 x2 0 h6 else (ix_gr h6 a0 11 3).bind fun v8 => (ix_al h6 v8 (x2 - 1)).bind fun v9 => l_Mo_layFalls_87 a0 x2 v5 x2 v9 h6 else l_Mo_layFalls_46 a0 (x2 + 1) h3 := by
  unfold l_Mo_layFalls_46
  refine ix_K_px kq_Mo_layFalls i_Mo_layFalls_46 rfl rfl ?_
  refine ix_K_px kq_Mo_layFalls i_Mo_layFalls_47 rfl rfl ?_
  refine ix_K_callI (as := [.ref a0]) (rest := [.int x2]) kq_Mo_layFalls i_Mo_layFalls_48 rfl kq_Mo_cells (by decide) rfl (Or.inl rfl) (fun v2 h1 => ?_)
  refine ix_K_ic_ge (tgt := 120) kq_Mo_layFalls i_Mo_layFalls_51 rfl (by decide) ?_ ?_
  · exact ix_D_ret kq_Mo_layFalls i_Mo_layFalls_120 (ix_rtV rfl)
  · refine ix_K_px kq_Mo_layFalls i_Mo_layFalls_54 rfl rfl ?_
    refine ix_K_px kq_Mo_layFalls i_Mo_layFalls_55 rfl rfl ?_
    refine ix_K_callZ (as := [.ref a0, .int x2]) (rest := []) kq_Mo_layFalls i_Mo_layFalls_56 rfl kq_Mo_isOpen (by decide) rfl rfl (fun v4 h3 => ?_)
    refine ix_K_bz_eq (tgt := 114) kq_Mo_layFalls i_Mo_layFalls_59 rfl (by decide) ?_ ?_
    · refine ix_K_px kq_Mo_layFalls i_Mo_layFalls_62 rfl rfl ?_
      refine ix_K_gr kq_Mo_layFalls i_Mo_layFalls_63 rfl (fun v5 => ?_)
      refine ix_K_px kq_Mo_layFalls i_Mo_layFalls_66 rfl rfl ?_
      refine ix_K_px kq_Mo_layFalls i_Mo_layFalls_67 rfl rfl ?_
      refine ix_K_px kq_Mo_layFalls i_Mo_layFalls_68 rfl rfl ?_
      refine ix_K_callI (as := [.ref a0, .int x2]) (rest := [.int x2, .ref v5]) kq_Mo_layFalls i_Mo_layFalls_69 rfl kq_Mo_x (by decide) rfl (Or.inl rfl) (fun v7 h6 => ?_)
      refine ix_K_if_le (tgt := 86) kq_Mo_layFalls i_Mo_layFalls_72 rfl (by decide) ?_ ?_
      · refine ix_K_cl kq_Mo_layFalls i_Mo_layFalls_86 rfl kcl_0 ?_
        exact ix_D_cut i_Mo_layFalls_87 rfl
      · refine ix_K_px kq_Mo_layFalls i_Mo_layFalls_75 rfl rfl ?_
        refine ix_K_gr kq_Mo_layFalls i_Mo_layFalls_76 rfl (fun v8 => ?_)
        refine ix_K_px kq_Mo_layFalls i_Mo_layFalls_79 rfl rfl ?_
        refine ix_K_ci kq_Mo_layFalls i_Mo_layFalls_80 rfl kci_1 ?_
        refine ix_K_px kq_Mo_layFalls i_Mo_layFalls_81 rfl rfl ?_
        refine ix_K_al kq_Mo_layFalls i_Mo_layFalls_82 rfl (fun v9 => ?_)
        refine ix_K_goto (tgt := 87) kq_Mo_layFalls i_Mo_layFalls_83 rfl (by decide) ?_
        exact ix_D_cut i_Mo_layFalls_87 rfl
    · refine ix_K_inc (L2 := [some (.ref a0), none, some (.int (x2 + 1))]) kq_Mo_layFalls i_Mo_layFalls_114 rfl rfl (Nat.le_of_ble_eq_true rfl) kci_1 rfl ?_
      refine ix_K_goto (tgt := 46) kq_Mo_layFalls i_Mo_layFalls_117 rfl (by decide) ?_
      exact ix_D_cut i_Mo_layFalls_46 rfl
set_option maxRecDepth 20000 in
set_option maxHeartbeats 1000000 in
theorem e_Mo_layFalls_87 (a0 : Nat) (x2 : Int32) (sa0 : Nat) (s1 : Int32) (s2 : Int64) (h : ixH) : l_Mo_layFalls_87 a0 x2 sa0 s1 s2 h = (ix_M mMo_y [.ref a0, .int x2] h).bind fun r => ix_kI r fun v2 h1 => if v2 ≤ 0 then (ix_sl h1 sa0 s1 (s2 + 0)).bind fun h3 => l_Mo_layFalls_46 a0 (x2 + 1) h3 else (ix_gr h1 a0 11 3).bind fun v4 => (ix_gr h1 a0 11 0).bind fun v5 => (ix_ai h1 v5 0).bind fun v6 => (ix_al h1 v4 (x2 - v6)).bind fun v7 => (ix_sl h1 sa0 s1 (s2 + v7)).bind fun h8 => l_Mo_layFalls_46 a0 (x2 + 1) h8 := by
  unfold l_Mo_layFalls_87
  refine ix_K_px kq_Mo_layFalls i_Mo_layFalls_87 rfl rfl ?_
  refine ix_K_px kq_Mo_layFalls i_Mo_layFalls_88 rfl rfl ?_
  refine ix_K_callI (as := [.ref a0, .int x2]) (rest := [.long s2, .int s1, .ref sa0]) kq_Mo_layFalls i_Mo_layFalls_89 rfl kq_Mo_y (by decide) rfl (Or.inl rfl) (fun v2 h1 => ?_)
  refine ix_K_if_le (tgt := 111) kq_Mo_layFalls i_Mo_layFalls_92 rfl (by decide) ?_ ?_
  · refine ix_K_cl kq_Mo_layFalls i_Mo_layFalls_111 rfl kcl_0 ?_
    refine ix_K_px kq_Mo_layFalls i_Mo_layFalls_112 rfl rfl ?_
    refine ix_K_tl kq_Mo_layFalls i_Mo_layFalls_113 rfl (fun h3 => ?_)
    refine ix_K_inc (L2 := [some (.ref a0), none, some (.int (x2 + 1))]) kq_Mo_layFalls i_Mo_layFalls_114 rfl rfl (Nat.le_of_ble_eq_true rfl) kci_1 rfl ?_
    refine ix_K_goto (tgt := 46) kq_Mo_layFalls i_Mo_layFalls_117 rfl (by decide) ?_
    exact ix_D_cut i_Mo_layFalls_46 rfl
  · refine ix_K_px kq_Mo_layFalls i_Mo_layFalls_95 rfl rfl ?_
    refine ix_K_gr kq_Mo_layFalls i_Mo_layFalls_96 rfl (fun v4 => ?_)
    refine ix_K_px kq_Mo_layFalls i_Mo_layFalls_99 rfl rfl ?_
    refine ix_K_px kq_Mo_layFalls i_Mo_layFalls_100 rfl rfl ?_
    refine ix_K_gr kq_Mo_layFalls i_Mo_layFalls_101 rfl (fun v5 => ?_)
    refine ix_K_ci kq_Mo_layFalls i_Mo_layFalls_104 rfl kci_0 ?_
    refine ix_K_ai kq_Mo_layFalls i_Mo_layFalls_105 rfl (fun v6 => ?_)
    refine ix_K_px kq_Mo_layFalls i_Mo_layFalls_106 rfl rfl ?_
    refine ix_K_al kq_Mo_layFalls i_Mo_layFalls_107 rfl (fun v7 => ?_)
    refine ix_K_goto (tgt := 112) kq_Mo_layFalls i_Mo_layFalls_108 rfl (by decide) ?_
    refine ix_K_px kq_Mo_layFalls i_Mo_layFalls_112 rfl rfl ?_
    refine ix_K_tl kq_Mo_layFalls i_Mo_layFalls_113 rfl (fun h8 => ?_)
    refine ix_K_inc (L2 := [some (.ref a0), none, some (.int (x2 + 1))]) kq_Mo_layFalls i_Mo_layFalls_114 rfl rfl (Nat.le_of_ble_eq_true rfl) kci_1 rfl ?_
    refine ix_K_goto (tgt := 46) kq_Mo_layFalls i_Mo_layFalls_117 rfl (by decide) ?_
    exact ix_D_cut i_Mo_layFalls_46 rfl
set_option maxRecDepth 20000 in
set_option maxHeartbeats 1000000 in
theorem e_Mo_layFalls (a0 : Nat) (x1 : Int32) (h : ixH) : ix_D mMo_layFalls 0 [some (.ref a0), some (.int x1), none] [] h = l_Mo_layFalls_2 a0 x1 0 h := by
  refine ix_K_ci kq_Mo_layFalls i_Mo_layFalls_0 rfl kci_0 ?_
  refine ix_K_si (L2 := [some (.ref a0), some (.int x1), some (.int 0)]) kq_Mo_layFalls i_Mo_layFalls_1 rfl (Or.inr ⟨_, rfl, rfl⟩) (Nat.le_of_ble_eq_true rfl) rfl ?_
  exact ix_D_cut i_Mo_layFalls_2 rfl
theorem x_Mo_layFalls {a0 : Nat} {x1 : Int32} {h h1 : ixH} (hr : ix_rc h a0 = some 11) (hd : ix_D mMo_layFalls 0 [some (.ref a0), some (.int x1), none] [] h = some ([], h1)) : ix_M mMo_layFalls [.ref a0, .int x1] h = some ([], h1) := ix_M_of (ix_ent_i kq_Mo_layFalls rfl hr rfl (Nat.le_of_ble_eq_true rfl) rfl) hd (ix_okrV rfl)
theorem i_Mo_isOpen_0 : ix_nx mMo_isOpen 0 = some (0, .aload_n 0, 1, none, [], 0) := rfl
theorem i_Mo_isOpen_1 : ix_nx mMo_isOpen 1 = some (1, .getfield 7, 4, none, [11, 0, 2, 90], 0) := rfl
theorem i_Mo_isOpen_4 : ix_nx mMo_isOpen 4 = some (0, .iconst 2, 5, none, [], 0) := rfl
theorem i_Mo_isOpen_5 : ix_nx mMo_isOpen 5 = some (0, .iload_n 1, 6, none, [], 0) := rfl
theorem i_Mo_isOpen_6 : ix_nx mMo_isOpen 6 = some (0, .iadd, 7, none, [], 0) := rfl
theorem i_Mo_isOpen_7 : ix_nx mMo_isOpen 7 = some (1, .iaload, 8, none, [], 0) := rfl
theorem i_Mo_isOpen_8 : ix_nx mMo_isOpen 8 = some (0, .ifCond .ne 7, 11, none, [], 0) := rfl
theorem i_Mo_isOpen_11 : ix_nx mMo_isOpen 11 = some (0, .iconst 1, 12, none, [], 0) := rfl
theorem i_Mo_isOpen_12 : ix_nx mMo_isOpen 12 = some (0, .goto 4, 15, none, [], 0) := rfl
theorem i_Mo_isOpen_15 : ix_nx mMo_isOpen 15 = some (0, .iconst 0, 16, none, [], 0) := rfl
theorem i_Mo_isOpen_16 : ix_nx mMo_isOpen 16 = some (4, .ireturn, 17, none, [], 0) := rfl
set_option maxRecDepth 20000 in
set_option maxHeartbeats 1000000 in
theorem e_Mo_isOpen (a0 : Nat) (x1 : Int32) (h : ixH) : ix_D mMo_isOpen 0 [some (.ref a0), some (.int x1)] [] h = (ix_gr h a0 11 0).bind fun v1 => (ix_ai h v1 (2 + x1)).bind fun v2 => if ¬ v2 = 0 then some ([.int (ix_bi false)], h) else some ([.int (ix_bi true)], h) := by
  refine ix_K_px kq_Mo_isOpen i_Mo_isOpen_0 rfl rfl ?_
  refine ix_K_gr kq_Mo_isOpen i_Mo_isOpen_1 rfl (fun v1 => ?_)
  refine ix_K_ci kq_Mo_isOpen i_Mo_isOpen_4 rfl kci_2 ?_
  refine ix_K_px kq_Mo_isOpen i_Mo_isOpen_5 rfl rfl ?_
  refine ix_K_px kq_Mo_isOpen i_Mo_isOpen_6 rfl rfl ?_
  refine ix_K_ai kq_Mo_isOpen i_Mo_isOpen_7 rfl (fun v2 => ?_)
  refine ix_K_if_ne (tgt := 15) kq_Mo_isOpen i_Mo_isOpen_8 rfl (by decide) ?_ ?_
  · refine ix_K_ci kq_Mo_isOpen i_Mo_isOpen_15 rfl kci_0 ?_
    exact ix_D_ret kq_Mo_isOpen i_Mo_isOpen_16 (ix_rtZ rfl false)
  · refine ix_K_ci kq_Mo_isOpen i_Mo_isOpen_11 rfl kci_1 ?_
    refine ix_K_goto (tgt := 16) kq_Mo_isOpen i_Mo_isOpen_12 rfl (by decide) ?_
    exact ix_D_ret kq_Mo_isOpen i_Mo_isOpen_16 (ix_rtZ rfl true)
theorem x_Mo_isOpen {a0 : Nat} {x1 : Int32} {h h1 : ixH} {v : Bool} (hr : ix_rc h a0 = some 11) (hd : ix_D mMo_isOpen 0 [some (.ref a0), some (.int x1)] [] h = some ([.int (ix_bi v)], h1)) : ix_M mMo_isOpen [.ref a0, .int x1] h = some ([.int (ix_bi v)], h1) := ix_M_of (ix_ent_i kq_Mo_isOpen rfl hr rfl (Nat.le_of_ble_eq_true rfl) rfl) hd (ix_okrZ rfl v)
theorem i_Mo_x_0 : ix_nx mMo_x 0 = some (0, .iload_n 1, 1, none, [], 0) := rfl
theorem i_Mo_x_1 : ix_nx mMo_x 1 = some (0, .aload_n 0, 2, none, [], 0) := rfl
theorem i_Mo_x_2 : ix_nx mMo_x 2 = some (1, .getfield 7, 5, none, [11, 0, 2, 90], 0) := rfl
theorem i_Mo_x_5 : ix_nx mMo_x 5 = some (0, .iconst 0, 6, none, [], 0) := rfl
theorem i_Mo_x_6 : ix_nx mMo_x 6 = some (1, .iaload, 7, none, [], 0) := rfl
theorem i_Mo_x_7 : ix_nx mMo_x 7 = some (0, .irem, 8, none, [], 0) := rfl
theorem i_Mo_x_8 : ix_nx mMo_x 8 = some (4, .ireturn, 9, none, [], 0) := rfl
set_option maxRecDepth 20000 in
set_option maxHeartbeats 1000000 in
theorem e_Mo_x (a0 : Nat) (x1 : Int32) (h : ixH) : ix_D mMo_x 0 [some (.ref a0), some (.int x1)] [] h = (ix_gr h a0 11 0).bind fun v1 => (ix_ai h v1 0).bind fun v2 => if v2 = 0 then none else some ([.int (ix_rem x1 v2)], h) := by
  refine ix_K_px kq_Mo_x i_Mo_x_0 rfl rfl ?_
  refine ix_K_px kq_Mo_x i_Mo_x_1 rfl rfl ?_
  refine ix_K_gr kq_Mo_x i_Mo_x_2 rfl (fun v1 => ?_)
  refine ix_K_ci kq_Mo_x i_Mo_x_5 rfl kci_0 ?_
  refine ix_K_ai kq_Mo_x i_Mo_x_6 rfl (fun v2 => ?_)
  refine ix_K_rem kq_Mo_x i_Mo_x_7 rfl ?_
  exact ix_D_ret kq_Mo_x i_Mo_x_8 (ix_rtI rfl _)
theorem x_Mo_x {a0 : Nat} {x1 : Int32} {h h1 : ixH} {v : Int32} (hr : ix_rc h a0 = some 11) (hd : ix_D mMo_x 0 [some (.ref a0), some (.int x1)] [] h = some ([.int v], h1)) : ix_M mMo_x [.ref a0, .int x1] h = some ([.int v], h1) := ix_M_of (ix_ent_i kq_Mo_x rfl hr rfl (Nat.le_of_ble_eq_true rfl) rfl) hd (ix_okrI (Or.inl rfl) v)
theorem i_Mo_y_0 : ix_nx mMo_y 0 = some (0, .iload_n 1, 1, none, [], 0) := rfl
theorem i_Mo_y_1 : ix_nx mMo_y 1 = some (0, .aload_n 0, 2, none, [], 0) := rfl
theorem i_Mo_y_2 : ix_nx mMo_y 2 = some (1, .getfield 7, 5, none, [11, 0, 2, 90], 0) := rfl
theorem i_Mo_y_5 : ix_nx mMo_y 5 = some (0, .iconst 0, 6, none, [], 0) := rfl
theorem i_Mo_y_6 : ix_nx mMo_y 6 = some (1, .iaload, 7, none, [], 0) := rfl
theorem i_Mo_y_7 : ix_nx mMo_y 7 = some (0, .idiv, 8, none, [], 0) := rfl
theorem i_Mo_y_8 : ix_nx mMo_y 8 = some (4, .ireturn, 9, none, [], 0) := rfl
set_option maxRecDepth 20000 in
set_option maxHeartbeats 1000000 in
theorem e_Mo_y (a0 : Nat) (x1 : Int32) (h : ixH) : ix_D mMo_y 0 [some (.ref a0), some (.int x1)] [] h = (ix_gr h a0 11 0).bind fun v1 => (ix_ai h v1 0).bind fun v2 => if v2 = 0 then none else some ([.int (x1 / v2)], h) := by
  refine ix_K_px kq_Mo_y i_Mo_y_0 rfl rfl ?_
  refine ix_K_px kq_Mo_y i_Mo_y_1 rfl rfl ?_
  refine ix_K_gr kq_Mo_y i_Mo_y_2 rfl (fun v1 => ?_)
  refine ix_K_ci kq_Mo_y i_Mo_y_5 rfl kci_0 ?_
  refine ix_K_ai kq_Mo_y i_Mo_y_6 rfl (fun v2 => ?_)
  refine ix_K_div kq_Mo_y i_Mo_y_7 rfl ?_
  exact ix_D_ret kq_Mo_y i_Mo_y_8 (ix_rtI rfl _)
theorem x_Mo_y {a0 : Nat} {x1 : Int32} {h h1 : ixH} {v : Int32} (hr : ix_rc h a0 = some 11) (hd : ix_D mMo_y 0 [some (.ref a0), some (.int x1)] [] h = some ([.int v], h1)) : ix_M mMo_y [.ref a0, .int x1] h = some ([.int v], h1) := ix_M_of (ix_ent_i kq_Mo_y rfl hr rfl (Nat.le_of_ble_eq_true rfl) rfl) hd (ix_okrI (Or.inl rfl) v)
theorem i_Mo_pair_0 : ix_nx mMo_pair 0 = some (0, .aload_n 0, 1, none, [], 0) := rfl
theorem i_Mo_pair_1 : ix_nx mMo_pair 1 = some (0, .iload_n 1, 2, none, [], 0) := rfl
theorem i_Mo_pair_2 : ix_nx mMo_pair 2 = some (3, .invokevirtual 117, 5, none, [0, 151, 176], 0) := rfl
theorem i_Mo_pair_5 : ix_nx mMo_pair 5 = some (0, .ifCond .eq 11, 8, none, [], 0) := rfl
theorem i_Mo_pair_8 : ix_nx mMo_pair 8 = some (0, .aload_n 0, 9, none, [], 0) := rfl
theorem i_Mo_pair_9 : ix_nx mMo_pair 9 = some (0, .iload_n 2, 10, none, [], 0) := rfl
theorem i_Mo_pair_10 : ix_nx mMo_pair 10 = some (3, .invokevirtual 117, 13, none, [0, 151, 176], 0) := rfl
theorem i_Mo_pair_13 : ix_nx mMo_pair 13 = some (0, .ifCond .ne 5, 16, none, [], 0) := rfl
theorem i_Mo_pair_16 : ix_nx mMo_pair 16 = some (0, .iconst (-1), 17, none, [], 0) := rfl
theorem i_Mo_pair_17 : ix_nx mMo_pair 17 = some (4, .ireturn, 18, none, [], 0) := rfl
theorem i_Mo_pair_18 : ix_nx mMo_pair 18 = some (0, .aload_n 0, 19, none, [], 0) := rfl
theorem i_Mo_pair_19 : ix_nx mMo_pair 19 = some (1, .getfield 7, 22, none, [11, 0, 2, 90], 0) := rfl
theorem i_Mo_pair_22 : ix_nx mMo_pair 22 = some (0, .sipush 386, 25, none, [], 0) := rfl
theorem i_Mo_pair_25 : ix_nx mMo_pair 25 = some (1, .iaload, 26, none, [], 0) := rfl
theorem i_Mo_pair_26 : ix_nx mMo_pair 26 = some (0, .iconst 4, 27, none, [], 0) := rfl
theorem i_Mo_pair_27 : ix_nx mMo_pair 27 = some (0, .if_icmp .ne 6, 30, none, [], 0) := rfl
theorem i_Mo_pair_30 : ix_nx mMo_pair 30 = some (0, .bipush (-4), 32, none, [], 0) := rfl
theorem i_Mo_pair_32 : ix_nx mMo_pair 32 = some (4, .ireturn, 33, none, [], 0) := rfl
theorem i_Mo_pair_33 : ix_nx mMo_pair 33 = some (0, .aload_n 0, 34, none, [], 0) := rfl
theorem i_Mo_pair_34 : ix_nx mMo_pair 34 = some (1, .getfield 7, 37, none, [11, 0, 2, 90], 0) := rfl
theorem i_Mo_pair_37 : ix_nx mMo_pair 37 = some (0, .sipush 386, 40, none, [], 0) := rfl
theorem i_Mo_pair_40 : ix_nx mMo_pair 40 = some (1, .iaload, 41, none, [], 0) := rfl
theorem i_Mo_pair_41 : ix_nx mMo_pair 41 = some (0, .istore_n 3, 42, none, [], 0) := rfl
theorem i_Mo_pair_42 : ix_nx mMo_pair 42 = some (0, .aload_n 0, 43, none, [], 0) := rfl
theorem i_Mo_pair_43 : ix_nx mMo_pair 43 = some (1, .getfield 7, 46, none, [11, 0, 2, 90], 0) := rfl
theorem i_Mo_pair_46 : ix_nx mMo_pair 46 = some (0, .sipush 387, 49, none, [], 0) := rfl
theorem i_Mo_pair_49 : ix_nx mMo_pair 49 = some (0, .iconst 2, 50, none, [], 0) := rfl
theorem i_Mo_pair_50 : ix_nx mMo_pair 50 = some (0, .iload_n 3, 51, none, [], 0) := rfl
theorem i_Mo_pair_51 : ix_nx mMo_pair 51 = some (0, .imul, 52, none, [], 0) := rfl
theorem i_Mo_pair_52 : ix_nx mMo_pair 52 = some (0, .iadd, 53, none, [], 0) := rfl
theorem i_Mo_pair_53 : ix_nx mMo_pair 53 = some (0, .iload_n 1, 54, none, [], 0) := rfl
theorem i_Mo_pair_54 : ix_nx mMo_pair 54 = some (2, .iastore, 55, none, [], 0) := rfl
theorem i_Mo_pair_55 : ix_nx mMo_pair 55 = some (0, .aload_n 0, 56, none, [], 0) := rfl
theorem i_Mo_pair_56 : ix_nx mMo_pair 56 = some (1, .getfield 7, 59, none, [11, 0, 2, 90], 0) := rfl
theorem i_Mo_pair_59 : ix_nx mMo_pair 59 = some (0, .sipush 387, 62, none, [], 0) := rfl
theorem i_Mo_pair_62 : ix_nx mMo_pair 62 = some (0, .iconst 2, 63, none, [], 0) := rfl
theorem i_Mo_pair_63 : ix_nx mMo_pair 63 = some (0, .iload_n 3, 64, none, [], 0) := rfl
theorem i_Mo_pair_64 : ix_nx mMo_pair 64 = some (0, .imul, 65, none, [], 0) := rfl
theorem i_Mo_pair_65 : ix_nx mMo_pair 65 = some (0, .iadd, 66, none, [], 0) := rfl
theorem i_Mo_pair_66 : ix_nx mMo_pair 66 = some (0, .iconst 1, 67, none, [], 0) := rfl
theorem i_Mo_pair_67 : ix_nx mMo_pair 67 = some (0, .iadd, 68, none, [], 0) := rfl
theorem i_Mo_pair_68 : ix_nx mMo_pair 68 = some (0, .iload_n 2, 69, none, [], 0) := rfl
theorem i_Mo_pair_69 : ix_nx mMo_pair 69 = some (2, .iastore, 70, none, [], 0) := rfl
theorem i_Mo_pair_70 : ix_nx mMo_pair 70 = some (0, .aload_n 0, 71, none, [], 0) := rfl
theorem i_Mo_pair_71 : ix_nx mMo_pair 71 = some (1, .getfield 7, 74, none, [11, 0, 2, 90], 0) := rfl
theorem i_Mo_pair_74 : ix_nx mMo_pair 74 = some (0, .sipush 386, 77, none, [], 0) := rfl
theorem i_Mo_pair_77 : ix_nx mMo_pair 77 = some (0, .dup2, 78, none, [], 0) := rfl
theorem i_Mo_pair_78 : ix_nx mMo_pair 78 = some (1, .iaload, 79, none, [], 0) := rfl
theorem i_Mo_pair_79 : ix_nx mMo_pair 79 = some (0, .iconst 1, 80, none, [], 0) := rfl
theorem i_Mo_pair_80 : ix_nx mMo_pair 80 = some (0, .iadd, 81, none, [], 0) := rfl
theorem i_Mo_pair_81 : ix_nx mMo_pair 81 = some (2, .iastore, 82, none, [], 0) := rfl
theorem i_Mo_pair_82 : ix_nx mMo_pair 82 = some (0, .iload_n 3, 83, none, [], 0) := rfl
theorem i_Mo_pair_83 : ix_nx mMo_pair 83 = some (4, .ireturn, 84, none, [], 0) := rfl
set_option maxRecDepth 20000 in
set_option maxHeartbeats 1000000 in
theorem e_Mo_pair (a0 : Nat) (x1 : Int32) (x2 : Int32) (h : ixH) : ix_D mMo_pair 0 [some (.ref a0), some (.int x1), some (.int x2), none] [] h = (ix_M mMo_isCell [.ref a0, .int x1] h).bind fun r => ix_kZ r fun v2 h1 => if v2 = true then (ix_M mMo_isCell [.ref a0, .int x2] h1).bind fun r => ix_kZ r fun v4 h3 => if v4 = true then (ix_gr h3 a0 11 0).bind fun v5 => (ix_ai h3 v5 386).bind fun v6 => if ¬ v6 = 4 then (ix_gr h3 a0 11 0).bind fun v7 => (ix_ai h3 v7 386).bind fun v8 => (ix_gr h3 a0 11 0).bind fun v9 => (ix_si h3 v9 (387 + (2 * v8)) x1).bind fun h10 => (ix_gr h10 a0 11 0).bind fun v11 => (ix_si h10 v11 ((387 + (2 * v8)) + 1) x2).bind fun h12 => (ix_gr h12 a0 11 0).bind fun v13 => (ix_ai h12 v13 386).bind fun v14 => (ix_si h12 v13 386 (v14 + 1)).bind fun h15 => some ([.int v8], h15) else some ([.int (-4)], h3) else some ([.int (-1)], h3) else some ([.int (-1)], h1) := by
  refine ix_K_px kq_Mo_pair i_Mo_pair_0 rfl rfl ?_
  refine ix_K_px kq_Mo_pair i_Mo_pair_1 rfl rfl ?_
  refine ix_K_callZ (as := [.ref a0, .int x1]) (rest := []) kq_Mo_pair i_Mo_pair_2 rfl kq_Mo_isCell (by decide) rfl rfl (fun v2 h1 => ?_)
  refine ix_K_bz_eq (tgt := 16) kq_Mo_pair i_Mo_pair_5 rfl (by decide) ?_ ?_
  · refine ix_K_px kq_Mo_pair i_Mo_pair_8 rfl rfl ?_
    refine ix_K_px kq_Mo_pair i_Mo_pair_9 rfl rfl ?_
    refine ix_K_callZ (as := [.ref a0, .int x2]) (rest := []) kq_Mo_pair i_Mo_pair_10 rfl kq_Mo_isCell (by decide) rfl rfl (fun v4 h3 => ?_)
    refine ix_K_bz_ne (tgt := 18) kq_Mo_pair i_Mo_pair_13 rfl (by decide) ?_ ?_
    · refine ix_K_px kq_Mo_pair i_Mo_pair_18 rfl rfl ?_
      refine ix_K_gr kq_Mo_pair i_Mo_pair_19 rfl (fun v5 => ?_)
      refine ix_K_cs kq_Mo_pair i_Mo_pair_22 rfl kcs_386 ?_
      refine ix_K_ai kq_Mo_pair i_Mo_pair_25 rfl (fun v6 => ?_)
      refine ix_K_ci kq_Mo_pair i_Mo_pair_26 rfl kci_4 ?_
      refine ix_K_ic_ne (tgt := 33) kq_Mo_pair i_Mo_pair_27 rfl (by decide) ?_ ?_
      · refine ix_K_px kq_Mo_pair i_Mo_pair_33 rfl rfl ?_
        refine ix_K_gr kq_Mo_pair i_Mo_pair_34 rfl (fun v7 => ?_)
        refine ix_K_cs kq_Mo_pair i_Mo_pair_37 rfl kcs_386 ?_
        refine ix_K_ai kq_Mo_pair i_Mo_pair_40 rfl (fun v8 => ?_)
        refine ix_K_si (L2 := [some (.ref a0), some (.int x1), some (.int x2), some (.int v8)]) kq_Mo_pair i_Mo_pair_41 rfl (Or.inr ⟨_, rfl, rfl⟩) (Nat.le_of_ble_eq_true rfl) rfl ?_
        refine ix_K_px kq_Mo_pair i_Mo_pair_42 rfl rfl ?_
        refine ix_K_gr kq_Mo_pair i_Mo_pair_43 rfl (fun v9 => ?_)
        refine ix_K_cs kq_Mo_pair i_Mo_pair_46 rfl kcs_387 ?_
        refine ix_K_ci kq_Mo_pair i_Mo_pair_49 rfl kci_2 ?_
        refine ix_K_px kq_Mo_pair i_Mo_pair_50 rfl rfl ?_
        refine ix_K_px kq_Mo_pair i_Mo_pair_51 rfl rfl ?_
        refine ix_K_px kq_Mo_pair i_Mo_pair_52 rfl rfl ?_
        refine ix_K_px kq_Mo_pair i_Mo_pair_53 rfl rfl ?_
        refine ix_K_ti kq_Mo_pair i_Mo_pair_54 rfl (fun h10 => ?_)
        refine ix_K_px kq_Mo_pair i_Mo_pair_55 rfl rfl ?_
        refine ix_K_gr kq_Mo_pair i_Mo_pair_56 rfl (fun v11 => ?_)
        refine ix_K_cs kq_Mo_pair i_Mo_pair_59 rfl kcs_387 ?_
        refine ix_K_ci kq_Mo_pair i_Mo_pair_62 rfl kci_2 ?_
        refine ix_K_px kq_Mo_pair i_Mo_pair_63 rfl rfl ?_
        refine ix_K_px kq_Mo_pair i_Mo_pair_64 rfl rfl ?_
        refine ix_K_px kq_Mo_pair i_Mo_pair_65 rfl rfl ?_
        refine ix_K_ci kq_Mo_pair i_Mo_pair_66 rfl kci_1 ?_
        refine ix_K_px kq_Mo_pair i_Mo_pair_67 rfl rfl ?_
        refine ix_K_px kq_Mo_pair i_Mo_pair_68 rfl rfl ?_
        refine ix_K_ti kq_Mo_pair i_Mo_pair_69 rfl (fun h12 => ?_)
        refine ix_K_px kq_Mo_pair i_Mo_pair_70 rfl rfl ?_
        refine ix_K_gr kq_Mo_pair i_Mo_pair_71 rfl (fun v13 => ?_)
        refine ix_K_cs kq_Mo_pair i_Mo_pair_74 rfl kcs_386 ?_
        refine ix_K_px kq_Mo_pair i_Mo_pair_77 rfl rfl ?_
        refine ix_K_ai kq_Mo_pair i_Mo_pair_78 rfl (fun v14 => ?_)
        refine ix_K_ci kq_Mo_pair i_Mo_pair_79 rfl kci_1 ?_
        refine ix_K_px kq_Mo_pair i_Mo_pair_80 rfl rfl ?_
        refine ix_K_ti kq_Mo_pair i_Mo_pair_81 rfl (fun h15 => ?_)
        refine ix_K_px kq_Mo_pair i_Mo_pair_82 rfl rfl ?_
        exact ix_D_ret kq_Mo_pair i_Mo_pair_83 (ix_rtI rfl _)
      · refine ix_K_cb kq_Mo_pair i_Mo_pair_30 rfl kcb_m4 ?_
        exact ix_D_ret kq_Mo_pair i_Mo_pair_32 (ix_rtI rfl _)
    · refine ix_K_ci kq_Mo_pair i_Mo_pair_16 rfl kci_m1 ?_
      exact ix_D_ret kq_Mo_pair i_Mo_pair_17 (ix_rtI rfl _)
  · refine ix_K_ci kq_Mo_pair i_Mo_pair_16 rfl kci_m1 ?_
    exact ix_D_ret kq_Mo_pair i_Mo_pair_17 (ix_rtI rfl _)
theorem x_Mo_pair {a0 : Nat} {x1 : Int32} {x2 : Int32} {h h1 : ixH} {v : Int32} (hr : ix_rc h a0 = some 11) (hd : ix_D mMo_pair 0 [some (.ref a0), some (.int x1), some (.int x2), none] [] h = some ([.int v], h1)) : ix_M mMo_pair [.ref a0, .int x1, .int x2] h = some ([.int v], h1) := ix_M_of (ix_ent_i kq_Mo_pair rfl hr rfl (Nat.le_of_ble_eq_true rfl) rfl) hd (ix_okrI (Or.inl rfl) v)
theorem i_Mo_unpair_0 : ix_nx mMo_unpair 0 = some (0, .aload_n 0, 1, none, [], 0) := rfl
theorem i_Mo_unpair_1 : ix_nx mMo_unpair 1 = some (1, .getfield 7, 4, none, [11, 0, 2, 90], 0) := rfl
theorem i_Mo_unpair_4 : ix_nx mMo_unpair 4 = some (0, .sipush 386, 7, none, [], 0) := rfl
theorem i_Mo_unpair_7 : ix_nx mMo_unpair 7 = some (1, .iaload, 8, none, [], 0) := rfl
theorem i_Mo_unpair_8 : ix_nx mMo_unpair 8 = some (0, .istore_n 1, 9, none, [], 0) := rfl
theorem i_Mo_unpair_9 : ix_nx mMo_unpair 9 = some (0, .aload_n 0, 10, none, [], 0) := rfl
theorem i_Mo_unpair_10 : ix_nx mMo_unpair 10 = some (1, .getfield 7, 13, none, [11, 0, 2, 90], 0) := rfl
theorem i_Mo_unpair_13 : ix_nx mMo_unpair 13 = some (0, .sipush 386, 16, none, [], 0) := rfl
theorem i_Mo_unpair_16 : ix_nx mMo_unpair 16 = some (0, .iconst 0, 17, none, [], 0) := rfl
theorem i_Mo_unpair_17 : ix_nx mMo_unpair 17 = some (2, .iastore, 18, none, [], 0) := rfl
theorem i_Mo_unpair_18 : ix_nx mMo_unpair 18 = some (0, .iload_n 1, 19, none, [], 0) := rfl
theorem i_Mo_unpair_19 : ix_nx mMo_unpair 19 = some (4, .ireturn, 20, none, [], 0) := rfl
set_option maxRecDepth 20000 in
set_option maxHeartbeats 1000000 in
theorem e_Mo_unpair (a0 : Nat) (h : ixH) : ix_D mMo_unpair 0 [some (.ref a0), none] [] h = (ix_gr h a0 11 0).bind fun v1 => (ix_ai h v1 386).bind fun v2 => (ix_gr h a0 11 0).bind fun v3 => (ix_si h v3 386 0).bind fun h4 => some ([.int v2], h4) := by
  refine ix_K_px kq_Mo_unpair i_Mo_unpair_0 rfl rfl ?_
  refine ix_K_gr kq_Mo_unpair i_Mo_unpair_1 rfl (fun v1 => ?_)
  refine ix_K_cs kq_Mo_unpair i_Mo_unpair_4 rfl kcs_386 ?_
  refine ix_K_ai kq_Mo_unpair i_Mo_unpair_7 rfl (fun v2 => ?_)
  refine ix_K_si (L2 := [some (.ref a0), some (.int v2)]) kq_Mo_unpair i_Mo_unpair_8 rfl (Or.inr ⟨_, rfl, rfl⟩) (Nat.le_of_ble_eq_true rfl) rfl ?_
  refine ix_K_px kq_Mo_unpair i_Mo_unpair_9 rfl rfl ?_
  refine ix_K_gr kq_Mo_unpair i_Mo_unpair_10 rfl (fun v3 => ?_)
  refine ix_K_cs kq_Mo_unpair i_Mo_unpair_13 rfl kcs_386 ?_
  refine ix_K_ci kq_Mo_unpair i_Mo_unpair_16 rfl kci_0 ?_
  refine ix_K_ti kq_Mo_unpair i_Mo_unpair_17 rfl (fun h4 => ?_)
  refine ix_K_px kq_Mo_unpair i_Mo_unpair_18 rfl rfl ?_
  exact ix_D_ret kq_Mo_unpair i_Mo_unpair_19 (ix_rtI rfl _)
theorem x_Mo_unpair {a0 : Nat} {h h1 : ixH} {v : Int32} (hr : ix_rc h a0 = some 11) (hd : ix_D mMo_unpair 0 [some (.ref a0), none] [] h = some ([.int v], h1)) : ix_M mMo_unpair [.ref a0] h = some ([.int v], h1) := ix_M_of (ix_ent_i kq_Mo_unpair rfl hr rfl (Nat.le_of_ble_eq_true rfl) rfl) hd (ix_okrI (Or.inl rfl) v)
theorem i_Mo_tuples_0 : ix_nx mMo_tuples 0 = some (0, .aload_n 0, 1, none, [], 0) := rfl
theorem i_Mo_tuples_1 : ix_nx mMo_tuples 1 = some (3, .invokevirtual 157, 4, none, [0, 166, 184], 0) := rfl
theorem i_Mo_tuples_4 : ix_nx mMo_tuples 4 = some (0, .ifCond .ne 5, 7, none, [], 0) := rfl
theorem i_Mo_tuples_7 : ix_nx mMo_tuples 7 = some (0, .lconst 0, 8, none, [], 0) := rfl
theorem i_Mo_tuples_8 : ix_nx mMo_tuples 8 = some (4, .lreturn, 9, none, [], 0) := rfl
theorem i_Mo_tuples_9 : ix_nx mMo_tuples 9 = some (0, .iconst 0, 10, none, [], 0) := rfl
theorem i_Mo_tuples_10 : ix_nx mMo_tuples 10 = some (0, .istore_n 1, 11, none, [], 0) := rfl
theorem i_Mo_tuples_11 : ix_nx mMo_tuples 11 = some (0, .iload_n 1, 12, some [true, true, false, false, false, false], [], 0) := rfl
theorem i_Mo_tuples_12 : ix_nx mMo_tuples 12 = some (0, .sipush 6561, 15, none, [], 0) := rfl
theorem i_Mo_tuples_15 : ix_nx mMo_tuples 15 = some (0, .if_icmp .ge 24, 18, none, [], 0) := rfl
theorem i_Mo_tuples_18 : ix_nx mMo_tuples 18 = some (0, .aload_n 0, 19, none, [], 0) := rfl
theorem i_Mo_tuples_19 : ix_nx mMo_tuples 19 = some (1, .getfield 24, 22, none, [11, 4, 2, 94], 0) := rfl
theorem i_Mo_tuples_22 : ix_nx mMo_tuples 22 = some (0, .iload_n 1, 23, none, [], 0) := rfl
theorem i_Mo_tuples_23 : ix_nx mMo_tuples 23 = some (0, .iload_n 1, 24, none, [], 0) := rfl
theorem i_Mo_tuples_24 : ix_nx mMo_tuples 24 = some (0, .ifCond .ne 7, 27, none, [], 0) := rfl
theorem i_Mo_tuples_27 : ix_nx mMo_tuples 27 = some (0, .lconst 1, 28, none, [], 0) := rfl
theorem i_Mo_tuples_28 : ix_nx mMo_tuples 28 = some (0, .goto 4, 31, none, [], 0) := rfl
theorem i_Mo_tuples_31 : ix_nx mMo_tuples 31 = some (0, .lconst 0, 32, none, [], 0) := rfl
theorem i_Mo_tuples_32 : ix_nx mMo_tuples 32 = some (2, .lastore, 33, none, [], 0) := rfl
theorem i_Mo_tuples_33 : ix_nx mMo_tuples 33 = some (0, .iinc 1 1, 36, none, [], 0) := rfl
theorem i_Mo_tuples_36 : ix_nx mMo_tuples 36 = some (0, .goto (-25), 39, none, [], 0) := rfl
theorem i_Mo_tuples_39 : ix_nx mMo_tuples 39 = some (0, .aload_n 0, 40, none, [], 0) := rfl
theorem i_Mo_tuples_40 : ix_nx mMo_tuples 40 = some (1, .getfield 7, 43, none, [11, 0, 2, 90], 0) := rfl
theorem i_Mo_tuples_43 : ix_nx mMo_tuples 43 = some (0, .iconst 0, 44, none, [], 0) := rfl
theorem i_Mo_tuples_44 : ix_nx mMo_tuples 44 = some (1, .iaload, 45, none, [], 0) := rfl
theorem i_Mo_tuples_45 : ix_nx mMo_tuples 45 = some (0, .aload_n 0, 46, none, [], 0) := rfl
theorem i_Mo_tuples_46 : ix_nx mMo_tuples 46 = some (1, .getfield 7, 49, none, [11, 0, 2, 90], 0) := rfl
theorem i_Mo_tuples_49 : ix_nx mMo_tuples 49 = some (0, .iconst 1, 50, none, [], 0) := rfl
theorem i_Mo_tuples_50 : ix_nx mMo_tuples 50 = some (1, .iaload, 51, none, [], 0) := rfl
theorem i_Mo_tuples_51 : ix_nx mMo_tuples 51 = some (0, .iadd, 52, none, [], 0) := rfl
theorem i_Mo_tuples_52 : ix_nx mMo_tuples 52 = some (0, .iconst 2, 53, none, [], 0) := rfl
theorem i_Mo_tuples_53 : ix_nx mMo_tuples 53 = some (0, .isub, 54, none, [], 0) := rfl
theorem i_Mo_tuples_54 : ix_nx mMo_tuples 54 = some (0, .istore_n 1, 55, none, [], 0) := rfl
theorem i_Mo_tuples_55 : ix_nx mMo_tuples 55 = some (0, .iconst 0, 56, none, [], 0) := rfl
theorem i_Mo_tuples_56 : ix_nx mMo_tuples 56 = some (0, .istore_n 2, 57, none, [], 0) := rfl
theorem i_Mo_tuples_57 : ix_nx mMo_tuples 57 = some (0, .iload_n 2, 58, some [true, true, true, false, false, false], [], 0) := rfl
theorem i_Mo_tuples_58 : ix_nx mMo_tuples 58 = some (0, .iload_n 1, 59, none, [], 0) := rfl
theorem i_Mo_tuples_59 : ix_nx mMo_tuples 59 = some (0, .if_icmp .gt 139, 62, none, [], 0) := rfl
theorem i_Mo_tuples_62 : ix_nx mMo_tuples 62 = some (0, .iconst 0, 63, none, [], 0) := rfl
theorem i_Mo_tuples_63 : ix_nx mMo_tuples 63 = some (0, .istore_n 3, 64, none, [], 0) := rfl
theorem i_Mo_tuples_64 : ix_nx mMo_tuples 64 = some (0, .iload_n 3, 65, some [true, true, true, true, false, false], [], 0) := rfl
theorem i_Mo_tuples_65 : ix_nx mMo_tuples 65 = some (0, .sipush 6561, 68, none, [], 0) := rfl
theorem i_Mo_tuples_68 : ix_nx mMo_tuples 68 = some (0, .if_icmp .ge 16, 71, none, [], 0) := rfl
theorem i_Mo_tuples_71 : ix_nx mMo_tuples 71 = some (0, .aload_n 0, 72, none, [], 0) := rfl
theorem i_Mo_tuples_72 : ix_nx mMo_tuples 72 = some (1, .getfield 27, 75, none, [11, 5, 2, 95], 0) := rfl
theorem i_Mo_tuples_75 : ix_nx mMo_tuples 75 = some (0, .iload_n 3, 76, none, [], 0) := rfl
theorem i_Mo_tuples_76 : ix_nx mMo_tuples 76 = some (0, .lconst 0, 77, none, [], 0) := rfl
theorem i_Mo_tuples_77 : ix_nx mMo_tuples 77 = some (2, .lastore, 78, none, [], 0) := rfl
theorem i_Mo_tuples_78 : ix_nx mMo_tuples 78 = some (0, .iinc 3 1, 81, none, [], 0) := rfl
theorem i_Mo_tuples_81 : ix_nx mMo_tuples 81 = some (0, .goto (-17), 84, none, [], 0) := rfl
theorem i_Mo_tuples_84 : ix_nx mMo_tuples 84 = some (0, .iconst 0, 85, none, [], 0) := rfl
theorem i_Mo_tuples_85 : ix_nx mMo_tuples 85 = some (0, .istore_n 3, 86, none, [], 0) := rfl
theorem i_Mo_tuples_86 : ix_nx mMo_tuples 86 = some (0, .iload_n 3, 87, some [true, true, true, true, false, false], [], 0) := rfl
theorem i_Mo_tuples_87 : ix_nx mMo_tuples 87 = some (0, .sipush 6561, 90, none, [], 0) := rfl
theorem i_Mo_tuples_90 : ix_nx mMo_tuples 90 = some (0, .if_icmp .ge 75, 93, none, [], 0) := rfl
theorem i_Mo_tuples_93 : ix_nx mMo_tuples 93 = some (0, .iconst 0, 94, none, [], 0) := rfl
theorem i_Mo_tuples_94 : ix_nx mMo_tuples 94 = some (0, .istore 4, 96, none, [], 0) := rfl
theorem i_Mo_tuples_96 : ix_nx mMo_tuples 96 = some (0, .iload 4, 98, some [true, true, true, true, true, false], [], 0) := rfl
theorem i_Mo_tuples_98 : ix_nx mMo_tuples 98 = some (0, .iconst 1, 99, none, [], 0) := rfl
theorem i_Mo_tuples_99 : ix_nx mMo_tuples 99 = some (0, .aload_n 0, 100, none, [], 0) := rfl
theorem i_Mo_tuples_100 : ix_nx mMo_tuples 100 = some (1, .getfield 7, 103, none, [11, 0, 2, 90], 0) := rfl
theorem i_Mo_tuples_103 : ix_nx mMo_tuples 103 = some (0, .sipush 386, 106, none, [], 0) := rfl
theorem i_Mo_tuples_106 : ix_nx mMo_tuples 106 = some (1, .iaload, 107, none, [], 0) := rfl
theorem i_Mo_tuples_107 : ix_nx mMo_tuples 107 = some (0, .ishl, 108, none, [], 0) := rfl
theorem i_Mo_tuples_108 : ix_nx mMo_tuples 108 = some (0, .if_icmp .ge 51, 111, none, [], 0) := rfl
theorem i_Mo_tuples_111 : ix_nx mMo_tuples 111 = some (0, .aload_n 0, 112, none, [], 0) := rfl
theorem i_Mo_tuples_112 : ix_nx mMo_tuples 112 = some (1, .getfield 24, 115, none, [11, 4, 2, 94], 0) := rfl
theorem i_Mo_tuples_115 : ix_nx mMo_tuples 115 = some (0, .iload_n 3, 116, none, [], 0) := rfl
theorem i_Mo_tuples_116 : ix_nx mMo_tuples 116 = some (1, .laload, 117, none, [], 0) := rfl
theorem i_Mo_tuples_117 : ix_nx mMo_tuples 117 = some (0, .lconst 0, 118, none, [], 0) := rfl
theorem i_Mo_tuples_118 : ix_nx mMo_tuples 118 = some (0, .lcmp, 119, none, [], 0) := rfl
theorem i_Mo_tuples_119 : ix_nx mMo_tuples 119 = some (0, .ifCond .le 40, 122, none, [], 0) := rfl
theorem i_Mo_tuples_122 : ix_nx mMo_tuples 122 = some (0, .aload_n 0, 123, none, [], 0) := rfl
theorem i_Mo_tuples_123 : ix_nx mMo_tuples 123 = some (0, .iload_n 3, 124, none, [], 0) := rfl
theorem i_Mo_tuples_124 : ix_nx mMo_tuples 124 = some (0, .iload_n 2, 125, none, [], 0) := rfl
theorem i_Mo_tuples_125 : ix_nx mMo_tuples 125 = some (0, .iload 4, 127, none, [], 0) := rfl
theorem i_Mo_tuples_127 : ix_nx mMo_tuples 127 = some (3, .invokevirtual 161, 130, none, [0, 170, 185], 0) := rfl
theorem i_Mo_tuples_130 : ix_nx mMo_tuples 130 = some (0, .istore 5, 132, none, [], 0) := rfl
theorem i_Mo_tuples_132 : ix_nx mMo_tuples 132 = some (0, .iload 5, 134, none, [], 0) := rfl
theorem i_Mo_tuples_134 : ix_nx mMo_tuples 134 = some (0, .ifCond .lt 19, 137, none, [], 0) := rfl
theorem i_Mo_tuples_137 : ix_nx mMo_tuples 137 = some (0, .aload_n 0, 138, none, [], 0) := rfl
set_option maxRecDepth 50000 in
theorem i_Mo_tuples_138 : ix_nx mMo_tuples 138 = some (1, .getfield 27, 141, none, [11, 5, 2, 95], 0) := rfl
set_option maxRecDepth 50000 in
theorem i_Mo_tuples_141 : ix_nx mMo_tuples 141 = some (0, .iload 5, 143, none, [], 0) := rfl
set_option maxRecDepth 50000 in
theorem i_Mo_tuples_143 : ix_nx mMo_tuples 143 = some (0, .dup2, 144, none, [], 0) := rfl
set_option maxRecDepth 50000 in
theorem i_Mo_tuples_144 : ix_nx mMo_tuples 144 = some (1, .laload, 145, none, [], 0) := rfl
set_option maxRecDepth 50000 in
theorem i_Mo_tuples_145 : ix_nx mMo_tuples 145 = some (0, .aload_n 0, 146, none, [], 0) := rfl
set_option maxRecDepth 50000 in
theorem i_Mo_tuples_146 : ix_nx mMo_tuples 146 = some (1, .getfield 24, 149, none, [11, 4, 2, 94], 0) := rfl
set_option maxRecDepth 50000 in
theorem i_Mo_tuples_149 : ix_nx mMo_tuples 149 = some (0, .iload_n 3, 150, none, [], 0) := rfl
set_option maxRecDepth 50000 in
theorem i_Mo_tuples_150 : ix_nx mMo_tuples 150 = some (1, .laload, 151, none, [], 0) := rfl
set_option maxRecDepth 50000 in
theorem i_Mo_tuples_151 : ix_nx mMo_tuples 151 = some (0, .ladd, 152, none, [], 0) := rfl
set_option maxRecDepth 50000 in
theorem i_Mo_tuples_152 : ix_nx mMo_tuples 152 = some (2, .lastore, 153, none, [], 0) := rfl
set_option maxRecDepth 50000 in
theorem i_Mo_tuples_153 : ix_nx mMo_tuples 153 = some (0, .iinc 4 1, 156, none, [], 0) := rfl
set_option maxRecDepth 50000 in
theorem i_Mo_tuples_156 : ix_nx mMo_tuples 156 = some (0, .goto (-60), 159, none, [], 0) := rfl
set_option maxRecDepth 50000 in
theorem i_Mo_tuples_159 : ix_nx mMo_tuples 159 = some (0, .iinc 3 1, 162, none, [], 0) := rfl
set_option maxRecDepth 50000 in
theorem i_Mo_tuples_162 : ix_nx mMo_tuples 162 = some (0, .goto (-76), 165, none, [], 0) := rfl
set_option maxRecDepth 50000 in
theorem i_Mo_tuples_165 : ix_nx mMo_tuples 165 = some (0, .iconst 0, 166, none, [], 0) := rfl
set_option maxRecDepth 50000 in
theorem i_Mo_tuples_166 : ix_nx mMo_tuples 166 = some (0, .istore_n 3, 167, none, [], 0) := rfl
set_option maxRecDepth 50000 in
theorem i_Mo_tuples_167 : ix_nx mMo_tuples 167 = some (0, .iload_n 3, 168, some [true, true, true, true, false, false], [], 0) := rfl
set_option maxRecDepth 50000 in
theorem i_Mo_tuples_168 : ix_nx mMo_tuples 168 = some (0, .sipush 6561, 171, none, [], 0) := rfl
set_option maxRecDepth 50000 in
theorem i_Mo_tuples_171 : ix_nx mMo_tuples 171 = some (0, .if_icmp .ge 21, 174, none, [], 0) := rfl
set_option maxRecDepth 50000 in
theorem i_Mo_tuples_174 : ix_nx mMo_tuples 174 = some (0, .aload_n 0, 175, none, [], 0) := rfl
set_option maxRecDepth 50000 in
theorem i_Mo_tuples_175 : ix_nx mMo_tuples 175 = some (1, .getfield 24, 178, none, [11, 4, 2, 94], 0) := rfl
set_option maxRecDepth 50000 in
theorem i_Mo_tuples_178 : ix_nx mMo_tuples 178 = some (0, .iload_n 3, 179, none, [], 0) := rfl
set_option maxRecDepth 50000 in
theorem i_Mo_tuples_179 : ix_nx mMo_tuples 179 = some (0, .aload_n 0, 180, none, [], 0) := rfl
set_option maxRecDepth 50000 in
theorem i_Mo_tuples_180 : ix_nx mMo_tuples 180 = some (1, .getfield 27, 183, none, [11, 5, 2, 95], 0) := rfl
set_option maxRecDepth 50000 in
theorem i_Mo_tuples_183 : ix_nx mMo_tuples 183 = some (0, .iload_n 3, 184, none, [], 0) := rfl
set_option maxRecDepth 50000 in
theorem i_Mo_tuples_184 : ix_nx mMo_tuples 184 = some (1, .laload, 185, none, [], 0) := rfl
set_option maxRecDepth 50000 in
theorem i_Mo_tuples_185 : ix_nx mMo_tuples 185 = some (2, .lastore, 186, none, [], 0) := rfl
set_option maxRecDepth 50000 in
theorem i_Mo_tuples_186 : ix_nx mMo_tuples 186 = some (0, .iinc 3 1, 189, none, [], 0) := rfl
set_option maxRecDepth 50000 in
theorem i_Mo_tuples_189 : ix_nx mMo_tuples 189 = some (0, .goto (-22), 192, none, [], 0) := rfl
set_option maxRecDepth 50000 in
theorem i_Mo_tuples_192 : ix_nx mMo_tuples 192 = some (0, .iinc 2 1, 195, none, [], 0) := rfl
set_option maxRecDepth 50000 in
theorem i_Mo_tuples_195 : ix_nx mMo_tuples 195 = some (0, .goto (-138), 198, none, [], 0) := rfl
set_option maxRecDepth 50000 in
theorem i_Mo_tuples_198 : ix_nx mMo_tuples 198 = some (0, .lconst 0, 199, none, [], 0) := rfl
set_option maxRecDepth 50000 in
theorem i_Mo_tuples_199 : ix_nx mMo_tuples 199 = some (0, .lstore_n 2, 200, none, [], 0) := rfl
set_option maxRecDepth 50000 in
theorem i_Mo_tuples_200 : ix_nx mMo_tuples 200 = some (0, .iconst 0, 201, none, [], 0) := rfl
set_option maxRecDepth 50000 in
theorem i_Mo_tuples_201 : ix_nx mMo_tuples 201 = some (0, .istore 4, 203, none, [], 0) := rfl
set_option maxRecDepth 50000 in
theorem i_Mo_tuples_203 : ix_nx mMo_tuples 203 = some (0, .iload 4, 205, some [true, false, true, false, true, false], [], 0) := rfl
set_option maxRecDepth 50000 in
theorem i_Mo_tuples_205 : ix_nx mMo_tuples 205 = some (0, .sipush 6561, 208, none, [], 0) := rfl
set_option maxRecDepth 50000 in
theorem i_Mo_tuples_208 : ix_nx mMo_tuples 208 = some (0, .if_icmp .ge 19, 211, none, [], 0) := rfl
set_option maxRecDepth 50000 in
theorem i_Mo_tuples_211 : ix_nx mMo_tuples 211 = some (0, .lload_n 2, 212, none, [], 0) := rfl
set_option maxRecDepth 50000 in
theorem i_Mo_tuples_212 : ix_nx mMo_tuples 212 = some (0, .aload_n 0, 213, none, [], 0) := rfl
set_option maxRecDepth 50000 in
theorem i_Mo_tuples_213 : ix_nx mMo_tuples 213 = some (1, .getfield 24, 216, none, [11, 4, 2, 94], 0) := rfl
set_option maxRecDepth 50000 in
theorem i_Mo_tuples_216 : ix_nx mMo_tuples 216 = some (0, .iload 4, 218, none, [], 0) := rfl
set_option maxRecDepth 50000 in
theorem i_Mo_tuples_218 : ix_nx mMo_tuples 218 = some (1, .laload, 219, none, [], 0) := rfl
set_option maxRecDepth 50000 in
theorem i_Mo_tuples_219 : ix_nx mMo_tuples 219 = some (0, .ladd, 220, none, [], 0) := rfl
set_option maxRecDepth 50000 in
theorem i_Mo_tuples_220 : ix_nx mMo_tuples 220 = some (0, .lstore_n 2, 221, none, [], 0) := rfl
set_option maxRecDepth 50000 in
theorem i_Mo_tuples_221 : ix_nx mMo_tuples 221 = some (0, .iinc 4 1, 224, none, [], 0) := rfl
set_option maxRecDepth 50000 in
theorem i_Mo_tuples_224 : ix_nx mMo_tuples 224 = some (0, .goto (-21), 227, none, [], 0) := rfl
set_option maxRecDepth 50000 in
theorem i_Mo_tuples_227 : ix_nx mMo_tuples 227 = some (0, .lload_n 2, 228, none, [], 0) := rfl
set_option maxRecDepth 50000 in
theorem i_Mo_tuples_228 : ix_nx mMo_tuples 228 = some (4, .lreturn, 229, none, [], 0) := rfl
noncomputable def l_Mo_tuples_11 (a0 : Nat) (x1 : Int32) (h : ixH) : Option (List Value × ixH) := ix_D mMo_tuples 11 [some (.ref a0), some (.int x1), none, none, none, none] [] h
noncomputable def l_Mo_tuples_57 (a0 : Nat) (x1 : Int32) (x2 : Int32) (h : ixH) : Option (List Value × ixH) := ix_D mMo_tuples 57 [some (.ref a0), some (.int x1), some (.int x2), none, none, none] [] h
noncomputable def l_Mo_tuples_64 (a0 : Nat) (x1 : Int32) (x2 : Int32) (x3 : Int32) (h : ixH) : Option (List Value × ixH) := ix_D mMo_tuples 64 [some (.ref a0), some (.int x1), some (.int x2), some (.int x3), none, none] [] h
noncomputable def l_Mo_tuples_86 (a0 : Nat) (x1 : Int32) (x2 : Int32) (x3 : Int32) (h : ixH) : Option (List Value × ixH) := ix_D mMo_tuples 86 [some (.ref a0), some (.int x1), some (.int x2), some (.int x3), none, none] [] h
noncomputable def l_Mo_tuples_96 (a0 : Nat) (x1 : Int32) (x2 : Int32) (x3 : Int32) (x4 : Int32) (h : ixH) : Option (List Value × ixH) := ix_D mMo_tuples 96 [some (.ref a0), some (.int x1), some (.int x2), some (.int x3), some (.int x4), none] [] h
noncomputable def l_Mo_tuples_167 (a0 : Nat) (x1 : Int32) (x2 : Int32) (x3 : Int32) (h : ixH) : Option (List Value × ixH) := ix_D mMo_tuples 167 [some (.ref a0), some (.int x1), some (.int x2), some (.int x3), none, none] [] h
noncomputable def l_Mo_tuples_203 (a0 : Nat) (x2 : Int64) (x4 : Int32) (h : ixH) : Option (List Value × ixH) := ix_D mMo_tuples 203 [some (.ref a0), none, some (.long x2), none, some (.int x4), none] [] h
set_option maxRecDepth 20000 in
set_option maxHeartbeats 1000000 in
theorem e_Mo_tuples_11 (a0 : Nat) (x1 : Int32) (h : ixH) : l_Mo_tuples_11 a0 x1 h = if 6561 ≤ x1 then (ix_gr h a0 11 0).bind fun v1 => (ix_ai h v1 0).bind fun v2 => (ix_gr h a0 11 0).bind fun v3 => (ix_ai h v3 1).bind fun v4 => l_Mo_tuples_57 a0 ((v2 + v4) - 2) 0 h else (ix_gr h a0 11 4).bind fun v5 => if ¬ x1 = 0 then (ix_sl h v5 x1 0).bind fun h6 => l_Mo_tuples_11 a0 (x1 + 1) h6 else (ix_sl h v5 x1 1).bind fun h7 => l_Mo_tuples_11 a0 (x1 + 1) h7 := by
  unfold l_Mo_tuples_11
  refine ix_K_px kq_Mo_tuples i_Mo_tuples_11 rfl rfl ?_
  refine ix_K_cs kq_Mo_tuples i_Mo_tuples_12 rfl kcs_6561 ?_
  refine ix_K_ic_ge (tgt := 39) kq_Mo_tuples i_Mo_tuples_15 rfl (by decide) ?_ ?_
  · refine ix_K_px kq_Mo_tuples i_Mo_tuples_39 rfl rfl ?_
    refine ix_K_gr kq_Mo_tuples i_Mo_tuples_40 rfl (fun v1 => ?_)
    refine ix_K_ci kq_Mo_tuples i_Mo_tuples_43 rfl kci_0 ?_
    refine ix_K_ai kq_Mo_tuples i_Mo_tuples_44 rfl (fun v2 => ?_)
    refine ix_K_px kq_Mo_tuples i_Mo_tuples_45 rfl rfl ?_
    refine ix_K_gr kq_Mo_tuples i_Mo_tuples_46 rfl (fun v3 => ?_)
    refine ix_K_ci kq_Mo_tuples i_Mo_tuples_49 rfl kci_1 ?_
    refine ix_K_ai kq_Mo_tuples i_Mo_tuples_50 rfl (fun v4 => ?_)
    refine ix_K_px kq_Mo_tuples i_Mo_tuples_51 rfl rfl ?_
    refine ix_K_ci kq_Mo_tuples i_Mo_tuples_52 rfl kci_2 ?_
    refine ix_K_px kq_Mo_tuples i_Mo_tuples_53 rfl rfl ?_
    refine ix_K_si (L2 := [some (.ref a0), some (.int ((v2 + v4) - 2)), none, none, none, none]) kq_Mo_tuples i_Mo_tuples_54 rfl (Or.inr ⟨_, rfl, rfl⟩) (Nat.le_of_ble_eq_true rfl) rfl ?_
    refine ix_K_ci kq_Mo_tuples i_Mo_tuples_55 rfl kci_0 ?_
    refine ix_K_si (L2 := [some (.ref a0), some (.int ((v2 + v4) - 2)), some (.int 0), none, none, none]) kq_Mo_tuples i_Mo_tuples_56 rfl (Or.inr ⟨_, rfl, rfl⟩) (Nat.le_of_ble_eq_true rfl) rfl ?_
    exact ix_D_cut i_Mo_tuples_57 rfl
  · refine ix_K_px kq_Mo_tuples i_Mo_tuples_18 rfl rfl ?_
    refine ix_K_gr kq_Mo_tuples i_Mo_tuples_19 rfl (fun v5 => ?_)
    refine ix_K_px kq_Mo_tuples i_Mo_tuples_22 rfl rfl ?_
    refine ix_K_px kq_Mo_tuples i_Mo_tuples_23 rfl rfl ?_
    refine ix_K_if_ne (tgt := 31) kq_Mo_tuples i_Mo_tuples_24 rfl (by decide) ?_ ?_
    · refine ix_K_cl kq_Mo_tuples i_Mo_tuples_31 rfl kcl_0 ?_
      refine ix_K_tl kq_Mo_tuples i_Mo_tuples_32 rfl (fun h6 => ?_)
      refine ix_K_inc (L2 := [some (.ref a0), some (.int (x1 + 1)), none, none, none, none]) kq_Mo_tuples i_Mo_tuples_33 rfl rfl (Nat.le_of_ble_eq_true rfl) kci_1 rfl ?_
      refine ix_K_goto (tgt := 11) kq_Mo_tuples i_Mo_tuples_36 rfl (by decide) ?_
      exact ix_D_cut i_Mo_tuples_11 rfl
    · refine ix_K_cl kq_Mo_tuples i_Mo_tuples_27 rfl kcl_1 ?_
      refine ix_K_goto (tgt := 32) kq_Mo_tuples i_Mo_tuples_28 rfl (by decide) ?_
      refine ix_K_tl kq_Mo_tuples i_Mo_tuples_32 rfl (fun h7 => ?_)
      refine ix_K_inc (L2 := [some (.ref a0), some (.int (x1 + 1)), none, none, none, none]) kq_Mo_tuples i_Mo_tuples_33 rfl rfl (Nat.le_of_ble_eq_true rfl) kci_1 rfl ?_
      refine ix_K_goto (tgt := 11) kq_Mo_tuples i_Mo_tuples_36 rfl (by decide) ?_
      exact ix_D_cut i_Mo_tuples_11 rfl
set_option maxRecDepth 20000 in
set_option maxHeartbeats 1000000 in
theorem e_Mo_tuples_57 (a0 : Nat) (x1 : Int32) (x2 : Int32) (h : ixH) : l_Mo_tuples_57 a0 x1 x2 h = if x1 < x2 then l_Mo_tuples_203 a0 0 0 h else l_Mo_tuples_64 a0 x1 x2 0 h := by
  unfold l_Mo_tuples_57
  refine ix_K_px kq_Mo_tuples i_Mo_tuples_57 rfl rfl ?_
  refine ix_K_px kq_Mo_tuples i_Mo_tuples_58 rfl rfl ?_
  refine ix_K_ic_gt (tgt := 198) kq_Mo_tuples i_Mo_tuples_59 rfl (by decide) ?_ ?_
  · refine ix_K_cl kq_Mo_tuples i_Mo_tuples_198 rfl kcl_0 ?_
    refine ix_K_sl (L2 := [some (.ref a0), some (.int x1), some (.long 0), none, none, none]) kq_Mo_tuples i_Mo_tuples_199 rfl (Or.inr ⟨_, rfl, rfl⟩) (Nat.le_of_ble_eq_true rfl) rfl ?_
    refine ix_K_ci kq_Mo_tuples i_Mo_tuples_200 rfl kci_0 ?_
    refine ix_K_si (L2 := [some (.ref a0), some (.int x1), some (.long 0), none, some (.int 0), none]) kq_Mo_tuples i_Mo_tuples_201 rfl (Or.inl rfl) (Nat.le_of_ble_eq_true rfl) rfl ?_
    exact ix_D_cut i_Mo_tuples_203 rfl
  · refine ix_K_ci kq_Mo_tuples i_Mo_tuples_62 rfl kci_0 ?_
    refine ix_K_si (L2 := [some (.ref a0), some (.int x1), some (.int x2), some (.int 0), none, none]) kq_Mo_tuples i_Mo_tuples_63 rfl (Or.inr ⟨_, rfl, rfl⟩) (Nat.le_of_ble_eq_true rfl) rfl ?_
    exact ix_D_cut i_Mo_tuples_64 rfl
set_option maxRecDepth 20000 in
set_option maxHeartbeats 1000000 in
theorem e_Mo_tuples_64 (a0 : Nat) (x1 : Int32) (x2 : Int32) (x3 : Int32) (h : ixH) : l_Mo_tuples_64 a0 x1 x2 x3 h = if 6561 ≤ x3 then l_Mo_tuples_86 a0 x1 x2 0 h else (ix_gr h a0 11 5).bind fun v1 => (ix_sl h v1 x3 0).bind fun h2 => l_Mo_tuples_64 a0 x1 x2 (x3 + 1) h2 := by
  unfold l_Mo_tuples_64
  refine ix_K_px kq_Mo_tuples i_Mo_tuples_64 rfl rfl ?_
  refine ix_K_cs kq_Mo_tuples i_Mo_tuples_65 rfl kcs_6561 ?_
  refine ix_K_ic_ge (tgt := 84) kq_Mo_tuples i_Mo_tuples_68 rfl (by decide) ?_ ?_
  · refine ix_K_ci kq_Mo_tuples i_Mo_tuples_84 rfl kci_0 ?_
    refine ix_K_si (L2 := [some (.ref a0), some (.int x1), some (.int x2), some (.int 0), none, none]) kq_Mo_tuples i_Mo_tuples_85 rfl (Or.inr ⟨_, rfl, rfl⟩) (Nat.le_of_ble_eq_true rfl) rfl ?_
    exact ix_D_cut i_Mo_tuples_86 rfl
  · refine ix_K_px kq_Mo_tuples i_Mo_tuples_71 rfl rfl ?_
    refine ix_K_gr kq_Mo_tuples i_Mo_tuples_72 rfl (fun v1 => ?_)
    refine ix_K_px kq_Mo_tuples i_Mo_tuples_75 rfl rfl ?_
    refine ix_K_cl kq_Mo_tuples i_Mo_tuples_76 rfl kcl_0 ?_
    refine ix_K_tl kq_Mo_tuples i_Mo_tuples_77 rfl (fun h2 => ?_)
    refine ix_K_inc (L2 := [some (.ref a0), some (.int x1), some (.int x2), some (.int (x3 + 1)), none, none]) kq_Mo_tuples i_Mo_tuples_78 rfl rfl (Nat.le_of_ble_eq_true rfl) kci_1 rfl ?_
    refine ix_K_goto (tgt := 64) kq_Mo_tuples i_Mo_tuples_81 rfl (by decide) ?_
    exact ix_D_cut i_Mo_tuples_64 rfl
set_option maxRecDepth 20000 in
set_option maxHeartbeats 1000000 in
theorem e_Mo_tuples_86 (a0 : Nat) (x1 : Int32) (x2 : Int32) (x3 : Int32) (h : ixH) : l_Mo_tuples_86 a0 x1 x2 x3 h = if 6561 ≤ x3 then l_Mo_tuples_167 a0 x1 x2 0 h else l_Mo_tuples_96 a0 x1 x2 x3 0 h := by
  unfold l_Mo_tuples_86
  refine ix_K_px kq_Mo_tuples i_Mo_tuples_86 rfl rfl ?_
  refine ix_K_cs kq_Mo_tuples i_Mo_tuples_87 rfl kcs_6561 ?_
  refine ix_K_ic_ge (tgt := 165) kq_Mo_tuples i_Mo_tuples_90 rfl (by decide) ?_ ?_
  · refine ix_K_ci kq_Mo_tuples i_Mo_tuples_165 rfl kci_0 ?_
    refine ix_K_si (L2 := [some (.ref a0), some (.int x1), some (.int x2), some (.int 0), none, none]) kq_Mo_tuples i_Mo_tuples_166 rfl (Or.inr ⟨_, rfl, rfl⟩) (Nat.le_of_ble_eq_true rfl) rfl ?_
    exact ix_D_cut i_Mo_tuples_167 rfl
  · refine ix_K_ci kq_Mo_tuples i_Mo_tuples_93 rfl kci_0 ?_
    refine ix_K_si (L2 := [some (.ref a0), some (.int x1), some (.int x2), some (.int x3), some (.int 0), none]) kq_Mo_tuples i_Mo_tuples_94 rfl (Or.inl rfl) (Nat.le_of_ble_eq_true rfl) rfl ?_
    exact ix_D_cut i_Mo_tuples_96 rfl
set_option maxRecDepth 20000 in
set_option maxHeartbeats 1000000 in
theorem e_Mo_tuples_96 (a0 : Nat) (x1 : Int32) (x2 : Int32) (x3 : Int32) (x4 : Int32) (h : ixH) : l_Mo_tuples_96 a0 x1 x2 x3 x4 h = (ix_gr h a0 11 0).bind fun v1 => (ix_ai h v1 386).bind fun v2 => if (ix_ishl 1 v2) ≤ x4 then l_Mo_tuples_86 a0 x1 x2 (x3 + 1) h else (ix_gr h a0 11 4).bind fun v3 => (ix_al h v3 x3).bind fun v4 => if v4 ≤ 0 then l_Mo_tuples_86 a0 x1 x2 (x3 + 1) h else (ix_M mMo_nextState [.ref a0, .int x3, .int x2, .int x4] h).bind fun r => ix_kI r fun v6 h5 => if v6 < 0 then l_Mo_tuples_96 a0 x1 x2 x3 (x4 + 1) h5 else (ix_gr h5 a0 11 5).bind fun v7 => (ix_al h5 v7 v6).bind fun v8 => (ix_gr h5 a0 11 4).bind fun v9 => (ix_al h5 v9 x3).bind fun v10 => (ix_sl h5 v7 v6 (v8 + v10)).bind fun h11 => l_Mo_tuples_96 a0 x1 x2 x3 (x4 + 1) h11 := by
  unfold l_Mo_tuples_96
  refine ix_K_px kq_Mo_tuples i_Mo_tuples_96 rfl rfl ?_
  refine ix_K_ci kq_Mo_tuples i_Mo_tuples_98 rfl kci_1 ?_
  refine ix_K_px kq_Mo_tuples i_Mo_tuples_99 rfl rfl ?_
  refine ix_K_gr kq_Mo_tuples i_Mo_tuples_100 rfl (fun v1 => ?_)
  refine ix_K_cs kq_Mo_tuples i_Mo_tuples_103 rfl kcs_386 ?_
  refine ix_K_ai kq_Mo_tuples i_Mo_tuples_106 rfl (fun v2 => ?_)
  refine ix_K_px kq_Mo_tuples i_Mo_tuples_107 rfl rfl ?_
  refine ix_K_ic_ge (tgt := 159) kq_Mo_tuples i_Mo_tuples_108 rfl (by decide) ?_ ?_
  · refine ix_K_inc (L2 := [some (.ref a0), some (.int x1), some (.int x2), some (.int (x3 + 1)), some (.int x4), none]) kq_Mo_tuples i_Mo_tuples_159 rfl rfl (Nat.le_of_ble_eq_true rfl) kci_1 rfl ?_
    refine ix_K_goto (tgt := 86) kq_Mo_tuples i_Mo_tuples_162 rfl (by decide) ?_
    exact ix_D_cut i_Mo_tuples_86 rfl
  · refine ix_K_px kq_Mo_tuples i_Mo_tuples_111 rfl rfl ?_
    refine ix_K_gr kq_Mo_tuples i_Mo_tuples_112 rfl (fun v3 => ?_)
    refine ix_K_px kq_Mo_tuples i_Mo_tuples_115 rfl rfl ?_
    refine ix_K_al kq_Mo_tuples i_Mo_tuples_116 rfl (fun v4 => ?_)
    refine ix_K_cl kq_Mo_tuples i_Mo_tuples_117 rfl kcl_0 ?_
    refine ix_K_px kq_Mo_tuples i_Mo_tuples_118 rfl rfl ?_
    refine ix_K_lc_le (tgt := 159) kq_Mo_tuples i_Mo_tuples_119 rfl (by decide) ?_ ?_
    · refine ix_K_inc (L2 := [some (.ref a0), some (.int x1), some (.int x2), some (.int (x3 + 1)), some (.int x4), none]) kq_Mo_tuples i_Mo_tuples_159 rfl rfl (Nat.le_of_ble_eq_true rfl) kci_1 rfl ?_
      refine ix_K_goto (tgt := 86) kq_Mo_tuples i_Mo_tuples_162 rfl (by decide) ?_
      exact ix_D_cut i_Mo_tuples_86 rfl
    · refine ix_K_px kq_Mo_tuples i_Mo_tuples_122 rfl rfl ?_
      refine ix_K_px kq_Mo_tuples i_Mo_tuples_123 rfl rfl ?_
      refine ix_K_px kq_Mo_tuples i_Mo_tuples_124 rfl rfl ?_
      refine ix_K_px kq_Mo_tuples i_Mo_tuples_125 rfl rfl ?_
      refine ix_K_callI (as := [.ref a0, .int x3, .int x2, .int x4]) (rest := []) kq_Mo_tuples i_Mo_tuples_127 rfl kq_Mo_nextState (by decide) rfl (Or.inl rfl) (fun v6 h5 => ?_)
      refine ix_K_si (L2 := [some (.ref a0), some (.int x1), some (.int x2), some (.int x3), some (.int x4), some (.int v6)]) kq_Mo_tuples i_Mo_tuples_130 rfl (Or.inl rfl) (Nat.le_of_ble_eq_true rfl) rfl ?_
      refine ix_K_px kq_Mo_tuples i_Mo_tuples_132 rfl rfl ?_
      refine ix_K_if_lt (tgt := 153) kq_Mo_tuples i_Mo_tuples_134 rfl (by decide) ?_ ?_
      · refine ix_K_inc (L2 := [some (.ref a0), some (.int x1), some (.int x2), some (.int x3), some (.int (x4 + 1)), some (.int v6)]) kq_Mo_tuples i_Mo_tuples_153 rfl rfl (Nat.le_of_ble_eq_true rfl) kci_1 rfl ?_
        refine ix_K_goto (tgt := 96) kq_Mo_tuples i_Mo_tuples_156 rfl (by decide) ?_
        exact ix_D_cut i_Mo_tuples_96 rfl
      · refine ix_K_px kq_Mo_tuples i_Mo_tuples_137 rfl rfl ?_
        refine ix_K_gr kq_Mo_tuples i_Mo_tuples_138 rfl (fun v7 => ?_)
        refine ix_K_px kq_Mo_tuples i_Mo_tuples_141 rfl rfl ?_
        refine ix_K_px kq_Mo_tuples i_Mo_tuples_143 rfl rfl ?_
        refine ix_K_al kq_Mo_tuples i_Mo_tuples_144 rfl (fun v8 => ?_)
        refine ix_K_px kq_Mo_tuples i_Mo_tuples_145 rfl rfl ?_
        refine ix_K_gr kq_Mo_tuples i_Mo_tuples_146 rfl (fun v9 => ?_)
        refine ix_K_px kq_Mo_tuples i_Mo_tuples_149 rfl rfl ?_
        refine ix_K_al kq_Mo_tuples i_Mo_tuples_150 rfl (fun v10 => ?_)
        refine ix_K_px kq_Mo_tuples i_Mo_tuples_151 rfl rfl ?_
        refine ix_K_tl kq_Mo_tuples i_Mo_tuples_152 rfl (fun h11 => ?_)
        refine ix_K_inc (L2 := [some (.ref a0), some (.int x1), some (.int x2), some (.int x3), some (.int (x4 + 1)), some (.int v6)]) kq_Mo_tuples i_Mo_tuples_153 rfl rfl (Nat.le_of_ble_eq_true rfl) kci_1 rfl ?_
        refine ix_K_goto (tgt := 96) kq_Mo_tuples i_Mo_tuples_156 rfl (by decide) ?_
        exact ix_D_cut i_Mo_tuples_96 rfl
set_option maxRecDepth 20000 in
set_option maxHeartbeats 1000000 in
theorem e_Mo_tuples_167 (a0 : Nat) (x1 : Int32) (x2 : Int32) (x3 : Int32) (h : ixH) : l_Mo_tuples_167 a0 x1 x2 x3 h = if 6561 ≤ x3 then l_Mo_tuples_57 a0 x1 (x2 + 1) h else (ix_gr h a0 11 4).bind fun v1 => (ix_gr h a0 11 5).bind fun v2 => (ix_al h v2 x3).bind fun v3 => (ix_sl h v1 x3 v3).bind fun h4 => l_Mo_tuples_167 a0 x1 x2 (x3 + 1) h4 := by
  unfold l_Mo_tuples_167
  refine ix_K_px kq_Mo_tuples i_Mo_tuples_167 rfl rfl ?_
  refine ix_K_cs kq_Mo_tuples i_Mo_tuples_168 rfl kcs_6561 ?_
  refine ix_K_ic_ge (tgt := 192) kq_Mo_tuples i_Mo_tuples_171 rfl (by decide) ?_ ?_
  · refine ix_K_inc (L2 := [some (.ref a0), some (.int x1), some (.int (x2 + 1)), some (.int x3), none, none]) kq_Mo_tuples i_Mo_tuples_192 rfl rfl (Nat.le_of_ble_eq_true rfl) kci_1 rfl ?_
    refine ix_K_goto (tgt := 57) kq_Mo_tuples i_Mo_tuples_195 rfl (by decide) ?_
    exact ix_D_cut i_Mo_tuples_57 rfl
  · refine ix_K_px kq_Mo_tuples i_Mo_tuples_174 rfl rfl ?_
    refine ix_K_gr kq_Mo_tuples i_Mo_tuples_175 rfl (fun v1 => ?_)
    refine ix_K_px kq_Mo_tuples i_Mo_tuples_178 rfl rfl ?_
    refine ix_K_px kq_Mo_tuples i_Mo_tuples_179 rfl rfl ?_
    refine ix_K_gr kq_Mo_tuples i_Mo_tuples_180 rfl (fun v2 => ?_)
    refine ix_K_px kq_Mo_tuples i_Mo_tuples_183 rfl rfl ?_
    refine ix_K_al kq_Mo_tuples i_Mo_tuples_184 rfl (fun v3 => ?_)
    refine ix_K_tl kq_Mo_tuples i_Mo_tuples_185 rfl (fun h4 => ?_)
    refine ix_K_inc (L2 := [some (.ref a0), some (.int x1), some (.int x2), some (.int (x3 + 1)), none, none]) kq_Mo_tuples i_Mo_tuples_186 rfl rfl (Nat.le_of_ble_eq_true rfl) kci_1 rfl ?_
    refine ix_K_goto (tgt := 167) kq_Mo_tuples i_Mo_tuples_189 rfl (by decide) ?_
    exact ix_D_cut i_Mo_tuples_167 rfl
set_option maxRecDepth 20000 in
set_option maxHeartbeats 1000000 in
theorem e_Mo_tuples_203 (a0 : Nat) (x2 : Int64) (x4 : Int32) (h : ixH) : l_Mo_tuples_203 a0 x2 x4 h = if 6561 ≤ x4 then some ([.long x2], h) else (ix_gr h a0 11 4).bind fun v1 => (ix_al h v1 x4).bind fun v2 => l_Mo_tuples_203 a0 (x2 + v2) (x4 + 1) h := by
  unfold l_Mo_tuples_203
  refine ix_K_px kq_Mo_tuples i_Mo_tuples_203 rfl rfl ?_
  refine ix_K_cs kq_Mo_tuples i_Mo_tuples_205 rfl kcs_6561 ?_
  refine ix_K_ic_ge (tgt := 227) kq_Mo_tuples i_Mo_tuples_208 rfl (by decide) ?_ ?_
  · refine ix_K_px kq_Mo_tuples i_Mo_tuples_227 rfl rfl ?_
    exact ix_D_ret kq_Mo_tuples i_Mo_tuples_228 (ix_rtL rfl _)
  · refine ix_K_px kq_Mo_tuples i_Mo_tuples_211 rfl rfl ?_
    refine ix_K_px kq_Mo_tuples i_Mo_tuples_212 rfl rfl ?_
    refine ix_K_gr kq_Mo_tuples i_Mo_tuples_213 rfl (fun v1 => ?_)
    refine ix_K_px kq_Mo_tuples i_Mo_tuples_216 rfl rfl ?_
    refine ix_K_al kq_Mo_tuples i_Mo_tuples_218 rfl (fun v2 => ?_)
    refine ix_K_px kq_Mo_tuples i_Mo_tuples_219 rfl rfl ?_
    refine ix_K_sl (L2 := [some (.ref a0), none, some (.long (x2 + v2)), none, some (.int x4), none]) kq_Mo_tuples i_Mo_tuples_220 rfl (Or.inr ⟨_, rfl, rfl⟩) (Nat.le_of_ble_eq_true rfl) rfl ?_
    refine ix_K_inc (L2 := [some (.ref a0), none, some (.long (x2 + v2)), none, some (.int (x4 + 1)), none]) kq_Mo_tuples i_Mo_tuples_221 rfl rfl (Nat.le_of_ble_eq_true rfl) kci_1 rfl ?_
    refine ix_K_goto (tgt := 203) kq_Mo_tuples i_Mo_tuples_224 rfl (by decide) ?_
    exact ix_D_cut i_Mo_tuples_203 rfl
set_option maxRecDepth 20000 in
set_option maxHeartbeats 1000000 in
theorem e_Mo_tuples (a0 : Nat) (h : ixH) : ix_D mMo_tuples 0 [some (.ref a0), none, none, none, none, none] [] h = (ix_M mMo_canFall [.ref a0] h).bind fun r => ix_kZ r fun v2 h1 => if v2 = true then l_Mo_tuples_11 a0 0 h1 else some ([.long 0], h1) := by
  refine ix_K_px kq_Mo_tuples i_Mo_tuples_0 rfl rfl ?_
  refine ix_K_callZ (as := [.ref a0]) (rest := []) kq_Mo_tuples i_Mo_tuples_1 rfl kq_Mo_canFall (by decide) rfl rfl (fun v2 h1 => ?_)
  refine ix_K_bz_ne (tgt := 9) kq_Mo_tuples i_Mo_tuples_4 rfl (by decide) ?_ ?_
  · refine ix_K_ci kq_Mo_tuples i_Mo_tuples_9 rfl kci_0 ?_
    refine ix_K_si (L2 := [some (.ref a0), some (.int 0), none, none, none, none]) kq_Mo_tuples i_Mo_tuples_10 rfl (Or.inr ⟨_, rfl, rfl⟩) (Nat.le_of_ble_eq_true rfl) rfl ?_
    exact ix_D_cut i_Mo_tuples_11 rfl
  · refine ix_K_cl kq_Mo_tuples i_Mo_tuples_7 rfl kcl_0 ?_
    exact ix_D_ret kq_Mo_tuples i_Mo_tuples_8 (ix_rtL rfl _)
theorem x_Mo_tuples {a0 : Nat} {h h1 : ixH} {v : Int64} (hr : ix_rc h a0 = some 11) (hd : ix_D mMo_tuples 0 [some (.ref a0), none, none, none, none, none] [] h = some ([.long v], h1)) : ix_M mMo_tuples [.ref a0] h = some ([.long v], h1) := ix_M_of (ix_ent_i kq_Mo_tuples rfl hr rfl (Nat.le_of_ble_eq_true rfl) rfl) hd (ix_okrL rfl v)
theorem i_Mo_canFall_0 : ix_nx mMo_canFall 0 = some (0, .iconst 1, 1, none, [], 0) := rfl
theorem i_Mo_canFall_1 : ix_nx mMo_canFall 1 = some (0, .istore_n 1, 2, none, [], 0) := rfl
theorem i_Mo_canFall_2 : ix_nx mMo_canFall 2 = some (0, .iconst 0, 3, none, [], 0) := rfl
theorem i_Mo_canFall_3 : ix_nx mMo_canFall 3 = some (0, .istore_n 2, 4, none, [], 0) := rfl
theorem i_Mo_canFall_4 : ix_nx mMo_canFall 4 = some (0, .iload_n 2, 5, some [true, true, true], [], 0) := rfl
theorem i_Mo_canFall_5 : ix_nx mMo_canFall 5 = some (0, .aload_n 0, 6, none, [], 0) := rfl
theorem i_Mo_canFall_6 : ix_nx mMo_canFall 6 = some (1, .getfield 7, 9, none, [11, 0, 2, 90], 0) := rfl
theorem i_Mo_canFall_9 : ix_nx mMo_canFall 9 = some (0, .sipush 386, 12, none, [], 0) := rfl
theorem i_Mo_canFall_12 : ix_nx mMo_canFall 12 = some (1, .iaload, 13, none, [], 0) := rfl
theorem i_Mo_canFall_13 : ix_nx mMo_canFall 13 = some (0, .if_icmp .ge 40, 16, none, [], 0) := rfl
theorem i_Mo_canFall_16 : ix_nx mMo_canFall 16 = some (0, .iload_n 1, 17, none, [], 0) := rfl
theorem i_Mo_canFall_17 : ix_nx mMo_canFall 17 = some (0, .ifCond .eq 28, 20, none, [], 0) := rfl
theorem i_Mo_canFall_20 : ix_nx mMo_canFall 20 = some (0, .aload_n 0, 21, none, [], 0) := rfl
theorem i_Mo_canFall_21 : ix_nx mMo_canFall 21 = some (0, .aload_n 0, 22, none, [], 0) := rfl
theorem i_Mo_canFall_22 : ix_nx mMo_canFall 22 = some (0, .iload_n 2, 23, none, [], 0) := rfl
theorem i_Mo_canFall_23 : ix_nx mMo_canFall 23 = some (3, .invokevirtual 144, 26, none, [0, 167, 186], 0) := rfl
theorem i_Mo_canFall_26 : ix_nx mMo_canFall 26 = some (3, .invokevirtual 141, 29, none, [0, 168, 187], 0) := rfl
theorem i_Mo_canFall_29 : ix_nx mMo_canFall 29 = some (0, .aload_n 0, 30, none, [], 0) := rfl
theorem i_Mo_canFall_30 : ix_nx mMo_canFall 30 = some (0, .aload_n 0, 31, none, [], 0) := rfl
theorem i_Mo_canFall_31 : ix_nx mMo_canFall 31 = some (0, .iload_n 2, 32, none, [], 0) := rfl
theorem i_Mo_canFall_32 : ix_nx mMo_canFall 32 = some (3, .invokevirtual 138, 35, none, [0, 169, 188], 0) := rfl
theorem i_Mo_canFall_35 : ix_nx mMo_canFall 35 = some (3, .invokevirtual 141, 38, none, [0, 168, 187], 0) := rfl
theorem i_Mo_canFall_38 : ix_nx mMo_canFall 38 = some (0, .if_icmp .gt 7, 41, none, [], 0) := rfl
theorem i_Mo_canFall_41 : ix_nx mMo_canFall 41 = some (0, .iconst 1, 42, none, [], 0) := rfl
theorem i_Mo_canFall_42 : ix_nx mMo_canFall 42 = some (0, .goto 4, 45, none, [], 0) := rfl
theorem i_Mo_canFall_45 : ix_nx mMo_canFall 45 = some (0, .iconst 0, 46, none, [], 0) := rfl
theorem i_Mo_canFall_46 : ix_nx mMo_canFall 46 = some (0, .istore_n 1, 47, none, [], 0) := rfl
theorem i_Mo_canFall_47 : ix_nx mMo_canFall 47 = some (0, .iinc 2 1, 50, none, [], 0) := rfl
theorem i_Mo_canFall_50 : ix_nx mMo_canFall 50 = some (0, .goto (-46), 53, none, [], 0) := rfl
theorem i_Mo_canFall_53 : ix_nx mMo_canFall 53 = some (0, .iload_n 1, 54, none, [], 0) := rfl
theorem i_Mo_canFall_54 : ix_nx mMo_canFall 54 = some (4, .ireturn, 55, none, [], 0) := rfl
noncomputable def l_Mo_canFall_4 (a0 : Nat) (b1 : Bool) (x2 : Int32) (h : ixH) : Option (List Value × ixH) := ix_D mMo_canFall 4 [some (.ref a0), some (.int (ix_bi b1)), some (.int x2)] [] h
set_option maxRecDepth 20000 in
set_option maxHeartbeats 1000000 in
theorem e_Mo_canFall_4 (a0 : Nat) (b1 : Bool) (x2 : Int32) (h : ixH) : l_Mo_canFall_4 a0 b1 x2 h = (ix_gr h a0 11 0).bind fun v1 => (ix_ai h v1 386).bind fun v2 => if v2 ≤ x2 then some ([.int (ix_bi b1)], h) else if b1 = true then (ix_M mMo_start [.ref a0, .int x2] h).bind fun r => ix_kI r fun v4 h3 => (ix_M mMo_diagonal [.ref a0, .int v4] h3).bind fun r => ix_kI r fun v6 h5 => (ix_M mMo_end [.ref a0, .int x2] h5).bind fun r => ix_kI r fun v8 h7 => (ix_M mMo_diagonal [.ref a0, .int v8] h7).bind fun r => ix_kI r fun v10 h9 => if v10 < v6 then l_Mo_canFall_4 a0 false (x2 + 1) h9 else l_Mo_canFall_4 a0 true (x2 + 1) h9 else l_Mo_canFall_4 a0 false (x2 + 1) h := by
  unfold l_Mo_canFall_4
  refine ix_K_px kq_Mo_canFall i_Mo_canFall_4 rfl rfl ?_
  refine ix_K_px kq_Mo_canFall i_Mo_canFall_5 rfl rfl ?_
  refine ix_K_gr kq_Mo_canFall i_Mo_canFall_6 rfl (fun v1 => ?_)
  refine ix_K_cs kq_Mo_canFall i_Mo_canFall_9 rfl kcs_386 ?_
  refine ix_K_ai kq_Mo_canFall i_Mo_canFall_12 rfl (fun v2 => ?_)
  refine ix_K_ic_ge (tgt := 53) kq_Mo_canFall i_Mo_canFall_13 rfl (by decide) ?_ ?_
  · refine ix_K_px kq_Mo_canFall i_Mo_canFall_53 rfl rfl ?_
    exact ix_D_ret kq_Mo_canFall i_Mo_canFall_54 (ix_rtZ rfl _)
  · refine ix_K_px kq_Mo_canFall i_Mo_canFall_16 rfl rfl ?_
    refine ix_K_bz_eq (tgt := 45) kq_Mo_canFall i_Mo_canFall_17 rfl (by decide) ?_ ?_
    · refine ix_K_px kq_Mo_canFall i_Mo_canFall_20 rfl rfl ?_
      refine ix_K_px kq_Mo_canFall i_Mo_canFall_21 rfl rfl ?_
      refine ix_K_px kq_Mo_canFall i_Mo_canFall_22 rfl rfl ?_
      refine ix_K_callI (as := [.ref a0, .int x2]) (rest := [.ref a0]) kq_Mo_canFall i_Mo_canFall_23 rfl kq_Mo_start (by decide) rfl (Or.inl rfl) (fun v4 h3 => ?_)
      refine ix_K_callI (as := [.ref a0, .int v4]) (rest := []) kq_Mo_canFall i_Mo_canFall_26 rfl kq_Mo_diagonal (by decide) rfl (Or.inl rfl) (fun v6 h5 => ?_)
      refine ix_K_px kq_Mo_canFall i_Mo_canFall_29 rfl rfl ?_
      refine ix_K_px kq_Mo_canFall i_Mo_canFall_30 rfl rfl ?_
      refine ix_K_px kq_Mo_canFall i_Mo_canFall_31 rfl rfl ?_
      refine ix_K_callI (as := [.ref a0, .int x2]) (rest := [.ref a0, .int v6]) kq_Mo_canFall i_Mo_canFall_32 rfl kq_Mo_end (by decide) rfl (Or.inl rfl) (fun v8 h7 => ?_)
      refine ix_K_callI (as := [.ref a0, .int v8]) (rest := [.int v6]) kq_Mo_canFall i_Mo_canFall_35 rfl kq_Mo_diagonal (by decide) rfl (Or.inl rfl) (fun v10 h9 => ?_)
      refine ix_K_ic_gt (tgt := 45) kq_Mo_canFall i_Mo_canFall_38 rfl (by decide) ?_ ?_
      · refine ix_K_ci kq_Mo_canFall i_Mo_canFall_45 rfl kci_0 ?_
        refine ix_K_si (L2 := [some (.ref a0), some (.int 0), some (.int x2)]) kq_Mo_canFall i_Mo_canFall_46 rfl (Or.inr ⟨_, rfl, rfl⟩) (Nat.le_of_ble_eq_true rfl) rfl ?_
        refine ix_K_inc (L2 := [some (.ref a0), some (.int 0), some (.int (x2 + 1))]) kq_Mo_canFall i_Mo_canFall_47 rfl rfl (Nat.le_of_ble_eq_true rfl) kci_1 rfl ?_
        refine ix_K_goto (tgt := 4) kq_Mo_canFall i_Mo_canFall_50 rfl (by decide) ?_
        exact ix_D_cut i_Mo_canFall_4 rfl
      · refine ix_K_ci kq_Mo_canFall i_Mo_canFall_41 rfl kci_1 ?_
        refine ix_K_goto (tgt := 46) kq_Mo_canFall i_Mo_canFall_42 rfl (by decide) ?_
        refine ix_K_si (L2 := [some (.ref a0), some (.int 1), some (.int x2)]) kq_Mo_canFall i_Mo_canFall_46 rfl (Or.inr ⟨_, rfl, rfl⟩) (Nat.le_of_ble_eq_true rfl) rfl ?_
        refine ix_K_inc (L2 := [some (.ref a0), some (.int 1), some (.int (x2 + 1))]) kq_Mo_canFall i_Mo_canFall_47 rfl rfl (Nat.le_of_ble_eq_true rfl) kci_1 rfl ?_
        refine ix_K_goto (tgt := 4) kq_Mo_canFall i_Mo_canFall_50 rfl (by decide) ?_
        exact ix_D_cut i_Mo_canFall_4 rfl
    · refine ix_K_ci kq_Mo_canFall i_Mo_canFall_45 rfl kci_0 ?_
      refine ix_K_si (L2 := [some (.ref a0), some (.int 0), some (.int x2)]) kq_Mo_canFall i_Mo_canFall_46 rfl (Or.inr ⟨_, rfl, rfl⟩) (Nat.le_of_ble_eq_true rfl) rfl ?_
      refine ix_K_inc (L2 := [some (.ref a0), some (.int 0), some (.int (x2 + 1))]) kq_Mo_canFall i_Mo_canFall_47 rfl rfl (Nat.le_of_ble_eq_true rfl) kci_1 rfl ?_
      refine ix_K_goto (tgt := 4) kq_Mo_canFall i_Mo_canFall_50 rfl (by decide) ?_
      exact ix_D_cut i_Mo_canFall_4 rfl
set_option maxRecDepth 20000 in
set_option maxHeartbeats 1000000 in
theorem e_Mo_canFall (a0 : Nat) (h : ixH) : ix_D mMo_canFall 0 [some (.ref a0), none, none] [] h = l_Mo_canFall_4 a0 true 0 h := by
  refine ix_K_ci kq_Mo_canFall i_Mo_canFall_0 rfl kci_1 ?_
  refine ix_K_si (L2 := [some (.ref a0), some (.int 1), none]) kq_Mo_canFall i_Mo_canFall_1 rfl (Or.inr ⟨_, rfl, rfl⟩) (Nat.le_of_ble_eq_true rfl) rfl ?_
  refine ix_K_ci kq_Mo_canFall i_Mo_canFall_2 rfl kci_0 ?_
  refine ix_K_si (L2 := [some (.ref a0), some (.int 1), some (.int 0)]) kq_Mo_canFall i_Mo_canFall_3 rfl (Or.inr ⟨_, rfl, rfl⟩) (Nat.le_of_ble_eq_true rfl) rfl ?_
  exact ix_D_cut i_Mo_canFall_4 rfl
theorem x_Mo_canFall {a0 : Nat} {h h1 : ixH} {v : Bool} (hr : ix_rc h a0 = some 11) (hd : ix_D mMo_canFall 0 [some (.ref a0), none, none] [] h = some ([.int (ix_bi v)], h1)) : ix_M mMo_canFall [.ref a0] h = some ([.int (ix_bi v)], h1) := ix_M_of (ix_ent_i kq_Mo_canFall rfl hr rfl (Nat.le_of_ble_eq_true rfl) rfl) hd (ix_okrZ rfl v)
theorem i_Mo_start_0 : ix_nx mMo_start 0 = some (0, .aload_n 0, 1, none, [], 0) := rfl
theorem i_Mo_start_1 : ix_nx mMo_start 1 = some (1, .getfield 7, 4, none, [11, 0, 2, 90], 0) := rfl
theorem i_Mo_start_4 : ix_nx mMo_start 4 = some (0, .sipush 387, 7, none, [], 0) := rfl
theorem i_Mo_start_7 : ix_nx mMo_start 7 = some (0, .iconst 2, 8, none, [], 0) := rfl
theorem i_Mo_start_8 : ix_nx mMo_start 8 = some (0, .iload_n 1, 9, none, [], 0) := rfl
theorem i_Mo_start_9 : ix_nx mMo_start 9 = some (0, .imul, 10, none, [], 0) := rfl
theorem i_Mo_start_10 : ix_nx mMo_start 10 = some (0, .iadd, 11, none, [], 0) := rfl
theorem i_Mo_start_11 : ix_nx mMo_start 11 = some (1, .iaload, 12, none, [], 0) := rfl
theorem i_Mo_start_12 : ix_nx mMo_start 12 = some (4, .ireturn, 13, none, [], 0) := rfl
set_option maxRecDepth 20000 in
set_option maxHeartbeats 1000000 in
theorem e_Mo_start (a0 : Nat) (x1 : Int32) (h : ixH) : ix_D mMo_start 0 [some (.ref a0), some (.int x1)] [] h = (ix_gr h a0 11 0).bind fun v1 => (ix_ai h v1 (387 + (2 * x1))).bind fun v2 => some ([.int v2], h) := by
  refine ix_K_px kq_Mo_start i_Mo_start_0 rfl rfl ?_
  refine ix_K_gr kq_Mo_start i_Mo_start_1 rfl (fun v1 => ?_)
  refine ix_K_cs kq_Mo_start i_Mo_start_4 rfl kcs_387 ?_
  refine ix_K_ci kq_Mo_start i_Mo_start_7 rfl kci_2 ?_
  refine ix_K_px kq_Mo_start i_Mo_start_8 rfl rfl ?_
  refine ix_K_px kq_Mo_start i_Mo_start_9 rfl rfl ?_
  refine ix_K_px kq_Mo_start i_Mo_start_10 rfl rfl ?_
  refine ix_K_ai kq_Mo_start i_Mo_start_11 rfl (fun v2 => ?_)
  exact ix_D_ret kq_Mo_start i_Mo_start_12 (ix_rtI rfl _)
theorem x_Mo_start {a0 : Nat} {x1 : Int32} {h h1 : ixH} {v : Int32} (hr : ix_rc h a0 = some 11) (hd : ix_D mMo_start 0 [some (.ref a0), some (.int x1)] [] h = some ([.int v], h1)) : ix_M mMo_start [.ref a0, .int x1] h = some ([.int v], h1) := ix_M_of (ix_ent_i kq_Mo_start rfl hr rfl (Nat.le_of_ble_eq_true rfl) rfl) hd (ix_okrI (Or.inl rfl) v)
theorem i_Mo_diagonal_0 : ix_nx mMo_diagonal 0 = some (0, .aload_n 0, 1, none, [], 0) := rfl
theorem i_Mo_diagonal_1 : ix_nx mMo_diagonal 1 = some (0, .iload_n 1, 2, none, [], 0) := rfl
theorem i_Mo_diagonal_2 : ix_nx mMo_diagonal 2 = some (3, .invokevirtual 106, 5, none, [0, 161, 182], 0) := rfl
theorem i_Mo_diagonal_5 : ix_nx mMo_diagonal 5 = some (0, .aload_n 0, 6, none, [], 0) := rfl
theorem i_Mo_diagonal_6 : ix_nx mMo_diagonal 6 = some (0, .iload_n 1, 7, none, [], 0) := rfl
theorem i_Mo_diagonal_7 : ix_nx mMo_diagonal 7 = some (3, .invokevirtual 110, 10, none, [0, 162, 183], 0) := rfl
theorem i_Mo_diagonal_10 : ix_nx mMo_diagonal 10 = some (0, .iadd, 11, none, [], 0) := rfl
theorem i_Mo_diagonal_11 : ix_nx mMo_diagonal 11 = some (4, .ireturn, 12, none, [], 0) := rfl
set_option maxRecDepth 20000 in
set_option maxHeartbeats 1000000 in
theorem e_Mo_diagonal (a0 : Nat) (x1 : Int32) (h : ixH) : ix_D mMo_diagonal 0 [some (.ref a0), some (.int x1)] [] h = (ix_M mMo_x [.ref a0, .int x1] h).bind fun r => ix_kI r fun v2 h1 => (ix_M mMo_y [.ref a0, .int x1] h1).bind fun r => ix_kI r fun v4 h3 => some ([.int (v2 + v4)], h3) := by
  refine ix_K_px kq_Mo_diagonal i_Mo_diagonal_0 rfl rfl ?_
  refine ix_K_px kq_Mo_diagonal i_Mo_diagonal_1 rfl rfl ?_
  refine ix_K_callI (as := [.ref a0, .int x1]) (rest := []) kq_Mo_diagonal i_Mo_diagonal_2 rfl kq_Mo_x (by decide) rfl (Or.inl rfl) (fun v2 h1 => ?_)
  refine ix_K_px kq_Mo_diagonal i_Mo_diagonal_5 rfl rfl ?_
  refine ix_K_px kq_Mo_diagonal i_Mo_diagonal_6 rfl rfl ?_
  refine ix_K_callI (as := [.ref a0, .int x1]) (rest := [.int v2]) kq_Mo_diagonal i_Mo_diagonal_7 rfl kq_Mo_y (by decide) rfl (Or.inl rfl) (fun v4 h3 => ?_)
  refine ix_K_px kq_Mo_diagonal i_Mo_diagonal_10 rfl rfl ?_
  exact ix_D_ret kq_Mo_diagonal i_Mo_diagonal_11 (ix_rtI rfl _)
theorem x_Mo_diagonal {a0 : Nat} {x1 : Int32} {h h1 : ixH} {v : Int32} (hr : ix_rc h a0 = some 11) (hd : ix_D mMo_diagonal 0 [some (.ref a0), some (.int x1)] [] h = some ([.int v], h1)) : ix_M mMo_diagonal [.ref a0, .int x1] h = some ([.int v], h1) := ix_M_of (ix_ent_i kq_Mo_diagonal rfl hr rfl (Nat.le_of_ble_eq_true rfl) rfl) hd (ix_okrI (Or.inl rfl) v)
theorem i_Mo_end_0 : ix_nx mMo_end 0 = some (0, .aload_n 0, 1, none, [], 0) := rfl
theorem i_Mo_end_1 : ix_nx mMo_end 1 = some (1, .getfield 7, 4, none, [11, 0, 2, 90], 0) := rfl
theorem i_Mo_end_4 : ix_nx mMo_end 4 = some (0, .sipush 387, 7, none, [], 0) := rfl
theorem i_Mo_end_7 : ix_nx mMo_end 7 = some (0, .iconst 2, 8, none, [], 0) := rfl
theorem i_Mo_end_8 : ix_nx mMo_end 8 = some (0, .iload_n 1, 9, none, [], 0) := rfl
theorem i_Mo_end_9 : ix_nx mMo_end 9 = some (0, .imul, 10, none, [], 0) := rfl
theorem i_Mo_end_10 : ix_nx mMo_end 10 = some (0, .iadd, 11, none, [], 0) := rfl
theorem i_Mo_end_11 : ix_nx mMo_end 11 = some (0, .iconst 1, 12, none, [], 0) := rfl
theorem i_Mo_end_12 : ix_nx mMo_end 12 = some (0, .iadd, 13, none, [], 0) := rfl
theorem i_Mo_end_13 : ix_nx mMo_end 13 = some (1, .iaload, 14, none, [], 0) := rfl
theorem i_Mo_end_14 : ix_nx mMo_end 14 = some (4, .ireturn, 15, none, [], 0) := rfl
set_option maxRecDepth 20000 in
set_option maxHeartbeats 1000000 in
theorem e_Mo_end (a0 : Nat) (x1 : Int32) (h : ixH) : ix_D mMo_end 0 [some (.ref a0), some (.int x1)] [] h = (ix_gr h a0 11 0).bind fun v1 => (ix_ai h v1 ((387 + (2 * x1)) + 1)).bind fun v2 => some ([.int v2], h) := by
  refine ix_K_px kq_Mo_end i_Mo_end_0 rfl rfl ?_
  refine ix_K_gr kq_Mo_end i_Mo_end_1 rfl (fun v1 => ?_)
  refine ix_K_cs kq_Mo_end i_Mo_end_4 rfl kcs_387 ?_
  refine ix_K_ci kq_Mo_end i_Mo_end_7 rfl kci_2 ?_
  refine ix_K_px kq_Mo_end i_Mo_end_8 rfl rfl ?_
  refine ix_K_px kq_Mo_end i_Mo_end_9 rfl rfl ?_
  refine ix_K_px kq_Mo_end i_Mo_end_10 rfl rfl ?_
  refine ix_K_ci kq_Mo_end i_Mo_end_11 rfl kci_1 ?_
  refine ix_K_px kq_Mo_end i_Mo_end_12 rfl rfl ?_
  refine ix_K_ai kq_Mo_end i_Mo_end_13 rfl (fun v2 => ?_)
  exact ix_D_ret kq_Mo_end i_Mo_end_14 (ix_rtI rfl _)
theorem x_Mo_end {a0 : Nat} {x1 : Int32} {h h1 : ixH} {v : Int32} (hr : ix_rc h a0 = some 11) (hd : ix_D mMo_end 0 [some (.ref a0), some (.int x1)] [] h = some ([.int v], h1)) : ix_M mMo_end [.ref a0, .int x1] h = some ([.int v], h1) := ix_M_of (ix_ent_i kq_Mo_end rfl hr rfl (Nat.le_of_ble_eq_true rfl) rfl) hd (ix_okrI (Or.inl rfl) v)
theorem i_Mo_nextState_0 : ix_nx mMo_nextState 0 = some (0, .iconst 0, 1, none, [], 0) := rfl
theorem i_Mo_nextState_1 : ix_nx mMo_nextState 1 = some (0, .istore 4, 3, none, [], 0) := rfl
theorem i_Mo_nextState_3 : ix_nx mMo_nextState 3 = some (0, .iconst 0, 4, none, [], 0) := rfl
theorem i_Mo_nextState_4 : ix_nx mMo_nextState 4 = some (0, .istore 5, 6, none, [], 0) := rfl
theorem i_Mo_nextState_6 : ix_nx mMo_nextState 6 = some (0, .iconst 0, 7, none, [], 0) := rfl
theorem i_Mo_nextState_7 : ix_nx mMo_nextState 7 = some (0, .istore 6, 9, none, [], 0) := rfl
theorem i_Mo_nextState_9 : ix_nx mMo_nextState 9 = some (0, .iload 6, 11, some [true, true, true, true, true, true, true, false], [], 0) := rfl
theorem i_Mo_nextState_11 : ix_nx mMo_nextState 11 = some (0, .aload_n 0, 12, none, [], 0) := rfl
theorem i_Mo_nextState_12 : ix_nx mMo_nextState 12 = some (1, .getfield 7, 15, none, [11, 0, 2, 90], 0) := rfl
theorem i_Mo_nextState_15 : ix_nx mMo_nextState 15 = some (0, .sipush 386, 18, none, [], 0) := rfl
theorem i_Mo_nextState_18 : ix_nx mMo_nextState 18 = some (1, .iaload, 19, none, [], 0) := rfl
theorem i_Mo_nextState_19 : ix_nx mMo_nextState 19 = some (0, .if_icmp .ge 85, 22, none, [], 0) := rfl
theorem i_Mo_nextState_22 : ix_nx mMo_nextState 22 = some (0, .aload_n 0, 23, none, [], 0) := rfl
theorem i_Mo_nextState_23 : ix_nx mMo_nextState 23 = some (0, .iload 6, 25, none, [], 0) := rfl
theorem i_Mo_nextState_25 : ix_nx mMo_nextState 25 = some (0, .iload_n 1, 26, none, [], 0) := rfl
theorem i_Mo_nextState_26 : ix_nx mMo_nextState 26 = some (0, .iload 6, 28, none, [], 0) := rfl
theorem i_Mo_nextState_28 : ix_nx mMo_nextState 28 = some (3, .invokestatic 150, 31, none, [1, 171, 189], 0) := rfl
theorem i_Mo_nextState_31 : ix_nx mMo_nextState 31 = some (0, .iload_n 2, 32, none, [], 0) := rfl
theorem i_Mo_nextState_32 : ix_nx mMo_nextState 32 = some (0, .iload_n 3, 33, none, [], 0) := rfl
theorem i_Mo_nextState_33 : ix_nx mMo_nextState 33 = some (0, .iload 6, 35, none, [], 0) := rfl
theorem i_Mo_nextState_35 : ix_nx mMo_nextState 35 = some (0, .ishr, 36, none, [], 0) := rfl
theorem i_Mo_nextState_36 : ix_nx mMo_nextState 36 = some (0, .iconst 1, 37, none, [], 0) := rfl
theorem i_Mo_nextState_37 : ix_nx mMo_nextState 37 = some (0, .iand, 38, none, [], 0) := rfl
theorem i_Mo_nextState_38 : ix_nx mMo_nextState 38 = some (3, .invokevirtual 153, 41, none, [0, 173, 190], 0) := rfl
theorem i_Mo_nextState_41 : ix_nx mMo_nextState 41 = some (0, .istore 7, 43, none, [], 0) := rfl
theorem i_Mo_nextState_43 : ix_nx mMo_nextState 43 = some (0, .iload 7, 45, none, [], 0) := rfl
theorem i_Mo_nextState_45 : ix_nx mMo_nextState 45 = some (0, .ifCond .lt 19, 48, none, [], 0) := rfl
theorem i_Mo_nextState_48 : ix_nx mMo_nextState 48 = some (0, .iload 7, 50, none, [], 0) := rfl
theorem i_Mo_nextState_50 : ix_nx mMo_nextState 50 = some (0, .ifCond .le 17, 53, none, [], 0) := rfl
theorem i_Mo_nextState_53 : ix_nx mMo_nextState 53 = some (0, .iload 5, 55, none, [], 0) := rfl
theorem i_Mo_nextState_55 : ix_nx mMo_nextState 55 = some (0, .iload 7, 57, none, [], 0) := rfl
theorem i_Mo_nextState_57 : ix_nx mMo_nextState 57 = some (0, .ishr, 58, none, [], 0) := rfl
theorem i_Mo_nextState_58 : ix_nx mMo_nextState 58 = some (0, .iconst 1, 59, none, [], 0) := rfl
theorem i_Mo_nextState_59 : ix_nx mMo_nextState 59 = some (0, .iand, 60, none, [], 0) := rfl
theorem i_Mo_nextState_60 : ix_nx mMo_nextState 60 = some (0, .iconst 1, 61, none, [], 0) := rfl
theorem i_Mo_nextState_61 : ix_nx mMo_nextState 61 = some (0, .if_icmp .ne 6, 64, none, [], 0) := rfl
theorem i_Mo_nextState_64 : ix_nx mMo_nextState 64 = some (0, .bipush (-6), 66, none, [], 0) := rfl
theorem i_Mo_nextState_66 : ix_nx mMo_nextState 66 = some (4, .ireturn, 67, none, [], 0) := rfl
theorem i_Mo_nextState_67 : ix_nx mMo_nextState 67 = some (0, .iload 5, 69, some [true, true, true, true, true, true, true, true], [], 0) := rfl
theorem i_Mo_nextState_69 : ix_nx mMo_nextState 69 = some (0, .iload 7, 71, none, [], 0) := rfl
theorem i_Mo_nextState_71 : ix_nx mMo_nextState 71 = some (0, .ifCond .le 10, 74, none, [], 0) := rfl
theorem i_Mo_nextState_74 : ix_nx mMo_nextState 74 = some (0, .iconst 1, 75, none, [], 0) := rfl
theorem i_Mo_nextState_75 : ix_nx mMo_nextState 75 = some (0, .iload 7, 77, none, [], 0) := rfl
theorem i_Mo_nextState_77 : ix_nx mMo_nextState 77 = some (0, .ishl, 78, none, [], 0) := rfl
theorem i_Mo_nextState_78 : ix_nx mMo_nextState 78 = some (0, .goto 4, 81, none, [], 0) := rfl
theorem i_Mo_nextState_81 : ix_nx mMo_nextState 81 = some (0, .iconst 0, 82, none, [], 0) := rfl
theorem i_Mo_nextState_82 : ix_nx mMo_nextState 82 = some (0, .ior, 83, none, [], 0) := rfl
theorem i_Mo_nextState_83 : ix_nx mMo_nextState 83 = some (0, .istore 5, 85, none, [], 0) := rfl
theorem i_Mo_nextState_85 : ix_nx mMo_nextState 85 = some (0, .iload 4, 87, none, [], 0) := rfl
theorem i_Mo_nextState_87 : ix_nx mMo_nextState 87 = some (0, .iload 7, 89, none, [], 0) := rfl
theorem i_Mo_nextState_89 : ix_nx mMo_nextState 89 = some (0, .iload 6, 91, none, [], 0) := rfl
theorem i_Mo_nextState_91 : ix_nx mMo_nextState 91 = some (3, .invokestatic 135, 94, none, [1, 172, 191], 0) := rfl
theorem i_Mo_nextState_94 : ix_nx mMo_nextState 94 = some (0, .imul, 95, none, [], 0) := rfl
theorem i_Mo_nextState_95 : ix_nx mMo_nextState 95 = some (0, .iadd, 96, none, [], 0) := rfl
theorem i_Mo_nextState_96 : ix_nx mMo_nextState 96 = some (0, .istore 4, 98, none, [], 0) := rfl
theorem i_Mo_nextState_98 : ix_nx mMo_nextState 98 = some (0, .iinc 6 1, 101, none, [], 0) := rfl
theorem i_Mo_nextState_101 : ix_nx mMo_nextState 101 = some (0, .goto (-92), 104, none, [], 0) := rfl
theorem i_Mo_nextState_104 : ix_nx mMo_nextState 104 = some (0, .iload 4, 106, none, [], 0) := rfl
theorem i_Mo_nextState_106 : ix_nx mMo_nextState 106 = some (4, .ireturn, 107, none, [], 0) := rfl
noncomputable def l_Mo_nextState_9 (a0 : Nat) (x1 : Int32) (x2 : Int32) (x3 : Int32) (x4 : Int32) (x5 : Int32) (x6 : Int32) (h : ixH) : Option (List Value × ixH) := ix_D mMo_nextState 9 [some (.ref a0), some (.int x1), some (.int x2), some (.int x3), some (.int x4), some (.int x5), some (.int x6), none] [] h
noncomputable def l_Mo_nextState_67 (a0 : Nat) (x1 : Int32) (x2 : Int32) (x3 : Int32) (x4 : Int32) (x5 : Int32) (x6 : Int32) (x7 : Int32) (h : ixH) : Option (List Value × ixH) := ix_D mMo_nextState 67 [some (.ref a0), some (.int x1), some (.int x2), some (.int x3), some (.int x4), some (.int x5), some (.int x6), some (.int x7)] [] h
set_option maxRecDepth 20000 in
set_option maxHeartbeats 1000000 in
theorem e_Mo_nextState_9 (a0 : Nat) (x1 : Int32) (x2 : Int32) (x3 : Int32) (x4 : Int32) (x5 : Int32) (x6 : Int32) (h : ixH) : l_Mo_nextState_9 a0 x1 x2 x3 x4 x5 x6 h = (ix_gr h a0 11 0).bind fun v1 => (ix_ai h v1 386).bind fun v2 => if v2 ≤ x6 then some ([.int x4], h) else (ix_M mMo_placeIn [.int x1, .int x6] h).bind fun r => ix_kI r fun v4 h3 => (ix_M mMo_goesTo [.ref a0, .int x6, .int v4, .int x2, .int ((ix_ishr x3 x6) &&& 1)] h3).bind fun r => ix_kI r fun v6 h5 => if v6 < 0 then some ([.int (-6)], h5) else if v6 ≤ 0 then l_Mo_nextState_67 a0 x1 x2 x3 x4 x5 x6 v6 h5 else if ¬ ((ix_ishr x5 v6) &&& 1) = 1 then l_Mo_nextState_67 a0 x1 x2 x3 x4 x5 x6 v6 h5 else some ([.int (-6)], h5) := by
  unfold l_Mo_nextState_9
  refine ix_K_px kq_Mo_nextState i_Mo_nextState_9 rfl rfl ?_
  refine ix_K_px kq_Mo_nextState i_Mo_nextState_11 rfl rfl ?_
  refine ix_K_gr kq_Mo_nextState i_Mo_nextState_12 rfl (fun v1 => ?_)
  refine ix_K_cs kq_Mo_nextState i_Mo_nextState_15 rfl kcs_386 ?_
  refine ix_K_ai kq_Mo_nextState i_Mo_nextState_18 rfl (fun v2 => ?_)
  refine ix_K_ic_ge (tgt := 104) kq_Mo_nextState i_Mo_nextState_19 rfl (by decide) ?_ ?_
  · refine ix_K_px kq_Mo_nextState i_Mo_nextState_104 rfl rfl ?_
    exact ix_D_ret kq_Mo_nextState i_Mo_nextState_106 (ix_rtI rfl _)
  · refine ix_K_px kq_Mo_nextState i_Mo_nextState_22 rfl rfl ?_
    refine ix_K_px kq_Mo_nextState i_Mo_nextState_23 rfl rfl ?_
    refine ix_K_px kq_Mo_nextState i_Mo_nextState_25 rfl rfl ?_
    refine ix_K_px kq_Mo_nextState i_Mo_nextState_26 rfl rfl ?_
    refine ix_K_callI (as := [.int x1, .int x6]) (rest := [.int x6, .ref a0]) kq_Mo_nextState i_Mo_nextState_28 rfl kq_Mo_placeIn (by decide) rfl (Or.inl rfl) (fun v4 h3 => ?_)
    refine ix_K_px kq_Mo_nextState i_Mo_nextState_31 rfl rfl ?_
    refine ix_K_px kq_Mo_nextState i_Mo_nextState_32 rfl rfl ?_
    refine ix_K_px kq_Mo_nextState i_Mo_nextState_33 rfl rfl ?_
    refine ix_K_px kq_Mo_nextState i_Mo_nextState_35 rfl rfl ?_
    refine ix_K_ci kq_Mo_nextState i_Mo_nextState_36 rfl kci_1 ?_
    refine ix_K_px kq_Mo_nextState i_Mo_nextState_37 rfl rfl ?_
    refine ix_K_callI (as := [.ref a0, .int x6, .int v4, .int x2, .int ((ix_ishr x3 x6) &&& 1)]) (rest := []) kq_Mo_nextState i_Mo_nextState_38 rfl kq_Mo_goesTo (by decide) rfl (Or.inl rfl) (fun v6 h5 => ?_)
    refine ix_K_si (L2 := [some (.ref a0), some (.int x1), some (.int x2), some (.int x3), some (.int x4), some (.int x5), some (.int x6), some (.int v6)]) kq_Mo_nextState i_Mo_nextState_41 rfl (Or.inl rfl) (Nat.le_of_ble_eq_true rfl) rfl ?_
    refine ix_K_px kq_Mo_nextState i_Mo_nextState_43 rfl rfl ?_
    refine ix_K_if_lt (tgt := 64) kq_Mo_nextState i_Mo_nextState_45 rfl (by decide) ?_ ?_
    · refine ix_K_cb kq_Mo_nextState i_Mo_nextState_64 rfl kcb_m6 ?_
      exact ix_D_ret kq_Mo_nextState i_Mo_nextState_66 (ix_rtI rfl _)
    · refine ix_K_px kq_Mo_nextState i_Mo_nextState_48 rfl rfl ?_
      refine ix_K_if_le (tgt := 67) kq_Mo_nextState i_Mo_nextState_50 rfl (by decide) ?_ ?_
      · exact ix_D_cut i_Mo_nextState_67 rfl
      · refine ix_K_px kq_Mo_nextState i_Mo_nextState_53 rfl rfl ?_
        refine ix_K_px kq_Mo_nextState i_Mo_nextState_55 rfl rfl ?_
        refine ix_K_px kq_Mo_nextState i_Mo_nextState_57 rfl rfl ?_
        refine ix_K_ci kq_Mo_nextState i_Mo_nextState_58 rfl kci_1 ?_
        refine ix_K_px kq_Mo_nextState i_Mo_nextState_59 rfl rfl ?_
        refine ix_K_ci kq_Mo_nextState i_Mo_nextState_60 rfl kci_1 ?_
        refine ix_K_ic_ne (tgt := 67) kq_Mo_nextState i_Mo_nextState_61 rfl (by decide) ?_ ?_
        · exact ix_D_cut i_Mo_nextState_67 rfl
        · refine ix_K_cb kq_Mo_nextState i_Mo_nextState_64 rfl kcb_m6 ?_
          exact ix_D_ret kq_Mo_nextState i_Mo_nextState_66 (ix_rtI rfl _)
set_option maxRecDepth 20000 in
set_option maxHeartbeats 1000000 in
theorem e_Mo_nextState_67 (a0 : Nat) (x1 : Int32) (x2 : Int32) (x3 : Int32) (x4 : Int32) (x5 : Int32) (x6 : Int32) (x7 : Int32) (h : ixH) : l_Mo_nextState_67 a0 x1 x2 x3 x4 x5 x6 x7 h = if x7 ≤ 0 then (ix_M mMo_unit [.int x6] h).bind fun r => ix_kI r fun v2 h1 => l_Mo_nextState_9 a0 x1 x2 x3 (x4 + (x7 * v2)) (x5 ||| 0) (x6 + 1) h1 else (ix_M mMo_unit [.int x6] h).bind fun r => ix_kI r fun v4 h3 => l_Mo_nextState_9 a0 x1 x2 x3 (x4 + (x7 * v4)) (x5 ||| (ix_ishl 1 x7)) (x6 + 1) h3 := by
  unfold l_Mo_nextState_67
  refine ix_K_px kq_Mo_nextState i_Mo_nextState_67 rfl rfl ?_
  refine ix_K_px kq_Mo_nextState i_Mo_nextState_69 rfl rfl ?_
  refine ix_K_if_le (tgt := 81) kq_Mo_nextState i_Mo_nextState_71 rfl (by decide) ?_ ?_
  · refine ix_K_ci kq_Mo_nextState i_Mo_nextState_81 rfl kci_0 ?_
    refine ix_K_px kq_Mo_nextState i_Mo_nextState_82 rfl rfl ?_
    refine ix_K_si (L2 := [some (.ref a0), some (.int x1), some (.int x2), some (.int x3), some (.int x4), some (.int (x5 ||| 0)), some (.int x6), some (.int x7)]) kq_Mo_nextState i_Mo_nextState_83 rfl (Or.inl rfl) (Nat.le_of_ble_eq_true rfl) rfl ?_
    refine ix_K_px kq_Mo_nextState i_Mo_nextState_85 rfl rfl ?_
    refine ix_K_px kq_Mo_nextState i_Mo_nextState_87 rfl rfl ?_
    refine ix_K_px kq_Mo_nextState i_Mo_nextState_89 rfl rfl ?_
    refine ix_K_callI (as := [.int x6]) (rest := [.int x7, .int x4]) kq_Mo_nextState i_Mo_nextState_91 rfl kq_Mo_unit (by decide) rfl (Or.inl rfl) (fun v2 h1 => ?_)
    refine ix_K_px kq_Mo_nextState i_Mo_nextState_94 rfl rfl ?_
    refine ix_K_px kq_Mo_nextState i_Mo_nextState_95 rfl rfl ?_
    refine ix_K_si (L2 := [some (.ref a0), some (.int x1), some (.int x2), some (.int x3), some (.int (x4 + (x7 * v2))), some (.int (x5 ||| 0)), some (.int x6), some (.int x7)]) kq_Mo_nextState i_Mo_nextState_96 rfl (Or.inl rfl) (Nat.le_of_ble_eq_true rfl) rfl ?_
    refine ix_K_inc (L2 := [some (.ref a0), some (.int x1), some (.int x2), some (.int x3), some (.int (x4 + (x7 * v2))), some (.int (x5 ||| 0)), some (.int (x6 + 1)), some (.int x7)]) kq_Mo_nextState i_Mo_nextState_98 rfl rfl (Nat.le_of_ble_eq_true rfl) kci_1 rfl ?_
    refine ix_K_goto (tgt := 9) kq_Mo_nextState i_Mo_nextState_101 rfl (by decide) ?_
    exact ix_D_cut i_Mo_nextState_9 rfl
  · refine ix_K_ci kq_Mo_nextState i_Mo_nextState_74 rfl kci_1 ?_
    refine ix_K_px kq_Mo_nextState i_Mo_nextState_75 rfl rfl ?_
    refine ix_K_px kq_Mo_nextState i_Mo_nextState_77 rfl rfl ?_
    refine ix_K_goto (tgt := 82) kq_Mo_nextState i_Mo_nextState_78 rfl (by decide) ?_
    refine ix_K_px kq_Mo_nextState i_Mo_nextState_82 rfl rfl ?_
    refine ix_K_si (L2 := [some (.ref a0), some (.int x1), some (.int x2), some (.int x3), some (.int x4), some (.int (x5 ||| (ix_ishl 1 x7))), some (.int x6), some (.int x7)]) kq_Mo_nextState i_Mo_nextState_83 rfl (Or.inl rfl) (Nat.le_of_ble_eq_true rfl) rfl ?_
    refine ix_K_px kq_Mo_nextState i_Mo_nextState_85 rfl rfl ?_
    refine ix_K_px kq_Mo_nextState i_Mo_nextState_87 rfl rfl ?_
    refine ix_K_px kq_Mo_nextState i_Mo_nextState_89 rfl rfl ?_
    refine ix_K_callI (as := [.int x6]) (rest := [.int x7, .int x4]) kq_Mo_nextState i_Mo_nextState_91 rfl kq_Mo_unit (by decide) rfl (Or.inl rfl) (fun v4 h3 => ?_)
    refine ix_K_px kq_Mo_nextState i_Mo_nextState_94 rfl rfl ?_
    refine ix_K_px kq_Mo_nextState i_Mo_nextState_95 rfl rfl ?_
    refine ix_K_si (L2 := [some (.ref a0), some (.int x1), some (.int x2), some (.int x3), some (.int (x4 + (x7 * v4))), some (.int (x5 ||| (ix_ishl 1 x7))), some (.int x6), some (.int x7)]) kq_Mo_nextState i_Mo_nextState_96 rfl (Or.inl rfl) (Nat.le_of_ble_eq_true rfl) rfl ?_
    refine ix_K_inc (L2 := [some (.ref a0), some (.int x1), some (.int x2), some (.int x3), some (.int (x4 + (x7 * v4))), some (.int (x5 ||| (ix_ishl 1 x7))), some (.int (x6 + 1)), some (.int x7)]) kq_Mo_nextState i_Mo_nextState_98 rfl rfl (Nat.le_of_ble_eq_true rfl) kci_1 rfl ?_
    refine ix_K_goto (tgt := 9) kq_Mo_nextState i_Mo_nextState_101 rfl (by decide) ?_
    exact ix_D_cut i_Mo_nextState_9 rfl
set_option maxRecDepth 20000 in
set_option maxHeartbeats 1000000 in
theorem e_Mo_nextState (a0 : Nat) (x1 : Int32) (x2 : Int32) (x3 : Int32) (h : ixH) : ix_D mMo_nextState 0 [some (.ref a0), some (.int x1), some (.int x2), some (.int x3), none, none, none, none] [] h = l_Mo_nextState_9 a0 x1 x2 x3 0 0 0 h := by
  refine ix_K_ci kq_Mo_nextState i_Mo_nextState_0 rfl kci_0 ?_
  refine ix_K_si (L2 := [some (.ref a0), some (.int x1), some (.int x2), some (.int x3), some (.int 0), none, none, none]) kq_Mo_nextState i_Mo_nextState_1 rfl (Or.inl rfl) (Nat.le_of_ble_eq_true rfl) rfl ?_
  refine ix_K_ci kq_Mo_nextState i_Mo_nextState_3 rfl kci_0 ?_
  refine ix_K_si (L2 := [some (.ref a0), some (.int x1), some (.int x2), some (.int x3), some (.int 0), some (.int 0), none, none]) kq_Mo_nextState i_Mo_nextState_4 rfl (Or.inl rfl) (Nat.le_of_ble_eq_true rfl) rfl ?_
  refine ix_K_ci kq_Mo_nextState i_Mo_nextState_6 rfl kci_0 ?_
  refine ix_K_si (L2 := [some (.ref a0), some (.int x1), some (.int x2), some (.int x3), some (.int 0), some (.int 0), some (.int 0), none]) kq_Mo_nextState i_Mo_nextState_7 rfl (Or.inl rfl) (Nat.le_of_ble_eq_true rfl) rfl ?_
  exact ix_D_cut i_Mo_nextState_9 rfl
theorem x_Mo_nextState {a0 : Nat} {x1 : Int32} {x2 : Int32} {x3 : Int32} {h h1 : ixH} {v : Int32} (hr : ix_rc h a0 = some 11) (hd : ix_D mMo_nextState 0 [some (.ref a0), some (.int x1), some (.int x2), some (.int x3), none, none, none, none] [] h = some ([.int v], h1)) : ix_M mMo_nextState [.ref a0, .int x1, .int x2, .int x3] h = some ([.int v], h1) := ix_M_of (ix_ent_i kq_Mo_nextState rfl hr rfl (Nat.le_of_ble_eq_true rfl) rfl) hd (ix_okrI (Or.inl rfl) v)
theorem i_Mo_placeIn_0 : ix_nx mMo_placeIn 0 = some (0, .iload_n 0, 1, none, [], 0) := rfl
theorem i_Mo_placeIn_1 : ix_nx mMo_placeIn 1 = some (0, .iload_n 1, 2, none, [], 0) := rfl
theorem i_Mo_placeIn_2 : ix_nx mMo_placeIn 2 = some (3, .invokestatic 135, 5, none, [1, 172, 191], 0) := rfl
theorem i_Mo_placeIn_5 : ix_nx mMo_placeIn 5 = some (0, .idiv, 6, none, [], 0) := rfl
theorem i_Mo_placeIn_6 : ix_nx mMo_placeIn 6 = some (0, .bipush 9, 8, none, [], 0) := rfl
theorem i_Mo_placeIn_8 : ix_nx mMo_placeIn 8 = some (0, .irem, 9, none, [], 0) := rfl
theorem i_Mo_placeIn_9 : ix_nx mMo_placeIn 9 = some (4, .ireturn, 10, none, [], 0) := rfl
set_option maxRecDepth 20000 in
set_option maxHeartbeats 1000000 in
theorem e_Mo_placeIn (x0 : Int32) (x1 : Int32) (h : ixH) : ix_D mMo_placeIn 0 [some (.int x0), some (.int x1)] [] h = (ix_M mMo_unit [.int x1] h).bind fun r => ix_kI r fun v2 h1 => if v2 = 0 then none else if 9 = 0 then none else some ([.int (ix_rem (x0 / v2) 9)], h1) := by
  refine ix_K_px kq_Mo_placeIn i_Mo_placeIn_0 rfl rfl ?_
  refine ix_K_px kq_Mo_placeIn i_Mo_placeIn_1 rfl rfl ?_
  refine ix_K_callI (as := [.int x1]) (rest := [.int x0]) kq_Mo_placeIn i_Mo_placeIn_2 rfl kq_Mo_unit (by decide) rfl (Or.inl rfl) (fun v2 h1 => ?_)
  refine ix_K_div kq_Mo_placeIn i_Mo_placeIn_5 rfl ?_
  refine ix_K_cb kq_Mo_placeIn i_Mo_placeIn_6 rfl kcb_9 ?_
  refine ix_K_rem kq_Mo_placeIn i_Mo_placeIn_8 rfl ?_
  exact ix_D_ret kq_Mo_placeIn i_Mo_placeIn_9 (ix_rtI rfl _)
theorem x_Mo_placeIn {x0 : Int32} {x1 : Int32} {h h1 : ixH} {v : Int32} (hd : ix_D mMo_placeIn 0 [some (.int x0), some (.int x1)] [] h = some ([.int v], h1)) : ix_M mMo_placeIn [.int x0, .int x1] h = some ([.int v], h1) := ix_M_of (ix_ent_s kq_Mo_placeIn rfl rfl (Nat.le_of_ble_eq_true rfl) rfl) hd (ix_okrI (Or.inl rfl) v)
theorem i_Mo_unit_0 : ix_nx mMo_unit 0 = some (0, .iload_n 0, 1, none, [], 0) := rfl
theorem i_Mo_unit_1 : ix_nx mMo_unit 1 = some (0, .ifCond .ne 7, 4, none, [], 0) := rfl
theorem i_Mo_unit_4 : ix_nx mMo_unit 4 = some (0, .iconst 1, 5, none, [], 0) := rfl
theorem i_Mo_unit_5 : ix_nx mMo_unit 5 = some (0, .goto 26, 8, none, [], 0) := rfl
theorem i_Mo_unit_8 : ix_nx mMo_unit 8 = some (0, .iload_n 0, 9, none, [], 0) := rfl
theorem i_Mo_unit_9 : ix_nx mMo_unit 9 = some (0, .iconst 1, 10, none, [], 0) := rfl
theorem i_Mo_unit_10 : ix_nx mMo_unit 10 = some (0, .if_icmp .ne 8, 13, none, [], 0) := rfl
theorem i_Mo_unit_13 : ix_nx mMo_unit 13 = some (0, .bipush 9, 15, none, [], 0) := rfl
theorem i_Mo_unit_15 : ix_nx mMo_unit 15 = some (0, .goto 16, 18, none, [], 0) := rfl
theorem i_Mo_unit_18 : ix_nx mMo_unit 18 = some (0, .iload_n 0, 19, none, [], 0) := rfl
theorem i_Mo_unit_19 : ix_nx mMo_unit 19 = some (0, .iconst 2, 20, none, [], 0) := rfl
theorem i_Mo_unit_20 : ix_nx mMo_unit 20 = some (0, .if_icmp .ne 8, 23, none, [], 0) := rfl
theorem i_Mo_unit_23 : ix_nx mMo_unit 23 = some (0, .bipush 81, 25, none, [], 0) := rfl
theorem i_Mo_unit_25 : ix_nx mMo_unit 25 = some (0, .goto 6, 28, none, [], 0) := rfl
theorem i_Mo_unit_28 : ix_nx mMo_unit 28 = some (0, .sipush 729, 31, none, [], 0) := rfl
theorem i_Mo_unit_31 : ix_nx mMo_unit 31 = some (4, .ireturn, 32, none, [], 0) := rfl
set_option maxRecDepth 20000 in
set_option maxHeartbeats 1000000 in
theorem e_Mo_unit (x0 : Int32) (h : ixH) : ix_D mMo_unit 0 [some (.int x0)] [] h = if ¬ x0 = 0 then if ¬ x0 = 1 then if ¬ x0 = 2 then some ([.int 729], h) else some ([.int 81], h) else some ([.int 9], h) else some ([.int 1], h) := by
  refine ix_K_px kq_Mo_unit i_Mo_unit_0 rfl rfl ?_
  refine ix_K_if_ne (tgt := 8) kq_Mo_unit i_Mo_unit_1 rfl (by decide) ?_ ?_
  · refine ix_K_px kq_Mo_unit i_Mo_unit_8 rfl rfl ?_
    refine ix_K_ci kq_Mo_unit i_Mo_unit_9 rfl kci_1 ?_
    refine ix_K_ic_ne (tgt := 18) kq_Mo_unit i_Mo_unit_10 rfl (by decide) ?_ ?_
    · refine ix_K_px kq_Mo_unit i_Mo_unit_18 rfl rfl ?_
      refine ix_K_ci kq_Mo_unit i_Mo_unit_19 rfl kci_2 ?_
      refine ix_K_ic_ne (tgt := 28) kq_Mo_unit i_Mo_unit_20 rfl (by decide) ?_ ?_
      · refine ix_K_cs kq_Mo_unit i_Mo_unit_28 rfl kcs_729 ?_
        exact ix_D_ret kq_Mo_unit i_Mo_unit_31 (ix_rtI rfl _)
      · refine ix_K_cb kq_Mo_unit i_Mo_unit_23 rfl kcb_81 ?_
        refine ix_K_goto (tgt := 31) kq_Mo_unit i_Mo_unit_25 rfl (by decide) ?_
        exact ix_D_ret kq_Mo_unit i_Mo_unit_31 (ix_rtI rfl _)
    · refine ix_K_cb kq_Mo_unit i_Mo_unit_13 rfl kcb_9 ?_
      refine ix_K_goto (tgt := 31) kq_Mo_unit i_Mo_unit_15 rfl (by decide) ?_
      exact ix_D_ret kq_Mo_unit i_Mo_unit_31 (ix_rtI rfl _)
  · refine ix_K_ci kq_Mo_unit i_Mo_unit_4 rfl kci_1 ?_
    refine ix_K_goto (tgt := 31) kq_Mo_unit i_Mo_unit_5 rfl (by decide) ?_
    exact ix_D_ret kq_Mo_unit i_Mo_unit_31 (ix_rtI rfl _)
theorem x_Mo_unit {x0 : Int32} {h h1 : ixH} {v : Int32} (hd : ix_D mMo_unit 0 [some (.int x0)] [] h = some ([.int v], h1)) : ix_M mMo_unit [.int x0] h = some ([.int v], h1) := ix_M_of (ix_ent_s kq_Mo_unit rfl rfl (Nat.le_of_ble_eq_true rfl) rfl) hd (ix_okrI (Or.inl rfl) v)
theorem i_Mo_goesTo_0 : ix_nx mMo_goesTo 0 = some (0, .iload_n 3, 1, none, [], 0) := rfl
theorem i_Mo_goesTo_1 : ix_nx mMo_goesTo 1 = some (0, .aload_n 0, 2, none, [], 0) := rfl
theorem i_Mo_goesTo_2 : ix_nx mMo_goesTo 2 = some (0, .aload_n 0, 3, none, [], 0) := rfl
theorem i_Mo_goesTo_3 : ix_nx mMo_goesTo 3 = some (0, .iload_n 1, 4, none, [], 0) := rfl
theorem i_Mo_goesTo_4 : ix_nx mMo_goesTo 4 = some (3, .invokevirtual 144, 7, none, [0, 167, 186], 0) := rfl
theorem i_Mo_goesTo_7 : ix_nx mMo_goesTo 7 = some (3, .invokevirtual 141, 10, none, [0, 168, 187], 0) := rfl
theorem i_Mo_goesTo_10 : ix_nx mMo_goesTo 10 = some (0, .if_icmp .ne 43, 13, none, [], 0) := rfl
theorem i_Mo_goesTo_13 : ix_nx mMo_goesTo 13 = some (0, .iload 4, 15, none, [], 0) := rfl
theorem i_Mo_goesTo_15 : ix_nx mMo_goesTo 15 = some (0, .ifCond .ne 35, 18, none, [], 0) := rfl
theorem i_Mo_goesTo_18 : ix_nx mMo_goesTo 18 = some (0, .aload_n 0, 19, none, [], 0) := rfl
theorem i_Mo_goesTo_19 : ix_nx mMo_goesTo 19 = some (0, .iload_n 1, 20, none, [], 0) := rfl
theorem i_Mo_goesTo_20 : ix_nx mMo_goesTo 20 = some (0, .aload_n 0, 21, none, [], 0) := rfl
theorem i_Mo_goesTo_21 : ix_nx mMo_goesTo 21 = some (0, .aload_n 0, 22, none, [], 0) := rfl
theorem i_Mo_goesTo_22 : ix_nx mMo_goesTo 22 = some (0, .iload_n 1, 23, none, [], 0) := rfl
theorem i_Mo_goesTo_23 : ix_nx mMo_goesTo 23 = some (3, .invokevirtual 144, 26, none, [0, 167, 186], 0) := rfl
theorem i_Mo_goesTo_26 : ix_nx mMo_goesTo 26 = some (3, .invokevirtual 106, 29, none, [0, 161, 182], 0) := rfl
theorem i_Mo_goesTo_29 : ix_nx mMo_goesTo 29 = some (0, .iload_n 3, 30, none, [], 0) := rfl
theorem i_Mo_goesTo_30 : ix_nx mMo_goesTo 30 = some (3, .invokevirtual 147, 33, none, [0, 174, 192], 0) := rfl
theorem i_Mo_goesTo_33 : ix_nx mMo_goesTo 33 = some (0, .ifCond .eq 17, 36, none, [], 0) := rfl
theorem i_Mo_goesTo_36 : ix_nx mMo_goesTo 36 = some (0, .aload_n 0, 37, none, [], 0) := rfl
theorem i_Mo_goesTo_37 : ix_nx mMo_goesTo 37 = some (0, .aload_n 0, 38, none, [], 0) := rfl
theorem i_Mo_goesTo_38 : ix_nx mMo_goesTo 38 = some (0, .iload_n 1, 39, none, [], 0) := rfl
theorem i_Mo_goesTo_39 : ix_nx mMo_goesTo 39 = some (3, .invokevirtual 144, 42, none, [0, 167, 186], 0) := rfl
theorem i_Mo_goesTo_42 : ix_nx mMo_goesTo 42 = some (3, .invokevirtual 106, 45, none, [0, 161, 182], 0) := rfl
theorem i_Mo_goesTo_45 : ix_nx mMo_goesTo 45 = some (0, .iconst 1, 46, none, [], 0) := rfl
theorem i_Mo_goesTo_46 : ix_nx mMo_goesTo 46 = some (0, .iadd, 47, none, [], 0) := rfl
theorem i_Mo_goesTo_47 : ix_nx mMo_goesTo 47 = some (0, .goto 5, 50, none, [], 0) := rfl
theorem i_Mo_goesTo_50 : ix_nx mMo_goesTo 50 = some (0, .bipush (-6), 52, none, [], 0) := rfl
theorem i_Mo_goesTo_52 : ix_nx mMo_goesTo 52 = some (4, .ireturn, 53, none, [], 0) := rfl
theorem i_Mo_goesTo_53 : ix_nx mMo_goesTo 53 = some (0, .iload_n 3, 54, none, [], 0) := rfl
theorem i_Mo_goesTo_54 : ix_nx mMo_goesTo 54 = some (0, .aload_n 0, 55, none, [], 0) := rfl
theorem i_Mo_goesTo_55 : ix_nx mMo_goesTo 55 = some (0, .aload_n 0, 56, none, [], 0) := rfl
theorem i_Mo_goesTo_56 : ix_nx mMo_goesTo 56 = some (0, .iload_n 1, 57, none, [], 0) := rfl
theorem i_Mo_goesTo_57 : ix_nx mMo_goesTo 57 = some (3, .invokevirtual 144, 60, none, [0, 167, 186], 0) := rfl
theorem i_Mo_goesTo_60 : ix_nx mMo_goesTo 60 = some (3, .invokevirtual 141, 63, none, [0, 168, 187], 0) := rfl
theorem i_Mo_goesTo_63 : ix_nx mMo_goesTo 63 = some (0, .if_icmp .lt 16, 66, none, [], 0) := rfl
theorem i_Mo_goesTo_66 : ix_nx mMo_goesTo 66 = some (0, .iload_n 3, 67, none, [], 0) := rfl
theorem i_Mo_goesTo_67 : ix_nx mMo_goesTo 67 = some (0, .aload_n 0, 68, none, [], 0) := rfl
theorem i_Mo_goesTo_68 : ix_nx mMo_goesTo 68 = some (0, .aload_n 0, 69, none, [], 0) := rfl
theorem i_Mo_goesTo_69 : ix_nx mMo_goesTo 69 = some (0, .iload_n 1, 70, none, [], 0) := rfl
theorem i_Mo_goesTo_70 : ix_nx mMo_goesTo 70 = some (3, .invokevirtual 138, 73, none, [0, 169, 188], 0) := rfl
theorem i_Mo_goesTo_73 : ix_nx mMo_goesTo 73 = some (3, .invokevirtual 141, 76, none, [0, 168, 187], 0) := rfl
theorem i_Mo_goesTo_76 : ix_nx mMo_goesTo 76 = some (0, .if_icmp .le 15, 79, none, [], 0) := rfl
theorem i_Mo_goesTo_79 : ix_nx mMo_goesTo 79 = some (0, .iload 4, 81, none, [], 0) := rfl
theorem i_Mo_goesTo_81 : ix_nx mMo_goesTo 81 = some (0, .ifCond .ne 7, 84, none, [], 0) := rfl
theorem i_Mo_goesTo_84 : ix_nx mMo_goesTo 84 = some (0, .iconst 0, 85, none, [], 0) := rfl
theorem i_Mo_goesTo_85 : ix_nx mMo_goesTo 85 = some (0, .goto 5, 88, none, [], 0) := rfl
theorem i_Mo_goesTo_88 : ix_nx mMo_goesTo 88 = some (0, .bipush (-6), 90, none, [], 0) := rfl
theorem i_Mo_goesTo_90 : ix_nx mMo_goesTo 90 = some (4, .ireturn, 91, none, [], 0) := rfl
theorem i_Mo_goesTo_91 : ix_nx mMo_goesTo 91 = some (0, .aload_n 0, 92, none, [], 0) := rfl
theorem i_Mo_goesTo_92 : ix_nx mMo_goesTo 92 = some (0, .iload_n 1, 93, none, [], 0) := rfl
theorem i_Mo_goesTo_93 : ix_nx mMo_goesTo 93 = some (0, .iload_n 2, 94, none, [], 0) := rfl
theorem i_Mo_goesTo_94 : ix_nx mMo_goesTo 94 = some (0, .iconst 1, 95, none, [], 0) := rfl
theorem i_Mo_goesTo_95 : ix_nx mMo_goesTo 95 = some (0, .isub, 96, none, [], 0) := rfl
theorem i_Mo_goesTo_96 : ix_nx mMo_goesTo 96 = some (0, .iload 4, 98, none, [], 0) := rfl
theorem i_Mo_goesTo_98 : ix_nx mMo_goesTo 98 = some (0, .iadd, 99, none, [], 0) := rfl
theorem i_Mo_goesTo_99 : ix_nx mMo_goesTo 99 = some (0, .iload_n 3, 100, none, [], 0) := rfl
theorem i_Mo_goesTo_100 : ix_nx mMo_goesTo 100 = some (3, .invokevirtual 147, 103, none, [0, 174, 192], 0) := rfl
theorem i_Mo_goesTo_103 : ix_nx mMo_goesTo 103 = some (0, .ifCond .eq 10, 106, none, [], 0) := rfl
theorem i_Mo_goesTo_106 : ix_nx mMo_goesTo 106 = some (0, .iload_n 2, 107, none, [], 0) := rfl
theorem i_Mo_goesTo_107 : ix_nx mMo_goesTo 107 = some (0, .iload 4, 109, none, [], 0) := rfl
theorem i_Mo_goesTo_109 : ix_nx mMo_goesTo 109 = some (0, .iadd, 110, none, [], 0) := rfl
theorem i_Mo_goesTo_110 : ix_nx mMo_goesTo 110 = some (0, .goto 5, 113, none, [], 0) := rfl
theorem i_Mo_goesTo_113 : ix_nx mMo_goesTo 113 = some (0, .bipush (-6), 115, none, [], 0) := rfl
theorem i_Mo_goesTo_115 : ix_nx mMo_goesTo 115 = some (4, .ireturn, 116, none, [], 0) := rfl
set_option maxRecDepth 20000 in
set_option maxHeartbeats 1000000 in
theorem e_Mo_goesTo (a0 : Nat) (x1 : Int32) (x2 : Int32) (x3 : Int32) (x4 : Int32) (h : ixH) : ix_D mMo_goesTo 0 [some (.ref a0), some (.int x1), some (.int x2), some (.int x3), some (.int x4)] [] h = (ix_M mMo_start [.ref a0, .int x1] h).bind fun r => ix_kI r fun v2 h1 => (ix_M mMo_diagonal [.ref a0, .int v2] h1).bind fun r => ix_kI r fun v4 h3 => if ¬ x3 = v4 then (ix_M mMo_start [.ref a0, .int x1] h3).bind fun r => ix_kI r fun v6 h5 => (ix_M mMo_diagonal [.ref a0, .int v6] h5).bind fun r => ix_kI r fun v8 h7 => if x3 < v8 then if ¬ x4 = 0 then some ([.int (-6)], h7) else some ([.int 0], h7) else (ix_M mMo_end [.ref a0, .int x1] h7).bind fun r => ix_kI r fun v10 h9 => (ix_M mMo_diagonal [.ref a0, .int v10] h9).bind fun r => ix_kI r fun v12 h11 => if x3 ≤ v12 then (ix_M mMo_mayBe [.ref a0, .int x1, .int ((x2 - 1) + x4), .int x3] h11).bind fun r => ix_kZ r fun v14 h13 => if v14 = true then some ([.int (x2 + x4)], h13) else some ([.int (-6)], h13) else if ¬ x4 = 0 then some ([.int (-6)], h11) else some ([.int 0], h11) else if ¬ x4 = 0 then some ([.int (-6)], h3) else (ix_M mMo_start [.ref a0, .int x1] h3).bind fun r => ix_kI r fun v16 h15 => (ix_M mMo_x [.ref a0, .int v16] h15).bind fun r => ix_kI r fun v18 h17 => (ix_M mMo_mayBe [.ref a0, .int x1, .int v18, .int x3] h17).bind fun r => ix_kZ r fun v20 h19 => if v20 = true then (ix_M mMo_start [.ref a0, .int x1] h19).bind fun r => ix_kI r fun v22 h21 => (ix_M mMo_x [.ref a0, .int v22] h21).bind fun r => ix_kI r fun v24 h23 => some ([.int (v24 + 1)], h23) else some ([.int (-6)], h19) := by
  refine ix_K_px kq_Mo_goesTo i_Mo_goesTo_0 rfl rfl ?_
  refine ix_K_px kq_Mo_goesTo i_Mo_goesTo_1 rfl rfl ?_
  refine ix_K_px kq_Mo_goesTo i_Mo_goesTo_2 rfl rfl ?_
  refine ix_K_px kq_Mo_goesTo i_Mo_goesTo_3 rfl rfl ?_
  refine ix_K_callI (as := [.ref a0, .int x1]) (rest := [.ref a0, .int x3]) kq_Mo_goesTo i_Mo_goesTo_4 rfl kq_Mo_start (by decide) rfl (Or.inl rfl) (fun v2 h1 => ?_)
  refine ix_K_callI (as := [.ref a0, .int v2]) (rest := [.int x3]) kq_Mo_goesTo i_Mo_goesTo_7 rfl kq_Mo_diagonal (by decide) rfl (Or.inl rfl) (fun v4 h3 => ?_)
  refine ix_K_ic_ne (tgt := 53) kq_Mo_goesTo i_Mo_goesTo_10 rfl (by decide) ?_ ?_
  · refine ix_K_px kq_Mo_goesTo i_Mo_goesTo_53 rfl rfl ?_
    refine ix_K_px kq_Mo_goesTo i_Mo_goesTo_54 rfl rfl ?_
    refine ix_K_px kq_Mo_goesTo i_Mo_goesTo_55 rfl rfl ?_
    refine ix_K_px kq_Mo_goesTo i_Mo_goesTo_56 rfl rfl ?_
    refine ix_K_callI (as := [.ref a0, .int x1]) (rest := [.ref a0, .int x3]) kq_Mo_goesTo i_Mo_goesTo_57 rfl kq_Mo_start (by decide) rfl (Or.inl rfl) (fun v6 h5 => ?_)
    refine ix_K_callI (as := [.ref a0, .int v6]) (rest := [.int x3]) kq_Mo_goesTo i_Mo_goesTo_60 rfl kq_Mo_diagonal (by decide) rfl (Or.inl rfl) (fun v8 h7 => ?_)
    refine ix_K_ic_lt (tgt := 79) kq_Mo_goesTo i_Mo_goesTo_63 rfl (by decide) ?_ ?_
    · refine ix_K_px kq_Mo_goesTo i_Mo_goesTo_79 rfl rfl ?_
      refine ix_K_if_ne (tgt := 88) kq_Mo_goesTo i_Mo_goesTo_81 rfl (by decide) ?_ ?_
      · refine ix_K_cb kq_Mo_goesTo i_Mo_goesTo_88 rfl kcb_m6 ?_
        exact ix_D_ret kq_Mo_goesTo i_Mo_goesTo_90 (ix_rtI rfl _)
      · refine ix_K_ci kq_Mo_goesTo i_Mo_goesTo_84 rfl kci_0 ?_
        refine ix_K_goto (tgt := 90) kq_Mo_goesTo i_Mo_goesTo_85 rfl (by decide) ?_
        exact ix_D_ret kq_Mo_goesTo i_Mo_goesTo_90 (ix_rtI rfl _)
    · refine ix_K_px kq_Mo_goesTo i_Mo_goesTo_66 rfl rfl ?_
      refine ix_K_px kq_Mo_goesTo i_Mo_goesTo_67 rfl rfl ?_
      refine ix_K_px kq_Mo_goesTo i_Mo_goesTo_68 rfl rfl ?_
      refine ix_K_px kq_Mo_goesTo i_Mo_goesTo_69 rfl rfl ?_
      refine ix_K_callI (as := [.ref a0, .int x1]) (rest := [.ref a0, .int x3]) kq_Mo_goesTo i_Mo_goesTo_70 rfl kq_Mo_end (by decide) rfl (Or.inl rfl) (fun v10 h9 => ?_)
      refine ix_K_callI (as := [.ref a0, .int v10]) (rest := [.int x3]) kq_Mo_goesTo i_Mo_goesTo_73 rfl kq_Mo_diagonal (by decide) rfl (Or.inl rfl) (fun v12 h11 => ?_)
      refine ix_K_ic_le (tgt := 91) kq_Mo_goesTo i_Mo_goesTo_76 rfl (by decide) ?_ ?_
      · refine ix_K_px kq_Mo_goesTo i_Mo_goesTo_91 rfl rfl ?_
        refine ix_K_px kq_Mo_goesTo i_Mo_goesTo_92 rfl rfl ?_
        refine ix_K_px kq_Mo_goesTo i_Mo_goesTo_93 rfl rfl ?_
        refine ix_K_ci kq_Mo_goesTo i_Mo_goesTo_94 rfl kci_1 ?_
        refine ix_K_px kq_Mo_goesTo i_Mo_goesTo_95 rfl rfl ?_
        refine ix_K_px kq_Mo_goesTo i_Mo_goesTo_96 rfl rfl ?_
        refine ix_K_px kq_Mo_goesTo i_Mo_goesTo_98 rfl rfl ?_
        refine ix_K_px kq_Mo_goesTo i_Mo_goesTo_99 rfl rfl ?_
        refine ix_K_callZ (as := [.ref a0, .int x1, .int ((x2 - 1) + x4), .int x3]) (rest := []) kq_Mo_goesTo i_Mo_goesTo_100 rfl kq_Mo_mayBe (by decide) rfl rfl (fun v14 h13 => ?_)
        refine ix_K_bz_eq (tgt := 113) kq_Mo_goesTo i_Mo_goesTo_103 rfl (by decide) ?_ ?_
        · refine ix_K_px kq_Mo_goesTo i_Mo_goesTo_106 rfl rfl ?_
          refine ix_K_px kq_Mo_goesTo i_Mo_goesTo_107 rfl rfl ?_
          refine ix_K_px kq_Mo_goesTo i_Mo_goesTo_109 rfl rfl ?_
          refine ix_K_goto (tgt := 115) kq_Mo_goesTo i_Mo_goesTo_110 rfl (by decide) ?_
          exact ix_D_ret kq_Mo_goesTo i_Mo_goesTo_115 (ix_rtI rfl _)
        · refine ix_K_cb kq_Mo_goesTo i_Mo_goesTo_113 rfl kcb_m6 ?_
          exact ix_D_ret kq_Mo_goesTo i_Mo_goesTo_115 (ix_rtI rfl _)
      · refine ix_K_px kq_Mo_goesTo i_Mo_goesTo_79 rfl rfl ?_
        refine ix_K_if_ne (tgt := 88) kq_Mo_goesTo i_Mo_goesTo_81 rfl (by decide) ?_ ?_
        · refine ix_K_cb kq_Mo_goesTo i_Mo_goesTo_88 rfl kcb_m6 ?_
          exact ix_D_ret kq_Mo_goesTo i_Mo_goesTo_90 (ix_rtI rfl _)
        · refine ix_K_ci kq_Mo_goesTo i_Mo_goesTo_84 rfl kci_0 ?_
          refine ix_K_goto (tgt := 90) kq_Mo_goesTo i_Mo_goesTo_85 rfl (by decide) ?_
          exact ix_D_ret kq_Mo_goesTo i_Mo_goesTo_90 (ix_rtI rfl _)
  · refine ix_K_px kq_Mo_goesTo i_Mo_goesTo_13 rfl rfl ?_
    refine ix_K_if_ne (tgt := 50) kq_Mo_goesTo i_Mo_goesTo_15 rfl (by decide) ?_ ?_
    · refine ix_K_cb kq_Mo_goesTo i_Mo_goesTo_50 rfl kcb_m6 ?_
      exact ix_D_ret kq_Mo_goesTo i_Mo_goesTo_52 (ix_rtI rfl _)
    · refine ix_K_px kq_Mo_goesTo i_Mo_goesTo_18 rfl rfl ?_
      refine ix_K_px kq_Mo_goesTo i_Mo_goesTo_19 rfl rfl ?_
      refine ix_K_px kq_Mo_goesTo i_Mo_goesTo_20 rfl rfl ?_
      refine ix_K_px kq_Mo_goesTo i_Mo_goesTo_21 rfl rfl ?_
      refine ix_K_px kq_Mo_goesTo i_Mo_goesTo_22 rfl rfl ?_
      refine ix_K_callI (as := [.ref a0, .int x1]) (rest := [.ref a0, .int x1, .ref a0]) kq_Mo_goesTo i_Mo_goesTo_23 rfl kq_Mo_start (by decide) rfl (Or.inl rfl) (fun v16 h15 => ?_)
      refine ix_K_callI (as := [.ref a0, .int v16]) (rest := [.int x1, .ref a0]) kq_Mo_goesTo i_Mo_goesTo_26 rfl kq_Mo_x (by decide) rfl (Or.inl rfl) (fun v18 h17 => ?_)
      refine ix_K_px kq_Mo_goesTo i_Mo_goesTo_29 rfl rfl ?_
      refine ix_K_callZ (as := [.ref a0, .int x1, .int v18, .int x3]) (rest := []) kq_Mo_goesTo i_Mo_goesTo_30 rfl kq_Mo_mayBe (by decide) rfl rfl (fun v20 h19 => ?_)
      refine ix_K_bz_eq (tgt := 50) kq_Mo_goesTo i_Mo_goesTo_33 rfl (by decide) ?_ ?_
      · refine ix_K_px kq_Mo_goesTo i_Mo_goesTo_36 rfl rfl ?_
        refine ix_K_px kq_Mo_goesTo i_Mo_goesTo_37 rfl rfl ?_
        refine ix_K_px kq_Mo_goesTo i_Mo_goesTo_38 rfl rfl ?_
        refine ix_K_callI (as := [.ref a0, .int x1]) (rest := [.ref a0]) kq_Mo_goesTo i_Mo_goesTo_39 rfl kq_Mo_start (by decide) rfl (Or.inl rfl) (fun v22 h21 => ?_)
        refine ix_K_callI (as := [.ref a0, .int v22]) (rest := []) kq_Mo_goesTo i_Mo_goesTo_42 rfl kq_Mo_x (by decide) rfl (Or.inl rfl) (fun v24 h23 => ?_)
        refine ix_K_ci kq_Mo_goesTo i_Mo_goesTo_45 rfl kci_1 ?_
        refine ix_K_px kq_Mo_goesTo i_Mo_goesTo_46 rfl rfl ?_
        refine ix_K_goto (tgt := 52) kq_Mo_goesTo i_Mo_goesTo_47 rfl (by decide) ?_
        exact ix_D_ret kq_Mo_goesTo i_Mo_goesTo_52 (ix_rtI rfl _)
      · refine ix_K_cb kq_Mo_goesTo i_Mo_goesTo_50 rfl kcb_m6 ?_
        exact ix_D_ret kq_Mo_goesTo i_Mo_goesTo_52 (ix_rtI rfl _)
theorem x_Mo_goesTo {a0 : Nat} {x1 : Int32} {x2 : Int32} {x3 : Int32} {x4 : Int32} {h h1 : ixH} {v : Int32} (hr : ix_rc h a0 = some 11) (hd : ix_D mMo_goesTo 0 [some (.ref a0), some (.int x1), some (.int x2), some (.int x3), some (.int x4)] [] h = some ([.int v], h1)) : ix_M mMo_goesTo [.ref a0, .int x1, .int x2, .int x3, .int x4] h = some ([.int v], h1) := ix_M_of (ix_ent_i kq_Mo_goesTo rfl hr rfl (Nat.le_of_ble_eq_true rfl) rfl) hd (ix_okrI (Or.inl rfl) v)
theorem i_Mo_mayBe_0 : ix_nx mMo_mayBe 0 = some (0, .iload_n 3, 1, none, [], 0) := rfl
theorem i_Mo_mayBe_1 : ix_nx mMo_mayBe 1 = some (0, .iload_n 2, 2, none, [], 0) := rfl
theorem i_Mo_mayBe_2 : ix_nx mMo_mayBe 2 = some (0, .isub, 3, none, [], 0) := rfl
theorem i_Mo_mayBe_3 : ix_nx mMo_mayBe 3 = some (0, .istore 4, 5, none, [], 0) := rfl
theorem i_Mo_mayBe_5 : ix_nx mMo_mayBe 5 = some (0, .iload_n 2, 6, none, [], 0) := rfl
theorem i_Mo_mayBe_6 : ix_nx mMo_mayBe 6 = some (0, .iconst 0, 7, none, [], 0) := rfl
theorem i_Mo_mayBe_7 : ix_nx mMo_mayBe 7 = some (0, .aload_n 0, 8, none, [], 0) := rfl
theorem i_Mo_mayBe_8 : ix_nx mMo_mayBe 8 = some (1, .getfield 7, 11, none, [11, 0, 2, 90], 0) := rfl
theorem i_Mo_mayBe_11 : ix_nx mMo_mayBe 11 = some (0, .iconst 0, 12, none, [], 0) := rfl
theorem i_Mo_mayBe_12 : ix_nx mMo_mayBe 12 = some (1, .iaload, 13, none, [], 0) := rfl
theorem i_Mo_mayBe_13 : ix_nx mMo_mayBe 13 = some (0, .iconst 1, 14, none, [], 0) := rfl
theorem i_Mo_mayBe_14 : ix_nx mMo_mayBe 14 = some (0, .isub, 15, none, [], 0) := rfl
theorem i_Mo_mayBe_15 : ix_nx mMo_mayBe 15 = some (3, .invokestatic 98, 18, none, [1, 148, 174], 0) := rfl
theorem i_Mo_mayBe_18 : ix_nx mMo_mayBe 18 = some (0, .ifCond .eq 20, 21, none, [], 0) := rfl
theorem i_Mo_mayBe_21 : ix_nx mMo_mayBe 21 = some (0, .iload 4, 23, none, [], 0) := rfl
theorem i_Mo_mayBe_23 : ix_nx mMo_mayBe 23 = some (0, .iconst 0, 24, none, [], 0) := rfl
theorem i_Mo_mayBe_24 : ix_nx mMo_mayBe 24 = some (0, .aload_n 0, 25, none, [], 0) := rfl
theorem i_Mo_mayBe_25 : ix_nx mMo_mayBe 25 = some (1, .getfield 7, 28, none, [11, 0, 2, 90], 0) := rfl
theorem i_Mo_mayBe_28 : ix_nx mMo_mayBe 28 = some (0, .iconst 1, 29, none, [], 0) := rfl
theorem i_Mo_mayBe_29 : ix_nx mMo_mayBe 29 = some (1, .iaload, 30, none, [], 0) := rfl
theorem i_Mo_mayBe_30 : ix_nx mMo_mayBe 30 = some (0, .iconst 1, 31, none, [], 0) := rfl
theorem i_Mo_mayBe_31 : ix_nx mMo_mayBe 31 = some (0, .isub, 32, none, [], 0) := rfl
theorem i_Mo_mayBe_32 : ix_nx mMo_mayBe 32 = some (3, .invokestatic 98, 35, none, [1, 148, 174], 0) := rfl
theorem i_Mo_mayBe_35 : ix_nx mMo_mayBe 35 = some (0, .ifCond .ne 5, 38, none, [], 0) := rfl
theorem i_Mo_mayBe_38 : ix_nx mMo_mayBe 38 = some (0, .iconst 0, 39, none, [], 0) := rfl
theorem i_Mo_mayBe_39 : ix_nx mMo_mayBe 39 = some (4, .ireturn, 40, none, [], 0) := rfl
theorem i_Mo_mayBe_40 : ix_nx mMo_mayBe 40 = some (0, .iload 4, 42, none, [], 0) := rfl
theorem i_Mo_mayBe_42 : ix_nx mMo_mayBe 42 = some (0, .aload_n 0, 43, none, [], 0) := rfl
theorem i_Mo_mayBe_43 : ix_nx mMo_mayBe 43 = some (1, .getfield 7, 46, none, [11, 0, 2, 90], 0) := rfl
theorem i_Mo_mayBe_46 : ix_nx mMo_mayBe 46 = some (0, .iconst 0, 47, none, [], 0) := rfl
theorem i_Mo_mayBe_47 : ix_nx mMo_mayBe 47 = some (1, .iaload, 48, none, [], 0) := rfl
theorem i_Mo_mayBe_48 : ix_nx mMo_mayBe 48 = some (0, .imul, 49, none, [], 0) := rfl
theorem i_Mo_mayBe_49 : ix_nx mMo_mayBe 49 = some (0, .iload_n 2, 50, none, [], 0) := rfl
theorem i_Mo_mayBe_50 : ix_nx mMo_mayBe 50 = some (0, .iadd, 51, none, [], 0) := rfl
theorem i_Mo_mayBe_51 : ix_nx mMo_mayBe 51 = some (0, .istore 5, 53, none, [], 0) := rfl
theorem i_Mo_mayBe_53 : ix_nx mMo_mayBe 53 = some (0, .aload_n 0, 54, none, [], 0) := rfl
theorem i_Mo_mayBe_54 : ix_nx mMo_mayBe 54 = some (0, .iload 5, 56, none, [], 0) := rfl
theorem i_Mo_mayBe_56 : ix_nx mMo_mayBe 56 = some (3, .invokevirtual 102, 59, none, [0, 160, 181], 0) := rfl
theorem i_Mo_mayBe_59 : ix_nx mMo_mayBe 59 = some (0, .ifCond .eq 30, 62, none, [], 0) := rfl
theorem i_Mo_mayBe_62 : ix_nx mMo_mayBe 62 = some (0, .iload_n 3, 63, none, [], 0) := rfl
theorem i_Mo_mayBe_63 : ix_nx mMo_mayBe 63 = some (0, .aload_n 0, 64, none, [], 0) := rfl
theorem i_Mo_mayBe_64 : ix_nx mMo_mayBe 64 = some (0, .aload_n 0, 65, none, [], 0) := rfl
theorem i_Mo_mayBe_65 : ix_nx mMo_mayBe 65 = some (0, .iload_n 1, 66, none, [], 0) := rfl
theorem i_Mo_mayBe_66 : ix_nx mMo_mayBe 66 = some (3, .invokevirtual 138, 69, none, [0, 169, 188], 0) := rfl
theorem i_Mo_mayBe_69 : ix_nx mMo_mayBe 69 = some (3, .invokevirtual 141, 72, none, [0, 168, 187], 0) := rfl
theorem i_Mo_mayBe_72 : ix_nx mMo_mayBe 72 = some (0, .if_icmp .lt 13, 75, none, [], 0) := rfl
theorem i_Mo_mayBe_75 : ix_nx mMo_mayBe 75 = some (0, .iload 5, 77, none, [], 0) := rfl
theorem i_Mo_mayBe_77 : ix_nx mMo_mayBe 77 = some (0, .aload_n 0, 78, none, [], 0) := rfl
theorem i_Mo_mayBe_78 : ix_nx mMo_mayBe 78 = some (0, .iload_n 1, 79, none, [], 0) := rfl
theorem i_Mo_mayBe_79 : ix_nx mMo_mayBe 79 = some (3, .invokevirtual 138, 82, none, [0, 169, 188], 0) := rfl
theorem i_Mo_mayBe_82 : ix_nx mMo_mayBe 82 = some (0, .if_icmp .ne 7, 85, none, [], 0) := rfl
theorem i_Mo_mayBe_85 : ix_nx mMo_mayBe 85 = some (0, .iconst 1, 86, none, [], 0) := rfl
theorem i_Mo_mayBe_86 : ix_nx mMo_mayBe 86 = some (0, .goto 4, 89, none, [], 0) := rfl
theorem i_Mo_mayBe_89 : ix_nx mMo_mayBe 89 = some (0, .iconst 0, 90, none, [], 0) := rfl
theorem i_Mo_mayBe_90 : ix_nx mMo_mayBe 90 = some (4, .ireturn, 91, none, [], 0) := rfl
set_option maxRecDepth 20000 in
set_option maxHeartbeats 1000000 in
theorem e_Mo_mayBe (a0 : Nat) (x1 : Int32) (x2 : Int32) (x3 : Int32) (h : ixH) : ix_D mMo_mayBe 0 [some (.ref a0), some (.int x1), some (.int x2), some (.int x3), none, none] [] h = (ix_gr h a0 11 0).bind fun v1 => (ix_ai h v1 0).bind fun v2 => (ix_M mMo_in [.int x2, .int 0, .int (v2 - 1)] h).bind fun r => ix_kZ r fun v4 h3 => if v4 = true then (ix_gr h3 a0 11 0).bind fun v5 => (ix_ai h3 v5 1).bind fun v6 => (ix_M mMo_in [.int (x3 - x2), .int 0, .int (v6 - 1)] h3).bind fun r => ix_kZ r fun v8 h7 => if v8 = true then (ix_gr h7 a0 11 0).bind fun v9 => (ix_ai h7 v9 0).bind fun v10 => (ix_M mMo_isOpen [.ref a0, .int (((x3 - x2) * v10) + x2)] h7).bind fun r => ix_kZ r fun v12 h11 => if v12 = true then (ix_M mMo_end [.ref a0, .int x1] h11).bind fun r => ix_kI r fun v14 h13 => (ix_M mMo_diagonal [.ref a0, .int v14] h13).bind fun r => ix_kI r fun v16 h15 => if x3 < v16 then some ([.int (ix_bi true)], h15) else (ix_M mMo_end [.ref a0, .int x1] h15).bind fun r => ix_kI r fun v18 h17 => if ¬ (((x3 - x2) * v10) + x2) = v18 then some ([.int (ix_bi false)], h17) else some ([.int (ix_bi true)], h17) else some ([.int (ix_bi false)], h11) else some ([.int (ix_bi false)], h7) else some ([.int (ix_bi false)], h3) := by
  refine ix_K_px kq_Mo_mayBe i_Mo_mayBe_0 rfl rfl ?_
  refine ix_K_px kq_Mo_mayBe i_Mo_mayBe_1 rfl rfl ?_
  refine ix_K_px kq_Mo_mayBe i_Mo_mayBe_2 rfl rfl ?_
  refine ix_K_si (L2 := [some (.ref a0), some (.int x1), some (.int x2), some (.int x3), some (.int (x3 - x2)), none]) kq_Mo_mayBe i_Mo_mayBe_3 rfl (Or.inl rfl) (Nat.le_of_ble_eq_true rfl) rfl ?_
  refine ix_K_px kq_Mo_mayBe i_Mo_mayBe_5 rfl rfl ?_
  refine ix_K_ci kq_Mo_mayBe i_Mo_mayBe_6 rfl kci_0 ?_
  refine ix_K_px kq_Mo_mayBe i_Mo_mayBe_7 rfl rfl ?_
  refine ix_K_gr kq_Mo_mayBe i_Mo_mayBe_8 rfl (fun v1 => ?_)
  refine ix_K_ci kq_Mo_mayBe i_Mo_mayBe_11 rfl kci_0 ?_
  refine ix_K_ai kq_Mo_mayBe i_Mo_mayBe_12 rfl (fun v2 => ?_)
  refine ix_K_ci kq_Mo_mayBe i_Mo_mayBe_13 rfl kci_1 ?_
  refine ix_K_px kq_Mo_mayBe i_Mo_mayBe_14 rfl rfl ?_
  refine ix_K_callZ (as := [.int x2, .int 0, .int (v2 - 1)]) (rest := []) kq_Mo_mayBe i_Mo_mayBe_15 rfl kq_Mo_in (by decide) rfl rfl (fun v4 h3 => ?_)
  refine ix_K_bz_eq (tgt := 38) kq_Mo_mayBe i_Mo_mayBe_18 rfl (by decide) ?_ ?_
  · refine ix_K_px kq_Mo_mayBe i_Mo_mayBe_21 rfl rfl ?_
    refine ix_K_ci kq_Mo_mayBe i_Mo_mayBe_23 rfl kci_0 ?_
    refine ix_K_px kq_Mo_mayBe i_Mo_mayBe_24 rfl rfl ?_
    refine ix_K_gr kq_Mo_mayBe i_Mo_mayBe_25 rfl (fun v5 => ?_)
    refine ix_K_ci kq_Mo_mayBe i_Mo_mayBe_28 rfl kci_1 ?_
    refine ix_K_ai kq_Mo_mayBe i_Mo_mayBe_29 rfl (fun v6 => ?_)
    refine ix_K_ci kq_Mo_mayBe i_Mo_mayBe_30 rfl kci_1 ?_
    refine ix_K_px kq_Mo_mayBe i_Mo_mayBe_31 rfl rfl ?_
    refine ix_K_callZ (as := [.int (x3 - x2), .int 0, .int (v6 - 1)]) (rest := []) kq_Mo_mayBe i_Mo_mayBe_32 rfl kq_Mo_in (by decide) rfl rfl (fun v8 h7 => ?_)
    refine ix_K_bz_ne (tgt := 40) kq_Mo_mayBe i_Mo_mayBe_35 rfl (by decide) ?_ ?_
    · refine ix_K_px kq_Mo_mayBe i_Mo_mayBe_40 rfl rfl ?_
      refine ix_K_px kq_Mo_mayBe i_Mo_mayBe_42 rfl rfl ?_
      refine ix_K_gr kq_Mo_mayBe i_Mo_mayBe_43 rfl (fun v9 => ?_)
      refine ix_K_ci kq_Mo_mayBe i_Mo_mayBe_46 rfl kci_0 ?_
      refine ix_K_ai kq_Mo_mayBe i_Mo_mayBe_47 rfl (fun v10 => ?_)
      refine ix_K_px kq_Mo_mayBe i_Mo_mayBe_48 rfl rfl ?_
      refine ix_K_px kq_Mo_mayBe i_Mo_mayBe_49 rfl rfl ?_
      refine ix_K_px kq_Mo_mayBe i_Mo_mayBe_50 rfl rfl ?_
      refine ix_K_si (L2 := [some (.ref a0), some (.int x1), some (.int x2), some (.int x3), some (.int (x3 - x2)), some (.int (((x3 - x2) * v10) + x2))]) kq_Mo_mayBe i_Mo_mayBe_51 rfl (Or.inl rfl) (Nat.le_of_ble_eq_true rfl) rfl ?_
      refine ix_K_px kq_Mo_mayBe i_Mo_mayBe_53 rfl rfl ?_
      refine ix_K_px kq_Mo_mayBe i_Mo_mayBe_54 rfl rfl ?_
      refine ix_K_callZ (as := [.ref a0, .int (((x3 - x2) * v10) + x2)]) (rest := []) kq_Mo_mayBe i_Mo_mayBe_56 rfl kq_Mo_isOpen (by decide) rfl rfl (fun v12 h11 => ?_)
      refine ix_K_bz_eq (tgt := 89) kq_Mo_mayBe i_Mo_mayBe_59 rfl (by decide) ?_ ?_
      · refine ix_K_px kq_Mo_mayBe i_Mo_mayBe_62 rfl rfl ?_
        refine ix_K_px kq_Mo_mayBe i_Mo_mayBe_63 rfl rfl ?_
        refine ix_K_px kq_Mo_mayBe i_Mo_mayBe_64 rfl rfl ?_
        refine ix_K_px kq_Mo_mayBe i_Mo_mayBe_65 rfl rfl ?_
        refine ix_K_callI (as := [.ref a0, .int x1]) (rest := [.ref a0, .int x3]) kq_Mo_mayBe i_Mo_mayBe_66 rfl kq_Mo_end (by decide) rfl (Or.inl rfl) (fun v14 h13 => ?_)
        refine ix_K_callI (as := [.ref a0, .int v14]) (rest := [.int x3]) kq_Mo_mayBe i_Mo_mayBe_69 rfl kq_Mo_diagonal (by decide) rfl (Or.inl rfl) (fun v16 h15 => ?_)
        refine ix_K_ic_lt (tgt := 85) kq_Mo_mayBe i_Mo_mayBe_72 rfl (by decide) ?_ ?_
        · refine ix_K_ci kq_Mo_mayBe i_Mo_mayBe_85 rfl kci_1 ?_
          refine ix_K_goto (tgt := 90) kq_Mo_mayBe i_Mo_mayBe_86 rfl (by decide) ?_
          exact ix_D_ret kq_Mo_mayBe i_Mo_mayBe_90 (ix_rtZ rfl true)
        · refine ix_K_px kq_Mo_mayBe i_Mo_mayBe_75 rfl rfl ?_
          refine ix_K_px kq_Mo_mayBe i_Mo_mayBe_77 rfl rfl ?_
          refine ix_K_px kq_Mo_mayBe i_Mo_mayBe_78 rfl rfl ?_
          refine ix_K_callI (as := [.ref a0, .int x1]) (rest := [.int (((x3 - x2) * v10) + x2)]) kq_Mo_mayBe i_Mo_mayBe_79 rfl kq_Mo_end (by decide) rfl (Or.inl rfl) (fun v18 h17 => ?_)
          refine ix_K_ic_ne (tgt := 89) kq_Mo_mayBe i_Mo_mayBe_82 rfl (by decide) ?_ ?_
          · refine ix_K_ci kq_Mo_mayBe i_Mo_mayBe_89 rfl kci_0 ?_
            exact ix_D_ret kq_Mo_mayBe i_Mo_mayBe_90 (ix_rtZ rfl false)
          · refine ix_K_ci kq_Mo_mayBe i_Mo_mayBe_85 rfl kci_1 ?_
            refine ix_K_goto (tgt := 90) kq_Mo_mayBe i_Mo_mayBe_86 rfl (by decide) ?_
            exact ix_D_ret kq_Mo_mayBe i_Mo_mayBe_90 (ix_rtZ rfl true)
      · refine ix_K_ci kq_Mo_mayBe i_Mo_mayBe_89 rfl kci_0 ?_
        exact ix_D_ret kq_Mo_mayBe i_Mo_mayBe_90 (ix_rtZ rfl false)
    · refine ix_K_ci kq_Mo_mayBe i_Mo_mayBe_38 rfl kci_0 ?_
      exact ix_D_ret kq_Mo_mayBe i_Mo_mayBe_39 (ix_rtZ rfl false)
  · refine ix_K_ci kq_Mo_mayBe i_Mo_mayBe_38 rfl kci_0 ?_
    exact ix_D_ret kq_Mo_mayBe i_Mo_mayBe_39 (ix_rtZ rfl false)
theorem x_Mo_mayBe {a0 : Nat} {x1 : Int32} {x2 : Int32} {x3 : Int32} {h h1 : ixH} {v : Bool} (hr : ix_rc h a0 = some 11) (hd : ix_D mMo_mayBe 0 [some (.ref a0), some (.int x1), some (.int x2), some (.int x3), none, none] [] h = some ([.int (ix_bi v)], h1)) : ix_M mMo_mayBe [.ref a0, .int x1, .int x2, .int x3] h = some ([.int (ix_bi v)], h1) := ix_M_of (ix_ent_i kq_Mo_mayBe rfl hr rfl (Nat.le_of_ble_eq_true rfl) rfl) hd (ix_okrZ rfl v)
theorem i_Mo_determinant_0 : ix_nx mMo_determinant 0 = some (0, .aload_n 0, 1, none, [], 0) := rfl
theorem i_Mo_determinant_1 : ix_nx mMo_determinant 1 = some (1, .getfield 7, 4, none, [11, 0, 2, 90], 0) := rfl
theorem i_Mo_determinant_4 : ix_nx mMo_determinant 4 = some (0, .sipush 386, 7, none, [], 0) := rfl
theorem i_Mo_determinant_7 : ix_nx mMo_determinant 7 = some (1, .iaload, 8, none, [], 0) := rfl
theorem i_Mo_determinant_8 : ix_nx mMo_determinant 8 = some (0, .istore_n 1, 9, none, [], 0) := rfl
theorem i_Mo_determinant_9 : ix_nx mMo_determinant 9 = some (0, .iconst 0, 10, none, [], 0) := rfl
theorem i_Mo_determinant_10 : ix_nx mMo_determinant 10 = some (0, .istore_n 2, 11, none, [], 0) := rfl
theorem i_Mo_determinant_11 : ix_nx mMo_determinant 11 = some (0, .iload_n 2, 12, some [true, true, true, false, false, false, false, false, false, false, false, false], [], 0) := rfl
theorem i_Mo_determinant_12 : ix_nx mMo_determinant 12 = some (0, .iconst 4, 13, none, [], 0) := rfl
theorem i_Mo_determinant_13 : ix_nx mMo_determinant 13 = some (0, .if_icmp .ge 42, 16, none, [], 0) := rfl
theorem i_Mo_determinant_16 : ix_nx mMo_determinant 16 = some (0, .iconst 0, 17, none, [], 0) := rfl
theorem i_Mo_determinant_17 : ix_nx mMo_determinant 17 = some (0, .istore_n 3, 18, none, [], 0) := rfl
theorem i_Mo_determinant_18 : ix_nx mMo_determinant 18 = some (0, .iload_n 3, 19, some [true, true, true, true, false, false, false, false, false, false, false, false], [], 0) := rfl
theorem i_Mo_determinant_19 : ix_nx mMo_determinant 19 = some (0, .iconst 4, 20, none, [], 0) := rfl
theorem i_Mo_determinant_20 : ix_nx mMo_determinant 20 = some (0, .if_icmp .ge 29, 23, none, [], 0) := rfl
theorem i_Mo_determinant_23 : ix_nx mMo_determinant 23 = some (0, .aload_n 0, 24, none, [], 0) := rfl
theorem i_Mo_determinant_24 : ix_nx mMo_determinant 24 = some (1, .getfield 30, 27, none, [11, 6, 2, 96], 0) := rfl
theorem i_Mo_determinant_27 : ix_nx mMo_determinant 27 = some (0, .iconst 4, 28, none, [], 0) := rfl
theorem i_Mo_determinant_28 : ix_nx mMo_determinant 28 = some (0, .iload_n 2, 29, none, [], 0) := rfl
theorem i_Mo_determinant_29 : ix_nx mMo_determinant 29 = some (0, .imul, 30, none, [], 0) := rfl
theorem i_Mo_determinant_30 : ix_nx mMo_determinant 30 = some (0, .iload_n 3, 31, none, [], 0) := rfl
theorem i_Mo_determinant_31 : ix_nx mMo_determinant 31 = some (0, .iadd, 32, none, [], 0) := rfl
theorem i_Mo_determinant_32 : ix_nx mMo_determinant 32 = some (0, .iload_n 2, 33, none, [], 0) := rfl
theorem i_Mo_determinant_33 : ix_nx mMo_determinant 33 = some (0, .iload_n 3, 34, none, [], 0) := rfl
theorem i_Mo_determinant_34 : ix_nx mMo_determinant 34 = some (0, .if_icmp .ne 7, 37, none, [], 0) := rfl
theorem i_Mo_determinant_37 : ix_nx mMo_determinant 37 = some (0, .lconst 1, 38, none, [], 0) := rfl
theorem i_Mo_determinant_38 : ix_nx mMo_determinant 38 = some (0, .goto 4, 41, none, [], 0) := rfl
theorem i_Mo_determinant_41 : ix_nx mMo_determinant 41 = some (0, .lconst 0, 42, none, [], 0) := rfl
theorem i_Mo_determinant_42 : ix_nx mMo_determinant 42 = some (2, .lastore, 43, none, [], 0) := rfl
theorem i_Mo_determinant_43 : ix_nx mMo_determinant 43 = some (0, .iinc 3 1, 46, none, [], 0) := rfl
theorem i_Mo_determinant_46 : ix_nx mMo_determinant 46 = some (0, .goto (-28), 49, none, [], 0) := rfl
theorem i_Mo_determinant_49 : ix_nx mMo_determinant 49 = some (0, .iinc 2 1, 52, none, [], 0) := rfl
theorem i_Mo_determinant_52 : ix_nx mMo_determinant 52 = some (0, .goto (-41), 55, none, [], 0) := rfl
theorem i_Mo_determinant_55 : ix_nx mMo_determinant 55 = some (0, .iconst 0, 56, none, [], 0) := rfl
theorem i_Mo_determinant_56 : ix_nx mMo_determinant 56 = some (0, .istore_n 2, 57, none, [], 0) := rfl
theorem i_Mo_determinant_57 : ix_nx mMo_determinant 57 = some (0, .iload_n 2, 58, some [true, true, true, false, false, false, false, false, false, false, false, false], [], 0) := rfl
theorem i_Mo_determinant_58 : ix_nx mMo_determinant 58 = some (0, .iload_n 1, 59, none, [], 0) := rfl
theorem i_Mo_determinant_59 : ix_nx mMo_determinant 59 = some (0, .if_icmp .ge 51, 62, none, [], 0) := rfl
theorem i_Mo_determinant_62 : ix_nx mMo_determinant 62 = some (0, .aload_n 0, 63, none, [], 0) := rfl
theorem i_Mo_determinant_63 : ix_nx mMo_determinant 63 = some (0, .aload_n 0, 64, none, [], 0) := rfl
theorem i_Mo_determinant_64 : ix_nx mMo_determinant 64 = some (0, .iload_n 2, 65, none, [], 0) := rfl
theorem i_Mo_determinant_65 : ix_nx mMo_determinant 65 = some (3, .invokevirtual 144, 68, none, [0, 167, 186], 0) := rfl
theorem i_Mo_determinant_68 : ix_nx mMo_determinant 68 = some (3, .invokevirtual 132, 71, none, [0, 159, 180], 0) := rfl
theorem i_Mo_determinant_71 : ix_nx mMo_determinant 71 = some (0, .iconst 0, 72, none, [], 0) := rfl
theorem i_Mo_determinant_72 : ix_nx mMo_determinant 72 = some (0, .istore_n 3, 73, none, [], 0) := rfl
theorem i_Mo_determinant_73 : ix_nx mMo_determinant 73 = some (0, .iload_n 3, 74, some [true, true, true, true, false, false, false, false, false, false, false, false], [], 0) := rfl
theorem i_Mo_determinant_74 : ix_nx mMo_determinant 74 = some (0, .iload_n 1, 75, none, [], 0) := rfl
theorem i_Mo_determinant_75 : ix_nx mMo_determinant 75 = some (0, .if_icmp .ge 29, 78, none, [], 0) := rfl
theorem i_Mo_determinant_78 : ix_nx mMo_determinant 78 = some (0, .aload_n 0, 79, none, [], 0) := rfl
theorem i_Mo_determinant_79 : ix_nx mMo_determinant 79 = some (1, .getfield 30, 82, none, [11, 6, 2, 96], 0) := rfl
theorem i_Mo_determinant_82 : ix_nx mMo_determinant 82 = some (0, .iconst 4, 83, none, [], 0) := rfl
theorem i_Mo_determinant_83 : ix_nx mMo_determinant 83 = some (0, .iload_n 2, 84, none, [], 0) := rfl
theorem i_Mo_determinant_84 : ix_nx mMo_determinant 84 = some (0, .imul, 85, none, [], 0) := rfl
theorem i_Mo_determinant_85 : ix_nx mMo_determinant 85 = some (0, .iload_n 3, 86, none, [], 0) := rfl
theorem i_Mo_determinant_86 : ix_nx mMo_determinant 86 = some (0, .iadd, 87, none, [], 0) := rfl
theorem i_Mo_determinant_87 : ix_nx mMo_determinant 87 = some (0, .aload_n 0, 88, none, [], 0) := rfl
theorem i_Mo_determinant_88 : ix_nx mMo_determinant 88 = some (1, .getfield 20, 91, none, [11, 3, 2, 93], 0) := rfl
theorem i_Mo_determinant_91 : ix_nx mMo_determinant 91 = some (0, .aload_n 0, 92, none, [], 0) := rfl
theorem i_Mo_determinant_92 : ix_nx mMo_determinant 92 = some (0, .iload_n 3, 93, none, [], 0) := rfl
theorem i_Mo_determinant_93 : ix_nx mMo_determinant 93 = some (3, .invokevirtual 138, 96, none, [0, 169, 188], 0) := rfl
theorem i_Mo_determinant_96 : ix_nx mMo_determinant 96 = some (1, .laload, 97, none, [], 0) := rfl
theorem i_Mo_determinant_97 : ix_nx mMo_determinant 97 = some (2, .lastore, 98, none, [], 0) := rfl
theorem i_Mo_determinant_98 : ix_nx mMo_determinant 98 = some (0, .iinc 3 1, 101, none, [], 0) := rfl
theorem i_Mo_determinant_101 : ix_nx mMo_determinant 101 = some (0, .goto (-28), 104, none, [], 0) := rfl
theorem i_Mo_determinant_104 : ix_nx mMo_determinant 104 = some (0, .iinc 2 1, 107, none, [], 0) := rfl
theorem i_Mo_determinant_107 : ix_nx mMo_determinant 107 = some (0, .goto (-50), 110, none, [], 0) := rfl
theorem i_Mo_determinant_110 : ix_nx mMo_determinant 110 = some (0, .lconst 0, 111, none, [], 0) := rfl
theorem i_Mo_determinant_111 : ix_nx mMo_determinant 111 = some (0, .lstore_n 2, 112, none, [], 0) := rfl
theorem i_Mo_determinant_112 : ix_nx mMo_determinant 112 = some (0, .iconst 0, 113, none, [], 0) := rfl
theorem i_Mo_determinant_113 : ix_nx mMo_determinant 113 = some (0, .istore 4, 115, none, [], 0) := rfl
theorem i_Mo_determinant_115 : ix_nx mMo_determinant 115 = some (0, .iload 4, 117, some [true, false, true, false, true, false, false, false, false, false, false, false], [], 0) := rfl
theorem i_Mo_determinant_117 : ix_nx mMo_determinant 117 = some (0, .sipush 256, 120, none, [], 0) := rfl
theorem i_Mo_determinant_120 : ix_nx mMo_determinant 120 = some (0, .if_icmp .ge 218, 123, none, [], 0) := rfl
theorem i_Mo_determinant_123 : ix_nx mMo_determinant 123 = some (0, .iload 4, 125, none, [], 0) := rfl
theorem i_Mo_determinant_125 : ix_nx mMo_determinant 125 = some (0, .iconst 3, 126, none, [], 0) := rfl
theorem i_Mo_determinant_126 : ix_nx mMo_determinant 126 = some (0, .iand, 127, none, [], 0) := rfl
theorem i_Mo_determinant_127 : ix_nx mMo_determinant 127 = some (0, .istore 5, 129, none, [], 0) := rfl
theorem i_Mo_determinant_129 : ix_nx mMo_determinant 129 = some (0, .iload 4, 131, none, [], 0) := rfl
theorem i_Mo_determinant_131 : ix_nx mMo_determinant 131 = some (0, .iconst 2, 132, none, [], 0) := rfl
theorem i_Mo_determinant_132 : ix_nx mMo_determinant 132 = some (0, .ishr, 133, none, [], 0) := rfl
theorem i_Mo_determinant_133 : ix_nx mMo_determinant 133 = some (0, .iconst 3, 134, none, [], 0) := rfl
set_option maxRecDepth 50000 in
theorem i_Mo_determinant_134 : ix_nx mMo_determinant 134 = some (0, .iand, 135, none, [], 0) := rfl
set_option maxRecDepth 50000 in
theorem i_Mo_determinant_135 : ix_nx mMo_determinant 135 = some (0, .istore 6, 137, none, [], 0) := rfl
set_option maxRecDepth 50000 in
theorem i_Mo_determinant_137 : ix_nx mMo_determinant 137 = some (0, .iload 4, 139, none, [], 0) := rfl
set_option maxRecDepth 50000 in
theorem i_Mo_determinant_139 : ix_nx mMo_determinant 139 = some (0, .iconst 4, 140, none, [], 0) := rfl
set_option maxRecDepth 50000 in
theorem i_Mo_determinant_140 : ix_nx mMo_determinant 140 = some (0, .ishr, 141, none, [], 0) := rfl
set_option maxRecDepth 50000 in
theorem i_Mo_determinant_141 : ix_nx mMo_determinant 141 = some (0, .iconst 3, 142, none, [], 0) := rfl
set_option maxRecDepth 50000 in
theorem i_Mo_determinant_142 : ix_nx mMo_determinant 142 = some (0, .iand, 143, none, [], 0) := rfl
set_option maxRecDepth 50000 in
theorem i_Mo_determinant_143 : ix_nx mMo_determinant 143 = some (0, .istore 7, 145, none, [], 0) := rfl
set_option maxRecDepth 50000 in
theorem i_Mo_determinant_145 : ix_nx mMo_determinant 145 = some (0, .iload 4, 147, none, [], 0) := rfl
set_option maxRecDepth 50000 in
theorem i_Mo_determinant_147 : ix_nx mMo_determinant 147 = some (0, .bipush 6, 149, none, [], 0) := rfl
set_option maxRecDepth 50000 in
theorem i_Mo_determinant_149 : ix_nx mMo_determinant 149 = some (0, .ishr, 150, none, [], 0) := rfl
set_option maxRecDepth 50000 in
theorem i_Mo_determinant_150 : ix_nx mMo_determinant 150 = some (0, .istore 8, 152, none, [], 0) := rfl
set_option maxRecDepth 50000 in
theorem i_Mo_determinant_152 : ix_nx mMo_determinant 152 = some (0, .iload 5, 154, none, [], 0) := rfl
set_option maxRecDepth 50000 in
theorem i_Mo_determinant_154 : ix_nx mMo_determinant 154 = some (0, .iload 6, 156, none, [], 0) := rfl
set_option maxRecDepth 50000 in
theorem i_Mo_determinant_156 : ix_nx mMo_determinant 156 = some (0, .if_icmp .eq 176, 159, none, [], 0) := rfl
set_option maxRecDepth 50000 in
theorem i_Mo_determinant_159 : ix_nx mMo_determinant 159 = some (0, .iload 5, 161, none, [], 0) := rfl
set_option maxRecDepth 50000 in
theorem i_Mo_determinant_161 : ix_nx mMo_determinant 161 = some (0, .iload 7, 163, none, [], 0) := rfl
set_option maxRecDepth 50000 in
theorem i_Mo_determinant_163 : ix_nx mMo_determinant 163 = some (0, .if_icmp .eq 169, 166, none, [], 0) := rfl
set_option maxRecDepth 50000 in
theorem i_Mo_determinant_166 : ix_nx mMo_determinant 166 = some (0, .iload 5, 168, none, [], 0) := rfl
set_option maxRecDepth 50000 in
theorem i_Mo_determinant_168 : ix_nx mMo_determinant 168 = some (0, .iload 8, 170, none, [], 0) := rfl
set_option maxRecDepth 50000 in
theorem i_Mo_determinant_170 : ix_nx mMo_determinant 170 = some (0, .if_icmp .eq 162, 173, none, [], 0) := rfl
set_option maxRecDepth 50000 in
theorem i_Mo_determinant_173 : ix_nx mMo_determinant 173 = some (0, .iload 6, 175, none, [], 0) := rfl
set_option maxRecDepth 50000 in
theorem i_Mo_determinant_175 : ix_nx mMo_determinant 175 = some (0, .iload 7, 177, none, [], 0) := rfl
set_option maxRecDepth 50000 in
theorem i_Mo_determinant_177 : ix_nx mMo_determinant 177 = some (0, .if_icmp .eq 155, 180, none, [], 0) := rfl
set_option maxRecDepth 50000 in
theorem i_Mo_determinant_180 : ix_nx mMo_determinant 180 = some (0, .iload 6, 182, none, [], 0) := rfl
set_option maxRecDepth 50000 in
theorem i_Mo_determinant_182 : ix_nx mMo_determinant 182 = some (0, .iload 8, 184, none, [], 0) := rfl
set_option maxRecDepth 50000 in
theorem i_Mo_determinant_184 : ix_nx mMo_determinant 184 = some (0, .if_icmp .eq 148, 187, none, [], 0) := rfl
set_option maxRecDepth 50000 in
theorem i_Mo_determinant_187 : ix_nx mMo_determinant 187 = some (0, .iload 7, 189, none, [], 0) := rfl
set_option maxRecDepth 50000 in
theorem i_Mo_determinant_189 : ix_nx mMo_determinant 189 = some (0, .iload 8, 191, none, [], 0) := rfl
set_option maxRecDepth 50000 in
theorem i_Mo_determinant_191 : ix_nx mMo_determinant 191 = some (0, .if_icmp .eq 141, 194, none, [], 0) := rfl
set_option maxRecDepth 50000 in
theorem i_Mo_determinant_194 : ix_nx mMo_determinant 194 = some (0, .iload 5, 196, none, [], 0) := rfl
set_option maxRecDepth 50000 in
theorem i_Mo_determinant_196 : ix_nx mMo_determinant 196 = some (0, .iload 6, 198, none, [], 0) := rfl
set_option maxRecDepth 50000 in
theorem i_Mo_determinant_198 : ix_nx mMo_determinant 198 = some (0, .if_icmp .le 7, 201, none, [], 0) := rfl
set_option maxRecDepth 50000 in
theorem i_Mo_determinant_201 : ix_nx mMo_determinant 201 = some (0, .iconst 1, 202, none, [], 0) := rfl
set_option maxRecDepth 50000 in
theorem i_Mo_determinant_202 : ix_nx mMo_determinant 202 = some (0, .goto 4, 205, none, [], 0) := rfl
set_option maxRecDepth 50000 in
theorem i_Mo_determinant_205 : ix_nx mMo_determinant 205 = some (0, .iconst 0, 206, none, [], 0) := rfl
set_option maxRecDepth 50000 in
theorem i_Mo_determinant_206 : ix_nx mMo_determinant 206 = some (0, .iload 5, 208, none, [], 0) := rfl
set_option maxRecDepth 50000 in
theorem i_Mo_determinant_208 : ix_nx mMo_determinant 208 = some (0, .iload 7, 210, none, [], 0) := rfl
set_option maxRecDepth 50000 in
theorem i_Mo_determinant_210 : ix_nx mMo_determinant 210 = some (0, .if_icmp .le 7, 213, none, [], 0) := rfl
set_option maxRecDepth 50000 in
theorem i_Mo_determinant_213 : ix_nx mMo_determinant 213 = some (0, .iconst 1, 214, none, [], 0) := rfl
set_option maxRecDepth 50000 in
theorem i_Mo_determinant_214 : ix_nx mMo_determinant 214 = some (0, .goto 4, 217, none, [], 0) := rfl
set_option maxRecDepth 50000 in
theorem i_Mo_determinant_217 : ix_nx mMo_determinant 217 = some (0, .iconst 0, 218, none, [], 0) := rfl
set_option maxRecDepth 50000 in
theorem i_Mo_determinant_218 : ix_nx mMo_determinant 218 = some (0, .iadd, 219, some [true, false, true, false, true, true, true, true, true, false, false, false], [], 0) := rfl
set_option maxRecDepth 50000 in
theorem i_Mo_determinant_219 : ix_nx mMo_determinant 219 = some (0, .iload 5, 221, none, [], 0) := rfl
set_option maxRecDepth 50000 in
theorem i_Mo_determinant_221 : ix_nx mMo_determinant 221 = some (0, .iload 8, 223, none, [], 0) := rfl
set_option maxRecDepth 50000 in
theorem i_Mo_determinant_223 : ix_nx mMo_determinant 223 = some (0, .if_icmp .le 7, 226, none, [], 0) := rfl
set_option maxRecDepth 50000 in
theorem i_Mo_determinant_226 : ix_nx mMo_determinant 226 = some (0, .iconst 1, 227, none, [], 0) := rfl
set_option maxRecDepth 50000 in
theorem i_Mo_determinant_227 : ix_nx mMo_determinant 227 = some (0, .goto 4, 230, none, [], 0) := rfl
set_option maxRecDepth 50000 in
theorem i_Mo_determinant_230 : ix_nx mMo_determinant 230 = some (0, .iconst 0, 231, none, [], 0) := rfl
set_option maxRecDepth 50000 in
theorem i_Mo_determinant_231 : ix_nx mMo_determinant 231 = some (0, .iadd, 232, none, [], 0) := rfl
set_option maxRecDepth 50000 in
theorem i_Mo_determinant_232 : ix_nx mMo_determinant 232 = some (0, .iload 6, 234, none, [], 0) := rfl
set_option maxRecDepth 50000 in
theorem i_Mo_determinant_234 : ix_nx mMo_determinant 234 = some (0, .iload 7, 236, none, [], 0) := rfl
set_option maxRecDepth 50000 in
theorem i_Mo_determinant_236 : ix_nx mMo_determinant 236 = some (0, .if_icmp .le 7, 239, none, [], 0) := rfl
set_option maxRecDepth 50000 in
theorem i_Mo_determinant_239 : ix_nx mMo_determinant 239 = some (0, .iconst 1, 240, none, [], 0) := rfl
set_option maxRecDepth 50000 in
theorem i_Mo_determinant_240 : ix_nx mMo_determinant 240 = some (0, .goto 4, 243, none, [], 0) := rfl
set_option maxRecDepth 50000 in
theorem i_Mo_determinant_243 : ix_nx mMo_determinant 243 = some (0, .iconst 0, 244, none, [], 0) := rfl
set_option maxRecDepth 50000 in
theorem i_Mo_determinant_244 : ix_nx mMo_determinant 244 = some (0, .iadd, 245, some [true, false, true, false, true, true, true, true, true, false, false, false], [], 0) := rfl
set_option maxRecDepth 50000 in
theorem i_Mo_determinant_245 : ix_nx mMo_determinant 245 = some (0, .iload 6, 247, none, [], 0) := rfl
set_option maxRecDepth 50000 in
theorem i_Mo_determinant_247 : ix_nx mMo_determinant 247 = some (0, .iload 8, 249, none, [], 0) := rfl
set_option maxRecDepth 50000 in
theorem i_Mo_determinant_249 : ix_nx mMo_determinant 249 = some (0, .if_icmp .le 7, 252, none, [], 0) := rfl
set_option maxRecDepth 50000 in
theorem i_Mo_determinant_252 : ix_nx mMo_determinant 252 = some (0, .iconst 1, 253, none, [], 0) := rfl
set_option maxRecDepth 50000 in
theorem i_Mo_determinant_253 : ix_nx mMo_determinant 253 = some (0, .goto 4, 256, none, [], 0) := rfl
set_option maxRecDepth 50000 in
theorem i_Mo_determinant_256 : ix_nx mMo_determinant 256 = some (0, .iconst 0, 257, none, [], 0) := rfl
set_option maxRecDepth 50000 in
theorem i_Mo_determinant_257 : ix_nx mMo_determinant 257 = some (0, .iadd, 258, none, [], 0) := rfl
set_option maxRecDepth 50000 in
theorem i_Mo_determinant_258 : ix_nx mMo_determinant 258 = some (0, .iload 7, 260, none, [], 0) := rfl
set_option maxRecDepth 50000 in
theorem i_Mo_determinant_260 : ix_nx mMo_determinant 260 = some (0, .iload 8, 262, none, [], 0) := rfl
set_option maxRecDepth 50000 in
theorem i_Mo_determinant_262 : ix_nx mMo_determinant 262 = some (0, .if_icmp .le 7, 265, none, [], 0) := rfl
set_option maxRecDepth 50000 in
theorem i_Mo_determinant_265 : ix_nx mMo_determinant 265 = some (0, .iconst 1, 266, none, [], 0) := rfl
set_option maxRecDepth 50000 in
theorem i_Mo_determinant_266 : ix_nx mMo_determinant 266 = some (0, .goto 4, 269, none, [], 0) := rfl
set_option maxRecDepth 50000 in
theorem i_Mo_determinant_269 : ix_nx mMo_determinant 269 = some (0, .iconst 0, 270, none, [], 0) := rfl
set_option maxRecDepth 50000 in
theorem i_Mo_determinant_270 : ix_nx mMo_determinant 270 = some (0, .iadd, 271, some [true, false, true, false, true, true, true, true, true, false, false, false], [], 0) := rfl
set_option maxRecDepth 50000 in
theorem i_Mo_determinant_271 : ix_nx mMo_determinant 271 = some (0, .istore 9, 273, none, [], 0) := rfl
set_option maxRecDepth 50000 in
theorem i_Mo_determinant_273 : ix_nx mMo_determinant 273 = some (0, .aload_n 0, 274, none, [], 0) := rfl
set_option maxRecDepth 50000 in
theorem i_Mo_determinant_274 : ix_nx mMo_determinant 274 = some (1, .getfield 30, 277, none, [11, 6, 2, 96], 0) := rfl
set_option maxRecDepth 50000 in
theorem i_Mo_determinant_277 : ix_nx mMo_determinant 277 = some (0, .iload 5, 279, none, [], 0) := rfl
set_option maxRecDepth 50000 in
theorem i_Mo_determinant_279 : ix_nx mMo_determinant 279 = some (1, .laload, 280, none, [], 0) := rfl
set_option maxRecDepth 50000 in
theorem i_Mo_determinant_280 : ix_nx mMo_determinant 280 = some (0, .aload_n 0, 281, none, [], 0) := rfl
set_option maxRecDepth 50000 in
theorem i_Mo_determinant_281 : ix_nx mMo_determinant 281 = some (1, .getfield 30, 284, none, [11, 6, 2, 96], 0) := rfl
set_option maxRecDepth 50000 in
theorem i_Mo_determinant_284 : ix_nx mMo_determinant 284 = some (0, .iconst 4, 285, none, [], 0) := rfl
set_option maxRecDepth 50000 in
theorem i_Mo_determinant_285 : ix_nx mMo_determinant 285 = some (0, .iload 6, 287, none, [], 0) := rfl
set_option maxRecDepth 50000 in
theorem i_Mo_determinant_287 : ix_nx mMo_determinant 287 = some (0, .iadd, 288, none, [], 0) := rfl
set_option maxRecDepth 50000 in
theorem i_Mo_determinant_288 : ix_nx mMo_determinant 288 = some (1, .laload, 289, none, [], 0) := rfl
set_option maxRecDepth 50000 in
theorem i_Mo_determinant_289 : ix_nx mMo_determinant 289 = some (0, .lmul, 290, none, [], 0) := rfl
set_option maxRecDepth 50000 in
theorem i_Mo_determinant_290 : ix_nx mMo_determinant 290 = some (0, .aload_n 0, 291, none, [], 0) := rfl
set_option maxRecDepth 50000 in
theorem i_Mo_determinant_291 : ix_nx mMo_determinant 291 = some (1, .getfield 30, 294, none, [11, 6, 2, 96], 0) := rfl
set_option maxRecDepth 50000 in
theorem i_Mo_determinant_294 : ix_nx mMo_determinant 294 = some (0, .bipush 8, 296, none, [], 0) := rfl
set_option maxRecDepth 50000 in
theorem i_Mo_determinant_296 : ix_nx mMo_determinant 296 = some (0, .iload 7, 298, none, [], 0) := rfl
set_option maxRecDepth 50000 in
theorem i_Mo_determinant_298 : ix_nx mMo_determinant 298 = some (0, .iadd, 299, none, [], 0) := rfl
set_option maxRecDepth 50000 in
theorem i_Mo_determinant_299 : ix_nx mMo_determinant 299 = some (1, .laload, 300, none, [], 0) := rfl
set_option maxRecDepth 50000 in
theorem i_Mo_determinant_300 : ix_nx mMo_determinant 300 = some (0, .lmul, 301, none, [], 0) := rfl
set_option maxRecDepth 50000 in
theorem i_Mo_determinant_301 : ix_nx mMo_determinant 301 = some (0, .aload_n 0, 302, none, [], 0) := rfl
set_option maxRecDepth 50000 in
theorem i_Mo_determinant_302 : ix_nx mMo_determinant 302 = some (1, .getfield 30, 305, none, [11, 6, 2, 96], 0) := rfl
set_option maxRecDepth 50000 in
theorem i_Mo_determinant_305 : ix_nx mMo_determinant 305 = some (0, .bipush 12, 307, none, [], 0) := rfl
set_option maxRecDepth 50000 in
theorem i_Mo_determinant_307 : ix_nx mMo_determinant 307 = some (0, .iload 8, 309, none, [], 0) := rfl
set_option maxRecDepth 50000 in
theorem i_Mo_determinant_309 : ix_nx mMo_determinant 309 = some (0, .iadd, 310, none, [], 0) := rfl
set_option maxRecDepth 50000 in
theorem i_Mo_determinant_310 : ix_nx mMo_determinant 310 = some (1, .laload, 311, none, [], 0) := rfl
set_option maxRecDepth 50000 in
theorem i_Mo_determinant_311 : ix_nx mMo_determinant 311 = some (0, .lmul, 312, none, [], 0) := rfl
set_option maxRecDepth 50000 in
theorem i_Mo_determinant_312 : ix_nx mMo_determinant 312 = some (0, .lstore 10, 314, none, [], 0) := rfl
set_option maxRecDepth 50000 in
theorem i_Mo_determinant_314 : ix_nx mMo_determinant 314 = some (0, .lload_n 2, 315, none, [], 0) := rfl
set_option maxRecDepth 50000 in
theorem i_Mo_determinant_315 : ix_nx mMo_determinant 315 = some (0, .iload 9, 317, none, [], 0) := rfl
set_option maxRecDepth 50000 in
theorem i_Mo_determinant_317 : ix_nx mMo_determinant 317 = some (0, .iconst 2, 318, none, [], 0) := rfl
set_option maxRecDepth 50000 in
theorem i_Mo_determinant_318 : ix_nx mMo_determinant 318 = some (0, .irem, 319, none, [], 0) := rfl
set_option maxRecDepth 50000 in
theorem i_Mo_determinant_319 : ix_nx mMo_determinant 319 = some (0, .ifCond .ne 8, 322, none, [], 0) := rfl
set_option maxRecDepth 50000 in
theorem i_Mo_determinant_322 : ix_nx mMo_determinant 322 = some (0, .lload 10, 324, none, [], 0) := rfl
set_option maxRecDepth 50000 in
theorem i_Mo_determinant_324 : ix_nx mMo_determinant 324 = some (0, .goto 6, 327, none, [], 0) := rfl
set_option maxRecDepth 50000 in
theorem i_Mo_determinant_327 : ix_nx mMo_determinant 327 = some (0, .lload 10, 329, none, [], 0) := rfl
set_option maxRecDepth 50000 in
theorem i_Mo_determinant_329 : ix_nx mMo_determinant 329 = some (0, .lneg, 330, none, [], 0) := rfl
set_option maxRecDepth 50000 in
theorem i_Mo_determinant_330 : ix_nx mMo_determinant 330 = some (0, .ladd, 331, none, [], 0) := rfl
set_option maxRecDepth 50000 in
theorem i_Mo_determinant_331 : ix_nx mMo_determinant 331 = some (0, .lstore_n 2, 332, none, [], 0) := rfl
set_option maxRecDepth 50000 in
theorem i_Mo_determinant_332 : ix_nx mMo_determinant 332 = some (0, .iinc 4 1, 335, none, [], 0) := rfl
set_option maxRecDepth 50000 in
theorem i_Mo_determinant_335 : ix_nx mMo_determinant 335 = some (0, .goto (-220), 338, none, [], 0) := rfl
set_option maxRecDepth 50000 in
theorem i_Mo_determinant_338 : ix_nx mMo_determinant 338 = some (0, .lload_n 2, 339, none, [], 0) := rfl
set_option maxRecDepth 50000 in
theorem i_Mo_determinant_339 : ix_nx mMo_determinant 339 = some (4, .lreturn, 340, none, [], 0) := rfl
noncomputable def l_Mo_determinant_11 (a0 : Nat) (x1 : Int32) (x2 : Int32) (h : ixH) : Option (List Value × ixH) := ix_D mMo_determinant 11 [some (.ref a0), some (.int x1), some (.int x2), none, none, none, none, none, none, none, none, none] [] h
noncomputable def l_Mo_determinant_18 (a0 : Nat) (x1 : Int32) (x2 : Int32) (x3 : Int32) (h : ixH) : Option (List Value × ixH) := ix_D mMo_determinant 18 [some (.ref a0), some (.int x1), some (.int x2), some (.int x3), none, none, none, none, none, none, none, none] [] h
noncomputable def l_Mo_determinant_57 (a0 : Nat) (x1 : Int32) (x2 : Int32) (h : ixH) : Option (List Value × ixH) := ix_D mMo_determinant 57 [some (.ref a0), some (.int x1), some (.int x2), none, none, none, none, none, none, none, none, none] [] h
noncomputable def l_Mo_determinant_73 (a0 : Nat) (x1 : Int32) (x2 : Int32) (x3 : Int32) (h : ixH) : Option (List Value × ixH) := ix_D mMo_determinant 73 [some (.ref a0), some (.int x1), some (.int x2), some (.int x3), none, none, none, none, none, none, none, none] [] h
noncomputable def l_Mo_determinant_115 (a0 : Nat) (x2 : Int64) (x4 : Int32) (h : ixH) : Option (List Value × ixH) := ix_D mMo_determinant 115 [some (.ref a0), none, some (.long x2), none, some (.int x4), none, none, none, none, none, none, none] [] h
noncomputable def l_Mo_determinant_218 (a0 : Nat) (x2 : Int64) (x4 : Int32) (x5 : Int32) (x6 : Int32) (x7 : Int32) (x8 : Int32) (sb0 : Bool) (sb1 : Bool) (h : ixH) : Option (List Value × ixH) := ix_D mMo_determinant 218 [some (.ref a0), none, some (.long x2), none, some (.int x4), some (.int x5), some (.int x6), some (.int x7), some (.int x8), none, none, none] [.int (ix_bi sb1), .int (ix_bi sb0)] h
noncomputable def l_Mo_determinant_244 (a0 : Nat) (x2 : Int64) (x4 : Int32) (x5 : Int32) (x6 : Int32) (x7 : Int32) (x8 : Int32) (s0 : Int32) (sb1 : Bool) (h : ixH) : Option (List Value × ixH) := ix_D mMo_determinant 244 [some (.ref a0), none, some (.long x2), none, some (.int x4), some (.int x5), some (.int x6), some (.int x7), some (.int x8), none, none, none] [.int (ix_bi sb1), .int s0] h
noncomputable def l_Mo_determinant_270 (a0 : Nat) (x2 : Int64) (x4 : Int32) (x5 : Int32) (x6 : Int32) (x7 : Int32) (x8 : Int32) (s0 : Int32) (sb1 : Bool) (h : ixH) : Option (List Value × ixH) := ix_D mMo_determinant 270 [some (.ref a0), none, some (.long x2), none, some (.int x4), some (.int x5), some (.int x6), some (.int x7), some (.int x8), none, none, none] [.int (ix_bi sb1), .int s0] h
set_option maxRecDepth 20000 in
set_option maxHeartbeats 1000000 in
theorem e_Mo_determinant_11 (a0 : Nat) (x1 : Int32) (x2 : Int32) (h : ixH) : l_Mo_determinant_11 a0 x1 x2 h = if 4 ≤ x2 then l_Mo_determinant_57 a0 x1 0 h else l_Mo_determinant_18 a0 x1 x2 0 h := by
  unfold l_Mo_determinant_11
  refine ix_K_px kq_Mo_determinant i_Mo_determinant_11 rfl rfl ?_
  refine ix_K_ci kq_Mo_determinant i_Mo_determinant_12 rfl kci_4 ?_
  refine ix_K_ic_ge (tgt := 55) kq_Mo_determinant i_Mo_determinant_13 rfl (by decide) ?_ ?_
  · refine ix_K_ci kq_Mo_determinant i_Mo_determinant_55 rfl kci_0 ?_
    refine ix_K_si (L2 := [some (.ref a0), some (.int x1), some (.int 0), none, none, none, none, none, none, none, none, none]) kq_Mo_determinant i_Mo_determinant_56 rfl (Or.inr ⟨_, rfl, rfl⟩) (Nat.le_of_ble_eq_true rfl) rfl ?_
    exact ix_D_cut i_Mo_determinant_57 rfl
  · refine ix_K_ci kq_Mo_determinant i_Mo_determinant_16 rfl kci_0 ?_
    refine ix_K_si (L2 := [some (.ref a0), some (.int x1), some (.int x2), some (.int 0), none, none, none, none, none, none, none, none]) kq_Mo_determinant i_Mo_determinant_17 rfl (Or.inr ⟨_, rfl, rfl⟩) (Nat.le_of_ble_eq_true rfl) rfl ?_
    exact ix_D_cut i_Mo_determinant_18 rfl
set_option maxRecDepth 20000 in
set_option maxHeartbeats 1000000 in
theorem e_Mo_determinant_18 (a0 : Nat) (x1 : Int32) (x2 : Int32) (x3 : Int32) (h : ixH) : l_Mo_determinant_18 a0 x1 x2 x3 h = if 4 ≤ x3 then l_Mo_determinant_11 a0 x1 (x2 + 1) h else (ix_gr h a0 11 6).bind fun v1 => if ¬ x2 = x3 then (ix_sl h v1 ((4 * x2) + x3) 0).bind fun h2 => l_Mo_determinant_18 a0 x1 x2 (x3 + 1) h2 else (ix_sl h v1 ((4 * x2) + x3) 1).bind fun h3 => l_Mo_determinant_18 a0 x1 x2 (x3 + 1) h3 := by
  unfold l_Mo_determinant_18
  refine ix_K_px kq_Mo_determinant i_Mo_determinant_18 rfl rfl ?_
  refine ix_K_ci kq_Mo_determinant i_Mo_determinant_19 rfl kci_4 ?_
  refine ix_K_ic_ge (tgt := 49) kq_Mo_determinant i_Mo_determinant_20 rfl (by decide) ?_ ?_
  · refine ix_K_inc (L2 := [some (.ref a0), some (.int x1), some (.int (x2 + 1)), some (.int x3), none, none, none, none, none, none, none, none]) kq_Mo_determinant i_Mo_determinant_49 rfl rfl (Nat.le_of_ble_eq_true rfl) kci_1 rfl ?_
    refine ix_K_goto (tgt := 11) kq_Mo_determinant i_Mo_determinant_52 rfl (by decide) ?_
    exact ix_D_cut i_Mo_determinant_11 rfl
  · refine ix_K_px kq_Mo_determinant i_Mo_determinant_23 rfl rfl ?_
    refine ix_K_gr kq_Mo_determinant i_Mo_determinant_24 rfl (fun v1 => ?_)
    refine ix_K_ci kq_Mo_determinant i_Mo_determinant_27 rfl kci_4 ?_
    refine ix_K_px kq_Mo_determinant i_Mo_determinant_28 rfl rfl ?_
    refine ix_K_px kq_Mo_determinant i_Mo_determinant_29 rfl rfl ?_
    refine ix_K_px kq_Mo_determinant i_Mo_determinant_30 rfl rfl ?_
    refine ix_K_px kq_Mo_determinant i_Mo_determinant_31 rfl rfl ?_
    refine ix_K_px kq_Mo_determinant i_Mo_determinant_32 rfl rfl ?_
    refine ix_K_px kq_Mo_determinant i_Mo_determinant_33 rfl rfl ?_
    refine ix_K_ic_ne (tgt := 41) kq_Mo_determinant i_Mo_determinant_34 rfl (by decide) ?_ ?_
    · refine ix_K_cl kq_Mo_determinant i_Mo_determinant_41 rfl kcl_0 ?_
      refine ix_K_tl kq_Mo_determinant i_Mo_determinant_42 rfl (fun h2 => ?_)
      refine ix_K_inc (L2 := [some (.ref a0), some (.int x1), some (.int x2), some (.int (x3 + 1)), none, none, none, none, none, none, none, none]) kq_Mo_determinant i_Mo_determinant_43 rfl rfl (Nat.le_of_ble_eq_true rfl) kci_1 rfl ?_
      refine ix_K_goto (tgt := 18) kq_Mo_determinant i_Mo_determinant_46 rfl (by decide) ?_
      exact ix_D_cut i_Mo_determinant_18 rfl
    · refine ix_K_cl kq_Mo_determinant i_Mo_determinant_37 rfl kcl_1 ?_
      refine ix_K_goto (tgt := 42) kq_Mo_determinant i_Mo_determinant_38 rfl (by decide) ?_
      refine ix_K_tl kq_Mo_determinant i_Mo_determinant_42 rfl (fun h3 => ?_)
      refine ix_K_inc (L2 := [some (.ref a0), some (.int x1), some (.int x2), some (.int (x3 + 1)), none, none, none, none, none, none, none, none]) kq_Mo_determinant i_Mo_determinant_43 rfl rfl (Nat.le_of_ble_eq_true rfl) kci_1 rfl ?_
      refine ix_K_goto (tgt := 18) kq_Mo_determinant i_Mo_determinant_46 rfl (by decide) ?_
      exact ix_D_cut i_Mo_determinant_18 rfl
set_option maxRecDepth 20000 in
set_option maxHeartbeats 1000000 in
theorem e_Mo_determinant_57 (a0 : Nat) (x1 : Int32) (x2 : Int32) (h : ixH) : l_Mo_determinant_57 a0 x1 x2 h = if x1 ≤ x2 then l_Mo_determinant_115 a0 0 0 h else (ix_M mMo_start [.ref a0, .int x2] h).bind fun r => ix_kI r fun v2 h1 => (ix_M mMo_layFalls [.ref a0, .int v2] h1).bind fun r => ix_kV r fun h3 => l_Mo_determinant_73 a0 x1 x2 0 h3 := by
  unfold l_Mo_determinant_57
  refine ix_K_px kq_Mo_determinant i_Mo_determinant_57 rfl rfl ?_
  refine ix_K_px kq_Mo_determinant i_Mo_determinant_58 rfl rfl ?_
  refine ix_K_ic_ge (tgt := 110) kq_Mo_determinant i_Mo_determinant_59 rfl (by decide) ?_ ?_
  · refine ix_K_cl kq_Mo_determinant i_Mo_determinant_110 rfl kcl_0 ?_
    refine ix_K_sl (L2 := [some (.ref a0), some (.int x1), some (.long 0), none, none, none, none, none, none, none, none, none]) kq_Mo_determinant i_Mo_determinant_111 rfl (Or.inr ⟨_, rfl, rfl⟩) (Nat.le_of_ble_eq_true rfl) rfl ?_
    refine ix_K_ci kq_Mo_determinant i_Mo_determinant_112 rfl kci_0 ?_
    refine ix_K_si (L2 := [some (.ref a0), some (.int x1), some (.long 0), none, some (.int 0), none, none, none, none, none, none, none]) kq_Mo_determinant i_Mo_determinant_113 rfl (Or.inl rfl) (Nat.le_of_ble_eq_true rfl) rfl ?_
    exact ix_D_cut i_Mo_determinant_115 rfl
  · refine ix_K_px kq_Mo_determinant i_Mo_determinant_62 rfl rfl ?_
    refine ix_K_px kq_Mo_determinant i_Mo_determinant_63 rfl rfl ?_
    refine ix_K_px kq_Mo_determinant i_Mo_determinant_64 rfl rfl ?_
    refine ix_K_callI (as := [.ref a0, .int x2]) (rest := [.ref a0]) kq_Mo_determinant i_Mo_determinant_65 rfl kq_Mo_start (by decide) rfl (Or.inl rfl) (fun v2 h1 => ?_)
    refine ix_K_callV (as := [.ref a0, .int v2]) (rest := []) kq_Mo_determinant i_Mo_determinant_68 rfl kq_Mo_layFalls (by decide) rfl rfl (fun h3 => ?_)
    refine ix_K_ci kq_Mo_determinant i_Mo_determinant_71 rfl kci_0 ?_
    refine ix_K_si (L2 := [some (.ref a0), some (.int x1), some (.int x2), some (.int 0), none, none, none, none, none, none, none, none]) kq_Mo_determinant i_Mo_determinant_72 rfl (Or.inr ⟨_, rfl, rfl⟩) (Nat.le_of_ble_eq_true rfl) rfl ?_
    exact ix_D_cut i_Mo_determinant_73 rfl
set_option maxRecDepth 20000 in
set_option maxHeartbeats 1000000 in
theorem e_Mo_determinant_73 (a0 : Nat) (x1 : Int32) (x2 : Int32) (x3 : Int32) (h : ixH) : l_Mo_determinant_73 a0 x1 x2 x3 h = if x1 ≤ x3 then l_Mo_determinant_57 a0 x1 (x2 + 1) h else (ix_gr h a0 11 6).bind fun v1 => (ix_gr h a0 11 3).bind fun v2 => (ix_M mMo_end [.ref a0, .int x3] h).bind fun r => ix_kI r fun v4 h3 => (ix_al h3 v2 v4).bind fun v5 => (ix_sl h3 v1 ((4 * x2) + x3) v5).bind fun h6 => l_Mo_determinant_73 a0 x1 x2 (x3 + 1) h6 := by
  unfold l_Mo_determinant_73
  refine ix_K_px kq_Mo_determinant i_Mo_determinant_73 rfl rfl ?_
  refine ix_K_px kq_Mo_determinant i_Mo_determinant_74 rfl rfl ?_
  refine ix_K_ic_ge (tgt := 104) kq_Mo_determinant i_Mo_determinant_75 rfl (by decide) ?_ ?_
  · refine ix_K_inc (L2 := [some (.ref a0), some (.int x1), some (.int (x2 + 1)), some (.int x3), none, none, none, none, none, none, none, none]) kq_Mo_determinant i_Mo_determinant_104 rfl rfl (Nat.le_of_ble_eq_true rfl) kci_1 rfl ?_
    refine ix_K_goto (tgt := 57) kq_Mo_determinant i_Mo_determinant_107 rfl (by decide) ?_
    exact ix_D_cut i_Mo_determinant_57 rfl
  · refine ix_K_px kq_Mo_determinant i_Mo_determinant_78 rfl rfl ?_
    refine ix_K_gr kq_Mo_determinant i_Mo_determinant_79 rfl (fun v1 => ?_)
    refine ix_K_ci kq_Mo_determinant i_Mo_determinant_82 rfl kci_4 ?_
    refine ix_K_px kq_Mo_determinant i_Mo_determinant_83 rfl rfl ?_
    refine ix_K_px kq_Mo_determinant i_Mo_determinant_84 rfl rfl ?_
    refine ix_K_px kq_Mo_determinant i_Mo_determinant_85 rfl rfl ?_
    refine ix_K_px kq_Mo_determinant i_Mo_determinant_86 rfl rfl ?_
    refine ix_K_px kq_Mo_determinant i_Mo_determinant_87 rfl rfl ?_
    refine ix_K_gr kq_Mo_determinant i_Mo_determinant_88 rfl (fun v2 => ?_)
    refine ix_K_px kq_Mo_determinant i_Mo_determinant_91 rfl rfl ?_
    refine ix_K_px kq_Mo_determinant i_Mo_determinant_92 rfl rfl ?_
    refine ix_K_callI (as := [.ref a0, .int x3]) (rest := [.ref v2, .int ((4 * x2) + x3), .ref v1]) kq_Mo_determinant i_Mo_determinant_93 rfl kq_Mo_end (by decide) rfl (Or.inl rfl) (fun v4 h3 => ?_)
    refine ix_K_al kq_Mo_determinant i_Mo_determinant_96 rfl (fun v5 => ?_)
    refine ix_K_tl kq_Mo_determinant i_Mo_determinant_97 rfl (fun h6 => ?_)
    refine ix_K_inc (L2 := [some (.ref a0), some (.int x1), some (.int x2), some (.int (x3 + 1)), none, none, none, none, none, none, none, none]) kq_Mo_determinant i_Mo_determinant_98 rfl rfl (Nat.le_of_ble_eq_true rfl) kci_1 rfl ?_
    refine ix_K_goto (tgt := 73) kq_Mo_determinant i_Mo_determinant_101 rfl (by decide) ?_
    exact ix_D_cut i_Mo_determinant_73 rfl
set_option maxRecDepth 20000 in
set_option maxHeartbeats 1000000 in
theorem e_Mo_determinant_115 (a0 : Nat) (x2 : Int64) (x4 : Int32) (h : ixH) : l_Mo_determinant_115 a0 x2 x4 h = if 256 ≤ x4 then some ([.long x2], h) else if (x4 &&& 3) = ((ix_ishr x4 2) &&& 3) then l_Mo_determinant_115 a0 x2 (x4 + 1) h else if (x4 &&& 3) = ((ix_ishr x4 4) &&& 3) then l_Mo_determinant_115 a0 x2 (x4 + 1) h else if (x4 &&& 3) = (ix_ishr x4 6) then l_Mo_determinant_115 a0 x2 (x4 + 1) h else if ((ix_ishr x4 2) &&& 3) = ((ix_ishr x4 4) &&& 3) then l_Mo_determinant_115 a0 x2 (x4 + 1) h else if ((ix_ishr x4 2) &&& 3) = (ix_ishr x4 6) then l_Mo_determinant_115 a0 x2 (x4 + 1) h else if ((ix_ishr x4 4) &&& 3) = (ix_ishr x4 6) then l_Mo_determinant_115 a0 x2 (x4 + 1) h else if (x4 &&& 3) ≤ ((ix_ishr x4 2) &&& 3) then if (x4 &&& 3) ≤ ((ix_ishr x4 4) &&& 3) then l_Mo_determinant_218 a0 x2 x4 (x4 &&& 3) ((ix_ishr x4 2) &&& 3) ((ix_ishr x4 4) &&& 3) (ix_ishr x4 6) false false h else l_Mo_determinant_218 a0 x2 x4 (x4 &&& 3) ((ix_ishr x4 2) &&& 3) ((ix_ishr x4 4) &&& 3) (ix_ishr x4 6) false true h else if (x4 &&& 3) ≤ ((ix_ishr x4 4) &&& 3) then l_Mo_determinant_218 a0 x2 x4 (x4 &&& 3) ((ix_ishr x4 2) &&& 3) ((ix_ishr x4 4) &&& 3) (ix_ishr x4 6) true false h else l_Mo_determinant_218 a0 x2 x4 (x4 &&& 3) ((ix_ishr x4 2) &&& 3) ((ix_ishr x4 4) &&& 3) (ix_ishr x4 6) true true h := by
  unfold l_Mo_determinant_115
  refine ix_K_px kq_Mo_determinant i_Mo_determinant_115 rfl rfl ?_
  refine ix_K_cs kq_Mo_determinant i_Mo_determinant_117 rfl kcs_256 ?_
  refine ix_K_ic_ge (tgt := 338) kq_Mo_determinant i_Mo_determinant_120 rfl (by decide) ?_ ?_
  · refine ix_K_px kq_Mo_determinant i_Mo_determinant_338 rfl rfl ?_
    exact ix_D_ret kq_Mo_determinant i_Mo_determinant_339 (ix_rtL rfl _)
  · refine ix_K_px kq_Mo_determinant i_Mo_determinant_123 rfl rfl ?_
    refine ix_K_ci kq_Mo_determinant i_Mo_determinant_125 rfl kci_3 ?_
    refine ix_K_px kq_Mo_determinant i_Mo_determinant_126 rfl rfl ?_
    refine ix_K_si (L2 := [some (.ref a0), none, some (.long x2), none, some (.int x4), some (.int (x4 &&& 3)), none, none, none, none, none, none]) kq_Mo_determinant i_Mo_determinant_127 rfl (Or.inl rfl) (Nat.le_of_ble_eq_true rfl) rfl ?_
    refine ix_K_px kq_Mo_determinant i_Mo_determinant_129 rfl rfl ?_
    refine ix_K_ci kq_Mo_determinant i_Mo_determinant_131 rfl kci_2 ?_
    refine ix_K_px kq_Mo_determinant i_Mo_determinant_132 rfl rfl ?_
    refine ix_K_ci kq_Mo_determinant i_Mo_determinant_133 rfl kci_3 ?_
    refine ix_K_px kq_Mo_determinant i_Mo_determinant_134 rfl rfl ?_
    refine ix_K_si (L2 := [some (.ref a0), none, some (.long x2), none, some (.int x4), some (.int (x4 &&& 3)), some (.int ((ix_ishr x4 2) &&& 3)), none, none, none, none, none]) kq_Mo_determinant i_Mo_determinant_135 rfl (Or.inl rfl) (Nat.le_of_ble_eq_true rfl) rfl ?_
    refine ix_K_px kq_Mo_determinant i_Mo_determinant_137 rfl rfl ?_
    refine ix_K_ci kq_Mo_determinant i_Mo_determinant_139 rfl kci_4 ?_
    refine ix_K_px kq_Mo_determinant i_Mo_determinant_140 rfl rfl ?_
    refine ix_K_ci kq_Mo_determinant i_Mo_determinant_141 rfl kci_3 ?_
    refine ix_K_px kq_Mo_determinant i_Mo_determinant_142 rfl rfl ?_
    refine ix_K_si (L2 := [some (.ref a0), none, some (.long x2), none, some (.int x4), some (.int (x4 &&& 3)), some (.int ((ix_ishr x4 2) &&& 3)), some (.int ((ix_ishr x4 4) &&& 3)), none, none, none, none]) kq_Mo_determinant i_Mo_determinant_143 rfl (Or.inl rfl) (Nat.le_of_ble_eq_true rfl) rfl ?_
    refine ix_K_px kq_Mo_determinant i_Mo_determinant_145 rfl rfl ?_
    refine ix_K_cb kq_Mo_determinant i_Mo_determinant_147 rfl kcb_6 ?_
    refine ix_K_px kq_Mo_determinant i_Mo_determinant_149 rfl rfl ?_
    refine ix_K_si (L2 := [some (.ref a0), none, some (.long x2), none, some (.int x4), some (.int (x4 &&& 3)), some (.int ((ix_ishr x4 2) &&& 3)), some (.int ((ix_ishr x4 4) &&& 3)), some (.int (ix_ishr x4 6)), none, none, none]) kq_Mo_determinant i_Mo_determinant_150 rfl (Or.inl rfl) (Nat.le_of_ble_eq_true rfl) rfl ?_
    refine ix_K_px kq_Mo_determinant i_Mo_determinant_152 rfl rfl ?_
    refine ix_K_px kq_Mo_determinant i_Mo_determinant_154 rfl rfl ?_
    refine ix_K_ic_eq (tgt := 332) kq_Mo_determinant i_Mo_determinant_156 rfl (by decide) ?_ ?_
    · refine ix_K_inc (L2 := [some (.ref a0), none, some (.long x2), none, some (.int (x4 + 1)), some (.int (x4 &&& 3)), some (.int ((ix_ishr x4 2) &&& 3)), some (.int ((ix_ishr x4 4) &&& 3)), some (.int (ix_ishr x4 6)), none, none, none]) kq_Mo_determinant i_Mo_determinant_332 rfl rfl (Nat.le_of_ble_eq_true rfl) kci_1 rfl ?_
      refine ix_K_goto (tgt := 115) kq_Mo_determinant i_Mo_determinant_335 rfl (by decide) ?_
      exact ix_D_cut i_Mo_determinant_115 rfl
    · refine ix_K_px kq_Mo_determinant i_Mo_determinant_159 rfl rfl ?_
      refine ix_K_px kq_Mo_determinant i_Mo_determinant_161 rfl rfl ?_
      refine ix_K_ic_eq (tgt := 332) kq_Mo_determinant i_Mo_determinant_163 rfl (by decide) ?_ ?_
      · refine ix_K_inc (L2 := [some (.ref a0), none, some (.long x2), none, some (.int (x4 + 1)), some (.int (x4 &&& 3)), some (.int ((ix_ishr x4 2) &&& 3)), some (.int ((ix_ishr x4 4) &&& 3)), some (.int (ix_ishr x4 6)), none, none, none]) kq_Mo_determinant i_Mo_determinant_332 rfl rfl (Nat.le_of_ble_eq_true rfl) kci_1 rfl ?_
        refine ix_K_goto (tgt := 115) kq_Mo_determinant i_Mo_determinant_335 rfl (by decide) ?_
        exact ix_D_cut i_Mo_determinant_115 rfl
      · refine ix_K_px kq_Mo_determinant i_Mo_determinant_166 rfl rfl ?_
        refine ix_K_px kq_Mo_determinant i_Mo_determinant_168 rfl rfl ?_
        refine ix_K_ic_eq (tgt := 332) kq_Mo_determinant i_Mo_determinant_170 rfl (by decide) ?_ ?_
        · refine ix_K_inc (L2 := [some (.ref a0), none, some (.long x2), none, some (.int (x4 + 1)), some (.int (x4 &&& 3)), some (.int ((ix_ishr x4 2) &&& 3)), some (.int ((ix_ishr x4 4) &&& 3)), some (.int (ix_ishr x4 6)), none, none, none]) kq_Mo_determinant i_Mo_determinant_332 rfl rfl (Nat.le_of_ble_eq_true rfl) kci_1 rfl ?_
          refine ix_K_goto (tgt := 115) kq_Mo_determinant i_Mo_determinant_335 rfl (by decide) ?_
          exact ix_D_cut i_Mo_determinant_115 rfl
        · refine ix_K_px kq_Mo_determinant i_Mo_determinant_173 rfl rfl ?_
          refine ix_K_px kq_Mo_determinant i_Mo_determinant_175 rfl rfl ?_
          refine ix_K_ic_eq (tgt := 332) kq_Mo_determinant i_Mo_determinant_177 rfl (by decide) ?_ ?_
          · refine ix_K_inc (L2 := [some (.ref a0), none, some (.long x2), none, some (.int (x4 + 1)), some (.int (x4 &&& 3)), some (.int ((ix_ishr x4 2) &&& 3)), some (.int ((ix_ishr x4 4) &&& 3)), some (.int (ix_ishr x4 6)), none, none, none]) kq_Mo_determinant i_Mo_determinant_332 rfl rfl (Nat.le_of_ble_eq_true rfl) kci_1 rfl ?_
            refine ix_K_goto (tgt := 115) kq_Mo_determinant i_Mo_determinant_335 rfl (by decide) ?_
            exact ix_D_cut i_Mo_determinant_115 rfl
          · refine ix_K_px kq_Mo_determinant i_Mo_determinant_180 rfl rfl ?_
            refine ix_K_px kq_Mo_determinant i_Mo_determinant_182 rfl rfl ?_
            refine ix_K_ic_eq (tgt := 332) kq_Mo_determinant i_Mo_determinant_184 rfl (by decide) ?_ ?_
            · refine ix_K_inc (L2 := [some (.ref a0), none, some (.long x2), none, some (.int (x4 + 1)), some (.int (x4 &&& 3)), some (.int ((ix_ishr x4 2) &&& 3)), some (.int ((ix_ishr x4 4) &&& 3)), some (.int (ix_ishr x4 6)), none, none, none]) kq_Mo_determinant i_Mo_determinant_332 rfl rfl (Nat.le_of_ble_eq_true rfl) kci_1 rfl ?_
              refine ix_K_goto (tgt := 115) kq_Mo_determinant i_Mo_determinant_335 rfl (by decide) ?_
              exact ix_D_cut i_Mo_determinant_115 rfl
            · refine ix_K_px kq_Mo_determinant i_Mo_determinant_187 rfl rfl ?_
              refine ix_K_px kq_Mo_determinant i_Mo_determinant_189 rfl rfl ?_
              refine ix_K_ic_eq (tgt := 332) kq_Mo_determinant i_Mo_determinant_191 rfl (by decide) ?_ ?_
              · refine ix_K_inc (L2 := [some (.ref a0), none, some (.long x2), none, some (.int (x4 + 1)), some (.int (x4 &&& 3)), some (.int ((ix_ishr x4 2) &&& 3)), some (.int ((ix_ishr x4 4) &&& 3)), some (.int (ix_ishr x4 6)), none, none, none]) kq_Mo_determinant i_Mo_determinant_332 rfl rfl (Nat.le_of_ble_eq_true rfl) kci_1 rfl ?_
                refine ix_K_goto (tgt := 115) kq_Mo_determinant i_Mo_determinant_335 rfl (by decide) ?_
                exact ix_D_cut i_Mo_determinant_115 rfl
              · refine ix_K_px kq_Mo_determinant i_Mo_determinant_194 rfl rfl ?_
                refine ix_K_px kq_Mo_determinant i_Mo_determinant_196 rfl rfl ?_
                refine ix_K_ic_le (tgt := 205) kq_Mo_determinant i_Mo_determinant_198 rfl (by decide) ?_ ?_
                · refine ix_K_ci kq_Mo_determinant i_Mo_determinant_205 rfl kci_0 ?_
                  refine ix_K_px kq_Mo_determinant i_Mo_determinant_206 rfl rfl ?_
                  refine ix_K_px kq_Mo_determinant i_Mo_determinant_208 rfl rfl ?_
                  refine ix_K_ic_le (tgt := 217) kq_Mo_determinant i_Mo_determinant_210 rfl (by decide) ?_ ?_
                  · refine ix_K_ci kq_Mo_determinant i_Mo_determinant_217 rfl kci_0 ?_
                    exact ix_D_cut i_Mo_determinant_218 rfl
                  · refine ix_K_ci kq_Mo_determinant i_Mo_determinant_213 rfl kci_1 ?_
                    refine ix_K_goto (tgt := 218) kq_Mo_determinant i_Mo_determinant_214 rfl (by decide) ?_
                    exact ix_D_cut i_Mo_determinant_218 rfl
                · refine ix_K_ci kq_Mo_determinant i_Mo_determinant_201 rfl kci_1 ?_
                  refine ix_K_goto (tgt := 206) kq_Mo_determinant i_Mo_determinant_202 rfl (by decide) ?_
                  refine ix_K_px kq_Mo_determinant i_Mo_determinant_206 rfl rfl ?_
                  refine ix_K_px kq_Mo_determinant i_Mo_determinant_208 rfl rfl ?_
                  refine ix_K_ic_le (tgt := 217) kq_Mo_determinant i_Mo_determinant_210 rfl (by decide) ?_ ?_
                  · refine ix_K_ci kq_Mo_determinant i_Mo_determinant_217 rfl kci_0 ?_
                    exact ix_D_cut i_Mo_determinant_218 rfl
                  · refine ix_K_ci kq_Mo_determinant i_Mo_determinant_213 rfl kci_1 ?_
                    refine ix_K_goto (tgt := 218) kq_Mo_determinant i_Mo_determinant_214 rfl (by decide) ?_
                    exact ix_D_cut i_Mo_determinant_218 rfl
set_option maxRecDepth 20000 in
set_option maxHeartbeats 1000000 in
theorem e_Mo_determinant_218 (a0 : Nat) (x2 : Int64) (x4 : Int32) (x5 : Int32) (x6 : Int32) (x7 : Int32) (x8 : Int32) (sb0 : Bool) (sb1 : Bool) (h : ixH) : l_Mo_determinant_218 a0 x2 x4 x5 x6 x7 x8 sb0 sb1 h = if x5 ≤ x8 then if x6 ≤ x7 then l_Mo_determinant_244 a0 x2 x4 x5 x6 x7 x8 (((ix_bi sb0) + (ix_bi sb1)) + 0) false h else l_Mo_determinant_244 a0 x2 x4 x5 x6 x7 x8 (((ix_bi sb0) + (ix_bi sb1)) + 0) true h else if x6 ≤ x7 then l_Mo_determinant_244 a0 x2 x4 x5 x6 x7 x8 (((ix_bi sb0) + (ix_bi sb1)) + 1) false h else l_Mo_determinant_244 a0 x2 x4 x5 x6 x7 x8 (((ix_bi sb0) + (ix_bi sb1)) + 1) true h := by
  unfold l_Mo_determinant_218
  refine ix_K_px kq_Mo_determinant i_Mo_determinant_218 rfl rfl ?_
  refine ix_K_px kq_Mo_determinant i_Mo_determinant_219 rfl rfl ?_
  refine ix_K_px kq_Mo_determinant i_Mo_determinant_221 rfl rfl ?_
  refine ix_K_ic_le (tgt := 230) kq_Mo_determinant i_Mo_determinant_223 rfl (by decide) ?_ ?_
  · refine ix_K_ci kq_Mo_determinant i_Mo_determinant_230 rfl kci_0 ?_
    refine ix_K_px kq_Mo_determinant i_Mo_determinant_231 rfl rfl ?_
    refine ix_K_px kq_Mo_determinant i_Mo_determinant_232 rfl rfl ?_
    refine ix_K_px kq_Mo_determinant i_Mo_determinant_234 rfl rfl ?_
    refine ix_K_ic_le (tgt := 243) kq_Mo_determinant i_Mo_determinant_236 rfl (by decide) ?_ ?_
    · refine ix_K_ci kq_Mo_determinant i_Mo_determinant_243 rfl kci_0 ?_
      exact ix_D_cut i_Mo_determinant_244 rfl
    · refine ix_K_ci kq_Mo_determinant i_Mo_determinant_239 rfl kci_1 ?_
      refine ix_K_goto (tgt := 244) kq_Mo_determinant i_Mo_determinant_240 rfl (by decide) ?_
      exact ix_D_cut i_Mo_determinant_244 rfl
  · refine ix_K_ci kq_Mo_determinant i_Mo_determinant_226 rfl kci_1 ?_
    refine ix_K_goto (tgt := 231) kq_Mo_determinant i_Mo_determinant_227 rfl (by decide) ?_
    refine ix_K_px kq_Mo_determinant i_Mo_determinant_231 rfl rfl ?_
    refine ix_K_px kq_Mo_determinant i_Mo_determinant_232 rfl rfl ?_
    refine ix_K_px kq_Mo_determinant i_Mo_determinant_234 rfl rfl ?_
    refine ix_K_ic_le (tgt := 243) kq_Mo_determinant i_Mo_determinant_236 rfl (by decide) ?_ ?_
    · refine ix_K_ci kq_Mo_determinant i_Mo_determinant_243 rfl kci_0 ?_
      exact ix_D_cut i_Mo_determinant_244 rfl
    · refine ix_K_ci kq_Mo_determinant i_Mo_determinant_239 rfl kci_1 ?_
      refine ix_K_goto (tgt := 244) kq_Mo_determinant i_Mo_determinant_240 rfl (by decide) ?_
      exact ix_D_cut i_Mo_determinant_244 rfl
set_option maxRecDepth 20000 in
set_option maxHeartbeats 1000000 in
theorem e_Mo_determinant_244 (a0 : Nat) (x2 : Int64) (x4 : Int32) (x5 : Int32) (x6 : Int32) (x7 : Int32) (x8 : Int32) (s0 : Int32) (sb1 : Bool) (h : ixH) : l_Mo_determinant_244 a0 x2 x4 x5 x6 x7 x8 s0 sb1 h = if x6 ≤ x8 then if x7 ≤ x8 then l_Mo_determinant_270 a0 x2 x4 x5 x6 x7 x8 ((s0 + (ix_bi sb1)) + 0) false h else l_Mo_determinant_270 a0 x2 x4 x5 x6 x7 x8 ((s0 + (ix_bi sb1)) + 0) true h else if x7 ≤ x8 then l_Mo_determinant_270 a0 x2 x4 x5 x6 x7 x8 ((s0 + (ix_bi sb1)) + 1) false h else l_Mo_determinant_270 a0 x2 x4 x5 x6 x7 x8 ((s0 + (ix_bi sb1)) + 1) true h := by
  unfold l_Mo_determinant_244
  refine ix_K_px kq_Mo_determinant i_Mo_determinant_244 rfl rfl ?_
  refine ix_K_px kq_Mo_determinant i_Mo_determinant_245 rfl rfl ?_
  refine ix_K_px kq_Mo_determinant i_Mo_determinant_247 rfl rfl ?_
  refine ix_K_ic_le (tgt := 256) kq_Mo_determinant i_Mo_determinant_249 rfl (by decide) ?_ ?_
  · refine ix_K_ci kq_Mo_determinant i_Mo_determinant_256 rfl kci_0 ?_
    refine ix_K_px kq_Mo_determinant i_Mo_determinant_257 rfl rfl ?_
    refine ix_K_px kq_Mo_determinant i_Mo_determinant_258 rfl rfl ?_
    refine ix_K_px kq_Mo_determinant i_Mo_determinant_260 rfl rfl ?_
    refine ix_K_ic_le (tgt := 269) kq_Mo_determinant i_Mo_determinant_262 rfl (by decide) ?_ ?_
    · refine ix_K_ci kq_Mo_determinant i_Mo_determinant_269 rfl kci_0 ?_
      exact ix_D_cut i_Mo_determinant_270 rfl
    · refine ix_K_ci kq_Mo_determinant i_Mo_determinant_265 rfl kci_1 ?_
      refine ix_K_goto (tgt := 270) kq_Mo_determinant i_Mo_determinant_266 rfl (by decide) ?_
      exact ix_D_cut i_Mo_determinant_270 rfl
  · refine ix_K_ci kq_Mo_determinant i_Mo_determinant_252 rfl kci_1 ?_
    refine ix_K_goto (tgt := 257) kq_Mo_determinant i_Mo_determinant_253 rfl (by decide) ?_
    refine ix_K_px kq_Mo_determinant i_Mo_determinant_257 rfl rfl ?_
    refine ix_K_px kq_Mo_determinant i_Mo_determinant_258 rfl rfl ?_
    refine ix_K_px kq_Mo_determinant i_Mo_determinant_260 rfl rfl ?_
    refine ix_K_ic_le (tgt := 269) kq_Mo_determinant i_Mo_determinant_262 rfl (by decide) ?_ ?_
    · refine ix_K_ci kq_Mo_determinant i_Mo_determinant_269 rfl kci_0 ?_
      exact ix_D_cut i_Mo_determinant_270 rfl
    · refine ix_K_ci kq_Mo_determinant i_Mo_determinant_265 rfl kci_1 ?_
      refine ix_K_goto (tgt := 270) kq_Mo_determinant i_Mo_determinant_266 rfl (by decide) ?_
      exact ix_D_cut i_Mo_determinant_270 rfl
set_option maxRecDepth 20000 in
set_option maxHeartbeats 1000000 in
theorem e_Mo_determinant_270 (a0 : Nat) (x2 : Int64) (x4 : Int32) (x5 : Int32) (x6 : Int32) (x7 : Int32) (x8 : Int32) (s0 : Int32) (sb1 : Bool) (h : ixH) : l_Mo_determinant_270 a0 x2 x4 x5 x6 x7 x8 s0 sb1 h = (ix_gr h a0 11 6).bind fun v1 => (ix_al h v1 x5).bind fun v2 => (ix_gr h a0 11 6).bind fun v3 => (ix_al h v3 (4 + x6)).bind fun v4 => (ix_gr h a0 11 6).bind fun v5 => (ix_al h v5 (8 + x7)).bind fun v6 => (ix_gr h a0 11 6).bind fun v7 => (ix_al h v7 (12 + x8)).bind fun v8 => if 2 = 0 then none else if ¬ (ix_rem (s0 + (ix_bi sb1)) 2) = 0 then l_Mo_determinant_115 a0 (x2 + (-(((v2 * v4) * v6) * v8))) (x4 + 1) h else l_Mo_determinant_115 a0 (x2 + (((v2 * v4) * v6) * v8)) (x4 + 1) h := by
  unfold l_Mo_determinant_270
  refine ix_K_px kq_Mo_determinant i_Mo_determinant_270 rfl rfl ?_
  refine ix_K_si (L2 := [some (.ref a0), none, some (.long x2), none, some (.int x4), some (.int x5), some (.int x6), some (.int x7), some (.int x8), some (.int (s0 + (ix_bi sb1))), none, none]) kq_Mo_determinant i_Mo_determinant_271 rfl (Or.inl rfl) (Nat.le_of_ble_eq_true rfl) rfl ?_
  refine ix_K_px kq_Mo_determinant i_Mo_determinant_273 rfl rfl ?_
  refine ix_K_gr kq_Mo_determinant i_Mo_determinant_274 rfl (fun v1 => ?_)
  refine ix_K_px kq_Mo_determinant i_Mo_determinant_277 rfl rfl ?_
  refine ix_K_al kq_Mo_determinant i_Mo_determinant_279 rfl (fun v2 => ?_)
  refine ix_K_px kq_Mo_determinant i_Mo_determinant_280 rfl rfl ?_
  refine ix_K_gr kq_Mo_determinant i_Mo_determinant_281 rfl (fun v3 => ?_)
  refine ix_K_ci kq_Mo_determinant i_Mo_determinant_284 rfl kci_4 ?_
  refine ix_K_px kq_Mo_determinant i_Mo_determinant_285 rfl rfl ?_
  refine ix_K_px kq_Mo_determinant i_Mo_determinant_287 rfl rfl ?_
  refine ix_K_al kq_Mo_determinant i_Mo_determinant_288 rfl (fun v4 => ?_)
  refine ix_K_px kq_Mo_determinant i_Mo_determinant_289 rfl rfl ?_
  refine ix_K_px kq_Mo_determinant i_Mo_determinant_290 rfl rfl ?_
  refine ix_K_gr kq_Mo_determinant i_Mo_determinant_291 rfl (fun v5 => ?_)
  refine ix_K_cb kq_Mo_determinant i_Mo_determinant_294 rfl kcb_8 ?_
  refine ix_K_px kq_Mo_determinant i_Mo_determinant_296 rfl rfl ?_
  refine ix_K_px kq_Mo_determinant i_Mo_determinant_298 rfl rfl ?_
  refine ix_K_al kq_Mo_determinant i_Mo_determinant_299 rfl (fun v6 => ?_)
  refine ix_K_px kq_Mo_determinant i_Mo_determinant_300 rfl rfl ?_
  refine ix_K_px kq_Mo_determinant i_Mo_determinant_301 rfl rfl ?_
  refine ix_K_gr kq_Mo_determinant i_Mo_determinant_302 rfl (fun v7 => ?_)
  refine ix_K_cb kq_Mo_determinant i_Mo_determinant_305 rfl kcb_12 ?_
  refine ix_K_px kq_Mo_determinant i_Mo_determinant_307 rfl rfl ?_
  refine ix_K_px kq_Mo_determinant i_Mo_determinant_309 rfl rfl ?_
  refine ix_K_al kq_Mo_determinant i_Mo_determinant_310 rfl (fun v8 => ?_)
  refine ix_K_px kq_Mo_determinant i_Mo_determinant_311 rfl rfl ?_
  refine ix_K_sl (L2 := [some (.ref a0), none, some (.long x2), none, some (.int x4), some (.int x5), some (.int x6), some (.int x7), some (.int x8), some (.int (s0 + (ix_bi sb1))), some (.long (((v2 * v4) * v6) * v8)), none]) kq_Mo_determinant i_Mo_determinant_312 rfl (Or.inl rfl) (Nat.le_of_ble_eq_true rfl) rfl ?_
  refine ix_K_px kq_Mo_determinant i_Mo_determinant_314 rfl rfl ?_
  refine ix_K_px kq_Mo_determinant i_Mo_determinant_315 rfl rfl ?_
  refine ix_K_ci kq_Mo_determinant i_Mo_determinant_317 rfl kci_2 ?_
  refine ix_K_rem kq_Mo_determinant i_Mo_determinant_318 rfl ?_
  refine ix_K_if_ne (tgt := 327) kq_Mo_determinant i_Mo_determinant_319 rfl (by decide) ?_ ?_
  · refine ix_K_px kq_Mo_determinant i_Mo_determinant_327 rfl rfl ?_
    refine ix_K_px kq_Mo_determinant i_Mo_determinant_329 rfl rfl ?_
    refine ix_K_px kq_Mo_determinant i_Mo_determinant_330 rfl rfl ?_
    refine ix_K_sl (L2 := [some (.ref a0), none, some (.long (x2 + (-(((v2 * v4) * v6) * v8)))), none, some (.int x4), some (.int x5), some (.int x6), some (.int x7), some (.int x8), some (.int (s0 + (ix_bi sb1))), some (.long (((v2 * v4) * v6) * v8)), none]) kq_Mo_determinant i_Mo_determinant_331 rfl (Or.inr ⟨_, rfl, rfl⟩) (Nat.le_of_ble_eq_true rfl) rfl ?_
    refine ix_K_inc (L2 := [some (.ref a0), none, some (.long (x2 + (-(((v2 * v4) * v6) * v8)))), none, some (.int (x4 + 1)), some (.int x5), some (.int x6), some (.int x7), some (.int x8), some (.int (s0 + (ix_bi sb1))), some (.long (((v2 * v4) * v6) * v8)), none]) kq_Mo_determinant i_Mo_determinant_332 rfl rfl (Nat.le_of_ble_eq_true rfl) kci_1 rfl ?_
    refine ix_K_goto (tgt := 115) kq_Mo_determinant i_Mo_determinant_335 rfl (by decide) ?_
    exact ix_D_cut i_Mo_determinant_115 rfl
  · refine ix_K_px kq_Mo_determinant i_Mo_determinant_322 rfl rfl ?_
    refine ix_K_goto (tgt := 330) kq_Mo_determinant i_Mo_determinant_324 rfl (by decide) ?_
    refine ix_K_px kq_Mo_determinant i_Mo_determinant_330 rfl rfl ?_
    refine ix_K_sl (L2 := [some (.ref a0), none, some (.long (x2 + (((v2 * v4) * v6) * v8))), none, some (.int x4), some (.int x5), some (.int x6), some (.int x7), some (.int x8), some (.int (s0 + (ix_bi sb1))), some (.long (((v2 * v4) * v6) * v8)), none]) kq_Mo_determinant i_Mo_determinant_331 rfl (Or.inr ⟨_, rfl, rfl⟩) (Nat.le_of_ble_eq_true rfl) rfl ?_
    refine ix_K_inc (L2 := [some (.ref a0), none, some (.long (x2 + (((v2 * v4) * v6) * v8))), none, some (.int (x4 + 1)), some (.int x5), some (.int x6), some (.int x7), some (.int x8), some (.int (s0 + (ix_bi sb1))), some (.long (((v2 * v4) * v6) * v8)), none]) kq_Mo_determinant i_Mo_determinant_332 rfl rfl (Nat.le_of_ble_eq_true rfl) kci_1 rfl ?_
    refine ix_K_goto (tgt := 115) kq_Mo_determinant i_Mo_determinant_335 rfl (by decide) ?_
    exact ix_D_cut i_Mo_determinant_115 rfl
set_option maxRecDepth 20000 in
set_option maxHeartbeats 1000000 in
theorem e_Mo_determinant (a0 : Nat) (h : ixH) : ix_D mMo_determinant 0 [some (.ref a0), none, none, none, none, none, none, none, none, none, none, none] [] h = (ix_gr h a0 11 0).bind fun v1 => (ix_ai h v1 386).bind fun v2 => l_Mo_determinant_11 a0 v2 0 h := by
  refine ix_K_px kq_Mo_determinant i_Mo_determinant_0 rfl rfl ?_
  refine ix_K_gr kq_Mo_determinant i_Mo_determinant_1 rfl (fun v1 => ?_)
  refine ix_K_cs kq_Mo_determinant i_Mo_determinant_4 rfl kcs_386 ?_
  refine ix_K_ai kq_Mo_determinant i_Mo_determinant_7 rfl (fun v2 => ?_)
  refine ix_K_si (L2 := [some (.ref a0), some (.int v2), none, none, none, none, none, none, none, none, none, none]) kq_Mo_determinant i_Mo_determinant_8 rfl (Or.inr ⟨_, rfl, rfl⟩) (Nat.le_of_ble_eq_true rfl) rfl ?_
  refine ix_K_ci kq_Mo_determinant i_Mo_determinant_9 rfl kci_0 ?_
  refine ix_K_si (L2 := [some (.ref a0), some (.int v2), some (.int 0), none, none, none, none, none, none, none, none, none]) kq_Mo_determinant i_Mo_determinant_10 rfl (Or.inr ⟨_, rfl, rfl⟩) (Nat.le_of_ble_eq_true rfl) rfl ?_
  exact ix_D_cut i_Mo_determinant_11 rfl
theorem x_Mo_determinant {a0 : Nat} {h h1 : ixH} {v : Int64} (hr : ix_rc h a0 = some 11) (hd : ix_D mMo_determinant 0 [some (.ref a0), none, none, none, none, none, none, none, none, none, none, none] [] h = some ([.long v], h1)) : ix_M mMo_determinant [.ref a0] h = some ([.long v], h1) := ix_M_of (ix_ent_i kq_Mo_determinant rfl hr rfl (Nat.le_of_ble_eq_true rfl) rfl) hd (ix_okrL rfl v)
theorem i_Mo_steps_0 : ix_nx mMo_steps 0 = some (0, .aload_n 0, 1, none, [], 0) := rfl
theorem i_Mo_steps_1 : ix_nx mMo_steps 1 = some (0, .iload_n 1, 2, none, [], 0) := rfl
theorem i_Mo_steps_2 : ix_nx mMo_steps 2 = some (3, .invokevirtual 117, 5, none, [0, 151, 176], 0) := rfl
theorem i_Mo_steps_5 : ix_nx mMo_steps 5 = some (0, .ifCond .eq 11, 8, none, [], 0) := rfl
theorem i_Mo_steps_8 : ix_nx mMo_steps 8 = some (0, .aload_n 0, 9, none, [], 0) := rfl
theorem i_Mo_steps_9 : ix_nx mMo_steps 9 = some (0, .iload_n 2, 10, none, [], 0) := rfl
theorem i_Mo_steps_10 : ix_nx mMo_steps 10 = some (3, .invokevirtual 117, 13, none, [0, 151, 176], 0) := rfl
theorem i_Mo_steps_13 : ix_nx mMo_steps 13 = some (0, .ifCond .ne 5, 16, none, [], 0) := rfl
theorem i_Mo_steps_16 : ix_nx mMo_steps 16 = some (0, .iconst (-1), 17, none, [], 0) := rfl
theorem i_Mo_steps_17 : ix_nx mMo_steps 17 = some (4, .ireturn, 18, none, [], 0) := rfl
theorem i_Mo_steps_18 : ix_nx mMo_steps 18 = some (0, .aload_n 0, 19, none, [], 0) := rfl
theorem i_Mo_steps_19 : ix_nx mMo_steps 19 = some (0, .iload_n 1, 20, none, [], 0) := rfl
theorem i_Mo_steps_20 : ix_nx mMo_steps 20 = some (3, .invokevirtual 165, 23, none, [0, 177, 193], 0) := rfl
theorem i_Mo_steps_23 : ix_nx mMo_steps 23 = some (0, .aload_n 0, 24, none, [], 0) := rfl
theorem i_Mo_steps_24 : ix_nx mMo_steps 24 = some (1, .getfield 33, 27, none, [11, 7, 2, 97], 0) := rfl
theorem i_Mo_steps_27 : ix_nx mMo_steps 27 = some (0, .iload_n 2, 28, none, [], 0) := rfl
theorem i_Mo_steps_28 : ix_nx mMo_steps 28 = some (1, .iaload, 29, none, [], 0) := rfl
theorem i_Mo_steps_29 : ix_nx mMo_steps 29 = some (4, .ireturn, 30, none, [], 0) := rfl
set_option maxRecDepth 20000 in
set_option maxHeartbeats 1000000 in
theorem e_Mo_steps (a0 : Nat) (x1 : Int32) (x2 : Int32) (h : ixH) : ix_D mMo_steps 0 [some (.ref a0), some (.int x1), some (.int x2)] [] h = (ix_M mMo_isCell [.ref a0, .int x1] h).bind fun r => ix_kZ r fun v2 h1 => if v2 = true then (ix_M mMo_isCell [.ref a0, .int x2] h1).bind fun r => ix_kZ r fun v4 h3 => if v4 = true then (ix_M mMo_layFar [.ref a0, .int x1] h3).bind fun r => ix_kV r fun h5 => (ix_gr h5 a0 11 7).bind fun v6 => (ix_ai h5 v6 x2).bind fun v7 => some ([.int v7], h5) else some ([.int (-1)], h3) else some ([.int (-1)], h1) := by
  refine ix_K_px kq_Mo_steps i_Mo_steps_0 rfl rfl ?_
  refine ix_K_px kq_Mo_steps i_Mo_steps_1 rfl rfl ?_
  refine ix_K_callZ (as := [.ref a0, .int x1]) (rest := []) kq_Mo_steps i_Mo_steps_2 rfl kq_Mo_isCell (by decide) rfl rfl (fun v2 h1 => ?_)
  refine ix_K_bz_eq (tgt := 16) kq_Mo_steps i_Mo_steps_5 rfl (by decide) ?_ ?_
  · refine ix_K_px kq_Mo_steps i_Mo_steps_8 rfl rfl ?_
    refine ix_K_px kq_Mo_steps i_Mo_steps_9 rfl rfl ?_
    refine ix_K_callZ (as := [.ref a0, .int x2]) (rest := []) kq_Mo_steps i_Mo_steps_10 rfl kq_Mo_isCell (by decide) rfl rfl (fun v4 h3 => ?_)
    refine ix_K_bz_ne (tgt := 18) kq_Mo_steps i_Mo_steps_13 rfl (by decide) ?_ ?_
    · refine ix_K_px kq_Mo_steps i_Mo_steps_18 rfl rfl ?_
      refine ix_K_px kq_Mo_steps i_Mo_steps_19 rfl rfl ?_
      refine ix_K_callV (as := [.ref a0, .int x1]) (rest := []) kq_Mo_steps i_Mo_steps_20 rfl kq_Mo_layFar (by decide) rfl rfl (fun h5 => ?_)
      refine ix_K_px kq_Mo_steps i_Mo_steps_23 rfl rfl ?_
      refine ix_K_gr kq_Mo_steps i_Mo_steps_24 rfl (fun v6 => ?_)
      refine ix_K_px kq_Mo_steps i_Mo_steps_27 rfl rfl ?_
      refine ix_K_ai kq_Mo_steps i_Mo_steps_28 rfl (fun v7 => ?_)
      exact ix_D_ret kq_Mo_steps i_Mo_steps_29 (ix_rtI rfl _)
    · refine ix_K_ci kq_Mo_steps i_Mo_steps_16 rfl kci_m1 ?_
      exact ix_D_ret kq_Mo_steps i_Mo_steps_17 (ix_rtI rfl _)
  · refine ix_K_ci kq_Mo_steps i_Mo_steps_16 rfl kci_m1 ?_
    exact ix_D_ret kq_Mo_steps i_Mo_steps_17 (ix_rtI rfl _)
theorem x_Mo_steps {a0 : Nat} {x1 : Int32} {x2 : Int32} {h h1 : ixH} {v : Int32} (hr : ix_rc h a0 = some 11) (hd : ix_D mMo_steps 0 [some (.ref a0), some (.int x1), some (.int x2)] [] h = some ([.int v], h1)) : ix_M mMo_steps [.ref a0, .int x1, .int x2] h = some ([.int v], h1) := ix_M_of (ix_ent_i kq_Mo_steps rfl hr rfl (Nat.le_of_ble_eq_true rfl) rfl) hd (ix_okrI (Or.inl rfl) v)
theorem i_Mo_layFar_0 : ix_nx mMo_layFar 0 = some (0, .iconst 0, 1, none, [], 0) := rfl
theorem i_Mo_layFar_1 : ix_nx mMo_layFar 1 = some (0, .istore_n 2, 2, none, [], 0) := rfl
theorem i_Mo_layFar_2 : ix_nx mMo_layFar 2 = some (0, .iload_n 2, 3, some [true, true, true, false, false, false], [], 0) := rfl
theorem i_Mo_layFar_3 : ix_nx mMo_layFar 3 = some (0, .aload_n 0, 4, none, [], 0) := rfl
theorem i_Mo_layFar_4 : ix_nx mMo_layFar 4 = some (3, .invokevirtual 94, 7, none, [0, 149, 175], 0) := rfl
theorem i_Mo_layFar_7 : ix_nx mMo_layFar 7 = some (0, .if_icmp .ge 17, 10, none, [], 0) := rfl
theorem i_Mo_layFar_10 : ix_nx mMo_layFar 10 = some (0, .aload_n 0, 11, none, [], 0) := rfl
theorem i_Mo_layFar_11 : ix_nx mMo_layFar 11 = some (1, .getfield 33, 14, none, [11, 7, 2, 97], 0) := rfl
theorem i_Mo_layFar_14 : ix_nx mMo_layFar 14 = some (0, .iload_n 2, 15, none, [], 0) := rfl
theorem i_Mo_layFar_15 : ix_nx mMo_layFar 15 = some (0, .bipush (-6), 17, none, [], 0) := rfl
theorem i_Mo_layFar_17 : ix_nx mMo_layFar 17 = some (2, .iastore, 18, none, [], 0) := rfl
theorem i_Mo_layFar_18 : ix_nx mMo_layFar 18 = some (0, .iinc 2 1, 21, none, [], 0) := rfl
theorem i_Mo_layFar_21 : ix_nx mMo_layFar 21 = some (0, .goto (-19), 24, none, [], 0) := rfl
theorem i_Mo_layFar_24 : ix_nx mMo_layFar 24 = some (0, .iconst 0, 25, none, [], 0) := rfl
theorem i_Mo_layFar_25 : ix_nx mMo_layFar 25 = some (0, .istore_n 2, 26, none, [], 0) := rfl
theorem i_Mo_layFar_26 : ix_nx mMo_layFar 26 = some (0, .aload_n 0, 27, none, [], 0) := rfl
theorem i_Mo_layFar_27 : ix_nx mMo_layFar 27 = some (0, .iload_n 1, 28, none, [], 0) := rfl
theorem i_Mo_layFar_28 : ix_nx mMo_layFar 28 = some (3, .invokevirtual 102, 31, none, [0, 160, 181], 0) := rfl
theorem i_Mo_layFar_31 : ix_nx mMo_layFar 31 = some (0, .ifCond .eq 20, 34, none, [], 0) := rfl
theorem i_Mo_layFar_34 : ix_nx mMo_layFar 34 = some (0, .aload_n 0, 35, none, [], 0) := rfl
theorem i_Mo_layFar_35 : ix_nx mMo_layFar 35 = some (1, .getfield 33, 38, none, [11, 7, 2, 97], 0) := rfl
theorem i_Mo_layFar_38 : ix_nx mMo_layFar 38 = some (0, .iload_n 1, 39, none, [], 0) := rfl
theorem i_Mo_layFar_39 : ix_nx mMo_layFar 39 = some (0, .iconst 0, 40, none, [], 0) := rfl
theorem i_Mo_layFar_40 : ix_nx mMo_layFar 40 = some (2, .iastore, 41, none, [], 0) := rfl
theorem i_Mo_layFar_41 : ix_nx mMo_layFar 41 = some (0, .aload_n 0, 42, none, [], 0) := rfl
theorem i_Mo_layFar_42 : ix_nx mMo_layFar 42 = some (1, .getfield 36, 45, none, [11, 8, 2, 98], 0) := rfl
theorem i_Mo_layFar_45 : ix_nx mMo_layFar 45 = some (0, .iload_n 2, 46, none, [], 0) := rfl
theorem i_Mo_layFar_46 : ix_nx mMo_layFar 46 = some (0, .iload_n 1, 47, none, [], 0) := rfl
theorem i_Mo_layFar_47 : ix_nx mMo_layFar 47 = some (2, .iastore, 48, none, [], 0) := rfl
theorem i_Mo_layFar_48 : ix_nx mMo_layFar 48 = some (0, .iinc 2 1, 51, none, [], 0) := rfl
theorem i_Mo_layFar_51 : ix_nx mMo_layFar 51 = some (0, .iconst 0, 52, none, [], 0) := rfl
theorem i_Mo_layFar_52 : ix_nx mMo_layFar 52 = some (0, .istore_n 3, 53, none, [], 0) := rfl
theorem i_Mo_layFar_53 : ix_nx mMo_layFar 53 = some (0, .iload_n 3, 54, some [true, false, true, true, false, false], [], 0) := rfl
theorem i_Mo_layFar_54 : ix_nx mMo_layFar 54 = some (0, .iload_n 2, 55, none, [], 0) := rfl
theorem i_Mo_layFar_55 : ix_nx mMo_layFar 55 = some (0, .if_icmp .ge 93, 58, none, [], 0) := rfl
theorem i_Mo_layFar_58 : ix_nx mMo_layFar 58 = some (0, .iconst 0, 59, none, [], 0) := rfl
theorem i_Mo_layFar_59 : ix_nx mMo_layFar 59 = some (0, .istore 4, 61, none, [], 0) := rfl
theorem i_Mo_layFar_61 : ix_nx mMo_layFar 61 = some (0, .iload 4, 63, some [true, false, true, true, true, false], [], 0) := rfl
theorem i_Mo_layFar_63 : ix_nx mMo_layFar 63 = some (0, .iconst 4, 64, none, [], 0) := rfl
theorem i_Mo_layFar_64 : ix_nx mMo_layFar 64 = some (0, .if_icmp .ge 78, 67, none, [], 0) := rfl
theorem i_Mo_layFar_67 : ix_nx mMo_layFar 67 = some (0, .aload_n 0, 68, none, [], 0) := rfl
theorem i_Mo_layFar_68 : ix_nx mMo_layFar 68 = some (0, .aload_n 0, 69, none, [], 0) := rfl
theorem i_Mo_layFar_69 : ix_nx mMo_layFar 69 = some (1, .getfield 36, 72, none, [11, 8, 2, 98], 0) := rfl
theorem i_Mo_layFar_72 : ix_nx mMo_layFar 72 = some (0, .iload_n 3, 73, none, [], 0) := rfl
theorem i_Mo_layFar_73 : ix_nx mMo_layFar 73 = some (1, .iaload, 74, none, [], 0) := rfl
theorem i_Mo_layFar_74 : ix_nx mMo_layFar 74 = some (0, .iload 4, 76, none, [], 0) := rfl
theorem i_Mo_layFar_76 : ix_nx mMo_layFar 76 = some (3, .invokevirtual 113, 79, none, [0, 178, 194], 0) := rfl
theorem i_Mo_layFar_79 : ix_nx mMo_layFar 79 = some (0, .istore 5, 81, none, [], 0) := rfl
theorem i_Mo_layFar_81 : ix_nx mMo_layFar 81 = some (0, .iload 5, 83, none, [], 0) := rfl
theorem i_Mo_layFar_83 : ix_nx mMo_layFar 83 = some (0, .ifCond .lt 53, 86, none, [], 0) := rfl
theorem i_Mo_layFar_86 : ix_nx mMo_layFar 86 = some (0, .aload_n 0, 87, none, [], 0) := rfl
theorem i_Mo_layFar_87 : ix_nx mMo_layFar 87 = some (0, .iload 5, 89, none, [], 0) := rfl
theorem i_Mo_layFar_89 : ix_nx mMo_layFar 89 = some (3, .invokevirtual 102, 92, none, [0, 160, 181], 0) := rfl
theorem i_Mo_layFar_92 : ix_nx mMo_layFar 92 = some (0, .ifCond .eq 44, 95, none, [], 0) := rfl
theorem i_Mo_layFar_95 : ix_nx mMo_layFar 95 = some (0, .aload_n 0, 96, none, [], 0) := rfl
theorem i_Mo_layFar_96 : ix_nx mMo_layFar 96 = some (1, .getfield 33, 99, none, [11, 7, 2, 97], 0) := rfl
theorem i_Mo_layFar_99 : ix_nx mMo_layFar 99 = some (0, .iload 5, 101, none, [], 0) := rfl
theorem i_Mo_layFar_101 : ix_nx mMo_layFar 101 = some (1, .iaload, 102, none, [], 0) := rfl
theorem i_Mo_layFar_102 : ix_nx mMo_layFar 102 = some (0, .ifCond .ge 34, 105, none, [], 0) := rfl
theorem i_Mo_layFar_105 : ix_nx mMo_layFar 105 = some (0, .aload_n 0, 106, none, [], 0) := rfl
theorem i_Mo_layFar_106 : ix_nx mMo_layFar 106 = some (1, .getfield 33, 109, none, [11, 7, 2, 97], 0) := rfl
theorem i_Mo_layFar_109 : ix_nx mMo_layFar 109 = some (0, .iload 5, 111, none, [], 0) := rfl
theorem i_Mo_layFar_111 : ix_nx mMo_layFar 111 = some (0, .aload_n 0, 112, none, [], 0) := rfl
theorem i_Mo_layFar_112 : ix_nx mMo_layFar 112 = some (1, .getfield 33, 115, none, [11, 7, 2, 97], 0) := rfl
theorem i_Mo_layFar_115 : ix_nx mMo_layFar 115 = some (0, .aload_n 0, 116, none, [], 0) := rfl
theorem i_Mo_layFar_116 : ix_nx mMo_layFar 116 = some (1, .getfield 36, 119, none, [11, 8, 2, 98], 0) := rfl
theorem i_Mo_layFar_119 : ix_nx mMo_layFar 119 = some (0, .iload_n 3, 120, none, [], 0) := rfl
theorem i_Mo_layFar_120 : ix_nx mMo_layFar 120 = some (1, .iaload, 121, none, [], 0) := rfl
theorem i_Mo_layFar_121 : ix_nx mMo_layFar 121 = some (1, .iaload, 122, none, [], 0) := rfl
theorem i_Mo_layFar_122 : ix_nx mMo_layFar 122 = some (0, .iconst 1, 123, none, [], 0) := rfl
theorem i_Mo_layFar_123 : ix_nx mMo_layFar 123 = some (0, .iadd, 124, none, [], 0) := rfl
theorem i_Mo_layFar_124 : ix_nx mMo_layFar 124 = some (2, .iastore, 125, none, [], 0) := rfl
theorem i_Mo_layFar_125 : ix_nx mMo_layFar 125 = some (0, .aload_n 0, 126, none, [], 0) := rfl
theorem i_Mo_layFar_126 : ix_nx mMo_layFar 126 = some (1, .getfield 36, 129, none, [11, 8, 2, 98], 0) := rfl
theorem i_Mo_layFar_129 : ix_nx mMo_layFar 129 = some (0, .iload_n 2, 130, none, [], 0) := rfl
theorem i_Mo_layFar_130 : ix_nx mMo_layFar 130 = some (0, .iload 5, 132, none, [], 0) := rfl
theorem i_Mo_layFar_132 : ix_nx mMo_layFar 132 = some (2, .iastore, 133, none, [], 0) := rfl
theorem i_Mo_layFar_133 : ix_nx mMo_layFar 133 = some (0, .iinc 2 1, 136, none, [], 0) := rfl
theorem i_Mo_layFar_136 : ix_nx mMo_layFar 136 = some (0, .iinc 4 1, 139, none, [], 0) := rfl
theorem i_Mo_layFar_139 : ix_nx mMo_layFar 139 = some (0, .goto (-78), 142, none, [], 0) := rfl
theorem i_Mo_layFar_142 : ix_nx mMo_layFar 142 = some (0, .iinc 3 1, 145, none, [], 0) := rfl
set_option maxRecDepth 50000 in
theorem i_Mo_layFar_145 : ix_nx mMo_layFar 145 = some (0, .goto (-92), 148, none, [], 0) := rfl
set_option maxRecDepth 50000 in
theorem i_Mo_layFar_148 : ix_nx mMo_layFar 148 = some (4, .return_, 149, none, [], 0) := rfl
noncomputable def l_Mo_layFar_2 (a0 : Nat) (x1 : Int32) (x2 : Int32) (h : ixH) : Option (List Value × ixH) := ix_D mMo_layFar 2 [some (.ref a0), some (.int x1), some (.int x2), none, none, none] [] h
noncomputable def l_Mo_layFar_53 (a0 : Nat) (x2 : Int32) (x3 : Int32) (h : ixH) : Option (List Value × ixH) := ix_D mMo_layFar 53 [some (.ref a0), none, some (.int x2), some (.int x3), none, none] [] h
noncomputable def l_Mo_layFar_61 (a0 : Nat) (x2 : Int32) (x3 : Int32) (x4 : Int32) (h : ixH) : Option (List Value × ixH) := ix_D mMo_layFar 61 [some (.ref a0), none, some (.int x2), some (.int x3), some (.int x4), none] [] h
set_option maxRecDepth 20000 in
set_option maxHeartbeats 1000000 in
theorem e_Mo_layFar_2 (a0 : Nat) (x1 : Int32) (x2 : Int32) (h : ixH) : l_Mo_layFar_2 a0 x1 x2 h = (ix_M mMo_cells [.ref a0] h).bind fun r => ix_kI r fun v2 h1 => if v2 ≤ x2 then (ix_M mMo_isOpen [.ref a0, .int x1] h1).bind fun r => ix_kZ r fun v4 h3 => if v4 = true then (ix_gr h3 a0 11 7).bind fun v5 => (ix_si h3 v5 x1 0).bind fun h6 => (ix_gr h6 a0 11 8).bind fun v7 => (ix_si h6 v7 0 x1).bind fun h8 => l_Mo_layFar_53 a0 (0 + 1) 0 h8 else l_Mo_layFar_53 a0 0 0 h3 else (ix_gr h1 a0 11 7).bind fun v9 => (ix_si h1 v9 x2 (-6)).bind fun h10 => l_Mo_layFar_2 a0 x1 (x2 + 1) h10 := by
  unfold l_Mo_layFar_2
  refine ix_K_px kq_Mo_layFar i_Mo_layFar_2 rfl rfl ?_
  refine ix_K_px kq_Mo_layFar i_Mo_layFar_3 rfl rfl ?_
  refine ix_K_callI (as := [.ref a0]) (rest := [.int x2]) kq_Mo_layFar i_Mo_layFar_4 rfl kq_Mo_cells (by decide) rfl (Or.inl rfl) (fun v2 h1 => ?_)
  refine ix_K_ic_ge (tgt := 24) kq_Mo_layFar i_Mo_layFar_7 rfl (by decide) ?_ ?_
  · refine ix_K_ci kq_Mo_layFar i_Mo_layFar_24 rfl kci_0 ?_
    refine ix_K_si (L2 := [some (.ref a0), some (.int x1), some (.int 0), none, none, none]) kq_Mo_layFar i_Mo_layFar_25 rfl (Or.inr ⟨_, rfl, rfl⟩) (Nat.le_of_ble_eq_true rfl) rfl ?_
    refine ix_K_px kq_Mo_layFar i_Mo_layFar_26 rfl rfl ?_
    refine ix_K_px kq_Mo_layFar i_Mo_layFar_27 rfl rfl ?_
    refine ix_K_callZ (as := [.ref a0, .int x1]) (rest := []) kq_Mo_layFar i_Mo_layFar_28 rfl kq_Mo_isOpen (by decide) rfl rfl (fun v4 h3 => ?_)
    refine ix_K_bz_eq (tgt := 51) kq_Mo_layFar i_Mo_layFar_31 rfl (by decide) ?_ ?_
    · refine ix_K_px kq_Mo_layFar i_Mo_layFar_34 rfl rfl ?_
      refine ix_K_gr kq_Mo_layFar i_Mo_layFar_35 rfl (fun v5 => ?_)
      refine ix_K_px kq_Mo_layFar i_Mo_layFar_38 rfl rfl ?_
      refine ix_K_ci kq_Mo_layFar i_Mo_layFar_39 rfl kci_0 ?_
      refine ix_K_ti kq_Mo_layFar i_Mo_layFar_40 rfl (fun h6 => ?_)
      refine ix_K_px kq_Mo_layFar i_Mo_layFar_41 rfl rfl ?_
      refine ix_K_gr kq_Mo_layFar i_Mo_layFar_42 rfl (fun v7 => ?_)
      refine ix_K_px kq_Mo_layFar i_Mo_layFar_45 rfl rfl ?_
      refine ix_K_px kq_Mo_layFar i_Mo_layFar_46 rfl rfl ?_
      refine ix_K_ti kq_Mo_layFar i_Mo_layFar_47 rfl (fun h8 => ?_)
      refine ix_K_inc (L2 := [some (.ref a0), some (.int x1), some (.int (0 + 1)), none, none, none]) kq_Mo_layFar i_Mo_layFar_48 rfl rfl (Nat.le_of_ble_eq_true rfl) kci_1 rfl ?_
      refine ix_K_ci kq_Mo_layFar i_Mo_layFar_51 rfl kci_0 ?_
      refine ix_K_si (L2 := [some (.ref a0), some (.int x1), some (.int (0 + 1)), some (.int 0), none, none]) kq_Mo_layFar i_Mo_layFar_52 rfl (Or.inr ⟨_, rfl, rfl⟩) (Nat.le_of_ble_eq_true rfl) rfl ?_
      exact ix_D_cut i_Mo_layFar_53 rfl
    · refine ix_K_ci kq_Mo_layFar i_Mo_layFar_51 rfl kci_0 ?_
      refine ix_K_si (L2 := [some (.ref a0), some (.int x1), some (.int 0), some (.int 0), none, none]) kq_Mo_layFar i_Mo_layFar_52 rfl (Or.inr ⟨_, rfl, rfl⟩) (Nat.le_of_ble_eq_true rfl) rfl ?_
      exact ix_D_cut i_Mo_layFar_53 rfl
  · refine ix_K_px kq_Mo_layFar i_Mo_layFar_10 rfl rfl ?_
    refine ix_K_gr kq_Mo_layFar i_Mo_layFar_11 rfl (fun v9 => ?_)
    refine ix_K_px kq_Mo_layFar i_Mo_layFar_14 rfl rfl ?_
    refine ix_K_cb kq_Mo_layFar i_Mo_layFar_15 rfl kcb_m6 ?_
    refine ix_K_ti kq_Mo_layFar i_Mo_layFar_17 rfl (fun h10 => ?_)
    refine ix_K_inc (L2 := [some (.ref a0), some (.int x1), some (.int (x2 + 1)), none, none, none]) kq_Mo_layFar i_Mo_layFar_18 rfl rfl (Nat.le_of_ble_eq_true rfl) kci_1 rfl ?_
    refine ix_K_goto (tgt := 2) kq_Mo_layFar i_Mo_layFar_21 rfl (by decide) ?_
    exact ix_D_cut i_Mo_layFar_2 rfl
set_option maxRecDepth 20000 in
set_option maxHeartbeats 1000000 in
theorem e_Mo_layFar_53 (a0 : Nat) (x2 : Int32) (x3 : Int32) (h : ixH) : l_Mo_layFar_53 a0 x2 x3 h = if x2 ≤ x3 then some ([], h) else l_Mo_layFar_61 a0 x2 x3 0 h := by
  unfold l_Mo_layFar_53
  refine ix_K_px kq_Mo_layFar i_Mo_layFar_53 rfl rfl ?_
  refine ix_K_px kq_Mo_layFar i_Mo_layFar_54 rfl rfl ?_
  refine ix_K_ic_ge (tgt := 148) kq_Mo_layFar i_Mo_layFar_55 rfl (by decide) ?_ ?_
  · exact ix_D_ret kq_Mo_layFar i_Mo_layFar_148 (ix_rtV rfl)
  · refine ix_K_ci kq_Mo_layFar i_Mo_layFar_58 rfl kci_0 ?_
    refine ix_K_si (L2 := [some (.ref a0), none, some (.int x2), some (.int x3), some (.int 0), none]) kq_Mo_layFar i_Mo_layFar_59 rfl (Or.inl rfl) (Nat.le_of_ble_eq_true rfl) rfl ?_
    exact ix_D_cut i_Mo_layFar_61 rfl
set_option maxRecDepth 20000 in
set_option maxHeartbeats 1000000 in
theorem e_Mo_layFar_61 (a0 : Nat) (x2 : Int32) (x3 : Int32) (x4 : Int32) (h : ixH) : l_Mo_layFar_61 a0 x2 x3 x4 h = if 4 ≤ x4 then l_Mo_layFar_53 a0 x2 (x3 + 1) h else (ix_gr h a0 11 8).bind fun v1 => (ix_ai h v1 x3).bind fun v2 => (ix_M mMo_beside [.ref a0, .int v2, .int x4] h).bind fun r => ix_kI r fun v4 h3 => if v4 < 0 then l_Mo_layFar_61 a0 x2 x3 (x4 + 1) h3 else (ix_M mMo_isOpen [.ref a0, .int v4] h3).bind fun r => ix_kZ r fun v6 h5 => if v6 = true then (ix_gr h5 a0 11 7).bind fun v7 => (ix_ai h5 v7 v4).bind fun v8 => if 0 ≤ v8 then l_Mo_layFar_61 a0 x2 x3 (x4 + 1) h5 else (ix_gr h5 a0 11 7).bind fun v9 => (ix_gr h5 a0 11 7).bind fun v10 => (ix_gr h5 a0 11 8).bind fun v11 => (ix_ai h5 v11 x3).bind fun v12 => (ix_ai h5 v10 v12).bind fun v13 => (ix_si h5 v9 v4 (v13 + 1)).bind fun h14 => (ix_gr h14 a0 11 8).bind fun v15 => (ix_si h14 v15 x2 v4).bind fun h16 => l_Mo_layFar_61 a0 (x2 + 1) x3 (x4 + 1) h16 else l_Mo_layFar_61 a0 x2 x3 (x4 + 1) h5 := by
  unfold l_Mo_layFar_61
  refine ix_K_px kq_Mo_layFar i_Mo_layFar_61 rfl rfl ?_
  refine ix_K_ci kq_Mo_layFar i_Mo_layFar_63 rfl kci_4 ?_
  refine ix_K_ic_ge (tgt := 142) kq_Mo_layFar i_Mo_layFar_64 rfl (by decide) ?_ ?_
  · refine ix_K_inc (L2 := [some (.ref a0), none, some (.int x2), some (.int (x3 + 1)), some (.int x4), none]) kq_Mo_layFar i_Mo_layFar_142 rfl rfl (Nat.le_of_ble_eq_true rfl) kci_1 rfl ?_
    refine ix_K_goto (tgt := 53) kq_Mo_layFar i_Mo_layFar_145 rfl (by decide) ?_
    exact ix_D_cut i_Mo_layFar_53 rfl
  · refine ix_K_px kq_Mo_layFar i_Mo_layFar_67 rfl rfl ?_
    refine ix_K_px kq_Mo_layFar i_Mo_layFar_68 rfl rfl ?_
    refine ix_K_gr kq_Mo_layFar i_Mo_layFar_69 rfl (fun v1 => ?_)
    refine ix_K_px kq_Mo_layFar i_Mo_layFar_72 rfl rfl ?_
    refine ix_K_ai kq_Mo_layFar i_Mo_layFar_73 rfl (fun v2 => ?_)
    refine ix_K_px kq_Mo_layFar i_Mo_layFar_74 rfl rfl ?_
    refine ix_K_callI (as := [.ref a0, .int v2, .int x4]) (rest := []) kq_Mo_layFar i_Mo_layFar_76 rfl kq_Mo_beside (by decide) rfl (Or.inl rfl) (fun v4 h3 => ?_)
    refine ix_K_si (L2 := [some (.ref a0), none, some (.int x2), some (.int x3), some (.int x4), some (.int v4)]) kq_Mo_layFar i_Mo_layFar_79 rfl (Or.inl rfl) (Nat.le_of_ble_eq_true rfl) rfl ?_
    refine ix_K_px kq_Mo_layFar i_Mo_layFar_81 rfl rfl ?_
    refine ix_K_if_lt (tgt := 136) kq_Mo_layFar i_Mo_layFar_83 rfl (by decide) ?_ ?_
    · refine ix_K_inc (L2 := [some (.ref a0), none, some (.int x2), some (.int x3), some (.int (x4 + 1)), some (.int v4)]) kq_Mo_layFar i_Mo_layFar_136 rfl rfl (Nat.le_of_ble_eq_true rfl) kci_1 rfl ?_
      refine ix_K_goto (tgt := 61) kq_Mo_layFar i_Mo_layFar_139 rfl (by decide) ?_
      exact ix_D_cut i_Mo_layFar_61 rfl
    · refine ix_K_px kq_Mo_layFar i_Mo_layFar_86 rfl rfl ?_
      refine ix_K_px kq_Mo_layFar i_Mo_layFar_87 rfl rfl ?_
      refine ix_K_callZ (as := [.ref a0, .int v4]) (rest := []) kq_Mo_layFar i_Mo_layFar_89 rfl kq_Mo_isOpen (by decide) rfl rfl (fun v6 h5 => ?_)
      refine ix_K_bz_eq (tgt := 136) kq_Mo_layFar i_Mo_layFar_92 rfl (by decide) ?_ ?_
      · refine ix_K_px kq_Mo_layFar i_Mo_layFar_95 rfl rfl ?_
        refine ix_K_gr kq_Mo_layFar i_Mo_layFar_96 rfl (fun v7 => ?_)
        refine ix_K_px kq_Mo_layFar i_Mo_layFar_99 rfl rfl ?_
        refine ix_K_ai kq_Mo_layFar i_Mo_layFar_101 rfl (fun v8 => ?_)
        refine ix_K_if_ge (tgt := 136) kq_Mo_layFar i_Mo_layFar_102 rfl (by decide) ?_ ?_
        · refine ix_K_inc (L2 := [some (.ref a0), none, some (.int x2), some (.int x3), some (.int (x4 + 1)), some (.int v4)]) kq_Mo_layFar i_Mo_layFar_136 rfl rfl (Nat.le_of_ble_eq_true rfl) kci_1 rfl ?_
          refine ix_K_goto (tgt := 61) kq_Mo_layFar i_Mo_layFar_139 rfl (by decide) ?_
          exact ix_D_cut i_Mo_layFar_61 rfl
        · refine ix_K_px kq_Mo_layFar i_Mo_layFar_105 rfl rfl ?_
          refine ix_K_gr kq_Mo_layFar i_Mo_layFar_106 rfl (fun v9 => ?_)
          refine ix_K_px kq_Mo_layFar i_Mo_layFar_109 rfl rfl ?_
          refine ix_K_px kq_Mo_layFar i_Mo_layFar_111 rfl rfl ?_
          refine ix_K_gr kq_Mo_layFar i_Mo_layFar_112 rfl (fun v10 => ?_)
          refine ix_K_px kq_Mo_layFar i_Mo_layFar_115 rfl rfl ?_
          refine ix_K_gr kq_Mo_layFar i_Mo_layFar_116 rfl (fun v11 => ?_)
          refine ix_K_px kq_Mo_layFar i_Mo_layFar_119 rfl rfl ?_
          refine ix_K_ai kq_Mo_layFar i_Mo_layFar_120 rfl (fun v12 => ?_)
          refine ix_K_ai kq_Mo_layFar i_Mo_layFar_121 rfl (fun v13 => ?_)
          refine ix_K_ci kq_Mo_layFar i_Mo_layFar_122 rfl kci_1 ?_
          refine ix_K_px kq_Mo_layFar i_Mo_layFar_123 rfl rfl ?_
          refine ix_K_ti kq_Mo_layFar i_Mo_layFar_124 rfl (fun h14 => ?_)
          refine ix_K_px kq_Mo_layFar i_Mo_layFar_125 rfl rfl ?_
          refine ix_K_gr kq_Mo_layFar i_Mo_layFar_126 rfl (fun v15 => ?_)
          refine ix_K_px kq_Mo_layFar i_Mo_layFar_129 rfl rfl ?_
          refine ix_K_px kq_Mo_layFar i_Mo_layFar_130 rfl rfl ?_
          refine ix_K_ti kq_Mo_layFar i_Mo_layFar_132 rfl (fun h16 => ?_)
          refine ix_K_inc (L2 := [some (.ref a0), none, some (.int (x2 + 1)), some (.int x3), some (.int x4), some (.int v4)]) kq_Mo_layFar i_Mo_layFar_133 rfl rfl (Nat.le_of_ble_eq_true rfl) kci_1 rfl ?_
          refine ix_K_inc (L2 := [some (.ref a0), none, some (.int (x2 + 1)), some (.int x3), some (.int (x4 + 1)), some (.int v4)]) kq_Mo_layFar i_Mo_layFar_136 rfl rfl (Nat.le_of_ble_eq_true rfl) kci_1 rfl ?_
          refine ix_K_goto (tgt := 61) kq_Mo_layFar i_Mo_layFar_139 rfl (by decide) ?_
          exact ix_D_cut i_Mo_layFar_61 rfl
      · refine ix_K_inc (L2 := [some (.ref a0), none, some (.int x2), some (.int x3), some (.int (x4 + 1)), some (.int v4)]) kq_Mo_layFar i_Mo_layFar_136 rfl rfl (Nat.le_of_ble_eq_true rfl) kci_1 rfl ?_
        refine ix_K_goto (tgt := 61) kq_Mo_layFar i_Mo_layFar_139 rfl (by decide) ?_
        exact ix_D_cut i_Mo_layFar_61 rfl
set_option maxRecDepth 20000 in
set_option maxHeartbeats 1000000 in
theorem e_Mo_layFar (a0 : Nat) (x1 : Int32) (h : ixH) : ix_D mMo_layFar 0 [some (.ref a0), some (.int x1), none, none, none, none] [] h = l_Mo_layFar_2 a0 x1 0 h := by
  refine ix_K_ci kq_Mo_layFar i_Mo_layFar_0 rfl kci_0 ?_
  refine ix_K_si (L2 := [some (.ref a0), some (.int x1), some (.int 0), none, none, none]) kq_Mo_layFar i_Mo_layFar_1 rfl (Or.inr ⟨_, rfl, rfl⟩) (Nat.le_of_ble_eq_true rfl) rfl ?_
  exact ix_D_cut i_Mo_layFar_2 rfl
theorem x_Mo_layFar {a0 : Nat} {x1 : Int32} {h h1 : ixH} (hr : ix_rc h a0 = some 11) (hd : ix_D mMo_layFar 0 [some (.ref a0), some (.int x1), none, none, none, none] [] h = some ([], h1)) : ix_M mMo_layFar [.ref a0, .int x1] h = some ([], h1) := ix_M_of (ix_ent_i kq_Mo_layFar rfl hr rfl (Nat.le_of_ble_eq_true rfl) rfl) hd (ix_okrV rfl)
theorem i_Mo_beside_0 : ix_nx mMo_beside 0 = some (0, .aload_n 0, 1, none, [], 0) := rfl
theorem i_Mo_beside_1 : ix_nx mMo_beside 1 = some (0, .iload_n 1, 2, none, [], 0) := rfl
theorem i_Mo_beside_2 : ix_nx mMo_beside 2 = some (3, .invokevirtual 106, 5, none, [0, 161, 182], 0) := rfl
theorem i_Mo_beside_5 : ix_nx mMo_beside 5 = some (0, .iload_n 2, 6, none, [], 0) := rfl
theorem i_Mo_beside_6 : ix_nx mMo_beside 6 = some (0, .iconst 1, 7, none, [], 0) := rfl
theorem i_Mo_beside_7 : ix_nx mMo_beside 7 = some (0, .if_icmp .ne 7, 10, none, [], 0) := rfl
theorem i_Mo_beside_10 : ix_nx mMo_beside 10 = some (0, .iconst (-1), 11, none, [], 0) := rfl
theorem i_Mo_beside_11 : ix_nx mMo_beside 11 = some (0, .goto 13, 14, none, [], 0) := rfl
theorem i_Mo_beside_14 : ix_nx mMo_beside 14 = some (0, .iload_n 2, 15, none, [], 0) := rfl
theorem i_Mo_beside_15 : ix_nx mMo_beside 15 = some (0, .iconst 2, 16, none, [], 0) := rfl
theorem i_Mo_beside_16 : ix_nx mMo_beside 16 = some (0, .if_icmp .ne 7, 19, none, [], 0) := rfl
theorem i_Mo_beside_19 : ix_nx mMo_beside 19 = some (0, .iconst 1, 20, none, [], 0) := rfl
theorem i_Mo_beside_20 : ix_nx mMo_beside 20 = some (0, .goto 4, 23, none, [], 0) := rfl
theorem i_Mo_beside_23 : ix_nx mMo_beside 23 = some (0, .iconst 0, 24, none, [], 0) := rfl
theorem i_Mo_beside_24 : ix_nx mMo_beside 24 = some (0, .iadd, 25, some [true, true, true, false, false], [], 0) := rfl
theorem i_Mo_beside_25 : ix_nx mMo_beside 25 = some (0, .istore_n 3, 26, none, [], 0) := rfl
theorem i_Mo_beside_26 : ix_nx mMo_beside 26 = some (0, .aload_n 0, 27, none, [], 0) := rfl
theorem i_Mo_beside_27 : ix_nx mMo_beside 27 = some (0, .iload_n 1, 28, none, [], 0) := rfl
theorem i_Mo_beside_28 : ix_nx mMo_beside 28 = some (3, .invokevirtual 110, 31, none, [0, 162, 183], 0) := rfl
theorem i_Mo_beside_31 : ix_nx mMo_beside 31 = some (0, .iload_n 2, 32, none, [], 0) := rfl
theorem i_Mo_beside_32 : ix_nx mMo_beside 32 = some (0, .ifCond .ne 7, 35, none, [], 0) := rfl
theorem i_Mo_beside_35 : ix_nx mMo_beside 35 = some (0, .iconst (-1), 36, none, [], 0) := rfl
theorem i_Mo_beside_36 : ix_nx mMo_beside 36 = some (0, .goto 13, 39, none, [], 0) := rfl
theorem i_Mo_beside_39 : ix_nx mMo_beside 39 = some (0, .iload_n 2, 40, none, [], 0) := rfl
theorem i_Mo_beside_40 : ix_nx mMo_beside 40 = some (0, .iconst 3, 41, none, [], 0) := rfl
theorem i_Mo_beside_41 : ix_nx mMo_beside 41 = some (0, .if_icmp .ne 7, 44, none, [], 0) := rfl
theorem i_Mo_beside_44 : ix_nx mMo_beside 44 = some (0, .iconst 1, 45, none, [], 0) := rfl
theorem i_Mo_beside_45 : ix_nx mMo_beside 45 = some (0, .goto 4, 48, none, [], 0) := rfl
theorem i_Mo_beside_48 : ix_nx mMo_beside 48 = some (0, .iconst 0, 49, none, [], 0) := rfl
theorem i_Mo_beside_49 : ix_nx mMo_beside 49 = some (0, .iadd, 50, some [true, false, false, true, false], [], 0) := rfl
theorem i_Mo_beside_50 : ix_nx mMo_beside 50 = some (0, .istore 4, 52, none, [], 0) := rfl
theorem i_Mo_beside_52 : ix_nx mMo_beside 52 = some (0, .iload_n 3, 53, none, [], 0) := rfl
theorem i_Mo_beside_53 : ix_nx mMo_beside 53 = some (0, .iconst 0, 54, none, [], 0) := rfl
theorem i_Mo_beside_54 : ix_nx mMo_beside 54 = some (0, .aload_n 0, 55, none, [], 0) := rfl
theorem i_Mo_beside_55 : ix_nx mMo_beside 55 = some (1, .getfield 7, 58, none, [11, 0, 2, 90], 0) := rfl
theorem i_Mo_beside_58 : ix_nx mMo_beside 58 = some (0, .iconst 0, 59, none, [], 0) := rfl
theorem i_Mo_beside_59 : ix_nx mMo_beside 59 = some (1, .iaload, 60, none, [], 0) := rfl
theorem i_Mo_beside_60 : ix_nx mMo_beside 60 = some (0, .iconst 1, 61, none, [], 0) := rfl
theorem i_Mo_beside_61 : ix_nx mMo_beside 61 = some (0, .isub, 62, none, [], 0) := rfl
theorem i_Mo_beside_62 : ix_nx mMo_beside 62 = some (3, .invokestatic 98, 65, none, [1, 148, 174], 0) := rfl
theorem i_Mo_beside_65 : ix_nx mMo_beside 65 = some (0, .ifCond .eq 34, 68, none, [], 0) := rfl
theorem i_Mo_beside_68 : ix_nx mMo_beside 68 = some (0, .iload 4, 70, none, [], 0) := rfl
theorem i_Mo_beside_70 : ix_nx mMo_beside 70 = some (0, .iconst 0, 71, none, [], 0) := rfl
theorem i_Mo_beside_71 : ix_nx mMo_beside 71 = some (0, .aload_n 0, 72, none, [], 0) := rfl
theorem i_Mo_beside_72 : ix_nx mMo_beside 72 = some (1, .getfield 7, 75, none, [11, 0, 2, 90], 0) := rfl
theorem i_Mo_beside_75 : ix_nx mMo_beside 75 = some (0, .iconst 1, 76, none, [], 0) := rfl
theorem i_Mo_beside_76 : ix_nx mMo_beside 76 = some (1, .iaload, 77, none, [], 0) := rfl
theorem i_Mo_beside_77 : ix_nx mMo_beside 77 = some (0, .iconst 1, 78, none, [], 0) := rfl
theorem i_Mo_beside_78 : ix_nx mMo_beside 78 = some (0, .isub, 79, none, [], 0) := rfl
theorem i_Mo_beside_79 : ix_nx mMo_beside 79 = some (3, .invokestatic 98, 82, none, [1, 148, 174], 0) := rfl
theorem i_Mo_beside_82 : ix_nx mMo_beside 82 = some (0, .ifCond .eq 17, 85, none, [], 0) := rfl
theorem i_Mo_beside_85 : ix_nx mMo_beside 85 = some (0, .iload 4, 87, none, [], 0) := rfl
theorem i_Mo_beside_87 : ix_nx mMo_beside 87 = some (0, .aload_n 0, 88, none, [], 0) := rfl
theorem i_Mo_beside_88 : ix_nx mMo_beside 88 = some (1, .getfield 7, 91, none, [11, 0, 2, 90], 0) := rfl
theorem i_Mo_beside_91 : ix_nx mMo_beside 91 = some (0, .iconst 0, 92, none, [], 0) := rfl
theorem i_Mo_beside_92 : ix_nx mMo_beside 92 = some (1, .iaload, 93, none, [], 0) := rfl
theorem i_Mo_beside_93 : ix_nx mMo_beside 93 = some (0, .imul, 94, none, [], 0) := rfl
theorem i_Mo_beside_94 : ix_nx mMo_beside 94 = some (0, .iload_n 3, 95, none, [], 0) := rfl
theorem i_Mo_beside_95 : ix_nx mMo_beside 95 = some (0, .iadd, 96, none, [], 0) := rfl
theorem i_Mo_beside_96 : ix_nx mMo_beside 96 = some (0, .goto 5, 99, none, [], 0) := rfl
theorem i_Mo_beside_99 : ix_nx mMo_beside 99 = some (0, .bipush (-6), 101, none, [], 0) := rfl
theorem i_Mo_beside_101 : ix_nx mMo_beside 101 = some (4, .ireturn, 102, none, [], 0) := rfl
noncomputable def l_Mo_beside_24 (a0 : Nat) (x1 : Int32) (x2 : Int32) (s0 : Int32) (s1 : Int32) (h : ixH) : Option (List Value × ixH) := ix_D mMo_beside 24 [some (.ref a0), some (.int x1), some (.int x2), none, none] [.int s1, .int s0] h
noncomputable def l_Mo_beside_49 (a0 : Nat) (x3 : Int32) (s0 : Int32) (s1 : Int32) (h : ixH) : Option (List Value × ixH) := ix_D mMo_beside 49 [some (.ref a0), none, none, some (.int x3), none] [.int s1, .int s0] h
set_option maxRecDepth 20000 in
set_option maxHeartbeats 1000000 in
theorem e_Mo_beside_24 (a0 : Nat) (x1 : Int32) (x2 : Int32) (s0 : Int32) (s1 : Int32) (h : ixH) : l_Mo_beside_24 a0 x1 x2 s0 s1 h = (ix_M mMo_y [.ref a0, .int x1] h).bind fun r => ix_kI r fun v2 h1 => if ¬ x2 = 0 then if ¬ x2 = 3 then l_Mo_beside_49 a0 (s0 + s1) v2 0 h1 else l_Mo_beside_49 a0 (s0 + s1) v2 1 h1 else l_Mo_beside_49 a0 (s0 + s1) v2 (-1) h1 := by
  unfold l_Mo_beside_24
  refine ix_K_px kq_Mo_beside i_Mo_beside_24 rfl rfl ?_
  refine ix_K_si (L2 := [some (.ref a0), some (.int x1), some (.int x2), some (.int (s0 + s1)), none]) kq_Mo_beside i_Mo_beside_25 rfl (Or.inr ⟨_, rfl, rfl⟩) (Nat.le_of_ble_eq_true rfl) rfl ?_
  refine ix_K_px kq_Mo_beside i_Mo_beside_26 rfl rfl ?_
  refine ix_K_px kq_Mo_beside i_Mo_beside_27 rfl rfl ?_
  refine ix_K_callI (as := [.ref a0, .int x1]) (rest := []) kq_Mo_beside i_Mo_beside_28 rfl kq_Mo_y (by decide) rfl (Or.inl rfl) (fun v2 h1 => ?_)
  refine ix_K_px kq_Mo_beside i_Mo_beside_31 rfl rfl ?_
  refine ix_K_if_ne (tgt := 39) kq_Mo_beside i_Mo_beside_32 rfl (by decide) ?_ ?_
  · refine ix_K_px kq_Mo_beside i_Mo_beside_39 rfl rfl ?_
    refine ix_K_ci kq_Mo_beside i_Mo_beside_40 rfl kci_3 ?_
    refine ix_K_ic_ne (tgt := 48) kq_Mo_beside i_Mo_beside_41 rfl (by decide) ?_ ?_
    · refine ix_K_ci kq_Mo_beside i_Mo_beside_48 rfl kci_0 ?_
      exact ix_D_cut i_Mo_beside_49 rfl
    · refine ix_K_ci kq_Mo_beside i_Mo_beside_44 rfl kci_1 ?_
      refine ix_K_goto (tgt := 49) kq_Mo_beside i_Mo_beside_45 rfl (by decide) ?_
      exact ix_D_cut i_Mo_beside_49 rfl
  · refine ix_K_ci kq_Mo_beside i_Mo_beside_35 rfl kci_m1 ?_
    refine ix_K_goto (tgt := 49) kq_Mo_beside i_Mo_beside_36 rfl (by decide) ?_
    exact ix_D_cut i_Mo_beside_49 rfl
set_option maxRecDepth 20000 in
set_option maxHeartbeats 1000000 in
theorem e_Mo_beside_49 (a0 : Nat) (x3 : Int32) (s0 : Int32) (s1 : Int32) (h : ixH) : l_Mo_beside_49 a0 x3 s0 s1 h = (ix_gr h a0 11 0).bind fun v1 => (ix_ai h v1 0).bind fun v2 => (ix_M mMo_in [.int x3, .int 0, .int (v2 - 1)] h).bind fun r => ix_kZ r fun v4 h3 => if v4 = true then (ix_gr h3 a0 11 0).bind fun v5 => (ix_ai h3 v5 1).bind fun v6 => (ix_M mMo_in [.int (s0 + s1), .int 0, .int (v6 - 1)] h3).bind fun r => ix_kZ r fun v8 h7 => if v8 = true then (ix_gr h7 a0 11 0).bind fun v9 => (ix_ai h7 v9 0).bind fun v10 => some ([.int (((s0 + s1) * v10) + x3)], h7) else some ([.int (-6)], h7) else some ([.int (-6)], h3) := by
  unfold l_Mo_beside_49
  refine ix_K_px kq_Mo_beside i_Mo_beside_49 rfl rfl ?_
  refine ix_K_si (L2 := [some (.ref a0), none, none, some (.int x3), some (.int (s0 + s1))]) kq_Mo_beside i_Mo_beside_50 rfl (Or.inl rfl) (Nat.le_of_ble_eq_true rfl) rfl ?_
  refine ix_K_px kq_Mo_beside i_Mo_beside_52 rfl rfl ?_
  refine ix_K_ci kq_Mo_beside i_Mo_beside_53 rfl kci_0 ?_
  refine ix_K_px kq_Mo_beside i_Mo_beside_54 rfl rfl ?_
  refine ix_K_gr kq_Mo_beside i_Mo_beside_55 rfl (fun v1 => ?_)
  refine ix_K_ci kq_Mo_beside i_Mo_beside_58 rfl kci_0 ?_
  refine ix_K_ai kq_Mo_beside i_Mo_beside_59 rfl (fun v2 => ?_)
  refine ix_K_ci kq_Mo_beside i_Mo_beside_60 rfl kci_1 ?_
  refine ix_K_px kq_Mo_beside i_Mo_beside_61 rfl rfl ?_
  refine ix_K_callZ (as := [.int x3, .int 0, .int (v2 - 1)]) (rest := []) kq_Mo_beside i_Mo_beside_62 rfl kq_Mo_in (by decide) rfl rfl (fun v4 h3 => ?_)
  refine ix_K_bz_eq (tgt := 99) kq_Mo_beside i_Mo_beside_65 rfl (by decide) ?_ ?_
  · refine ix_K_px kq_Mo_beside i_Mo_beside_68 rfl rfl ?_
    refine ix_K_ci kq_Mo_beside i_Mo_beside_70 rfl kci_0 ?_
    refine ix_K_px kq_Mo_beside i_Mo_beside_71 rfl rfl ?_
    refine ix_K_gr kq_Mo_beside i_Mo_beside_72 rfl (fun v5 => ?_)
    refine ix_K_ci kq_Mo_beside i_Mo_beside_75 rfl kci_1 ?_
    refine ix_K_ai kq_Mo_beside i_Mo_beside_76 rfl (fun v6 => ?_)
    refine ix_K_ci kq_Mo_beside i_Mo_beside_77 rfl kci_1 ?_
    refine ix_K_px kq_Mo_beside i_Mo_beside_78 rfl rfl ?_
    refine ix_K_callZ (as := [.int (s0 + s1), .int 0, .int (v6 - 1)]) (rest := []) kq_Mo_beside i_Mo_beside_79 rfl kq_Mo_in (by decide) rfl rfl (fun v8 h7 => ?_)
    refine ix_K_bz_eq (tgt := 99) kq_Mo_beside i_Mo_beside_82 rfl (by decide) ?_ ?_
    · refine ix_K_px kq_Mo_beside i_Mo_beside_85 rfl rfl ?_
      refine ix_K_px kq_Mo_beside i_Mo_beside_87 rfl rfl ?_
      refine ix_K_gr kq_Mo_beside i_Mo_beside_88 rfl (fun v9 => ?_)
      refine ix_K_ci kq_Mo_beside i_Mo_beside_91 rfl kci_0 ?_
      refine ix_K_ai kq_Mo_beside i_Mo_beside_92 rfl (fun v10 => ?_)
      refine ix_K_px kq_Mo_beside i_Mo_beside_93 rfl rfl ?_
      refine ix_K_px kq_Mo_beside i_Mo_beside_94 rfl rfl ?_
      refine ix_K_px kq_Mo_beside i_Mo_beside_95 rfl rfl ?_
      refine ix_K_goto (tgt := 101) kq_Mo_beside i_Mo_beside_96 rfl (by decide) ?_
      exact ix_D_ret kq_Mo_beside i_Mo_beside_101 (ix_rtI rfl _)
    · refine ix_K_cb kq_Mo_beside i_Mo_beside_99 rfl kcb_m6 ?_
      exact ix_D_ret kq_Mo_beside i_Mo_beside_101 (ix_rtI rfl _)
  · refine ix_K_cb kq_Mo_beside i_Mo_beside_99 rfl kcb_m6 ?_
    exact ix_D_ret kq_Mo_beside i_Mo_beside_101 (ix_rtI rfl _)
set_option maxRecDepth 20000 in
set_option maxHeartbeats 1000000 in
theorem e_Mo_beside (a0 : Nat) (x1 : Int32) (x2 : Int32) (h : ixH) : ix_D mMo_beside 0 [some (.ref a0), some (.int x1), some (.int x2), none, none] [] h = (ix_M mMo_x [.ref a0, .int x1] h).bind fun r => ix_kI r fun v2 h1 => if ¬ x2 = 1 then if ¬ x2 = 2 then l_Mo_beside_24 a0 x1 x2 v2 0 h1 else l_Mo_beside_24 a0 x1 x2 v2 1 h1 else l_Mo_beside_24 a0 x1 x2 v2 (-1) h1 := by
  refine ix_K_px kq_Mo_beside i_Mo_beside_0 rfl rfl ?_
  refine ix_K_px kq_Mo_beside i_Mo_beside_1 rfl rfl ?_
  refine ix_K_callI (as := [.ref a0, .int x1]) (rest := []) kq_Mo_beside i_Mo_beside_2 rfl kq_Mo_x (by decide) rfl (Or.inl rfl) (fun v2 h1 => ?_)
  refine ix_K_px kq_Mo_beside i_Mo_beside_5 rfl rfl ?_
  refine ix_K_ci kq_Mo_beside i_Mo_beside_6 rfl kci_1 ?_
  refine ix_K_ic_ne (tgt := 14) kq_Mo_beside i_Mo_beside_7 rfl (by decide) ?_ ?_
  · refine ix_K_px kq_Mo_beside i_Mo_beside_14 rfl rfl ?_
    refine ix_K_ci kq_Mo_beside i_Mo_beside_15 rfl kci_2 ?_
    refine ix_K_ic_ne (tgt := 23) kq_Mo_beside i_Mo_beside_16 rfl (by decide) ?_ ?_
    · refine ix_K_ci kq_Mo_beside i_Mo_beside_23 rfl kci_0 ?_
      exact ix_D_cut i_Mo_beside_24 rfl
    · refine ix_K_ci kq_Mo_beside i_Mo_beside_19 rfl kci_1 ?_
      refine ix_K_goto (tgt := 24) kq_Mo_beside i_Mo_beside_20 rfl (by decide) ?_
      exact ix_D_cut i_Mo_beside_24 rfl
  · refine ix_K_ci kq_Mo_beside i_Mo_beside_10 rfl kci_m1 ?_
    refine ix_K_goto (tgt := 24) kq_Mo_beside i_Mo_beside_11 rfl (by decide) ?_
    exact ix_D_cut i_Mo_beside_24 rfl
theorem x_Mo_beside {a0 : Nat} {x1 : Int32} {x2 : Int32} {h h1 : ixH} {v : Int32} (hr : ix_rc h a0 = some 11) (hd : ix_D mMo_beside 0 [some (.ref a0), some (.int x1), some (.int x2), none, none] [] h = some ([.int v], h1)) : ix_M mMo_beside [.ref a0, .int x1, .int x2] h = some ([.int v], h1) := ix_M_of (ix_ent_i kq_Mo_beside rfl hr rfl (Nat.le_of_ble_eq_true rfl) rfl) hd (ix_okrI (Or.inl rfl) v)
theorem i_Mo_shortest_0 : ix_nx mMo_shortest 0 = some (0, .aload_n 0, 1, none, [], 0) := rfl
theorem i_Mo_shortest_1 : ix_nx mMo_shortest 1 = some (0, .iload_n 1, 2, none, [], 0) := rfl
theorem i_Mo_shortest_2 : ix_nx mMo_shortest 2 = some (3, .invokevirtual 117, 5, none, [0, 151, 176], 0) := rfl
theorem i_Mo_shortest_5 : ix_nx mMo_shortest 5 = some (0, .ifCond .eq 11, 8, none, [], 0) := rfl
theorem i_Mo_shortest_8 : ix_nx mMo_shortest 8 = some (0, .aload_n 0, 9, none, [], 0) := rfl
theorem i_Mo_shortest_9 : ix_nx mMo_shortest 9 = some (0, .iload_n 2, 10, none, [], 0) := rfl
theorem i_Mo_shortest_10 : ix_nx mMo_shortest 10 = some (3, .invokevirtual 117, 13, none, [0, 151, 176], 0) := rfl
theorem i_Mo_shortest_13 : ix_nx mMo_shortest 13 = some (0, .ifCond .ne 5, 16, none, [], 0) := rfl
theorem i_Mo_shortest_16 : ix_nx mMo_shortest 16 = some (0, .iconst (-1), 17, none, [], 0) := rfl
theorem i_Mo_shortest_17 : ix_nx mMo_shortest 17 = some (4, .ireturn, 18, none, [], 0) := rfl
theorem i_Mo_shortest_18 : ix_nx mMo_shortest 18 = some (0, .aload_n 0, 19, none, [], 0) := rfl
theorem i_Mo_shortest_19 : ix_nx mMo_shortest 19 = some (0, .iload_n 2, 20, none, [], 0) := rfl
theorem i_Mo_shortest_20 : ix_nx mMo_shortest 20 = some (3, .invokevirtual 165, 23, none, [0, 177, 193], 0) := rfl
theorem i_Mo_shortest_23 : ix_nx mMo_shortest 23 = some (0, .aload_n 0, 24, none, [], 0) := rfl
theorem i_Mo_shortest_24 : ix_nx mMo_shortest 24 = some (1, .getfield 33, 27, none, [11, 7, 2, 97], 0) := rfl
theorem i_Mo_shortest_27 : ix_nx mMo_shortest 27 = some (0, .iload_n 1, 28, none, [], 0) := rfl
theorem i_Mo_shortest_28 : ix_nx mMo_shortest 28 = some (1, .iaload, 29, none, [], 0) := rfl
theorem i_Mo_shortest_29 : ix_nx mMo_shortest 29 = some (0, .ifCond .lt 17, 32, none, [], 0) := rfl
theorem i_Mo_shortest_32 : ix_nx mMo_shortest 32 = some (0, .iload_n 3, 33, none, [], 0) := rfl
theorem i_Mo_shortest_33 : ix_nx mMo_shortest 33 = some (0, .iconst 0, 34, none, [], 0) := rfl
theorem i_Mo_shortest_34 : ix_nx mMo_shortest 34 = some (0, .aload_n 0, 35, none, [], 0) := rfl
theorem i_Mo_shortest_35 : ix_nx mMo_shortest 35 = some (1, .getfield 33, 38, none, [11, 7, 2, 97], 0) := rfl
theorem i_Mo_shortest_38 : ix_nx mMo_shortest 38 = some (0, .iload_n 1, 39, none, [], 0) := rfl
theorem i_Mo_shortest_39 : ix_nx mMo_shortest 39 = some (1, .iaload, 40, none, [], 0) := rfl
theorem i_Mo_shortest_40 : ix_nx mMo_shortest 40 = some (3, .invokestatic 98, 43, none, [1, 148, 174], 0) := rfl
theorem i_Mo_shortest_43 : ix_nx mMo_shortest 43 = some (0, .ifCond .ne 6, 46, none, [], 0) := rfl
theorem i_Mo_shortest_46 : ix_nx mMo_shortest 46 = some (0, .bipush (-6), 48, none, [], 0) := rfl
theorem i_Mo_shortest_48 : ix_nx mMo_shortest 48 = some (4, .ireturn, 49, none, [], 0) := rfl
theorem i_Mo_shortest_49 : ix_nx mMo_shortest 49 = some (0, .iload_n 1, 50, none, [], 0) := rfl
theorem i_Mo_shortest_50 : ix_nx mMo_shortest 50 = some (0, .istore 4, 52, none, [], 0) := rfl
theorem i_Mo_shortest_52 : ix_nx mMo_shortest 52 = some (0, .iconst 0, 53, none, [], 0) := rfl
theorem i_Mo_shortest_53 : ix_nx mMo_shortest 53 = some (0, .istore 5, 55, none, [], 0) := rfl
theorem i_Mo_shortest_55 : ix_nx mMo_shortest 55 = some (0, .iload 5, 57, some [true, false, false, true, true, true, false], [], 0) := rfl
theorem i_Mo_shortest_57 : ix_nx mMo_shortest 57 = some (0, .iload_n 3, 58, none, [], 0) := rfl
theorem i_Mo_shortest_58 : ix_nx mMo_shortest 58 = some (0, .if_icmp .ge 64, 61, none, [], 0) := rfl
theorem i_Mo_shortest_61 : ix_nx mMo_shortest 61 = some (0, .iconst 0, 62, none, [], 0) := rfl
theorem i_Mo_shortest_62 : ix_nx mMo_shortest 62 = some (0, .istore 6, 64, none, [], 0) := rfl
theorem i_Mo_shortest_64 : ix_nx mMo_shortest 64 = some (0, .aload_n 0, 65, some [true, false, false, true, true, true, true], [], 0) := rfl
theorem i_Mo_shortest_65 : ix_nx mMo_shortest 65 = some (0, .iload 4, 67, none, [], 0) := rfl
theorem i_Mo_shortest_67 : ix_nx mMo_shortest 67 = some (0, .iload 6, 69, none, [], 0) := rfl
theorem i_Mo_shortest_69 : ix_nx mMo_shortest 69 = some (3, .invokevirtual 113, 72, none, [0, 178, 194], 0) := rfl
theorem i_Mo_shortest_72 : ix_nx mMo_shortest 72 = some (0, .ifCond .lt 28, 75, none, [], 0) := rfl
theorem i_Mo_shortest_75 : ix_nx mMo_shortest 75 = some (0, .aload_n 0, 76, none, [], 0) := rfl
theorem i_Mo_shortest_76 : ix_nx mMo_shortest 76 = some (1, .getfield 33, 79, none, [11, 7, 2, 97], 0) := rfl
theorem i_Mo_shortest_79 : ix_nx mMo_shortest 79 = some (0, .aload_n 0, 80, none, [], 0) := rfl
theorem i_Mo_shortest_80 : ix_nx mMo_shortest 80 = some (0, .iload 4, 82, none, [], 0) := rfl
theorem i_Mo_shortest_82 : ix_nx mMo_shortest 82 = some (0, .iload 6, 84, none, [], 0) := rfl
theorem i_Mo_shortest_84 : ix_nx mMo_shortest 84 = some (3, .invokevirtual 113, 87, none, [0, 178, 194], 0) := rfl
theorem i_Mo_shortest_87 : ix_nx mMo_shortest 87 = some (1, .iaload, 88, none, [], 0) := rfl
theorem i_Mo_shortest_88 : ix_nx mMo_shortest 88 = some (0, .aload_n 0, 89, none, [], 0) := rfl
theorem i_Mo_shortest_89 : ix_nx mMo_shortest 89 = some (1, .getfield 33, 92, none, [11, 7, 2, 97], 0) := rfl
theorem i_Mo_shortest_92 : ix_nx mMo_shortest 92 = some (0, .iload 4, 94, none, [], 0) := rfl
theorem i_Mo_shortest_94 : ix_nx mMo_shortest 94 = some (1, .iaload, 95, none, [], 0) := rfl
theorem i_Mo_shortest_95 : ix_nx mMo_shortest 95 = some (0, .iconst 1, 96, none, [], 0) := rfl
theorem i_Mo_shortest_96 : ix_nx mMo_shortest 96 = some (0, .isub, 97, none, [], 0) := rfl
theorem i_Mo_shortest_97 : ix_nx mMo_shortest 97 = some (0, .if_icmp .eq 9, 100, none, [], 0) := rfl
theorem i_Mo_shortest_100 : ix_nx mMo_shortest 100 = some (0, .iinc 6 1, 103, none, [], 0) := rfl
theorem i_Mo_shortest_103 : ix_nx mMo_shortest 103 = some (0, .goto (-39), 106, none, [], 0) := rfl
theorem i_Mo_shortest_106 : ix_nx mMo_shortest 106 = some (0, .aload_n 0, 107, none, [], 0) := rfl
theorem i_Mo_shortest_107 : ix_nx mMo_shortest 107 = some (0, .iload 4, 109, none, [], 0) := rfl
theorem i_Mo_shortest_109 : ix_nx mMo_shortest 109 = some (0, .iload 6, 111, none, [], 0) := rfl
theorem i_Mo_shortest_111 : ix_nx mMo_shortest 111 = some (3, .invokevirtual 113, 114, none, [0, 178, 194], 0) := rfl
theorem i_Mo_shortest_114 : ix_nx mMo_shortest 114 = some (0, .istore 4, 116, none, [], 0) := rfl
theorem i_Mo_shortest_116 : ix_nx mMo_shortest 116 = some (0, .iinc 5 1, 119, none, [], 0) := rfl
theorem i_Mo_shortest_119 : ix_nx mMo_shortest 119 = some (0, .goto (-64), 122, none, [], 0) := rfl
theorem i_Mo_shortest_122 : ix_nx mMo_shortest 122 = some (0, .iload 4, 124, none, [], 0) := rfl
theorem i_Mo_shortest_124 : ix_nx mMo_shortest 124 = some (4, .ireturn, 125, none, [], 0) := rfl
noncomputable def l_Mo_shortest_55 (a0 : Nat) (x3 : Int32) (x4 : Int32) (x5 : Int32) (h : ixH) : Option (List Value × ixH) := ix_D mMo_shortest 55 [some (.ref a0), none, none, some (.int x3), some (.int x4), some (.int x5), none] [] h
noncomputable def l_Mo_shortest_64 (a0 : Nat) (x3 : Int32) (x4 : Int32) (x5 : Int32) (x6 : Int32) (h : ixH) : Option (List Value × ixH) := ix_D mMo_shortest 64 [some (.ref a0), none, none, some (.int x3), some (.int x4), some (.int x5), some (.int x6)] [] h
set_option maxRecDepth 20000 in
set_option maxHeartbeats 1000000 in
theorem e_Mo_shortest_55 (a0 : Nat) (x3 : Int32) (x4 : Int32) (x5 : Int32) (h : ixH) : l_Mo_shortest_55 a0 x3 x4 x5 h = if x3 ≤ x5 then some ([.int x4], h) else l_Mo_shortest_64 a0 x3 x4 x5 0 h := by
  unfold l_Mo_shortest_55
  refine ix_K_px kq_Mo_shortest i_Mo_shortest_55 rfl rfl ?_
  refine ix_K_px kq_Mo_shortest i_Mo_shortest_57 rfl rfl ?_
  refine ix_K_ic_ge (tgt := 122) kq_Mo_shortest i_Mo_shortest_58 rfl (by decide) ?_ ?_
  · refine ix_K_px kq_Mo_shortest i_Mo_shortest_122 rfl rfl ?_
    exact ix_D_ret kq_Mo_shortest i_Mo_shortest_124 (ix_rtI rfl _)
  · refine ix_K_ci kq_Mo_shortest i_Mo_shortest_61 rfl kci_0 ?_
    refine ix_K_si (L2 := [some (.ref a0), none, none, some (.int x3), some (.int x4), some (.int x5), some (.int 0)]) kq_Mo_shortest i_Mo_shortest_62 rfl (Or.inl rfl) (Nat.le_of_ble_eq_true rfl) rfl ?_
    exact ix_D_cut i_Mo_shortest_64 rfl
set_option maxRecDepth 20000 in
set_option maxHeartbeats 1000000 in
theorem e_Mo_shortest_64 (a0 : Nat) (x3 : Int32) (x4 : Int32) (x5 : Int32) (x6 : Int32) (h : ixH) : l_Mo_shortest_64 a0 x3 x4 x5 x6 h = (ix_M mMo_beside [.ref a0, .int x4, .int x6] h).bind fun r => ix_kI r fun v2 h1 => if v2 < 0 then l_Mo_shortest_64 a0 x3 x4 x5 (x6 + 1) h1 else (ix_gr h1 a0 11 7).bind fun v3 => (ix_M mMo_beside [.ref a0, .int x4, .int x6] h1).bind fun r => ix_kI r fun v5 h4 => (ix_ai h4 v3 v5).bind fun v6 => (ix_gr h4 a0 11 7).bind fun v7 => (ix_ai h4 v7 x4).bind fun v8 => if v6 = (v8 - 1) then (ix_M mMo_beside [.ref a0, .int x4, .int x6] h4).bind fun r => ix_kI r fun v10 h9 => l_Mo_shortest_55 a0 x3 v10 (x5 + 1) h9 else l_Mo_shortest_64 a0 x3 x4 x5 (x6 + 1) h4 := by
  unfold l_Mo_shortest_64
  refine ix_K_px kq_Mo_shortest i_Mo_shortest_64 rfl rfl ?_
  refine ix_K_px kq_Mo_shortest i_Mo_shortest_65 rfl rfl ?_
  refine ix_K_px kq_Mo_shortest i_Mo_shortest_67 rfl rfl ?_
  refine ix_K_callI (as := [.ref a0, .int x4, .int x6]) (rest := []) kq_Mo_shortest i_Mo_shortest_69 rfl kq_Mo_beside (by decide) rfl (Or.inl rfl) (fun v2 h1 => ?_)
  refine ix_K_if_lt (tgt := 100) kq_Mo_shortest i_Mo_shortest_72 rfl (by decide) ?_ ?_
  · refine ix_K_inc (L2 := [some (.ref a0), none, none, some (.int x3), some (.int x4), some (.int x5), some (.int (x6 + 1))]) kq_Mo_shortest i_Mo_shortest_100 rfl rfl (Nat.le_of_ble_eq_true rfl) kci_1 rfl ?_
    refine ix_K_goto (tgt := 64) kq_Mo_shortest i_Mo_shortest_103 rfl (by decide) ?_
    exact ix_D_cut i_Mo_shortest_64 rfl
  · refine ix_K_px kq_Mo_shortest i_Mo_shortest_75 rfl rfl ?_
    refine ix_K_gr kq_Mo_shortest i_Mo_shortest_76 rfl (fun v3 => ?_)
    refine ix_K_px kq_Mo_shortest i_Mo_shortest_79 rfl rfl ?_
    refine ix_K_px kq_Mo_shortest i_Mo_shortest_80 rfl rfl ?_
    refine ix_K_px kq_Mo_shortest i_Mo_shortest_82 rfl rfl ?_
    refine ix_K_callI (as := [.ref a0, .int x4, .int x6]) (rest := [.ref v3]) kq_Mo_shortest i_Mo_shortest_84 rfl kq_Mo_beside (by decide) rfl (Or.inl rfl) (fun v5 h4 => ?_)
    refine ix_K_ai kq_Mo_shortest i_Mo_shortest_87 rfl (fun v6 => ?_)
    refine ix_K_px kq_Mo_shortest i_Mo_shortest_88 rfl rfl ?_
    refine ix_K_gr kq_Mo_shortest i_Mo_shortest_89 rfl (fun v7 => ?_)
    refine ix_K_px kq_Mo_shortest i_Mo_shortest_92 rfl rfl ?_
    refine ix_K_ai kq_Mo_shortest i_Mo_shortest_94 rfl (fun v8 => ?_)
    refine ix_K_ci kq_Mo_shortest i_Mo_shortest_95 rfl kci_1 ?_
    refine ix_K_px kq_Mo_shortest i_Mo_shortest_96 rfl rfl ?_
    refine ix_K_ic_eq (tgt := 106) kq_Mo_shortest i_Mo_shortest_97 rfl (by decide) ?_ ?_
    · refine ix_K_px kq_Mo_shortest i_Mo_shortest_106 rfl rfl ?_
      refine ix_K_px kq_Mo_shortest i_Mo_shortest_107 rfl rfl ?_
      refine ix_K_px kq_Mo_shortest i_Mo_shortest_109 rfl rfl ?_
      refine ix_K_callI (as := [.ref a0, .int x4, .int x6]) (rest := []) kq_Mo_shortest i_Mo_shortest_111 rfl kq_Mo_beside (by decide) rfl (Or.inl rfl) (fun v10 h9 => ?_)
      refine ix_K_si (L2 := [some (.ref a0), none, none, some (.int x3), some (.int v10), some (.int x5), some (.int x6)]) kq_Mo_shortest i_Mo_shortest_114 rfl (Or.inl rfl) (Nat.le_of_ble_eq_true rfl) rfl ?_
      refine ix_K_inc (L2 := [some (.ref a0), none, none, some (.int x3), some (.int v10), some (.int (x5 + 1)), some (.int x6)]) kq_Mo_shortest i_Mo_shortest_116 rfl rfl (Nat.le_of_ble_eq_true rfl) kci_1 rfl ?_
      refine ix_K_goto (tgt := 55) kq_Mo_shortest i_Mo_shortest_119 rfl (by decide) ?_
      exact ix_D_cut i_Mo_shortest_55 rfl
    · refine ix_K_inc (L2 := [some (.ref a0), none, none, some (.int x3), some (.int x4), some (.int x5), some (.int (x6 + 1))]) kq_Mo_shortest i_Mo_shortest_100 rfl rfl (Nat.le_of_ble_eq_true rfl) kci_1 rfl ?_
      refine ix_K_goto (tgt := 64) kq_Mo_shortest i_Mo_shortest_103 rfl (by decide) ?_
      exact ix_D_cut i_Mo_shortest_64 rfl
set_option maxRecDepth 20000 in
set_option maxHeartbeats 1000000 in
theorem e_Mo_shortest (a0 : Nat) (x1 : Int32) (x2 : Int32) (x3 : Int32) (h : ixH) : ix_D mMo_shortest 0 [some (.ref a0), some (.int x1), some (.int x2), some (.int x3), none, none, none] [] h = (ix_M mMo_isCell [.ref a0, .int x1] h).bind fun r => ix_kZ r fun v2 h1 => if v2 = true then (ix_M mMo_isCell [.ref a0, .int x2] h1).bind fun r => ix_kZ r fun v4 h3 => if v4 = true then (ix_M mMo_layFar [.ref a0, .int x2] h3).bind fun r => ix_kV r fun h5 => (ix_gr h5 a0 11 7).bind fun v6 => (ix_ai h5 v6 x1).bind fun v7 => if v7 < 0 then some ([.int (-6)], h5) else (ix_gr h5 a0 11 7).bind fun v8 => (ix_ai h5 v8 x1).bind fun v9 => (ix_M mMo_in [.int x3, .int 0, .int v9] h5).bind fun r => ix_kZ r fun v11 h10 => if v11 = true then l_Mo_shortest_55 a0 x3 x1 0 h10 else some ([.int (-6)], h10) else some ([.int (-1)], h3) else some ([.int (-1)], h1) := by
  refine ix_K_px kq_Mo_shortest i_Mo_shortest_0 rfl rfl ?_
  refine ix_K_px kq_Mo_shortest i_Mo_shortest_1 rfl rfl ?_
  refine ix_K_callZ (as := [.ref a0, .int x1]) (rest := []) kq_Mo_shortest i_Mo_shortest_2 rfl kq_Mo_isCell (by decide) rfl rfl (fun v2 h1 => ?_)
  refine ix_K_bz_eq (tgt := 16) kq_Mo_shortest i_Mo_shortest_5 rfl (by decide) ?_ ?_
  · refine ix_K_px kq_Mo_shortest i_Mo_shortest_8 rfl rfl ?_
    refine ix_K_px kq_Mo_shortest i_Mo_shortest_9 rfl rfl ?_
    refine ix_K_callZ (as := [.ref a0, .int x2]) (rest := []) kq_Mo_shortest i_Mo_shortest_10 rfl kq_Mo_isCell (by decide) rfl rfl (fun v4 h3 => ?_)
    refine ix_K_bz_ne (tgt := 18) kq_Mo_shortest i_Mo_shortest_13 rfl (by decide) ?_ ?_
    · refine ix_K_px kq_Mo_shortest i_Mo_shortest_18 rfl rfl ?_
      refine ix_K_px kq_Mo_shortest i_Mo_shortest_19 rfl rfl ?_
      refine ix_K_callV (as := [.ref a0, .int x2]) (rest := []) kq_Mo_shortest i_Mo_shortest_20 rfl kq_Mo_layFar (by decide) rfl rfl (fun h5 => ?_)
      refine ix_K_px kq_Mo_shortest i_Mo_shortest_23 rfl rfl ?_
      refine ix_K_gr kq_Mo_shortest i_Mo_shortest_24 rfl (fun v6 => ?_)
      refine ix_K_px kq_Mo_shortest i_Mo_shortest_27 rfl rfl ?_
      refine ix_K_ai kq_Mo_shortest i_Mo_shortest_28 rfl (fun v7 => ?_)
      refine ix_K_if_lt (tgt := 46) kq_Mo_shortest i_Mo_shortest_29 rfl (by decide) ?_ ?_
      · refine ix_K_cb kq_Mo_shortest i_Mo_shortest_46 rfl kcb_m6 ?_
        exact ix_D_ret kq_Mo_shortest i_Mo_shortest_48 (ix_rtI rfl _)
      · refine ix_K_px kq_Mo_shortest i_Mo_shortest_32 rfl rfl ?_
        refine ix_K_ci kq_Mo_shortest i_Mo_shortest_33 rfl kci_0 ?_
        refine ix_K_px kq_Mo_shortest i_Mo_shortest_34 rfl rfl ?_
        refine ix_K_gr kq_Mo_shortest i_Mo_shortest_35 rfl (fun v8 => ?_)
        refine ix_K_px kq_Mo_shortest i_Mo_shortest_38 rfl rfl ?_
        refine ix_K_ai kq_Mo_shortest i_Mo_shortest_39 rfl (fun v9 => ?_)
        refine ix_K_callZ (as := [.int x3, .int 0, .int v9]) (rest := []) kq_Mo_shortest i_Mo_shortest_40 rfl kq_Mo_in (by decide) rfl rfl (fun v11 h10 => ?_)
        refine ix_K_bz_ne (tgt := 49) kq_Mo_shortest i_Mo_shortest_43 rfl (by decide) ?_ ?_
        · refine ix_K_px kq_Mo_shortest i_Mo_shortest_49 rfl rfl ?_
          refine ix_K_si (L2 := [some (.ref a0), some (.int x1), some (.int x2), some (.int x3), some (.int x1), none, none]) kq_Mo_shortest i_Mo_shortest_50 rfl (Or.inl rfl) (Nat.le_of_ble_eq_true rfl) rfl ?_
          refine ix_K_ci kq_Mo_shortest i_Mo_shortest_52 rfl kci_0 ?_
          refine ix_K_si (L2 := [some (.ref a0), some (.int x1), some (.int x2), some (.int x3), some (.int x1), some (.int 0), none]) kq_Mo_shortest i_Mo_shortest_53 rfl (Or.inl rfl) (Nat.le_of_ble_eq_true rfl) rfl ?_
          exact ix_D_cut i_Mo_shortest_55 rfl
        · refine ix_K_cb kq_Mo_shortest i_Mo_shortest_46 rfl kcb_m6 ?_
          exact ix_D_ret kq_Mo_shortest i_Mo_shortest_48 (ix_rtI rfl _)
    · refine ix_K_ci kq_Mo_shortest i_Mo_shortest_16 rfl kci_m1 ?_
      exact ix_D_ret kq_Mo_shortest i_Mo_shortest_17 (ix_rtI rfl _)
  · refine ix_K_ci kq_Mo_shortest i_Mo_shortest_16 rfl kci_m1 ?_
    exact ix_D_ret kq_Mo_shortest i_Mo_shortest_17 (ix_rtI rfl _)
theorem x_Mo_shortest {a0 : Nat} {x1 : Int32} {x2 : Int32} {x3 : Int32} {h h1 : ixH} {v : Int32} (hr : ix_rc h a0 = some 11) (hd : ix_D mMo_shortest 0 [some (.ref a0), some (.int x1), some (.int x2), some (.int x3), none, none, none] [] h = some ([.int v], h1)) : ix_M mMo_shortest [.ref a0, .int x1, .int x2, .int x3] h = some ([.int v], h1) := ix_M_of (ix_ent_i kq_Mo_shortest rfl hr rfl (Nat.le_of_ble_eq_true rfl) rfl) hd (ix_okrI (Or.inl rfl) v)
