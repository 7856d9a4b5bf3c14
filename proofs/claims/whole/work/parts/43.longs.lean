theorem ix_ushN {n k : Nat} (hn : n < 2 ^ 64) (hk : k < 64) : ix_ush (lN n) (nI k) = lN (n / 2 ^ k) := wb_shr hn hk
theorem ix_shlN (n : Nat) {k : Nat} (hk : k < 64) : ix_shl (lN n) (nI k) = lN (n * 2 ^ k) := wb_shl n hk
def pL1 (x : Int64) : Int64 := x - ((ix_ush x 1) &&& 6148914691236517205)
def pL2 (y : Int64) : Int64 := (y &&& 3689348814741910323) + ((ix_ush y 2) &&& 3689348814741910323)
def pL3 (y : Int64) : Int64 := (y + (ix_ush y 4)) &&& 1085102592571150095
def pL4 (y : Int64) : Int64 := y + (ix_ush y 8)
def pL5 (y : Int64) : Int64 := y + (ix_ush y 16)
def pL6 (y : Int64) : Int64 := y + (ix_ush y 32)
def pL7 (y : Int64) : Int32 := (Int64.toInt32 y) &&& 127
theorem pL1_n {n : Nat} (hn : n < 2 ^ 64) : pL1 (lN n) = lN (pg1 32 n) := by
  have e := pc_s1 32 n hn
  have m1 : pm1 32 = 6148914691236517205 := by decide
  rw [m1] at e
  unfold pL1
  rw [show (1 : Int32) = nI 1 from rfl, ix_ushN hn (by decide), show (6148914691236517205 : Int64) = lN 6148914691236517205 from rfl, fb_andL, Nat.pow_one, lN_sub (Nat.le_trans Nat.and_le_left (Nat.div_le_self _ _)), e]
theorem pL2_n {n : Nat} (hn : n < 2 ^ 64) : pL2 (lN n) = lN (pg2 16 n) := by
  have e := pc_s2 16 n hn
  have m1 : pm2 16 = 3689348814741910323 := by decide
  rw [m1] at e
  unfold pL2
  rw [show (2 : Int32) = nI 2 from rfl, ix_ushN hn (by decide), show (3689348814741910323 : Int64) = lN 3689348814741910323 from rfl, fb_andL, fb_andL, lN_add, show (2 : Nat) ^ 2 = 4 from rfl, e]
theorem pL3_n {n : Nat} (hn : n < 2 ^ 64) (hd : pdb 16 4 16 n) : pL3 (lN n) = lN (pg3 8 n) := by
  have e := pc_s3 8 n hd
  have m1 : pm3 8 = 1085102592571150095 := by decide
  rw [m1] at e
  unfold pL3
  rw [show (4 : Int32) = nI 4 from rfl, ix_ushN hn (by decide), show (1085102592571150095 : Int64) = lN 1085102592571150095 from rfl, lN_add, fb_andL, show (2 : Nat) ^ 4 = 16 from rfl, e]
theorem pL456_n {n : Nat} (hd : pdb 256 8 8 n) : pL7 (pL6 (pL5 (pL4 (lN n)))) = nI (pds 256 8 n) := by
  have hb : n < 2 ^ 62 := by
    obtain ⟨h0, h1, h2, h3, h4, h5, h6, h7, h8⟩ := hd
    have h8 : n / 256 / 256 / 256 / 256 / 256 / 256 / 256 / 256 = 0 := h8
    omega
  unfold pL4 pL5 pL6
  rw [show (8 : Int32) = nI 8 from rfl, ix_ushN (by omega) (by decide), lN_add, show (16 : Int32) = nI 16 from rfl, ix_ushN (by omega) (by decide), lN_add, show (32 : Int32) = nI 32 from rfl, ix_ushN (by omega) (by decide), lN_add]
  have e := pc_fin hd
  simp only [Nat.reducePow]
  unfold pL7
  rw [lN_i, pk_and (m := 127) _ 7 (by decide)]
  have e2 : ∀ m : Nat, (nI m).toBitVec.toNat = m % 2 ^ 32 := fun m => by
    show (BitVec.ofNat 32 m).toNat = _
    rw [BitVec.toNat_ofNat]
  rw [e2, ← e]
  congr 1
  omega
set_option maxRecDepth 20000 in
theorem M_bitCount {n : Nat} (hn : n < 2 ^ 64) (h : ixH) : ix_M mJL_bitCount [.long (lN n)] h = some ([.int (nI (zpct n))], h) := by
  refine x_JL_bitCount ?_
  rw [e_JL_bitCount]
  have h1 : pdb 4 2 32 (pg1 32 n) := pd_1 32 n
  have b1 : pg1 32 n < 2 ^ 64 := pc_lt 4 2 32 _ (by decide) h1
  have h2 : pdb 16 4 16 (pg2 16 (pg1 32 n)) := pd_2 16 _ h1
  have b2 : pg2 16 (pg1 32 n) < 2 ^ 64 := pc_lt 16 4 16 _ (by decide) h2
  have h3 : pdb 256 8 8 (pg3 8 (pg2 16 (pg1 32 n))) := pd_3 8 _ h2
  have e : pL7 (pL6 (pL5 (pL4 (pL3 (pL2 (pL1 (lN n))))))) = nI (zpct n) := by
    rw [pL1_n hn, pL2_n b1, pL3_n b2 h2, pL456_n h3]
    congr 1
    unfold zpct
    rw [← pc_ct]
    exact (ps_3 8 _).trans ((ps_2 16 _).trans (ps_1 32 n))
  exact congrArg (fun z => some ([Value.int z], h)) e
