/-! THE LAW: its loop -/
def lwI (xs : Nat → Int32) (L s : Nat) (c : ixK) (X : ixX) : Prop := (∃ S, invK c X S) ∧ X.1 0 = xs ∧ X.1 2 = tbF ∧ c.2.2.1 = L ∧ slB c = s
def lwN (xs : Nat → Int32) (L s i : Nat) (t : Option (List Value × ixH)) : Prop := ∃ c X, lwI xs L s c X ∧ t = l_Law_law_18 0 3 75 (nI (i + 4)) (hp c X)
theorem lz9_pl (a b : Nat) : nI a + nI b = nI (a + b) := (Int32.ofNat_add a b).symm
theorem lz9_4 (i : Nat) : nI i + 4 = nI (i + 4) := lz9_pl i 4
theorem lz9_rd {xs : Nat → Int32} {c : ixK} {X : ixX} {L : Nat} (h0 : X.1 0 = xs) (hc : c.2.2.1 = L) (hL : L ≤ 2048) {i : Nat} (hi : i < L) : ix_ai (hp c X) 0 (nI i) = some (xs i) := by
  rw [hp_ai (n := L) (by omega) (by rw [← hc]; rfl) hi (by omega), h0]
theorem lz9_r1 {xs : Nat → Int32} {c : ixK} {X : ixX} {L : Nat} (h0 : X.1 0 = xs) (hc : c.2.2.1 = L) (hL : L ≤ 2048) {i : Nat} (hi : i + 4 ≤ L) : ix_ai (hp c X) 0 (nI i + 1) = some (xs (i + 1)) := by
  rw [show (1 : Int32) = nI 1 from rfl, lz9_pl]; exact lz9_rd h0 hc hL (by omega)
theorem lz9_r2 {xs : Nat → Int32} {c : ixK} {X : ixX} {L : Nat} (h0 : X.1 0 = xs) (hc : c.2.2.1 = L) (hL : L ≤ 2048) {i : Nat} (hi : i + 4 ≤ L) : ix_ai (hp c X) 0 (nI i + 2) = some (xs (i + 2)) := by
  rw [show (2 : Int32) = nI 2 from rfl, lz9_pl]; exact lz9_rd h0 hc hL (by omega)
theorem lz9_r3 {xs : Nat → Int32} {c : ixK} {X : ixX} {L : Nat} (h0 : X.1 0 = xs) (hc : c.2.2.1 = L) (hL : L ≤ 2048) {i : Nat} (hi : i + 4 ≤ L) : ix_ai (hp c X) 0 (nI i + 3) = some (xs (i + 3)) := by
  rw [show (3 : Int32) = nI 3 from rfl, lz9_pl]; exact lz9_rd h0 hc hL (by omega)
theorem lz9_nx {xs : Nat → Int32} {L s : Nat} {c : ixK} {X X' : ixX} {S : sT} (h : lwI xs L s c X) (z : zF X X') (hI : invK c X' S) : lwI xs L s c X' := ⟨⟨S, hI⟩, z.1.trans h.2.1, z.2.trans h.2.2.1, h.2.2.2.1, h.2.2.2.2⟩
theorem lz9_0 {xs : Nat → Int32} {L s i : Nat} {c : ixK} {X : ixX} {mc mm : Nat} (h : lwI xs L s c X) (hL : L ≤ 2048) (hi : i + 4 ≤ L) (K : okI mc mm [] c X) : lwN xs L s i ((ix_M mc [.ref 3] (hp c X)).bind fun r => ix_kI r fun u h5 => (ix_M mm [.ref 75] h5).bind fun r => ix_kI r fun t h9 => if u = t then l_Law_law_18 0 3 75 (nI i + 4) h9 else some ([.int (ix_bi false)], h9)) := by
  obtain ⟨X', X'', r, S', e1, e2, z1, z2, hI⟩ := K
  refine ⟨c, X'', lz9_nx h z2 hI, ?_⟩
  rw [kI_of e1, kI_of e2, if_pos rfl, lz9_4]
theorem lz9_1 {xs : Nat → Int32} {L s i : Nat} {c : ixK} {X : ixX} {mc mm : Nat} (h : lwI xs L s c X) (hL : L ≤ 2048) (hi : i + 4 ≤ L) (K : ∀ x1 : Int32, okI mc mm [.int x1] c X) : lwN xs L s i ((ix_ai (hp c X) 0 (nI i + 1)).bind fun v1 => (ix_M mc [.ref 3, .int v1] (hp c X)).bind fun r => ix_kI r fun u h5 => (ix_ai h5 0 (nI i + 1)).bind fun w1 => (ix_M mm [.ref 75, .int w1] h5).bind fun r => ix_kI r fun t h9 => if u = t then l_Law_law_18 0 3 75 (nI i + 4) h9 else some ([.int (ix_bi false)], h9)) := by
  obtain ⟨X', X'', r, S', e1, e2, z1, z2, hI⟩ := K (xs (i + 1))
  refine ⟨c, X'', lz9_nx h z2 hI, ?_⟩
  rw [bO (lz9_r1 h.2.1 h.2.2.2.1 hL hi), kI_of e1, bO (lz9_r1 (z1.1.trans h.2.1) h.2.2.2.1 hL hi), kI_of e2, if_pos rfl, lz9_4]
theorem lz9_2 {xs : Nat → Int32} {L s i : Nat} {c : ixK} {X : ixX} {mc mm : Nat} (h : lwI xs L s c X) (hL : L ≤ 2048) (hi : i + 4 ≤ L) (K : ∀ x1 x2 : Int32, okI mc mm [.int x1, .int x2] c X) : lwN xs L s i ((ix_ai (hp c X) 0 (nI i + 1)).bind fun v1 => (ix_ai (hp c X) 0 (nI i + 2)).bind fun v2 => (ix_M mc [.ref 3, .int v1, .int v2] (hp c X)).bind fun r => ix_kI r fun u h5 => (ix_ai h5 0 (nI i + 1)).bind fun w1 => (ix_ai h5 0 (nI i + 2)).bind fun w2 => (ix_M mm [.ref 75, .int w1, .int w2] h5).bind fun r => ix_kI r fun t h9 => if u = t then l_Law_law_18 0 3 75 (nI i + 4) h9 else some ([.int (ix_bi false)], h9)) := by
  obtain ⟨X', X'', r, S', e1, e2, z1, z2, hI⟩ := K (xs (i + 1)) (xs (i + 2))
  refine ⟨c, X'', lz9_nx h z2 hI, ?_⟩
  rw [bO (lz9_r1 h.2.1 h.2.2.2.1 hL hi), bO (lz9_r2 h.2.1 h.2.2.2.1 hL hi), kI_of e1, bO (lz9_r1 (z1.1.trans h.2.1) h.2.2.2.1 hL hi), bO (lz9_r2 (z1.1.trans h.2.1) h.2.2.2.1 hL hi), kI_of e2, if_pos rfl, lz9_4]
theorem lz9_3 {xs : Nat → Int32} {L s i : Nat} {c : ixK} {X : ixX} {mc mm : Nat} (h : lwI xs L s c X) (hL : L ≤ 2048) (hi : i + 4 ≤ L) (K : ∀ x1 x2 x3 : Int32, okI mc mm [.int x1, .int x2, .int x3] c X) : lwN xs L s i ((ix_ai (hp c X) 0 (nI i + 1)).bind fun v1 => (ix_ai (hp c X) 0 (nI i + 2)).bind fun v2 => (ix_ai (hp c X) 0 (nI i + 3)).bind fun v3 => (ix_M mc [.ref 3, .int v1, .int v2, .int v3] (hp c X)).bind fun r => ix_kI r fun u h5 => (ix_ai h5 0 (nI i + 1)).bind fun w1 => (ix_ai h5 0 (nI i + 2)).bind fun w2 => (ix_ai h5 0 (nI i + 3)).bind fun w3 => (ix_M mm [.ref 75, .int w1, .int w2, .int w3] h5).bind fun r => ix_kI r fun t h9 => if u = t then l_Law_law_18 0 3 75 (nI i + 4) h9 else some ([.int (ix_bi false)], h9)) := by
  obtain ⟨X', X'', r, S', e1, e2, z1, z2, hI⟩ := K (xs (i + 1)) (xs (i + 2)) (xs (i + 3))
  refine ⟨c, X'', lz9_nx h z2 hI, ?_⟩
  rw [bO (lz9_r1 h.2.1 h.2.2.2.1 hL hi), bO (lz9_r2 h.2.1 h.2.2.2.1 hL hi), bO (lz9_r3 h.2.1 h.2.2.2.1 hL hi), kI_of e1, bO (lz9_r1 (z1.1.trans h.2.1) h.2.2.2.1 hL hi), bO (lz9_r2 (z1.1.trans h.2.1) h.2.2.2.1 hL hi), bO (lz9_r3 (z1.1.trans h.2.1) h.2.2.2.1 hL hi), kI_of e2, if_pos rfl, lz9_4]
theorem lz9_L0 {xs : Nat → Int32} {L s i : Nat} {c : ixK} {X : ixX} {mc mm : Nat} (h : lwI xs L s c X) (hL : L ≤ 2048) (hi : i + 4 ≤ L) (K : okL mc mm [] c X) : lwN xs L s i ((ix_M mc [.ref 3] (hp c X)).bind fun r => ix_kL r fun u h5 => (ix_M mm [.ref 75] h5).bind fun r => ix_kL r fun t h9 => if u = t then l_Law_law_18 0 3 75 (nI i + 4) h9 else some ([.int (ix_bi false)], h9)) := by
  obtain ⟨X', X'', r, S', e1, e2, z1, z2, hI⟩ := K
  refine ⟨c, X'', lz9_nx h z2 hI, ?_⟩
  rw [kL_of e1, kL_of e2, if_pos rfl, lz9_4]
theorem lz9_L2 {xs : Nat → Int32} {L s i : Nat} {c : ixK} {X : ixX} {mc mm : Nat} (h : lwI xs L s c X) (hL : L ≤ 2048) (hi : i + 4 ≤ L) (K : ∀ x1 x2 : Int32, okL mc mm [.int x1, .int x2] c X) : lwN xs L s i ((ix_ai (hp c X) 0 (nI i + 1)).bind fun v1 => (ix_ai (hp c X) 0 (nI i + 2)).bind fun v2 => (ix_M mc [.ref 3, .int v1, .int v2] (hp c X)).bind fun r => ix_kL r fun u h5 => (ix_ai h5 0 (nI i + 1)).bind fun w1 => (ix_ai h5 0 (nI i + 2)).bind fun w2 => (ix_M mm [.ref 75, .int w1, .int w2] h5).bind fun r => ix_kL r fun t h9 => if u = t then l_Law_law_18 0 3 75 (nI i + 4) h9 else some ([.int (ix_bi false)], h9)) := by
  obtain ⟨X', X'', r, S', e1, e2, z1, z2, hI⟩ := K (xs (i + 1)) (xs (i + 2))
  refine ⟨c, X'', lz9_nx h z2 hI, ?_⟩
  rw [bO (lz9_r1 h.2.1 h.2.2.2.1 hL hi), bO (lz9_r2 h.2.1 h.2.2.2.1 hL hi), kL_of e1, bO (lz9_r1 (z1.1.trans h.2.1) h.2.2.2.1 hL hi), bO (lz9_r2 (z1.1.trans h.2.1) h.2.2.2.1 hL hi), kL_of e2, if_pos rfl, lz9_4]
theorem lz9_p {xs : Nat → Int32} {L s i : Nat} {c : ixK} {X : ixX} {mc mm : Nat} (h : lwI xs L s c X) (hL : L ≤ 2048) (hi : i + 4 ≤ L) (K : ∀ x : Int64, okI mc mm [.long x] c X) : lwN xs L s i ((ix_ai (hp c X) 0 (nI i + 1)).bind fun v1 => (ix_ai (hp c X) 0 (nI i + 2)).bind fun v2 => (ix_M mc [.ref 3, .long ((ix_shl (Int32.toInt64 v1) 32) ||| ((Int32.toInt64 v2) &&& 4294967295))] (hp c X)).bind fun r => ix_kI r fun u h5 => (ix_ai h5 0 (nI i + 1)).bind fun w1 => (ix_ai h5 0 (nI i + 2)).bind fun w2 => (ix_M mm [.ref 75, .long ((ix_shl (Int32.toInt64 w1) 32) ||| ((Int32.toInt64 w2) &&& 4294967295))] h5).bind fun r => ix_kI r fun t h9 => if u = t then l_Law_law_18 0 3 75 (nI i + 4) h9 else some ([.int (ix_bi false)], h9)) := by
  obtain ⟨X', X'', r, S', e1, e2, z1, z2, hI⟩ := K ((ix_shl (Int32.toInt64 (xs (i + 1))) 32) ||| ((Int32.toInt64 (xs (i + 2))) &&& 4294967295))
  refine ⟨c, X'', lz9_nx h z2 hI, ?_⟩
  rw [bO (lz9_r1 h.2.1 h.2.2.2.1 hL hi), bO (lz9_r2 h.2.1 h.2.2.2.1 hL hi), kI_of e1, bO (lz9_r1 (z1.1.trans h.2.1) h.2.2.2.1 hL hi), bO (lz9_r2 (z1.1.trans h.2.1) h.2.2.2.1 hL hi), kI_of e2, if_pos rfl, lz9_4]
theorem lz9_T {xs : Nat → Int32} {L s i : Nat} {c : ixK} {X : ixX} (h : lwI xs L s c X) (K : okT c X) : lwN xs L s i ((ix_M mRP_tuples [.ref 3] (hp c X)).bind fun r => ix_kL r fun u h5 => (ix_M mMo_tuples [.ref 75] h5).bind fun r => ix_kL r fun t h9 => if u = t then l_Law_law_18 0 3 75 (nI i + 4) h9 else some ([.int (ix_bi false)], h9)) := by
  obtain ⟨c', X', X'', r, S', e1, e2, z2, hI, q1, q2⟩ := K
  refine ⟨c', X'', ⟨⟨S', hI⟩, z2.1.trans h.2.1, z2.2.trans h.2.2.1, q1.trans h.2.2.2.1, q2.trans h.2.2.2.2⟩, ?_⟩
  rw [kL_of e1, kL_of e2, if_pos rfl, lz9_4]
theorem lz9_63 (x : Int32) : ∃ n, n < 64 ∧ x &&& 63 = nI n := by
  have e : (x.toUInt32 &&& Int32.toUInt32 63).toNat = x.toUInt32.toNat % 2 ^ 6 := by
    rw [UInt32.toNat_and, show (Int32.toUInt32 63).toNat = 2 ^ 6 - 1 from by decide, Nat.and_two_pow_sub_one_eq_mod]
  refine ⟨x.toUInt32.toNat % 2 ^ 6, by omega, ?_⟩
  rw [← Int32.toBitVec_inj, ← BitVec.toNat_inj]
  show (x.toUInt32 &&& Int32.toUInt32 63).toNat = (BitVec.ofNat 32 (x.toUInt32.toNat % 2 ^ 6)).toNat
  rw [e, BitVec.toNat_ofNat]
  omega
theorem lz9_n {xs : Nat → Int32} {L s : Nat} {c : ixK} {X : ixX} (h : lwI xs L s c X) : ix_an (hp c X) 0 = some L := by
  rw [← h.2.2.2.1]
  exact hp_an (t := 0) (n := 0) (v := (c.2.2.1, .inl (X.1 0))) (by omega) rfl
theorem lz9_lt {L i : Nat} (hL : L ≤ 2048) (hi : i ≤ 2048) : (Int32.ofNat L - 4 < nI i) ↔ ¬ i + 4 ≤ L := by
  rw [show Int32.ofNat L = nI L from rfl, show (4 : Int32) = nI 4 from rfl, nI_z, nI_z, nI_z, zI_sub, zI_lt (by omega) (by omega) (by omega) (by omega)]
  omega
set_option maxRecDepth 20000 in
set_option maxHeartbeats 2000000 in
theorem lz9_stp {xs : Nat → Int32} {L s i : Nat} {c : ixK} {X : ixX} (h : lwI xs L s c X) (hL : L ≤ 2048) (hi : i + 4 ≤ L) : lwN xs L s i (l_Law_law_18 0 3 75 (nI i) (hp c X)) := by
  obtain ⟨k, hk, e⟩ := lz9_63 (xs i)
  obtain ⟨S, hI⟩ := h.1
  have hz := h.2.2.1
  rw [e_Law_law_18, bO (lz9_n h), if_neg (by rw [lz9_lt hL (by omega)]; omega), bO (lz9_rd h.2.1 h.2.2.2.1 hL (by omega)), e]
  match k, hk with
  | 0, _ => rw [sel_at (j := 0) (by omega) rfl]; exact lz9_2 h hL hi (K_setUp hI)
  | 1, _ => rw [sel_at (j := 1) (by omega) rfl]; exact lz9_2 h hL hi (K_wall hI)
  | 2, _ => rw [sel_at (j := 2) (by omega) rfl]; exact lz9_2 h hL hi (K_role hI)
  | 3, _ => rw [sel_at (j := 3) (by omega) rfl]; exact lz9_2 h hL hi (K_wire hI)
  | 4, _ => rw [sel_at (j := 4) (by omega) rfl]; exact lz9_1 h hL hi (K_turn hI)
  | 5, _ => rw [sel_at (j := 5) (by omega) rfl]; exact lz9_2 h hL hi (K_cell hI)
  | 6, _ => rw [sel_at (j := 6) (by omega) rfl]; exact lz9_p h hL hi (K_put hI)
  | 7, _ => rw [sel_at (j := 7) (by omega) rfl]; exact lz9_0 h hL hi (K_wipe hI)
  | 8, _ => rw [sel_at (j := 8) (by omega) rfl]; exact lz9_0 h hL hi (K_fault hI hz)
  | 9, _ => rw [sel_at (j := 9) (by omega) rfl]; exact lz9_0 h hL hi (K_load hI hz)
  | 10, _ => rw [sel_at (j := 10) (by omega) rfl]; exact lz9_L2 h hL hi (K_falling hI)
  | 11, _ => rw [sel_at (j := 11) (by omega) rfl]; exact lz9_2 h hL hi (K_pair hI)
  | 12, _ => rw [sel_at (j := 12) (by omega) rfl]; exact lz9_0 h hL hi (K_unpair hI)
  | 13, _ => rw [sel_at (j := 13) (by omega) rfl]; exact lz9_T h (K_tuples hI)
  | 14, _ => rw [sel_at (j := 14) (by omega) rfl]; exact lz9_L0 h hL hi (K_determinant hI)
  | 15, _ => rw [sel_at (j := 15) (by omega) rfl]; exact lz9_2 h hL hi (K_steps hI)
  | 16, _ => rw [sel_at (j := 16) (by omega) rfl]; exact lz9_3 h hL hi (K_shortest hI)
  | 17, _ => rw [sel_at (j := 17) (by omega) rfl]; exact lz9_0 h hL hi (K_flow hI)
  | 18, _ => rw [sel_at (j := 18) (by omega) rfl]; exact lz9_2 h hL hi (K_pass hI)
  | 19, _ => rw [sel_at (j := 19) (by omega) rfl]; exact lz9_1 h hL hi (K_changed hI)
  | 20, _ => rw [sel_at (j := 20) (by omega) rfl]; exact lz9_1 h hL hi (K_bestTurns hI)
  | 21, _ => rw [sel_at (j := 21) (by omega) rfl]; exact lz9_0 h hL hi (K_cover hI)
  | 22, _ => rw [sel_at (j := 22) (by omega) rfl]; exact lz9_1 h hL hi (K_group hI)
  | 23, _ => rw [sel_at (j := 23) (by omega) rfl]; exact lz9_2 h hL hi (K_step hI)
  | 24, _ => rw [sel_at (j := 24) (by omega) rfl]; exact lz9_1 h hL hi (K_back hI)
  | 25, _ => rw [sel_at (j := 25) (by omega) rfl]; exact lz9_2 h hL hi (K_route hI)
  | 26, _ => rw [sel_at (j := 26) (by omega) rfl]; exact lz9_2 h hL hi (K_about hI)
  | 27, _ => rw [sel_at (j := 27) (by omega) rfl]; exact lz9_2 h hL hi (K_meeting hI)
  | 28, _ => rw [sel_at (j := 28) (by omega) rfl]; exact lz9_2 h hL hi (K_exchange hI)
  | 29, _ => rw [sel_at (j := 29) (by omega) rfl]; exact lz9_2 h hL hi (K_check hI)
  | 30, _ => rw [sel_at (j := 30) (by omega) rfl]; exact lz9_1 h hL hi (K_count hI)
  | 31, _ => rw [sel_at (j := 31) (by omega) rfl]; exact lz9_1 h hL hi (K_save hI)
  | 32, _ => rw [sel_at (j := 32) (by omega) rfl]; exact lz9_1 h hL hi (K_restore hI)
  | k + 33, hk =>
    rw [sel_out _ _ (fun q _ q2 => by
      have q2 : q < 0 + 33 := q2
      rw [nI_eq (by omega) (by omega)]; omega)]
    exact ⟨c, X, h, by rw [lz9_4]⟩
theorem lz9_run {xs : Nat → Int32} {L s : Nat} (hL : L ≤ 2048) : ∀ (n i : Nat) (c : ixK) (X : ixX), L ≤ i + n → i ≤ 2048 → lwI xs L s c X → ∃ h', l_Law_law_18 0 3 75 (nI i) (hp c X) = some ([.int (ix_bi true)], h') ∧ h'.1 ≤ 112 ∧ h'.2.1 ≤ s := by
  intro n
  induction n with
  | zero =>
    intro i c X h1 h2 h
    refine ⟨hp c X, by rw [e_Law_law_18, bO (lz9_n h), if_pos (by rw [lz9_lt hL h2]; omega)], ?_⟩
    obtain ⟨⟨S, hI⟩, _, _, _, h5⟩ := h
    have hT := hI.2.1.2.2.2.2.2
    constructor
    · show c.1 + 102 ≤ 112
      rcases hT with hT | hT
      · omega
      · omega
    · show c.2.1 ≤ s
      rw [← h5]
      exact Nat.le_add_right _ _
  | succ n ih =>
    intro i c X h1 h2 h
    by_cases hi : i + 4 ≤ L
    · obtain ⟨c', X', h', e⟩ := lz9_stp h hL hi
      rw [e]
      exact ih (i + 4) c' X' (by omega) (by omega) h'
    · refine ⟨hp c X, by rw [e_Law_law_18, bO (lz9_n h), if_pos (by rw [lz9_lt hL h2]; omega)], ?_⟩
      obtain ⟨⟨S, hI⟩, _, _, _, h5⟩ := h
      have hT := hI.2.1.2.2.2.2.2
      constructor
      · show c.1 + 102 ≤ 112
        rcases hT with hT | hT
        · omega
        · omega
      · show c.2.1 ≤ s
        rw [← h5]
        exact Nat.le_add_right _ _
