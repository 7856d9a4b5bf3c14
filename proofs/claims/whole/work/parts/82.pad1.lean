/-! PAD: put, wipe -/
theorem lN_eq0 {n : Nat} (hn : n < 2 ^ 64) : lN n = 0 ↔ n = 0 := by
  constructor
  · intro h
    have h2 : (lN n).toBitVec.toNat = (0 : Int64).toBitVec.toNat := by rw [h]
    rw [lN_nat hn] at h2
    exact h2
  · intro h
    rw [h]; rfl
theorem andL255 (n : Nat) : lN n &&& 255 = lN (n % 256) := fb_maskL n 8
theorem lN_toI (m : Nat) : Int64.toInt32 (lN m) = nI m := Int64.toInt32_ofNat'
theorem d_255 : ∀ i, i < 64 → ((255 : Int64).toBitVec.getLsbD i) = decide (i < 8) := by decide +kernel
theorem shr255 (U : Nat) {k : Nat} (hk : k ≤ 56) (hU : U < 2 ^ 64) : (ix_shr (lN U) (nI k)) &&& 255 = lN (U / 2 ^ k % 256) := by
  rw [← andL255]
  unfold ix_shr
  rw [wb_c k (by omega)]
  apply wb_inj
  rw [Int64.toBitVec_and, Int64.toBitVec_and, Int64.toBitVec_shiftRight, wb_tb, wb_tb, wb_tb, wb_sm k (by omega)]
  apply BitVec.eq_of_getLsbD_eq
  intro i hi
  rw [BitVec.getLsbD_and, BitVec.getLsbD_and, d_255 i hi]
  rcases Nat.lt_or_ge i 8 with q | q
  · rw [decide_eq_true q, Bool.and_true, Bool.and_true]
    show ((BitVec.ofNat 64 U).sshiftRight (BitVec.ofNat 64 k).toNat).getLsbD i = _
    rw [BitVec.toNat_ofNat, Nat.mod_eq_of_lt (show k < 2 ^ 64 by omega), BitVec.getLsbD_sshiftRight, if_pos (by omega), BitVec.getLsbD_ofNat, BitVec.getLsbD_ofNat, Nat.testBit_div_two_pow, decide_eq_false (show ¬ 64 ≤ i by omega), decide_eq_true (show i < 64 from hi), decide_eq_true (show k + i < 64 by omega)]
    rw [Nat.add_comm i k]
    rfl
  · rw [decide_eq_false (by omega), Bool.and_false, Bool.and_false]
theorem pw8 (m : Nat) : 2 ^ (8 * m) = 256 ^ m := Nat.pow_mul 2 8 m
theorem dv256 (U k : Nat) : U / 256 ^ k / 256 = U / 256 ^ (k + 1) := by rw [Nat.div_div_eq_div_mul, ← Nat.pow_succ]
def lgP (U : Nat) : Nat → Nat → Nat
  | 0, k => k
  | n + 1, k => if U / 256 ^ k = 0 then k else if U / 256 ^ k % 256 < 33 then 0 else if U / 256 ^ k % 256 ≤ 126 then lgP U n (k + 1) else 0
theorem lgP_ok (U : Nat) : ∀ n k, (∀ j, j < k → 33 ≤ U / 256 ^ j % 256 ∧ U / 256 ^ j % 256 ≤ 126) → lgP U n k ≤ k + n ∧ ∀ j, j < lgP U n k → 33 ≤ U / 256 ^ j % 256 ∧ U / 256 ^ j % 256 ≤ 126
  | 0, k, h => ⟨Nat.le_refl _, h⟩
  | n + 1, k, h => by
    show (if U / 256 ^ k = 0 then k else if U / 256 ^ k % 256 < 33 then 0 else if U / 256 ^ k % 256 ≤ 126 then lgP U n (k + 1) else 0) ≤ k + (n + 1) ∧ ∀ j, j < (if U / 256 ^ k = 0 then k else if U / 256 ^ k % 256 < 33 then 0 else if U / 256 ^ k % 256 ≤ 126 then lgP U n (k + 1) else 0) → _
    by_cases q1 : U / 256 ^ k = 0
    · rw [if_pos q1]; exact ⟨by omega, h⟩
    · rw [if_neg q1]
      by_cases q2 : U / 256 ^ k % 256 < 33
      · rw [if_pos q2]; exact ⟨by omega, fun j hj => absurd hj (Nat.not_lt_zero j)⟩
      · rw [if_neg q2]
        by_cases q3 : U / 256 ^ k % 256 ≤ 126
        · rw [if_pos q3]
          have := lgP_ok U n (k + 1) (fun j hj => by
            rcases Nat.lt_or_ge j k with r | r
            · exact h j r
            · rw [show j = k by omega]; exact ⟨by omega, q3⟩)
          exact ⟨by omega, this.2⟩
        · rw [if_neg q3]; exact ⟨by omega, fun j hj => absurd hj (Nat.not_lt_zero j)⟩
theorem L_lengthOf {U : Nat} (hU : U < 2 ^ 64) (h : ixH) : ∀ n k, k + n = 8 → l_Pa_lengthOf_8 (lN (U / 256 ^ k)) (nI k) (nI k) h = some ([.int (nI (lgP U n k))], h) := by
  intro n
  induction n with
  | zero =>
    intro k hk
    rw [e_Pa_lengthOf_8, if_pos (lit_le (x := 8) (a := 8) (k := k) rfl (by omega) (by omega))]
    rfl
  | succ n ih =>
    intro k hk
    have hd : U / 256 ^ k < 2 ^ 64 := Nat.lt_of_le_of_lt (Nat.div_le_self _ _) hU
    have hb : U / 256 ^ k % 256 < 256 := Nat.mod_lt _ (by omega)
    show _ = some ([Value.int (nI (if U / 256 ^ k = 0 then k else if U / 256 ^ k % 256 < 33 then 0 else if U / 256 ^ k % 256 ≤ 126 then lgP U n (k + 1) else 0))], h)
    rw [e_Pa_lengthOf_8, if_neg (lit_nle (x := 8) (a := 8) (k := k) rfl (by omega) (by omega))]
    by_cases q1 : U / 256 ^ k = 0
    · rw [if_pos ((lN_eq0 hd).mpr q1), if_pos q1]
    · rw [if_neg (fun e => q1 ((lN_eq0 hd).mp e)), if_neg q1, andL255, lN_toI]
      by_cases q2 : U / 256 ^ k % 256 < 33
      · rw [if_pos (show nI (U / 256 ^ k % 256) < (33 : Int32) from (nI_ltI (b := 33) (by omega) (by omega)).mpr q2), if_pos q2]; rfl
      · rw [if_neg (show ¬ nI (U / 256 ^ k % 256) < (33 : Int32) from fun e => q2 ((nI_ltI (b := 33) (by omega) (by omega)).mp e)), if_neg q2]
        by_cases q3 : U / 256 ^ k % 256 ≤ 126
        · rw [if_pos (show nI (U / 256 ^ k % 256) ≤ (126 : Int32) from (nI_leI (b := 126) (by omega) (by omega)).mpr q3), if_pos q3, show (8 : Int32) = nI 8 from rfl, ix_ushN hd (by omega), show (2 : Nat) ^ 8 = 256 from rfl, dv256, nI_1 k, ih (k + 1) (by omega)]
        · rw [if_neg (show ¬ nI (U / 256 ^ k % 256) ≤ (126 : Int32) from fun e => q3 ((nI_leI (b := 126) (by omega) (by omega)).mp e)), if_neg q3]; rfl
theorem M_lengthOf {U : Nat} (hU : U < 2 ^ 64) (h : ixH) : ix_M mPa_lengthOf [.long (lN U)] h = some ([.int (nI (lgP U 8 0))], h) := by
  refine x_Pa_lengthOf ?_
  have e := L_lengthOf hU h 8 0 (by omega)
  rw [Nat.pow_zero, Nat.div_one] at e
  rw [e_Pa_lengthOf]
  exact e
theorem L_put5 {c : ixK} {X : ixX} {U : Nat} (hU : U < 2 ^ 64) {len : Nat} (hl : X.1 75 31 = nI len) : ∀ n k, k + n = 8 → l_Mo_put_5 75 (lN U) (nI k) (lN (U / 256 ^ k)) (hp c X) = if lgP U n k = 0 then some ([.int (-2)], hp c X) else if nI len + nI (lgP U n k) ≤ 80 then l_Mo_put_86 75 (lN U) (nI (lgP U n k)) 0 (hp c X) else some ([.int (-4)], hp c X) := by
  have sp : ∀ k, 0 < k → k < 9 → ∀ v : Int64, v = 0 → l_Mo_put_55 75 (lN U) (nI k) v (hp c X) = if nI len + nI k ≤ 80 then l_Mo_put_86 75 (lN U) (nI k) 0 (hp c X) else some ([.int (-4)], hp c X) := fun k h1 h2 v hv => by
    rw [e_Mo_put_55, if_neg (nI_ne0 h1 (by omega)), if_pos hv, bO (g75_31 c _), hl]
  have sq : ∀ k, k < 9 → ∀ v : Int64, ¬ v = 0 → l_Mo_put_55 75 (lN U) (nI k) v (hp c X) = some ([.int (-2)], hp c X) := fun k h2 v hv => by
    rw [e_Mo_put_55, if_neg hv]
    by_cases z : nI k = 0
    · rw [if_pos z]
    · rw [if_neg z]
  intro n
  induction n with
  | zero =>
    intro k hk
    have hz : U / 256 ^ k = 0 := by
      rw [show k = 8 by omega]
      exact Nat.div_eq_of_lt (by rw [show (256 : Nat) ^ 8 = 2 ^ 64 from rfl]; exact hU)
    rw [e_Mo_put_5, if_pos (lit_le (x := 8) (a := 8) (k := k) rfl (by omega) (by omega)), sp k (by omega) (by omega) _ (by rw [hz]; rfl)]
    show _ = if k = 0 then _ else _
    rw [if_neg (show ¬ k = 0 by omega)]
    rfl
  | succ n ih =>
    intro k hk
    have hd : U / 256 ^ k < 2 ^ 64 := Nat.lt_of_le_of_lt (Nat.div_le_self _ _) hU
    have hb : U / 256 ^ k % 256 < 256 := Nat.mod_lt _ (by omega)
    have hlg : lgP U (n + 1) k = if U / 256 ^ k = 0 then k else if U / 256 ^ k % 256 < 33 then 0 else if U / 256 ^ k % 256 ≤ 126 then lgP U n (k + 1) else 0 := rfl
    rw [e_Mo_put_5, if_neg (lit_nle (x := 8) (a := 8) (k := k) rfl (by omega) (by omega)), andL255]
    by_cases q1 : U / 256 ^ k = 0
    · rw [if_pos (by rw [q1]; rfl), hlg, if_pos q1]
      rcases Nat.eq_zero_or_pos k with z | z
      · rw [if_pos z, z, e_Mo_put_55, if_pos (show nI 0 = 0 from rfl)]
      · rw [if_neg (by omega), sp k z (by omega) _ (by rw [q1]; rfl)]
    · rw [hlg, if_neg q1]
      by_cases q0 : U / 256 ^ k % 256 = 0
      · rw [if_pos (by rw [q0]; rfl), sq k (by omega) _ (fun e => q1 ((lN_eq0 hd).mp e)), if_pos (show U / 256 ^ k % 256 < 33 by omega), if_pos rfl]
      · rw [if_neg (fun e => q0 ((lN_eq0 (by omega)).mp e)), lN_toI]
        by_cases q2 : U / 256 ^ k % 256 < 33
        · rw [kZ_of (M_in_f (.inl (show nI (U / 256 ^ k % 256) < (33 : Int32) from (nI_ltI (b := 33) (by omega) (by omega)).mpr q2)) _), if_neg (by decide), if_pos q2, if_pos rfl]
        · have n1 : ¬ nI (U / 256 ^ k % 256) < (33 : Int32) := fun e => q2 ((nI_ltI (b := 33) (by omega) (by omega)).mp e)
          rw [if_neg q2]
          by_cases q3 : U / 256 ^ k % 256 ≤ 126
          · have n2 : ¬ (126 : Int32) < nI (U / 256 ^ k % 256) := fun e => by
              have := (nI_ltI (a := 126) (by omega) (by omega)).mp e
              omega
            rw [kZ_of (M_in_t n1 n2 _), if_pos rfl, if_pos q3, show (8 : Int32) = nI 8 from rfl, ix_ushN hd (by omega), show (2 : Nat) ^ 8 = 256 from rfl, dv256, nI_1 k, ih (k + 1) (by omega)]
          · rw [kZ_of (M_in_f (.inr (show (126 : Int32) < nI (U / 256 ^ k % 256) from (nI_ltI (a := 126) (by omega) (by omega)).mpr (by omega))) _), if_neg (by decide), if_neg q3, if_pos rfl]
/-- f 0, .., f (n - 1) -/
def bl (f : Nat → Nat) : Nat → List Nat
  | 0 => []
  | n + 1 => bl f n ++ [f n]
theorem bl_len (f : Nat → Nat) : ∀ n, (bl f n).length = n
  | 0 => rfl
  | n + 1 => by
    show (bl f n ++ [f n]).length = n + 1
    rw [List.length_append, bl_len f n]; rfl
theorem bl_gd (f : Nat → Nat) : ∀ n i, i < n → (bl f n).getD i 0 = f i
  | 0, i, h => absurd h (Nat.not_lt_zero i)
  | n + 1, i, h => by
    show (bl f n ++ [f n]).getD i 0 = f i
    rcases Nat.lt_or_ge i n with q | q
    · rw [gd_app_l _ _ _ (by rw [bl_len]; exact q)]; exact bl_gd f n i q
    · have := gd_app_r (bl f n) [f n] 0
      rw [bl_len] at this
      rw [show i = n + 0 by omega, this]; rfl
theorem cI_pad {c : ixK} {X X' : ixX} {S : sT} {l : List Nat} (h : cI c X S) (hf : fRm 57 59 X X') (h1 : X'.1 57 1 = nI l.length) (h2 : ∀ i, i < l.length → X'.1 58 i = nI (l.getD i 0)) : cI c X' (S.1, S.2.1, l) := by
  obtain ⟨g1, g2, g3, g4, g5, g6⟩ := h
  refine ⟨cBd_cong (fun a _ _ => hf a (by omega)) g1, fun p hp2 hn => ?_, fun p B hp2 hn => ?_, h1, h2, cT_fr hf (by omega) g6⟩
  · rw [(hf 56 (by omega)).1]; exact g2 p hp2 hn
  · have := g3 p B hp2 hn
    rw [(hf 56 (by omega)).1]
    exact ⟨this.1, cBd_cong (fun a _ _ => hf a (by omega)) this.2⟩
theorem rI_pad {X X' : ixX} {S : sT} {l : List Nat} (h : rI X S) (h6 : X'.1 76 = X.1 76) (h7 : X'.1 77 = X.1 77) (h8 : X'.1 78 = X.1 78) (h1 : X'.1 75 31 = nI l.length) (h2 : ∀ i, i < l.length → X'.1 101 i = nI (l.getD i 0)) : rI X' (S.1, S.2.1, l) := by
  obtain ⟨g1, g2, g3, g4, g5⟩ := h
  refine ⟨by rw [h6]; exact g1, fun p hp2 hn => ?_, fun p B hp2 hn => ?_, h1, h2⟩
  · rw [h8]; exact g2 p hp2 hn
  · rw [h8, h7]; exact g3 p B hp2 hn
theorem K_wipe {c : ixK} {X : ixX} {S : sT} (h : invK c X S) : okI mRP_wipe mMo_wipe [] c X := by
  have hl : X.1 57 1 = nI S.2.2.length := h.2.1.2.2.2.1
  have hr : X.1 75 31 = nI S.2.2.length := h.2.2.2.2.2.1
  obtain ⟨X', hX'⟩ : ∃ Y, Y = aI X 57 (upd (X.1 57) 1 0) := ⟨_, rfl⟩
  obtain ⟨X'', hX''⟩ : ∃ Y, Y = aI X' 75 (upd (X'.1 75) 31 0) := ⟨_, rfl⟩
  have f1 : fRm 57 59 X X' := by rw [hX']; exact fRm_aI (fRm_refl _ _ _) (by omega) (by omega)
  have f2 : fRm 75 102 X' X'' := by rw [hX'']; exact fRm_aI (fRm_refl _ _ _) (by omega) (by omega)
  have h75 : X'.1 75 31 = nI S.2.2.length := by rw [(f1 75 (by omega)).1]; exact hr
  refine ok_s (S := S) (S' := (S.1, S.2.1, [])) (r := nI S.2.2.length) ⟨h.1.1, h.1.2.1, Nat.zero_le _, fun i hi => absurd hi (Nat.not_lt_zero i)⟩ (x_RP_wipe (rc_3 c X) ?_) (cI_pad h.2.1 f1 (by rw [hX', aI_1, upd_1]; rfl) (fun i hi => absurd hi (Nat.not_lt_zero i))) (x_Mo_wipe (rc_75 c X') ?_) f2 (rI_pad (rI_q f1 (by omega) h.2.2) (by rw [hX'', aI_n _ _ (by decide)]) (by rw [hX'', aI_n _ _ (by decide)]) (by rw [hX'', aI_n _ _ (by decide)]) (by rw [hX'', aI_1, upd_1]; rfl) (fun i hi => absurd hi (Nat.not_lt_zero i))) (zF_fr f1 (by omega))
  · rw [e_RP_wipe, bO (g3_3 c _), bO (g57_1 c _), hl, bO (g3_3 c _), bO (p57_1 c _ _), ← hX']
  · rw [e_Mo_wipe, bO (g75_31 c _), h75, bO (p75_31 c _ _), ← hX'']
theorem K_put {c : ixK} {X : ixX} {S : sT} (h : invK c X S) (x : Int64) : okI mRP_put mMo_put [.long x] c X := by
  obtain ⟨U, hU, rfl⟩ := wb_of x
  have hl : X.1 57 1 = nI S.2.2.length := h.2.1.2.2.2.1
  have hr : X.1 75 31 = nI S.2.2.length := h.2.2.2.2.2.1
  have hlen := h.1.2.2.1
  obtain ⟨L, hL⟩ : ∃ L, L = lgP U 8 0 := ⟨_, rfl⟩
  obtain ⟨k1, k2⟩ := lgP_ok U 8 0 (fun j hj => absurd hj (Nat.not_lt_zero j))
  rw [← hL] at k1 k2
  have ml := M_lengthOf hU (hp c X)
  rw [← hL] at ml
  have rst : ∀ Y : ixX, Y.1 75 31 = nI S.2.2.length → ix_D mMo_put 0 [some (.ref 75), some (.long (lN U)), none, none, none, none, none] [] (hp c Y) = if L = 0 then some ([.int (-2)], hp c Y) else if nI S.2.2.length + nI L ≤ 80 then l_Mo_put_86 75 (lN U) (nI L) 0 (hp c Y) else some ([.int (-4)], hp c Y) := fun Y hY => by
    have e := L_put5 (c := c) hU hY 8 0 (by omega)
    rw [Nat.pow_zero, Nat.div_one, ← hL] at e
    rw [e_Mo_put]
    exact e
  rcases Nat.eq_zero_or_pos L with z | z
  · exact ok_0 h (r := -2) (x_RP_put (rc_3 c X) (by rw [e_RP_put, kI_of ml, z, if_neg (fun n => n rfl)])) (x_Mo_put (rc_75 c X) (by rw [rst X hr, if_pos z]))
  · have nz : ¬ nI L = 0 := nI_ne0 z (by omega)
    by_cases sp : S.2.2.length + L ≤ 80
    · have q1 : ¬ (80 : Int32) < nI S.2.2.length + nI L := by
        rw [nI_add]
        exact fun e => by
          have := (nI_ltI (a := 80) (by omega) (by omega)).mp e
          omega
      have q2 : nI S.2.2.length + nI L ≤ (80 : Int32) := by
        rw [nI_add]
        exact (nI_leI (b := 80) (by omega) (by omega)).mpr sp
      obtain ⟨N, hN⟩ : ∃ N, N = S.2.2.length := ⟨_, rfl⟩
      obtain ⟨l, hll⟩ : ∃ l, l = S.2.2 ++ bl (fun i => U / 256 ^ (L - 1 - i) % 256) L := ⟨_, rfl⟩
      have lln : l.length = N + L := by rw [hll, List.length_append, bl_len, hN]
      have lo : ∀ i, i < N → l.getD i 0 = S.2.2.getD i 0 := fun i hi => by rw [hll, gd_app_l _ _ _ (by omega)]
      have ln : ∀ i, i < L → l.getD (N + i) 0 = U / 256 ^ (L - 1 - i) % 256 := fun i hi => by rw [hll, hN, gd_app_r, bl_gd _ _ _ hi]
      rw [← hN] at hl hr sp q1 q2 rst
      have hz : ∀ j, j < L → zI ((L : Int) - 1 - (j : Int)) = nI (L - 1 - j) := fun j hj => by
        rw [nI_z]
        exact congrArg zI (by omega)
      -- the class
      obtain ⟨X1, e1, f1, f2, f3, f4⟩ := lp_up (fun i (Y : ixX) => l_Pa_append_5 57 (lN U) (zI ((L : Int) - 1 - (i : Int))) (hp c Y)) (fun i Y => fRm 57 59 X Y ∧ Y.1 57 1 = nI (N + i) ∧ (∀ j, j < N → Y.1 58 j = X.1 58 j) ∧ ∀ j, j < i → Y.1 58 (N + j) = nI (U / 256 ^ (L - 1 - j) % 256)) (N := L) (fun i Y hi ⟨a1, a2, a3, a4⟩ => by
        refine ⟨aI (aI Y 58 (upd (Y.1 58) (N + i) (nI (U / 256 ^ (L - 1 - i) % 256)))) 57 (upd (Y.1 57) 1 (nI (N + i + 1))), ?_, fRm_aI (fRm_aI a1 (by omega) (by omega)) (by omega) (by omega), by rw [aI_1, upd_1]; rfl, fun j hj => ?_, fun j hj => ?_⟩
        · show l_Pa_append_5 57 (lN U) (zI ((L : Int) - 1 - (i : Int))) (hp c Y) = l_Pa_append_5 57 (lN U) (zI ((L : Int) - 1 - ((i + 1 : Nat) : Int))) (hp c _)
          have ez : nI (L - 1 - i) + (-1) = zI ((L : Int) - 1 - ((i + 1 : Nat) : Int)) := by
            rw [nI_z, show (-1 : Int32) = zI (-1) from rfl, zI_add]
            exact congrArg zI (by omega)
          rw [e_Pa_append_5, hz i hi, if_neg (nI_pos (by omega)), bO (g57_1 c _), a2, if_neg (nI_pos (by omega)), bO (g57_1 c _), a2, if_neg (lit_nle (x := 80) (a := 80) (k := N + i) rfl (by omega) (by omega)), bO (g57_0 c _), bO (g57_1 c _), a2, show (8 : Int32) = nI 8 from rfl, nI_mul, ix_ushN hU (by omega), pw8, andL255, lN_toI, bO (s58 (by omega)), bO (g57_1 c _), aI_n _ _ (show ¬ 57 = 58 by decide), a2, bO (p57_1 c _ _), aI_n _ _ (show ¬ 57 = 58 by decide), nI_1 (N + i), ez]
        · rw [aI_n _ _ (by decide), aI_1, upd_n _ _ (by omega)]; exact a3 j hj
        · rw [aI_n _ _ (by decide), aI_1]
          rcases Nat.lt_or_ge j i with r | r
          · rw [upd_n _ _ (by omega)]; exact a4 j r
          · rw [show j = i by omega, upd_1]) (k := 0) (s := X) (by omega) ⟨fRm_refl _ _ _, hl, fun _ _ => rfl, fun j hj => absurd hj (Nat.not_lt_zero j)⟩
      have e1' : l_Pa_append_5 57 (lN U) (zI ((L : Int) - 1 - ((0 : Nat) : Int))) (hp c X) = l_Pa_append_5 57 (lN U) (zI ((L : Int) - 1 - (L : Int))) (hp c X1) := e1
      have e0 : nI L - 1 = zI ((L : Int) - 1 - ((0 : Nat) : Int)) := by
        rw [nI_z, show (1 : Int32) = zI 1 from rfl, zI_sub]
        exact congrArg zI (by omega)
      have eL : zI ((L : Int) - 1 - (L : Int)) = -1 := by
        rw [show (-1 : Int32) = zI (-1) from rfl]
        exact congrArg zI (by omega)
      have ma : ix_M mPa_append [.ref 57, .long (lN U), .int (nI L)] (hp c X) = some ([], hp c X1) := by
        refine x_Pa_append (rc_57 c X) ?_
        rw [e_Pa_append, e0, e1', e_Pa_append_5, eL, if_pos (by decide)]
      -- the reference
      have h75 : X1.1 75 31 = nI N := by rw [(f1 75 (by omega)).1]; exact hr
      obtain ⟨Y1, e2, g1, g2, g3⟩ := lp_up (fun i (Y : ixX) => l_Mo_put_86 75 (lN U) (nI L) (nI i) (hp c Y)) (fun i Y => eX [101] X1 Y ∧ (∀ j, j < N → Y.1 101 j = X1.1 101 j) ∧ ∀ j, j < i → Y.1 101 (N + j) = nI (U / 256 ^ (L - 1 - j) % 256)) (N := L) (fun i Y hi ⟨a1, a3, a4⟩ => by
        refine ⟨aI Y 101 (upd (Y.1 101) (N + i) (nI (U / 256 ^ (L - 1 - i) % 256))), ?_, eX_aI a1 (by decide), fun j hj => ?_, fun j hj => ?_⟩
        · show l_Mo_put_86 75 (lN U) (nI L) (nI i) (hp c Y) = _
          rw [e_Mo_put_86, if_neg (by rw [nI_leI (by omega) (by omega)]; omega), bO (g75_30 c _), bO (g75_31 c _), a1.2 75 (by decide), h75, nI_add, show nI L - 1 = nI (L - 1) from nI_sub (b := 1) (by omega), nI_sub (show i ≤ L - 1 by omega), show (8 : Int32) = nI 8 from rfl, nI_mul, shr255 U (by omega) hU, pw8, lN_toI, bO (s101 (by omega)), nI_1 i]
        · rw [aI_1, upd_n _ _ (by omega)]; exact a3 j hj
        · rw [aI_1]
          rcases Nat.lt_or_ge j i with r | r
          · rw [upd_n _ _ (by omega)]; exact a4 j r
          · rw [show j = i by omega, upd_1]) (k := 0) (s := X1) (by omega) ⟨eX_refl _ _, fun _ _ => rfl, fun j hj => absurd hj (Nat.not_lt_zero j)⟩
      have e2' : l_Mo_put_86 75 (lN U) (nI L) 0 (hp c X1) = l_Mo_put_86 75 (lN U) (nI L) (nI L) (hp c Y1) := e2
      obtain ⟨Y2, hY2⟩ : ∃ Y, Y = aI Y1 75 (upd (Y1.1 75) 31 (nI (N + L))) := ⟨_, rfl⟩
      have eY : eX [75, 101] X1 Y2 := by rw [hY2]; exact eX_aI (eX_mono g1 (fun a ha => by simp at ha ⊢; omega)) (by decide)
      have hpad : padOK l := ⟨by omega, fun i hi => by
        rcases Nat.lt_or_ge i N with r | r
        · rw [lo i r]; exact h.1.2.2.2 i (by omega)
        · have := ln (i - N) (by omega)
          rw [show N + (i - N) = i by omega] at this
          rw [this]
          exact k2 _ (by omega)⟩
      refine ok_s (S := S) (S' := (S.1, S.2.1, l)) (r := nI (N + L)) ⟨h.1.1, h.1.2.1, hpad⟩ (x_RP_put (rc_3 c X) ?_) (cI_pad h.2.1 f1 (by rw [f2, lln]) (fun i hi => ?_)) (x_Mo_put (rc_75 c X1) ?_) (fun a ha => ⟨eY.2 a (by simp; omega), by rw [eY.1]⟩) (rI_pad (rI_q f1 (by omega) h.2.2) (eY.2 76 (by decide)) (eY.2 77 (by decide)) (eY.2 78 (by decide)) (by rw [hY2, aI_1, upd_1, lln]) (fun i hi => ?_)) (zF_fr f1 (by omega))
      · rw [e_RP_put, kI_of ml, if_pos nz, bO (g3_3 c _), kZ_of (x_Pa_hasSpaceFor (v := true) (rc_57 c X) (by rw [e_Pa_hasSpaceFor, bO (g57_1 c _), hl, if_neg q1])), if_pos rfl, bO (g3_3 c _), kV_of ma, bO (g3_3 c _), bO (g57_1 c _), f2]
      · rcases Nat.lt_or_ge i N with r | r
        · rw [f3 i r, lo i r]; exact h.2.1.2.2.2.2.1 i (by omega)
        · have w1 := f4 (i - N) (by omega)
          have w2 := ln (i - N) (by omega)
          rw [show N + (i - N) = i by omega] at w1 w2
          rw [w1, w2]
      · rw [rst X1 h75, if_neg (by omega), if_pos q2, e2', e_Mo_put_86, if_pos (by rw [nI_leI (by omega) (by omega)]; omega), bO (g75_31 c _), g1.2 75 (by decide), h75, nI_add, bO (p75_31 c _ _), g1.2 75 (by decide), show aI Y1 75 (upd (X1.1 75) 31 (nI (N + L))) = Y2 from by rw [hY2, g1.2 75 (by decide)], bO (g75_31 c _), hY2, aI_1, upd_1]
      · have h101 : Y2.1 101 = Y1.1 101 := by rw [hY2, aI_n _ _ (by decide)]
        rw [h101]
        rcases Nat.lt_or_ge i N with r | r
        · rw [g2 i r, lo i r, (f1 101 (by omega)).1]; exact h.2.2.2.2.2.2 i (by omega)
        · have w1 := g3 (i - N) (by omega)
          have w2 := ln (i - N) (by omega)
          rw [show N + (i - N) = i by omega] at w1 w2
          rw [w1, w2]
    · have q1 : (80 : Int32) < nI S.2.2.length + nI L := by
        rw [nI_add]
        exact (nI_ltI (a := 80) (by omega) (by omega)).mpr (by omega)
      have q2 : ¬ nI S.2.2.length + nI L ≤ (80 : Int32) := by
        rw [nI_add]
        exact fun e => by
          have := (nI_leI (b := 80) (by omega) (by omega)).mp e
          omega
      exact ok_0 h (r := -4) (x_RP_put (rc_3 c X) (by rw [e_RP_put, kI_of ml, if_pos nz, bO (g3_3 c _), kZ_of (x_Pa_hasSpaceFor (v := false) (rc_57 c X) (by rw [e_Pa_hasSpaceFor, bO (g57_1 c _), hl, if_pos q1])), if_neg (by decide)])) (x_Mo_put (rc_75 c X) (by rw [rst X hr, if_neg (by omega), if_neg q2]))
