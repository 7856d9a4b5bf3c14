/-! SAVE, RESTORE -/
def bdA (b : Nat) : Prop := 3 ≤ b ∧ b + 17 ≤ 102 ∧ (∀ c, sp_sh c b = (11, 0, [(2, b + 1), (2, b + 4), (2, b + 15), (2, b + 16), (0, 0)]) ∧ sp_sh c (b + 1) = (12, 0, [(0, 0), (0, 0), (1, 0), (1, 0), (1, 0), (1, 0), (2, b + 2), (2, b + 3)]) ∧ sp_sh c (b + 2) = (1, 4, []) ∧ sp_sh c (b + 3) = (1, 4, []) ∧ sp_sh c (b + 15) = (0, 4, []) ∧ sp_sh c (b + 16) = (0, 4, [])) ∧ ∀ s, s < 5 → rtA (b + 5 + 2 * s) ∧ ∀ c X, ix_aq (hp c X) 4 (b + 4) (nI s) = some (b + 5 + 2 * s)
theorem bdA_4 : bdA 4 := ⟨by omega, by omega, fun c => ⟨sh_4 c, sh_5 c, sh_6 c, sh_7 c, sh_19 c, sh_20 c⟩, fun s hs => ⟨rtA_4 hs, fun c X => q8_ hs⟩⟩
theorem bdA_22 : bdA 22 := ⟨by omega, by omega, fun c => ⟨sh_22 c, sh_23 c, sh_24 c, sh_25 c, sh_37 c, sh_38 c⟩, fun s hs => ⟨rtA_22 hs, fun c X => q26 hs⟩⟩
theorem bdA_39 : bdA 39 := ⟨by omega, by omega, fun c => ⟨sh_39 c, sh_40 c, sh_41 c, sh_42 c, sh_54 c, sh_55 c⟩, fun s hs => ⟨rtA_39 hs, fun c X => q43 hs⟩⟩
theorem bdA_p {p : Nat} (hp2 : p < 2) : bdA (22 + 17 * p) := by
  rcases (show p = 0 ∨ p = 1 by omega) with rfl | rfl
  · exact bdA_22
  · exact bdA_39
theorem M_gcopy {b d : Nat} (hb : bdA b) (hd : bdA d) (hdj : b + 17 ≤ d ∨ d + 17 ≤ b) {c : ixK} {X : ixX} {B : bT} (h : cG d X B) : ∃ X', ix_M mGr_copyFrom [.ref (b + 1), .ref (d + 1)] (hp c X) = some ([], hp c X') ∧ cG b X' B ∧ fRm (b + 1) (b + 4) X X' := by
  obtain ⟨b1, b2, b3, _⟩ := hb
  obtain ⟨d1, d2, d3, _⟩ := hd
  obtain ⟨b30, b31, b32, b33, _⟩ := b3 c
  obtain ⟨d30, d31, d32, d33, _⟩ := d3 c
  have n1 : ¬ d + 1 = b + 1 := by omega
  have n2 : ¬ d + 2 = b + 1 := by omega
  have n3 : ¬ d + 3 = b + 1 := by omega
  have n4 : ¬ b + 2 = b + 1 := by omega
  have n5 : ¬ b + 3 = b + 1 := by omega
  have n6 : ¬ d + 3 = b + 2 := by omega
  have n7 : ¬ b + 3 = b + 2 := by omega
  have n8 : ¬ b + 1 = b + 2 := by omega
  have n9 : ¬ b + 1 = b + 3 := by omega
  have n10 : ¬ b + 2 = b + 3 := by omega
  have gi0 : ∀ Y, ix_gi (hp c Y) (d + 1) 2 0 = some (Y.1 (d + 1) 0) := fun Y => hp_gi (by omega) (by omega) d31 rfl
  have gi1 : ∀ Y, ix_gi (hp c Y) (d + 1) 2 1 = some (Y.1 (d + 1) 1) := fun Y => hp_gi (by omega) (by omega) d31 rfl
  have gl2 : ∀ Y, ix_gl (hp c Y) (d + 1) 2 2 = some (Y.2 (d + 1) 2) := fun Y => hp_gl (by omega) (by omega) d31 rfl
  have gl3 : ∀ Y, ix_gl (hp c Y) (d + 1) 2 3 = some (Y.2 (d + 1) 3) := fun Y => hp_gl (by omega) (by omega) d31 rfl
  have gl4 : ∀ Y, ix_gl (hp c Y) (d + 1) 2 4 = some (Y.2 (d + 1) 4) := fun Y => hp_gl (by omega) (by omega) d31 rfl
  have gl5 : ∀ Y, ix_gl (hp c Y) (d + 1) 2 5 = some (Y.2 (d + 1) 5) := fun Y => hp_gl (by omega) (by omega) d31 rfl
  have gr6 : ∀ Y, ix_gr (hp c Y) (d + 1) 2 6 = some (d + 2) := fun Y => hp_gr (by omega) (by omega) d31 rfl
  have gr7 : ∀ Y, ix_gr (hp c Y) (d + 1) 2 7 = some (d + 3) := fun Y => hp_gr (by omega) (by omega) d31 rfl
  have hr6 : ∀ Y, ix_gr (hp c Y) (b + 1) 2 6 = some (b + 2) := fun Y => hp_gr (by omega) (by omega) b31 rfl
  have hr7 : ∀ Y, ix_gr (hp c Y) (b + 1) 2 7 = some (b + 3) := fun Y => hp_gr (by omega) (by omega) b31 rfl
  have pi0 : ∀ Y x, ix_pf (hp c Y) (b + 1) 2 0 (.int x) = some (hp c (aI Y (b + 1) (upd (Y.1 (b + 1)) 0 x))) := fun Y x => hp_pI (by omega) (by omega) b31 (Nat.le_of_ble_eq_true rfl) rfl
  have pi1 : ∀ Y x, ix_pf (hp c Y) (b + 1) 2 1 (.int x) = some (hp c (aI Y (b + 1) (upd (Y.1 (b + 1)) 1 x))) := fun Y x => hp_pI (by omega) (by omega) b31 (Nat.le_of_ble_eq_true rfl) rfl
  have pj2 : ∀ Y x, ix_pf (hp c Y) (b + 1) 2 2 (.long x) = some (hp c (aJ Y (b + 1) (vp_updL (Y.2 (b + 1)) 2 x))) := fun Y x => hp_pJ (by omega) (by omega) b31 (Nat.le_of_ble_eq_true rfl) rfl
  have pj3 : ∀ Y x, ix_pf (hp c Y) (b + 1) 2 3 (.long x) = some (hp c (aJ Y (b + 1) (vp_updL (Y.2 (b + 1)) 3 x))) := fun Y x => hp_pJ (by omega) (by omega) b31 (Nat.le_of_ble_eq_true rfl) rfl
  have pj4 : ∀ Y x, ix_pf (hp c Y) (b + 1) 2 4 (.long x) = some (hp c (aJ Y (b + 1) (vp_updL (Y.2 (b + 1)) 4 x))) := fun Y x => hp_pJ (by omega) (by omega) b31 (Nat.le_of_ble_eq_true rfl) rfl
  have pj5 : ∀ Y x, ix_pf (hp c Y) (b + 1) 2 5 (.long x) = some (hp c (aJ Y (b + 1) (vp_updL (Y.2 (b + 1)) 5 x))) := fun Y x => hp_pJ (by omega) (by omega) b31 (Nat.le_of_ble_eq_true rfl) rfl
  have cp2 : ∀ Y, ix_cp (hp c Y) (d + 2) 0 (b + 2) 0 4 = some (hp c (aJ Y (b + 2) (va_cpy (Y.2 (d + 2)) (Y.2 (b + 2)) 0 0 4))) := fun Y => hp_cpL (n := 4) (by omega) (by omega) (by omega) (by omega) d32 b32 (by omega) (by omega) (by omega)
  have cp3 : ∀ Y, ix_cp (hp c Y) (d + 3) 0 (b + 3) 0 4 = some (hp c (aJ Y (b + 3) (va_cpy (Y.2 (d + 3)) (Y.2 (b + 3)) 0 0 4))) := fun Y => hp_cpL (n := 4) (by omega) (by omega) (by omega) (by omega) d33 b33 (by omega) (by omega) (by omega)
  obtain ⟨h0, h1, h2, h3, h4, h5, h6, h7⟩ := h
  refine ⟨_, x_Gr_copyFrom (hp_rc (by omega) (by omega) b31) (by rw [e_Gr_copyFrom, bO (gi0 _), bO (pi0 _ _), bO (gi1 _), bO (pi1 _ _), bO (gl2 _), bO (pj2 _ _), bO (gl3 _), bO (pj3 _ _), bO (gl4 _), bO (pj4 _ _), bO (gl5 _), bO (pj5 _ _), bO (gr6 _), bO (hr6 _), bO (cp2 _), bO (gr7 _), bO (hr7 _), bO (cp3 _)]), ⟨?_, ?_, ?_, ?_, ?_, ?_, fun r r1 r2 => ?_, fun l l1 => ?_⟩, ?_⟩
  · simp only [aJ_2, aI_1, aI_n _ _ n1]
    rw [upd_n _ _ (by omega), upd_1]
    exact h0
  · simp only [aJ_2, aI_1, aI_n _ _ n1, upd_1]
    exact h1
  · simp only [aJ_1, aI_2, aJ_n _ _ n1, aJ_n _ _ n8, aJ_n _ _ n9]
    rw [updL_n _ _ (by omega), updL_n _ _ (by omega), updL_n _ _ (by omega), updL_1]
    exact h2
  · simp only [aJ_1, aI_2, aJ_n _ _ n1, aJ_n _ _ n8, aJ_n _ _ n9]
    rw [updL_n _ _ (by omega), updL_n _ _ (by omega), updL_1]
    exact h3
  · simp only [aJ_1, aI_2, aJ_n _ _ n1, aJ_n _ _ n8, aJ_n _ _ n9]
    rw [updL_n _ _ (by omega), updL_1]
    exact h4
  · simp only [aJ_1, aI_2, aJ_n _ _ n1, aJ_n _ _ n8, aJ_n _ _ n9]
    rw [updL_1]
    exact h5
  · simp only [aJ_1, aI_2, aJ_n _ _ n2, aJ_n _ _ n10, aJ_n _ _ n4]
    rw [cpy_in _ _ r2]
    exact h6 r r1 r2
  · simp only [aJ_1, aI_2, aJ_n _ _ n3, aJ_n _ _ n6, aJ_n _ _ n7, aJ_n _ _ n5]
    rw [cpy_in _ _ l1]
    exact h7 l l1
  · exact fRm_aJ (fRm_aJ (fRm_aJ (fRm_aJ (fRm_aJ (fRm_aJ (fRm_aI (fRm_aI (fRm_refl _ _ _) (by omega) (by omega)) (by omega) (by omega)) (by omega) (by omega)) (by omega) (by omega)) (by omega) (by omega)) (by omega) (by omega)) (by omega) (by omega)) (by omega) (by omega)
theorem M_bcopy {b d : Nat} (hb : bdA b) (hd : bdA d) (hdj : b + 17 ≤ d ∨ d + 17 ≤ b) {c : ixK} {X : ixX} {B : bT} (hB : bOK B) (h : cBd d X B) : ∃ X', ix_M mBd_copyFrom [.ref b, .ref d] (hp c X) = some ([], hp c X') ∧ cBd b X' B ∧ fRm b (b + 17) X X' := by
  obtain ⟨X1, a1, a2, a3⟩ := M_gcopy hb hd hdj (c := c) h.1
  have hl := hB.2.2.2.1
  obtain ⟨b1, b2, b3, b4⟩ := hb
  obtain ⟨d1, d2, d3, d4⟩ := hd
  obtain ⟨b30, b31, b32, b33, b34, b35⟩ := b3 c
  obtain ⟨d30, d31, d32, d33, d34, d35⟩ := d3 c
  have gr0 : ∀ Y, ix_gr (hp c Y) b 1 0 = some (b + 1) := fun Y => hp_gr (by omega) (by omega) b30 rfl
  have gr1 : ∀ Y, ix_gr (hp c Y) b 1 1 = some (b + 4) := fun Y => hp_gr (by omega) (by omega) b30 rfl
  have gr2 : ∀ Y, ix_gr (hp c Y) b 1 2 = some (b + 15) := fun Y => hp_gr (by omega) (by omega) b30 rfl
  have gr3 : ∀ Y, ix_gr (hp c Y) b 1 3 = some (b + 16) := fun Y => hp_gr (by omega) (by omega) b30 rfl
  have hr0 : ∀ Y, ix_gr (hp c Y) d 1 0 = some (d + 1) := fun Y => hp_gr (by omega) (by omega) d30 rfl
  have hr1 : ∀ Y, ix_gr (hp c Y) d 1 1 = some (d + 4) := fun Y => hp_gr (by omega) (by omega) d30 rfl
  have hr2 : ∀ Y, ix_gr (hp c Y) d 1 2 = some (d + 15) := fun Y => hp_gr (by omega) (by omega) d30 rfl
  have hr3 : ∀ Y, ix_gr (hp c Y) d 1 3 = some (d + 16) := fun Y => hp_gr (by omega) (by omega) d30 rfl
  have gi4 : ∀ Y, ix_gi (hp c Y) d 1 4 = some (Y.1 d 4) := fun Y => hp_gi (by omega) (by omega) d30 rfl
  have pi4 : ∀ Y x, ix_pf (hp c Y) b 1 4 (.int x) = some (hp c (aI Y b (upd (Y.1 b) 4 x))) := fun Y x => hp_pI (by omega) (by omega) b30 (Nat.le_of_ble_eq_true rfl) rfl
  have cp2 : ∀ Y, ix_cp (hp c Y) (d + 15) 0 (b + 15) 0 4 = some (hp c (aI Y (b + 15) (va_cpy (Y.1 (d + 15)) (Y.1 (b + 15)) 0 0 4))) := fun Y => hp_cpI (n := 4) (by omega) (by omega) (by omega) (by omega) d34 b34 (by omega) (by omega) (by omega)
  have cp3 : ∀ Y, ix_cp (hp c Y) (d + 16) 0 (b + 16) 0 4 = some (hp c (aI Y (b + 16) (va_cpy (Y.1 (d + 16)) (Y.1 (b + 16)) 0 0 4))) := fun Y => hp_cpI (n := 4) (by omega) (by omega) (by omega) (by omega) d35 b35 (by omega) (by omega) (by omega)
  obtain ⟨X2, hX2⟩ : ∃ Z, Z = aI (aI (aI X1 (b + 15) (va_cpy (X1.1 (d + 15)) (X1.1 (b + 15)) 0 0 4)) (b + 16) (va_cpy (X1.1 (d + 16)) (X1.1 (b + 16)) 0 0 4)) b (upd (X1.1 b) 4 (X1.1 d 4)) := ⟨_, rfl⟩
  have f12 : fRm b (b + 17) X X2 := by
    rw [hX2]
    exact fRm_aI (fRm_aI (fRm_aI (fRm_mono a3 (by omega) (by omega)) (by omega) (by omega)) (by omega) (by omega)) (by omega) (by omega)
  have hG2 : cG b X2 B := by
    rw [hX2]
    exact cG_cong (X := X1) (by rw [aI_n _ _ (by omega), aI_n _ _ (by omega), aI_n _ _ (by omega)]) rfl rfl rfl a2
  have hP2 : cP b X2 B := by
    refine ⟨?_, fun i hi => ⟨?_, ?_⟩⟩
    · rw [hX2, aI_1, upd_1, (a3 d (by omega)).1]; exact h.2.1.1
    · rw [hX2, aI_n _ _ (by omega), aI_n _ _ (by omega), aI_1, cpy_in _ _ (by omega), (a3 _ (by omega)).1]; exact (h.2.1.2 i hi).1
    · rw [hX2, aI_n _ _ (by omega), aI_1, cpy_in _ _ (by omega), (a3 _ (by omega)).1]; exact (h.2.1.2 i hi).2
  obtain ⟨X3, e3, f3, q3, s3⟩ := lp_up (fun k (Y : ixX) => l_Bd_copyFrom_49 b d (nI k) (hp c Y)) (fun k Y => fRm b (b + 17) X Y ∧ (∀ a, (a < b + 5 ∨ b + 15 ≤ a) → Y.1 a = X2.1 a ∧ Y.2 a = X2.2 a) ∧ ∀ s, s < k → cR (b + 5 + 2 * s) Y (brt B s)) (N := 5) (fun k Y hk ⟨q1, q2, q3⟩ => by
    have ra := (b4 k hk).1
    have rb := (d4 k hk).1
    have Rb : cR (d + 5 + 2 * k) Y (brt B k) := cR_cong (X := X) (q1 _ (by omega)).1 (q1 _ (by omega)).2 (q1 _ (by omega)).1 (h.2.2 k hk)
    obtain ⟨Z, z1, z2, z3⟩ := M_rcopyFrom ra rb (by omega) (c := c) Rb (bOK_len hB k)
    refine ⟨Z, ?_, fRm_trans q1 (fRm_mono z3 (by omega) (by omega)), fun a ha => ?_, fun s hs => ?_⟩
    · show l_Bd_copyFrom_49 b d (nI k) (hp c Y) = _
      rw [e_Bd_copyFrom_49, if_neg (lit_nle (x := 5) (a := 5) (k := k) rfl hk (by omega)), bO (gr1 _), bO ((b4 k hk).2 c _), bO (hr1 _), bO ((d4 k hk).2 c _), kV_of z1, nI_1 k]
    · exact ⟨(z3 a (by omega)).1.trans (q2 a ha).1, (z3 a (by omega)).2.trans (q2 a ha).2⟩
    · rcases Nat.lt_or_ge s k with r | r
      · exact cR_cong (X := Y) (z3 _ (by omega)).1 (z3 _ (by omega)).2 (z3 _ (by omega)).1 (q3 s r)
      · rw [show s = k by omega]; exact z2) (k := 0) (s := X2) (by omega) ⟨f12, fun _ _ => ⟨rfl, rfl⟩, fun s hs => absurd hs (Nat.not_lt_zero s)⟩
  have e3' : l_Bd_copyFrom_49 b d 0 (hp c X2) = l_Bd_copyFrom_49 b d (nI 5) (hp c X3) := e3
  refine ⟨X3, x_Bd_copyFrom (hp_rc (by omega) (by omega) b30) ?_, ⟨?_, ?_, s3⟩, f3⟩
  · rw [e_Bd_copyFrom, bO (gr0 _), bO (hr0 _), kV_of a1, bO (hr2 _), bO (gr2 _), bO (cp2 _), bO (hr3 _), bO (gr3 _), bO (cp3 _), bO (gi4 _), bO (pi4 _ _), aI_n _ _ (show ¬ d + 16 = b + 15 by omega), aI_n _ _ (show ¬ b + 16 = b + 15 by omega), aI_n _ _ (show ¬ b = b + 16 by omega), aI_n _ _ (show ¬ b = b + 15 by omega), aI_n _ _ (show ¬ d = b + 16 by omega), aI_n _ _ (show ¬ d = b + 15 by omega), ← hX2, e3', e_Bd_copyFrom_49, if_pos (show (5 : Int32) ≤ nI 5 by decide)]
  · exact cG_cong (X := X2) (q3 _ (by omega)).1 (q3 _ (by omega)).2 (q3 _ (by omega)).2 (q3 _ (by omega)).2 hG2
  · exact cP_cong (X := X2) (q3 _ (by omega)).1 (q3 _ (by omega)).1 (q3 _ (by omega)).1 hP2
theorem rBd_ext {A A' : Nat → Int32} {B : bT} (hb : bOK B) (h : rBd A B) (he : ∀ k, k < 720 → A' k = A k) : rBd A' B := by
  have h64 := bS_64 hb.1
  have hl := hb.2.2.2.1
  refine ⟨by rw [he 0 (by omega)]; exact A_w h, by rw [he 1 (by omega)]; exact A_h h, fun c hc => by rw [he _ (by omega)]; exact A_x h hc, fun c hc => by rw [he _ (by omega)]; exact A_r h hc, fun l hl c hc => by rw [he _ (by omega)]; exact A_i h hl hc, by rw [he 386 (by omega)]; exact A_p h, fun i hi => ⟨by rw [he _ (by omega)]; exact (A_pp h hi).1, by rw [he _ (by omega)]; exact (A_pp h hi).2⟩, fun s hs => ⟨by rw [he _ (by omega)]; exact A_t h hs, fun k hk => ?_⟩⟩
  have := bOK_len hb s
  rw [he _ (by omega)]
  exact A_tk h hs hk
theorem i720 (p k : Nat) : ((720 : Int32) * nI p) + nI k = nI (720 * p + k) := by
  rw [show (720 : Int32) = nI 720 from rfl, nI_mul, nI_add]
theorem place_in {p : Nat} (hp2 : p < 2) (h : ixH) : ix_M mMo_in [.int (nI p), .int 0, .int 1] h = some ([.int (ix_bi true)], h) := M_in0_t (n := 2) hp2 (by omega) h
theorem place_out {x : Int32} (hx : x < 0 ∨ nI 2 ≤ x) (h : ixH) : ix_M mMo_in [.int x, .int 0, .int 1] h = some ([.int (ix_bi false)], h) := M_in0_f (n := 2) (by omega) (by omega) hx h
def setS (S : sT) (p : Nat) : sT := (S.1, fun q => if q = p then some S.1 else S.2.1 q, S.2.2)
theorem K_save {c : ixK} {X : ixX} {S : sT} (h : invK c X S) (x1 : Int32) : okI mRP_save mMo_save [.int x1] c X := by
  obtain ⟨hs, hG, hA, hb⟩ := invK_G h
  rcases i_cases x1 (n := 2) (by omega) with ⟨p, hp2, rfl⟩ | hx
  · obtain ⟨X1, a1, a2, a3⟩ := M_bcopy (bdA_p hp2) bdA_4 (.inr (by omega)) (c := c) hb h.2.1.1
    obtain ⟨X2, hX2⟩ : ∃ Z, Z = aI X1 56 (upd (X1.1 56) p 1) := ⟨_, rfl⟩
    have f2 : ∀ a, (a < 22 + 17 * p ∨ 22 + 17 * p + 17 ≤ a) → ¬ a = 56 → X2.1 a = X.1 a ∧ X2.2 a = X.2 a := fun a ha hne => by
      rw [hX2, aI_o hne]
      exact a3 a ha
    have f22 : fRm 22 57 X X2 := fun a ha => f2 a (by omega) (by omega)
    have h56 : X2.1 56 = upd (X.1 56) p 1 := by rw [hX2, aI_1, (a3 56 (by omega)).1]
    have hc4 : cBd 4 X2 S.1 := cBd_cong (fun a g1 g2 => f2 a (by omega) (by omega)) h.2.1.1
    have hcp : cBd (22 + 17 * p) X2 S.1 := by
      refine cBd_cong (X := X1) (fun a g1 g2 => ?_) a2
      rw [hX2, aI_o (by omega)]
      exact ⟨rfl, rfl⟩
    have hS : sOK (setS S p) := ⟨h.1.1, fun q B hq => by
      have hq' : (if q = p then some S.1 else S.2.1 q) = some B := hq
      by_cases e : q = p
      · rw [if_pos e] at hq'
        rw [← Option.some.inj hq']; exact hb
      · rw [if_neg e] at hq'
        exact h.1.2.1 q B hq', h.1.2.2⟩
    have hcI : cI c X2 (setS S p) := by
      obtain ⟨g1, g2, g3, g4, g5, g6⟩ := h.2.1
      refine ⟨hc4, fun q hq hn => ?_, fun q B hq hn => ?_, ?_, ?_, ?_⟩
      · have hn' : (if q = p then some S.1 else S.2.1 q) = none := hn
        by_cases e : q = p
        · rw [if_pos e] at hn'; cases hn'
        · rw [if_neg e] at hn'
          rw [h56, upd_n _ _ e]
          exact g2 q hq hn'
      · have hn' : (if q = p then some S.1 else S.2.1 q) = some B := hn
        by_cases e : q = p
        · rw [if_pos e] at hn'
          rw [← Option.some.inj hn', e, h56, upd_1]
          exact ⟨rfl, hcp⟩
        · rw [if_neg e] at hn'
          have := g3 q B hq hn'
          rw [h56, upd_n _ _ e]
          exact ⟨this.1, cBd_cong (fun a w1 w2 => f2 a (by omega) (by omega)) this.2⟩
      · rw [(f2 57 (by omega) (by omega)).1]; exact g4
      · rw [(f2 58 (by omega) (by omega)).1]; exact g5
      · exact cT_fr f22 (by omega) g6
    have hr2 : rI X2 S := rI_q f22 (by omega) h.2.2
    -- the reference
    obtain ⟨Y1, e1, g1, g2, g3⟩ := lp_up (fun k (Y : ixX) => l_Mo_save_14 75 (nI p) (nI k) (hp c Y)) (fun k Y => eX [77, 78] X2 Y ∧ Y.1 78 = X2.1 78 ∧ (∀ j, (j < 720 * p ∨ 720 * p + 720 ≤ j) → Y.1 77 j = X2.1 77 j) ∧ ∀ j, j < k → Y.1 77 (720 * p + j) = X2.1 76 j) (N := 720) (fun k Y hk ⟨q1, q2, q3, q4⟩ => by
      refine ⟨aI Y 77 (upd (Y.1 77) (720 * p + k) (X2.1 76 k)), ?_, eX_aI q1 (by decide), ?_, fun j hj => ?_, fun j hj => ?_⟩
      · show l_Mo_save_14 75 (nI p) (nI k) (hp c Y) = _
        rw [e_Mo_save_14, if_neg (lit_nle (x := 720) (a := 720) (k := k) rfl hk (by omega)), bO (g75_1 c _), bO (g75_0 c _), bO (r76 hk), i720, bO (s77 (by omega)), nI_1 k, q1.2 76 (by decide)]
      · rw [aI_n _ _ (by decide)]; exact q2
      · rw [aI_1, upd_n _ _ (by omega)]; exact q3 j hj
      · rw [aI_1]
        rcases Nat.lt_or_ge j k with r | r
        · rw [upd_n _ _ (by omega)]; exact q4 j r
        · rw [show j = k by omega, upd_1]) (k := 0) (s := X2) (by omega) ⟨eX_refl _ _, rfl, fun _ _ => rfl, fun j hj => absurd hj (Nat.not_lt_zero j)⟩
    have e1' : l_Mo_save_14 75 (nI p) 0 (hp c X2) = l_Mo_save_14 75 (nI p) (nI 720) (hp c Y1) := e1
    obtain ⟨Y2, hY2⟩ : ∃ Z, Z = aI Y1 78 (upd (Y1.1 78) p 1) := ⟨_, rfl⟩
    have eY : eX [77, 78] X2 Y2 := by rw [hY2]; exact eX_aI g1 (by decide)
    have hA2 : rBd (Y2.1 76) S.1 := by rw [eY.2 76 (by decide)]; exact hr2.1
    have h78 : Y2.1 78 = upd (X2.1 78) p 1 := by rw [hY2, aI_1, g2]
    have h77 : Y2.1 77 = Y1.1 77 := by rw [hY2, aI_n _ _ (by decide)]
    have hrI : rI Y2 (setS S p) := by
      obtain ⟨k1, k2, k3, k4, k5⟩ := hr2
      refine ⟨hA2, fun q hq hn => ?_, fun q B hq hn => ?_, ?_, fun i hi => ?_⟩
      · have hn' : (if q = p then some S.1 else S.2.1 q) = none := hn
        by_cases e : q = p
        · rw [if_pos e] at hn'; cases hn'
        · rw [if_neg e] at hn'
          rw [h78, upd_n _ _ e]
          exact k2 q hq hn'
      · have hn' : (if q = p then some S.1 else S.2.1 q) = some B := hn
        by_cases e : q = p
        · rw [if_pos e] at hn'
          rw [← Option.some.inj hn', e, h78, upd_1]
          refine ⟨rfl, rBd_ext hb k1 (fun k hk => ?_)⟩
          show Y2.1 77 (720 * p + k) = _
          rw [h77, g3.2 k hk]
        · rw [if_neg e] at hn'
          have := k3 q B hq hn'
          rw [h78, upd_n _ _ e]
          refine ⟨this.1, rBd_ext (h.1.2.1 q B hn') this.2 (fun k hk => ?_)⟩
          show Y2.1 77 (720 * q + k) = X2.1 77 (720 * q + k)
          rw [h77, g3.1 _ (by omega)]
      · rw [eY.2 75 (by decide)]; exact k4
      · rw [eY.2 101 (by decide)]; exact k5 i hi
    have hw5 : X2.2 5 5 = LSt (bwl S.1) := by rw [(f2 5 (by omega) (by omega)).2]; exact G_x hG
    refine ok_s (S := S) (S' := setS S p) (r := nI (fb_ct (bwl S.1) 64)) hS (x_RP_save (rc_3 c X) ?_) hcI (x_Mo_save (rc_75 c X2) ?_) (fun a ha => ⟨eY.2 a (by simp; omega), by rw [eY.1]⟩) hrI (zF_fr f22 (by omega))
    · rw [e_RP_save, kZ_of (M_isPlace_t hp2 _), if_pos rfl, bO (g3_1 c _), bO (q21 hp2), bO (g3_0 c _), kV_of a1, bO (g3_2 c _), bO (s56 hp2), show (1 : Int32) &&& 1 = 1 from rfl, ← hX2, bO (g3_0 c _), bO (g4_0 c _), bO (g5_5 c _), hw5, kI_of (M_size _ _)]
    · rw [e_Mo_save, kZ_of (place_in hp2 _), if_pos rfl, e1', e_Mo_save_14, if_pos (show (720 : Int32) ≤ nI 720 by decide), bO (g75_2 c _), bO (s78 hp2), show (1 : Int32) &&& 1 = 1 from rfl, ← hY2, kI_of (M_walls hs hA2), ct_bwl hb]
  · exact ok_0 h (r := -2) (x_RP_save (rc_3 c X) (by rw [e_RP_save, kZ_of (M_isPlace_f hx _), if_neg (by decide)])) (x_Mo_save (rc_75 c X) (by rw [e_Mo_save, kZ_of (place_out hx _), if_neg (by decide)]))
theorem K_restore {c : ixK} {X : ixX} {S : sT} (h : invK c X S) (x1 : Int32) : okI mRP_restore mMo_restore [.int x1] c X := by
  obtain ⟨hs, hG, hA, hb⟩ := invK_G h
  rcases i_cases x1 (n := 2) (by omega) with ⟨p, hp2, rfl⟩ | hx
  · cases ho : S.2.1 p with
    | none =>
      have h1 := h.2.1.2.1 p hp2 ho
      have h2 := h.2.2.2.1 p hp2 ho
      exact ok_0 h (r := -5) (x_RP_restore (rc_3 c X) (by rw [e_RP_restore, kZ_of (M_isPlace_t hp2 _), if_pos rfl, bO (g3_2 c _), bO (r56 hp2), h1, if_neg (fun n => n rfl)])) (x_Mo_restore (rc_75 c X) (by rw [e_Mo_restore, kZ_of (place_in hp2 _), if_pos rfl, bO (g75_2 c _), bO (r78 hp2), h2, if_neg (fun n => n rfl)]))
    | some B =>
      have hB := h.1.2.1 p B ho
      have h1 := h.2.1.2.2.1 p B hp2 ho
      have h2 := h.2.2.2.2.1 p B hp2 ho
      obtain ⟨X1, a1, a2, a3⟩ := M_bcopy bdA_4 (bdA_p hp2) (.inl (by omega)) (c := c) hB h1.2
      have f4 : fRm 4 21 X X1 := a3
      have hr1 : rI X1 S := rI_4 f4 h.2.2
      have h2' := hr1.2.2.1 p B hp2 ho
      obtain ⟨Y1, e1, g1, g2⟩ := lp_up (fun k (Y : ixX) => l_Mo_restore_26 75 (nI p) (nI k) (hp c Y)) (fun k Y => eX [76] X1 Y ∧ ∀ j, j < k → Y.1 76 j = X1.1 77 (720 * p + j)) (N := 720) (fun k Y hk ⟨q1, q2⟩ => by
        refine ⟨aI Y 76 (upd (Y.1 76) k (X1.1 77 (720 * p + k))), ?_, eX_aI q1 (by decide), fun j hj => ?_⟩
        · show l_Mo_restore_26 75 (nI p) (nI k) (hp c Y) = _
          rw [e_Mo_restore_26, if_neg (lit_nle (x := 720) (a := 720) (k := k) rfl hk (by omega)), bO (g75_0 c _), bO (g75_1 c _), i720, bO (r77 (by omega)), q1.2 77 (by decide), bO (s76 hk), nI_1 k]
        · rw [aI_1]
          rcases Nat.lt_or_ge j k with r | r
          · rw [upd_n _ _ (by omega)]; exact q2 j r
          · rw [show j = k by omega, upd_1]) (k := 0) (s := X1) (by omega) ⟨eX_refl _ _, fun j hj => absurd hj (Nat.not_lt_zero j)⟩
      have e1' : l_Mo_restore_26 75 (nI p) 0 (hp c X1) = l_Mo_restore_26 75 (nI p) (nI 720) (hp c Y1) := e1
      have hAY : rBd (Y1.1 76) B := rBd_ext hB h2'.2 (fun k hk => g2 k hk)
      have hw5 : X1.2 5 5 = LSt (bwl B) := G_x a2.1
      refine ok_s (S := S) (S' := (B, S.2)) (r := nI (fb_ct (bwl B) 64)) (sOK_b h.1 hB) (x_RP_restore (rc_3 c X) ?_) (cI_b h.2.1 f4 a2) (x_Mo_restore (rc_75 c X1) ?_) (fRm_76 g1) (rI_76 hr1 g1 hAY) (zF_fr f4 (by omega))
      · rw [e_RP_restore, kZ_of (M_isPlace_t hp2 _), if_pos rfl, bO (g3_2 c _), bO (r56 hp2), h1.1, if_pos (by decide), bO (g3_0 c _), bO (g3_1 c _), bO (q21 hp2), kV_of a1, bO (g3_0 c _), bO (g4_0 c _), bO (g5_5 c _), hw5, kI_of (M_size _ _)]
      · rw [e_Mo_restore, kZ_of (place_in hp2 _), if_pos rfl, bO (g75_2 c _), bO (r78 hp2), h2'.1, if_pos (by decide), e1', e_Mo_restore_26, if_pos (show (720 : Int32) ≤ nI 720 by decide), kI_of (M_walls hB.1 hAY), ct_bwl hB]
  · exact ok_0 h (r := -2) (x_RP_restore (rc_3 c X) (by rw [e_RP_restore, kZ_of (M_isPlace_f hx _), if_neg (by decide)])) (x_Mo_restore (rc_75 c X) (by rw [e_Mo_restore, kZ_of (place_out hx _), if_neg (by decide)]))
