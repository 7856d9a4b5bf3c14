/-! TUPLES: the call -/
def slB (c : ixK) : Nat := c.2.1 + (if c.2.2.2 = 0 then 16407 else 0)
def okT (c : ixK) (X : ixX) : Prop := ∃ c' X' X'' r S', ix_M mRP_tuples [.ref 3] (hp c X) = some ([.long r], hp c' X') ∧ ix_M mMo_tuples [.ref 75] (hp c' X') = some ([.long r], hp c' X'') ∧ zF X X'' ∧ invK c' X'' S' ∧ c'.2.2.1 = c.2.2.1 ∧ slB c' = slB c
theorem tPh_n0 {B : bT} (h : (bpr B).length = 0) : ∀ m d σ, tPh B m d σ = 1
  | 0, _, _ => rfl
  | m + 1, d, σ => by
    rw [tPh_s, h]
    exact tPh_n0 h m (d + 1) σ
set_option maxRecDepth 4000 in
theorem gq_0 (n s L : Nat) (X : ixX) : ix_gq (hp (n, s, L, 0) X) 3 0 9 = some none := by
  unfold ix_gq
  rw [hp_ob (a := 3) (c := (n, s, L, 0)) (ci := 0) (n := 0) (by omega) (by omega) rfl, Option.bind_some]
  rfl
set_option maxRecDepth 4000 in
theorem gq_1 {c : ixK} {a b : Nat} (h : cBn c a b) (X : ixX) : ix_gq (hp c X) 3 0 9 = some (some 102) := by
  have hs : sp_sh c 3 = (0 + 10, 0, [(2, 4), (2, 21), (2, 56), (2, 57), (2, 59), (2, 63), (2, 65), (2, 67), (2, 73), (2, 102)]) := by
    show (sp_T c.2.2.2).getD 0 (3, 8, []) = _
    rcases cBn_c h with e | e <;> rw [e] <;> rfl
  unfold ix_gq
  rw [hp_ob (by omega) (by omega) hs, Option.bind_some]
  rfl
theorem cI_102 {c c' : ixK} {X Y : ixX} {S : sT} (hf : fRm 102 112 X Y) (h : cI c X S) (hT : cT c' Y) : cI c' Y S := by
  obtain ⟨h1, h2, h3, h4, h5, _⟩ := h
  refine ⟨cBd_cong (fun a _ _ => hf a (by omega)) h1, fun p hp2 e => ?_, fun p B hp2 e => ?_, ?_, fun i hi => ?_, hT⟩
  · rw [(hf 56 (by omega)).1]; exact h2 p hp2 e
  · rw [(hf 56 (by omega)).1]
    exact ⟨(h3 p B hp2 e).1, cBd_cong (fun a _ _ => hf a (by omega)) (h3 p B hp2 e).2⟩
  · rw [(hf 57 (by omega)).1]; exact h4
  · rw [(hf 58 (by omega)).1]; exact h5 i hi
/-- out of the bundle's answer -/
theorem okT_of {c c' : ixK} {a' b' : Nat} {X Y : ixX} {S : sT} (h : invK c X S) (hc' : cBn c' a' b') (e : ix_M mRP_tuples [.ref 3] (hp c X) = some ([.long (lN (tAns S.1))], hp c' Y)) (hf : fRm 102 112 X Y) (Ta : tOK a' Y) (Tb : tOK b' Y) (hL : c'.2.2.1 = c.2.2.1) (hs : slB c' = slB c) : okT c X := by
  have hT : cT c' Y := by
    refine .inr ⟨cBn_c hc', hc'.1, ?_, ?_⟩
    · rcases cBn_ne hc' with ⟨e1, e2⟩ | ⟨e1, e2⟩
      · rw [← e1]; exact Ta
      · rw [← e2]; exact Tb
    · rcases cBn_ne hc' with ⟨e1, e2⟩ | ⟨e1, e2⟩
      · rw [← e2]; exact Tb
      · rw [← e1]; exact Ta
  have hr : rI Y S := rI_c (fun a h1 h2 => hf a (by omega)) h.2.2
  obtain ⟨Y2, e2, r2⟩ := M_mtuples (c := c') h.1.1 hr.1
  exact ⟨c', Y, Y2, _, S, e, e2, zF_tr (zF_fr hf (by omega)) (zF_fr (rS_fr r2) (by omega)), ⟨h.1, cI_r (rS_fr r2) (cI_102 hf h.2.1 hT), rS_I r2 hr⟩, hL, hs⟩
theorem tOK_z (X : ixX) {t : Nat} (h : t = 106 ∨ t = 109) : tOK t (zX X) := by
  have i1 : (zX X).1 t = fun _ => 0 := if_pos (by omega)
  have j1 : (zX X).2 (t + 1) = fun _ => 0 := if_pos (by omega)
  unfold tOK
  rw [i1, j1]
  exact ⟨0, by omega, rfl, fun i hi => absurd hi (Nat.not_lt_zero i), fun s _ hn => absurd rfl hn⟩
theorem K_tuples {c : ixK} {X : ixX} {S : sT} (h : invK c X S) : okT c X := by
  have hb := h.1.1
  have h4 := hb.2.2.2.1
  have hG := h.2.1.1.1
  have hP : cP 4 X S.1 := h.2.1.1.2.1
  have hn : X.1 4 4 = nI (bpr S.1).length := hP.1
  rcases Nat.eq_zero_or_pos (bpr S.1).length with z | z
  · obtain ⟨Y, e1, r1⟩ := M_mtuples (c := c) hb h.2.2.1
    rw [z, if_pos (show tCf S.1 0 = true from rfl), tPh_n0 z] at e1
    refine ⟨c, X, Y, 1, S, x_RP_tuples (rc_3 c X) ?_, e1, zF_fr (rS_fr r1) (by omega), ⟨h.1, cI_r (rS_fr r1) h.2.1, rS_I r1 h.2.2⟩, rfl, rfl⟩
    rw [e_RP_tuples, bO (g3_0 c X), bO (g4_4 c X), hn, z, if_neg (by decide)]
  · have nz : ¬ nI (bpr S.1).length = 0 := nI_ne0 z (by omega)
    rcases h.2.1.2.2.2.2.2 with ⟨k1, k2⟩ | ⟨k1, k2, t1, t2⟩
    · obtain ⟨c1, s, L, st⟩ := c
      have k1 : st = 0 := k1
      have k2 : c1 = 0 := k2
      subst k1
      subst k2
      obtain ⟨h5, b1, b2⟩ := M_bnew s L X
      have hc : cBn (10, s + 16407, L, 1) 106 109 := ⟨rfl, .inl ⟨rfl, rfl, rfl⟩⟩
      have fz := zX_fr X
      obtain ⟨c', Y, a', b', m1, m2, m3, m4, m5, m6, m7⟩ := M_tally hc hb (cG_102 fz hG) (cP_102 fz hP) (tOK_z X (.inl rfl)) (tOK_z X (.inr rfl))
      refine okT_of h m2 (x_RP_tuples (rc_3 _ X) ?_) (fRm_trans fz m7) m5 m6 m4 ?_
      · have e102 : (hp (0, s, L, 0) X).1 = 102 := rfl
        rw [e_RP_tuples, bO (g3_0 _ X), bO (g4_4 _ X), hn, if_pos nz, bO (gq_0 0 s L X), e102]
        show ((ix_M mBn_init [.ref 102] (ix_nw (hp (0, s, L, 0) X) (.inr (9, ix_df 9)) (ix_N 9))).bind _) = _
        rw [kV_of b1, bO b2, bO (gq_1 hc _), bO (g3_0 _ _)]
        show (ix_M mBn_tally [.ref 102, .ref 4] (hp (10, s + 16407, L, 1) (zX X))).bind _ = _
        rw [kL_of m1]
      · have q1 : c'.2.1 = s + 16407 := m3
        show c'.2.1 + (if c'.2.2.2 = 0 then 16407 else 0) = s + (if 0 = 0 then 16407 else 0)
        rw [q1, if_neg (by have := cBn_c m2; omega), if_pos rfl, Nat.add_zero]
    · have hc : ∃ a b, cBn c a b := by
        rcases k1 with k1 | k1
        · exact ⟨106, 109, k2, .inl ⟨k1, rfl, rfl⟩⟩
        · exact ⟨109, 106, k2, .inr ⟨k1, rfl, rfl⟩⟩
      obtain ⟨a, b, hc⟩ := hc
      have Ta : tOK a X := by
        rcases cBn_ne hc with ⟨e1, _⟩ | ⟨e1, _⟩ <;> rw [e1]
        · exact t1
        · exact t2
      have Tb : tOK b X := by
        rcases cBn_ne hc with ⟨_, e1⟩ | ⟨_, e1⟩ <;> rw [e1]
        · exact t2
        · exact t1
      obtain ⟨c', Y, a', b', m1, m2, m3, m4, m5, m6, m7⟩ := M_tally hc hb hG hP Ta Tb
      refine okT_of h m2 (x_RP_tuples (rc_3 _ X) ?_) m7 m5 m6 m4 ?_
      · rw [e_RP_tuples, bO (g3_0 _ X), bO (g4_4 _ X), hn, if_pos nz, bO (gq_1 hc X), bO (gq_1 hc X)]
        show ((ix_gr (hp c X) 3 0 0).bind _) = _
        rw [bO (g3_0 _ _)]
        show (ix_M mBn_tally [.ref 102, .ref 4] (hp c X)).bind _ = _
        rw [kL_of m1]
      · unfold slB
        rw [m3, if_neg (by have := cBn_c m2; omega), if_neg (by have := cBn_c hc; omega)]
