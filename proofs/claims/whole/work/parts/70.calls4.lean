/-! CALLS: wires, turns, pairs, falling, changed walls -/
theorem bi_xor (a b : Bool) : ix_bi a ^^^ ix_bi b = ix_bi (a ^^ b) := by cases a <;> cases b <;> decide
theorem bi_sub (b : Bool) : (1 : Int32) - ix_bi b = ix_bi (!b) := by cases b <;> decide
theorem K_wire {c : ixK} {X : ixX} {S : sT} (h : invK c X S) (x1 x2 : Int32) : okI mRP_wire mMo_wire [.int x1, .int x2] c X := by
  obtain ⟨hs, hG, hA, hb⟩ := invK_G h
  have h64 := bS_64 hs
  rcases i_cases x1 (n := 4) (by omega) with ⟨l, hl, rfl⟩ | hx
  · rcases i_cases x2 (n := bn S.1) (by omega) with ⟨k, hk, rfl⟩ | hy
    · obtain ⟨wi, hwi⟩ : ∃ w : Nat → Nat → Bool, w = fun l' c => if l' = l then bwi S.1 l' c ^^ decide (c = k) else bwi S.1 l' c := ⟨_, rfl⟩
      have hwl : ∀ c, wi l c = (bwi S.1 l c ^^ decide (c = k)) := fun c => by rw [hwi]; exact if_pos rfl
      have hwn : ∀ l' c, ¬ l' = l → wi l' c = bwi S.1 l' c := fun l' c hne => by rw [hwi]; exact if_neg hne
      have hB : bOK (setWi S.1 wi) := by
        refine ⟨hs, fun c hc => ⟨(hb.2.1 c hc).1, (hb.2.1 c hc).2.1, fun l' => ?_⟩, hb.2.2⟩
        have hc2 : bn S.1 ≤ c := hc
        show wi l' c = false
        by_cases e : l' = l
        · rw [e, hwl, (hb.2.1 c hc).2.2 l, decide_eq_false (by omega)]; rfl
        · rw [hwn l' c e]; exact (hb.2.1 c hc).2.2 l'
      obtain ⟨X', hX'⟩ : ∃ Y, Y = aJ X 7 (vp_updL (X.2 7) l (LSt (wi l))) := ⟨_, rfl⟩
      have f4 : fRm 4 21 X X' := by rw [hX']; exact fRm_aJ (fRm_refl _ _ _) (by omega) (by omega)
      have hc1 : cBd 4 X' (setWi S.1 wi) := by
        obtain ⟨⟨g1, g2, g3, g4, g5, g6, g7, g8⟩, hP, hR⟩ := h.2.1.1
        rw [hX']
        refine ⟨⟨g1, g2, g3, g4, g5, g6, g7, fun l' h2 => ?_⟩, hP, fun s hs2 => cR_cong (X := X) rfl (aJ_o (show ¬ 4 + 5 + 2 * s = 7 by omega) _ _) rfl (hR s hs2)⟩
        show (aJ X 7 _).2 7 l' = LSt (wi l')
        rw [aJ_1]
        by_cases e : l' = l
        · rw [e, updL_1]
        · rw [updL_n _ _ e]
          have : wi l' = bwi S.1 l' := funext fun c => hwn l' c e
          rw [this]; exact g8 l' h2
      have hr0 : rBd (X'.1 76) S.1 := (rI_4 f4 h.2.2).1
      obtain ⟨X'', hX''⟩ : ∃ Y, Y = aI X' 76 (upd (X'.1 76) (130 + 64 * l + k) (ix_bi (wi l k))) := ⟨_, rfl⟩
      have ex76 : eX [76] X' X'' := by rw [hX'']; exact eX_aI (eX_refl _ _) (by decide)
      have hr : rBd (X''.1 76) (setWi S.1 wi) := by
        rw [hX'', aI_1]
        refine rBd_I hs hr0 (fun l' hl' c hc => ?_) (fun i hi => by rw [upd_n _ _ (by omega)])
        by_cases e : l' = l
        · rw [e]
          by_cases ec : c = k
          · rw [ec, upd_1]
          · rw [upd_n _ _ (by omega), A_i hr0 hl hc, hwl, decide_eq_false ec, Bool.xor_false]
        · rw [upd_n _ _ (by omega), A_i hr0 hl' hc, hwn l' c e]
      refine ok_s (S := S) (S' := (setWi S.1 wi, S.2)) (r := nI (fb_ct (wi l) 64)) (sOK_b h.1 hB) (x_RP_wire (rc_3 c X) ?_) (cI_b h.2.1 f4 hc1) (x_Mo_wire (rc_75 c X') ?_) (fRm_76 ex76) (rI_76 (rI_4 f4 h.2.2) ex76 hr) (zF_fr f4 (by omega))
      · have e1 : LSt (bwi S.1 l) ^^^ LSt (fun i => decide (i = k)) = LSt (wi l) := by
          rw [LS_xor]
          exact LS_cong (fun i _ => (hwl i).symm)
        rw [e_RP_wire, bO (g3_0 c X), bO (g4_0 c X), kZ_of (M_isLever_t hl _), if_pos rfl, kZ_of (M_has_t hs hG hk), if_pos rfl, bO (g5_7 c X), bO (r7 hl), G_i hG hl, kL_of (M_bit (by omega) _), e1, bO (s7 hl), ← hX', bO (g5_7 c X'), bO (r7 hl), G_i hc1.1 hl, kI_of (M_size _ _)]
        rfl
      · have hv : (1 : Int32) - ix_bi (bwi S.1 l k) = ix_bi (wi l k) := by
          rw [bi_sub, hwl, decide_eq_true rfl, Bool.xor_true]
        have e := lp_f (fun t s => l_Mo_wire_50 75 (nI (130 + 64 * l)) s (nI t) (hp c X'')) (fun t => nI (fb_ct (wi l) t)) (N := bn S.1) (fun t ht => by
          show l_Mo_wire_50 75 (nI (130 + 64 * l)) (nI (fb_ct (wi l) t)) (nI t) (hp c X'') = l_Mo_wire_50 75 (nI (130 + 64 * l)) (nI (fb_ct (wi l) (t + 1))) (nI (t + 1)) (hp c X'')
          have hcell := M_mcells (c := c) hr
          rw [e_Mo_wire_50, kI_of hcell, if_neg (by rw [nI_leI (by show bn (setWi S.1 wi) < _; have : bn (setWi S.1 wi) = bn S.1 := rfl; omega) (by omega)]; show ¬ bn S.1 ≤ t; omega), bO (g75_0 c _), bO (x76 (nI_add _ _) (by omega)), A_i hr hl (show t < bn (setWi S.1 wi) from ht)]
          show l_Mo_wire_50 75 _ (nI (fb_ct (wi l) t) + ix_bi (wi l t)) _ _ = _
          rw [ct_step, nI_1]) (k := 0) (by omega)
        have e' : l_Mo_wire_50 75 (nI (130 + 64 * l)) 0 0 (hp c X'') = l_Mo_wire_50 75 (nI (130 + 64 * l)) (nI (fb_ct (wi l) (bn S.1))) (nI (bn S.1)) (hp c X'') := e
        have hct : fb_ct (wi l) 64 = fb_ct (wi l) (bn S.1) := ct_64 h64 (fun x hx => (hB.2.1 x hx).2.2 l)
        rw [e_Mo_wire, kZ_of (M_isSwitch_t hl _), if_pos rfl, kZ_of (M_isCell_t hs hr0 hk), if_pos rfl, bO (g75_0 c _), bO (g75_0 c _), bO (x76 (i130c l k) (by omega)), A_i hr0 hl hk, hv, bO (y76 (i130c l k) (by omega)), ← hX'', i130, e', e_Mo_wire_50, kI_of (M_mcells hr), if_pos (by rw [nI_leI (by show bn (setWi S.1 wi) < _; have : bn (setWi S.1 wi) = bn S.1 := rfl; omega) (by omega)]; show bn S.1 ≤ bn S.1; omega), hct]
    · refine ok_0 h (r := -1) (x_RP_wire (rc_3 c X) (by rw [e_RP_wire, bO (g3_0 c X), bO (g4_0 c X), kZ_of (M_isLever_t hl _), if_pos rfl, kZ_of (M_has_f hG hy), if_neg (by decide)])) (x_Mo_wire (rc_75 c X) (by rw [e_Mo_wire, kZ_of (M_isSwitch_t hl _), if_pos rfl, kZ_of (M_isCell_f hs hA hy), if_neg (by decide)]))
  · exact ok_0 h (r := -1) (x_RP_wire (rc_3 c X) (by rw [e_RP_wire, bO (g3_0 c X), bO (g4_0 c X), kZ_of (M_isLever_f hx _), if_neg (by decide)])) (x_Mo_wire (rc_75 c X) (by rw [e_Mo_wire, kZ_of (M_isSwitch_f hx _), if_neg (by decide)]))
theorem M_turnOne {c : ixK} {X : ixX} {B : bT} (hs : bS B) (hA : rBd (X.1 76) B) {l : Nat} (hl : l < 4) : ∃ Y, ix_M mMo_turnOne [.ref 75, .int (nI l)] (hp c X) = some ([], hp c Y) ∧ eX [76] X Y ∧ rBd (Y.1 76) (setW B (fun c => bwl B c ^^ bwi B l c)) := by
  have h64 := bS_64 hs
  obtain ⟨A, e1, p1, p2, p3⟩ := lp_up (fun k (A : Nat → Int32) => l_Mo_turnOne_2 75 (nI l) (nI k) (hp c (aI X 76 A))) (fun k A => (∀ i, i < k → A (2 + i) = ix_bi (bwl B i ^^ bwi B l i)) ∧ (∀ i, k ≤ i → i < bn B → A (2 + i) = ix_bi (bwl B i)) ∧ ∀ i, (i < 2 ∨ 66 ≤ i) → A i = X.1 76 i) (N := bn B) (fun k A hk hP => by
    obtain ⟨p1, p2, p3⟩ := hP
    have hmid : rBd A (setW B (fun i => if i < k then bwl B i ^^ bwi B l i else bwl B i)) := rBd_W hs hA (fun i hi => by
      by_cases q : i < k
      · rw [if_pos q]; exact p1 i q
      · rw [if_neg q]; exact p2 i (by omega) hi) p3
    refine ⟨upd A (2 + k) (ix_bi (bwl B k ^^ bwi B l k)), ?_, fun i hi => ?_, fun i h1 h2 => ?_, fun i hi => ?_⟩
    · show l_Mo_turnOne_2 75 (nI l) (nI k) (hp c (aI X 76 A)) = l_Mo_turnOne_2 75 (nI l) (nI (k + 1)) (hp c (aI X 76 _))
      have hcell : ix_M mMo_cells [.ref 75] (hp c (aI X 76 A)) = some ([.int (nI (bn B))], hp c (aI X 76 A)) := M_mcells (B := setW B (fun i => if i < k then bwl B i ^^ bwi B l i else bwl B i)) (by rw [aI_1]; exact hmid)
      have hw : A (130 + 64 * l + k) = ix_bi (bwi B l k) := by rw [p3 _ (by omega)]; exact A_i hA hl hk
      rw [e_Mo_turnOne_2, kI_of hcell, if_neg (by rw [nI_leI (by omega) (by omega)]; omega), bO (g75_0 c _), bO (x76 (jx2 k) (by omega)), bO (g75_0 c _), bO (x76 (i130c l k) (by omega)), aI_1, p2 k (by omega) hk, hw, bi_xor, bO (y76 (jx2 k) (by omega)), aI_1, aI_aI, nI_1]
    · by_cases e : i = k
      · rw [e, upd_1]
      · rw [upd_n _ _ (by omega)]; exact p1 i (by omega)
    · rw [upd_n _ _ (by omega)]; exact p2 i (by omega) h2
    · rw [upd_n _ _ (by omega)]; exact p3 i hi) (k := 0) (s := X.1 76) (by omega) ⟨fun i hi => absurd hi (Nat.not_lt_zero i), fun i _ hi => A_x hA hi, fun _ _ => rfl⟩
  have e1' : l_Mo_turnOne_2 75 (nI l) 0 (hp c X) = l_Mo_turnOne_2 75 (nI l) (nI (bn B)) (hp c (aI X 76 A)) := by
    have q : l_Mo_turnOne_2 75 (nI l) (nI 0) (hp c (aI X 76 (X.1 76))) = l_Mo_turnOne_2 75 (nI l) (nI (bn B)) (hp c (aI X 76 A)) := e1
    rw [aI_self] at q
    exact q
  have hr : rBd ((aI X 76 A).1 76) (setW B (fun c => bwl B c ^^ bwi B l c)) := by
    rw [aI_1]
    exact rBd_W hs hA (fun i hi => p1 i hi) p3
  refine ⟨aI X 76 A, x_Mo_turnOne (rc_75 c X) ?_, eX_aI (eX_refl _ _) (by decide), hr⟩
  have hcell : ix_M mMo_cells [.ref 75] (hp c (aI X 76 A)) = some ([.int (nI (bn B))], hp c (aI X 76 A)) := M_mcells (B := setW B (fun c => bwl B c ^^ bwi B l c)) hr
  rw [e_Mo_turnOne, e1', e_Mo_turnOne_2, kI_of hcell, if_pos (by rw [nI_leI (by omega) (by omega)]; omega)]
theorem K_turn {c : ixK} {X : ixX} {S : sT} (h : invK c X S) (x1 : Int32) : okI mRP_turn mMo_turn [.int x1] c X := by
  obtain ⟨hs, hG, hA, hb⟩ := invK_G h
  have h64 := bS_64 hs
  rcases i_cases x1 (n := 4) (by omega) with ⟨l, hl, rfl⟩ | hx
  · obtain ⟨wl, hwl⟩ : ∃ w : Nat → Bool, w = fun c => bwl S.1 c ^^ bwi S.1 l c := ⟨_, rfl⟩
    have hB : bOK (setW S.1 wl) := bOK_W hb (fun c hc => by rw [hwl]; show (bwl S.1 c ^^ bwi S.1 l c) = false; rw [(hb.2.1 c hc).1, (hb.2.1 c hc).2.2 l]; rfl)
    obtain ⟨X', hX'⟩ : ∃ Y, Y = aJ X 5 (vp_updL (X.2 5) 5 (LSt wl)) := ⟨_, rfl⟩
    have hc1 : cBd 4 X' (setW S.1 wl) := by rw [hX']; exact cBd_W h.2.1.1 _
    have f4 : fRm 4 21 X X' := by rw [hX']; exact fRm_aJ (fRm_refl _ _ _) (by omega) (by omega)
    obtain ⟨X'', f1, f2, f3⟩ := M_turnOne (c := c) hs (rI_4 f4 h.2.2).1 hl
    rw [← hwl] at f3
    refine ok_s (S := S) (S' := (setW S.1 wl, S.2)) (r := nI (fb_ct wl 64)) (sOK_b h.1 hB) (x_RP_turn (rc_3 c X) ?_) (cI_b h.2.1 f4 hc1) (x_Mo_turn (rc_75 c X') ?_) (fRm_76 f2) (rI_76 (rI_4 f4 h.2.2) f2 f3) (zF_fr f4 (by omega))
    · have e1 : LSt (bwl S.1) ^^^ LSt (bwi S.1 l) = LSt wl := by rw [LS_xor, hwl]
      rw [e_RP_turn, kZ_of (M_isLever_t hl _), if_pos rfl, bO (g3_0 c X), bO (g4_0 c X), bO (g5_5 c X), G_x hG, bO (g3_0 c X), bO (g4_0 c X), bO (g5_7 c X), bO (r7 hl), G_i hG hl, e1, bO (p5_5 c X _), ← hX', bO (g3_0 c X'), bO (g4_0 c X'), bO (g5_5 c X'), G_x hc1.1, kI_of (M_size _ _)]
      rfl
    · rw [e_Mo_turn, kZ_of (M_isSwitch_t hl _), if_pos rfl, kV_of f1, kI_of (M_walls hB.1 f3), ← ct_bwl hB]
      rfl
  · exact ok_0 h (r := -1) (x_RP_turn (rc_3 c X) (by rw [e_RP_turn, kZ_of (M_isLever_f hx _), if_neg (by decide)])) (x_Mo_turn (rc_75 c X) (by rw [e_Mo_turn, kZ_of (M_isSwitch_f hx _), if_neg (by decide)]))
theorem pgd_l : ∀ (l x : List (Nat × Nat)) (k : Nat), k < l.length → (l ++ x).getD k (0, 0) = l.getD k (0, 0)
  | [], x, k, h => absurd h (Nat.not_lt_zero k)
  | a :: l, x, 0, _ => rfl
  | a :: l, x, k + 1, h => pgd_l l x k (Nat.lt_of_succ_lt_succ h)
theorem pgd_r : ∀ (l : List (Nat × Nat)) (x : Nat × Nat), (l ++ [x]).getD l.length (0, 0) = x
  | [], x => rfl
  | a :: l, x => pgd_r l x
theorem K_pair {c : ixK} {X : ixX} {S : sT} (h : invK c X S) (x1 x2 : Int32) : okI mRP_pair mMo_pair [.int x1, .int x2] c X := by
  obtain ⟨hs, hG, hA, hb⟩ := invK_G h
  have h64 := bS_64 hs
  rcases i_cases x1 (n := bn S.1) (by omega) with ⟨j, hj, rfl⟩ | hx
  · rcases i_cases x2 (n := bn S.1) (by omega) with ⟨k, hk, rfl⟩ | hy
    · have hlen := hb.2.2.2.1
      have hP := h.2.1.1.2.1
      have hp4 : X.1 4 4 = nI (bpr S.1).length := hP.1
      rcases Nat.lt_or_ge (bpr S.1).length 4 with q | q
      · obtain ⟨X', hX'⟩ : ∃ Y, Y = aI (aI (aI X 19 (upd (X.1 19) (bpr S.1).length (nI j))) 20 (upd (X.1 20) (bpr S.1).length (nI k))) 4 (upd (X.1 4) 4 (nI ((bpr S.1).length + 1))) := ⟨_, rfl⟩
        have f4 : fRm 4 21 X X' := by rw [hX']; exact fRm_aI (fRm_aI (fRm_aI (fRm_refl _ _ _) (by omega) (by omega)) (by omega) (by omega)) (by omega) (by omega)
        have ea : ix_M mBd_addPair [.ref 4, .int (nI j), .int (nI k)] (hp c X) = some ([.int (ix_bi true)], hp c X') := by
          refine x_Bd_addPair (rc_4 c X) ?_
          have hlt : nI (bpr S.1).length < (4 : Int32) := by
            show nI _ < nI 4
            rw [nI_ltI (by omega) (by omega)]; exact q
          rw [e_Bd_addPair, bO (g4_4 c X), hp4, if_neg (nI_pos (by omega)), bO (g4_4 c X), hp4, if_pos hlt, bO (g4_2 c X), bO (g4_4 c X), hp4, bO (s19 q), bO (g4_3 c _), bO (g4_4 c _), aI_o (by omega), hp4, bO (s20 q), aI_o (by omega), bO (g4_4 c _), aI_o (by omega), aI_o (by omega), hp4, bO (p4_4 c _ _), aI_o (by omega), aI_o (by omega), nI_1, hX']
        obtain ⟨pr, hpr⟩ : ∃ p, p = bpr S.1 ++ [(j, k)] := ⟨_, rfl⟩
        have hprl : pr.length = (bpr S.1).length + 1 := by rw [hpr, List.length_append]; rfl
        have hpo : ∀ i, i < (bpr S.1).length → pr.getD i (0, 0) = (bpr S.1).getD i (0, 0) := fun i hi => by rw [hpr]; exact pgd_l _ _ i hi
        have hpn : pr.getD (bpr S.1).length (0, 0) = (j, k) := by rw [hpr]; exact pgd_r _ _
        have hB : bOK (setP S.1 pr) := by
          refine ⟨hs, hb.2.1, hb.2.2.1, by show pr.length ≤ 4; omega, fun i hi => ?_, hb.2.2.2.2.2⟩
          have hi2 : i < pr.length := hi
          show (pr.getD i (0, 0)).1 < bn S.1 ∧ (pr.getD i (0, 0)).2 < bn S.1
          rcases Nat.lt_or_ge i (bpr S.1).length with r | r
          · rw [hpo i r]; exact hb.2.2.2.2.1 i r
          · have : i = (bpr S.1).length := by omega
            rw [this, hpn]; exact ⟨hj, hk⟩
        have hc1 : cBd 4 X' (setP S.1 pr) := by
          refine ⟨?_, ⟨?_, fun i hi => ?_⟩, fun s hs2 => ?_⟩
          · have hg0 : cG 4 X' S.1 := cG_cong (by rw [hX', aI_o (by omega), aI_o (by omega), aI_o (by omega)]) (by rw [hX']; rfl) (by rw [hX']; rfl) (by rw [hX']; rfl) hG
            exact hg0
          · show X'.1 4 4 = nI pr.length
            rw [hX', aI_1, upd_1, hprl]
          · have hi2 : i < pr.length := hi
            show X'.1 19 i = nI (pr.getD i (0, 0)).1 ∧ X'.1 20 i = nI (pr.getD i (0, 0)).2
            rw [hX', aI_o (by omega), aI_o (by omega), aI_1, aI_o (by omega), aI_1]
            rcases Nat.lt_or_ge i (bpr S.1).length with r | r
            · rw [upd_n _ _ (by omega), upd_n _ _ (by omega), hpo i r]; exact hP.2 i r
            · have : i = (bpr S.1).length := by omega
              rw [this, upd_1, upd_1, hpn]; exact ⟨rfl, rfl⟩
          · have hR := h.2.1.1.2.2 s hs2
            have hR2 : cR (4 + 5 + 2 * s) X' (brt S.1 s) := cR_cong (X := X) (by rw [hX', aI_o (by omega), aI_o (by omega), aI_o (by omega)]) (by rw [hX']; rfl) (by rw [hX', aI_o (by omega), aI_o (by omega), aI_o (by omega)]) hR
            exact hR2
        have hr0 : rBd (X'.1 76) S.1 := (rI_4 f4 h.2.2).1
        obtain ⟨X'', hX''⟩ : ∃ Y, Y = aI X' 76 (upd (upd (upd (X'.1 76) (387 + 2 * (bpr S.1).length) (nI j)) (387 + 2 * (bpr S.1).length + 1) (nI k)) 386 (nI ((bpr S.1).length + 1))) := ⟨_, rfl⟩
        have ex76 : eX [76] X' X'' := by rw [hX'']; exact eX_aI (eX_refl _ _) (by decide)
        have hr : rBd (X''.1 76) (setP S.1 pr) := by
          rw [hX'', aI_1]
          refine rBd_P hs hr0 (by rw [upd_1, hprl]) (fun i hi => ?_) (fun i hi => by rw [upd_n _ _ (by omega), upd_n _ _ (by omega), upd_n _ _ (by omega)])
          rcases Nat.lt_or_ge i (bpr S.1).length with r | r
          · rw [upd_n _ _ (by omega), upd_n _ _ (by omega), upd_n _ _ (by omega), upd_n _ _ (by omega), upd_n _ _ (by omega), upd_n _ _ (by omega), hpo i r]
            exact A_pp hr0 r
          · have : i = (bpr S.1).length := by omega
            rw [this, upd_n _ _ (by omega), upd_n _ _ (by omega), upd_1, upd_n _ _ (by omega), upd_1, hpn]
            exact ⟨rfl, rfl⟩
        have e386 : X'.1 76 386 = nI (bpr S.1).length := A_p hr0
        have r386 : ∀ A : Nat → Int32, ix_ai (hp c (aI X' 76 A)) 76 386 = some (A 386) := fun A => by
          have := r76 (c := c) (X := aI X' 76 A) (i := 386) (by omega)
          rw [aI_1] at this
          exact this
        have r386' : ix_ai (hp c X') 76 386 = some (nI (bpr S.1).length) := by
          have := r76 (c := c) (X := X') (i := 386) (by omega)
          rw [e386] at this
          exact this
        have hne4 : ¬ nI (bpr S.1).length = (4 : Int32) := by
          show ¬ nI (bpr S.1).length = nI 4
          rw [nI_eq (by omega) (by omega)]; omega
        refine ok_s (S := S) (S' := (setP S.1 pr, S.2)) (r := nI (bpr S.1).length) (sOK_b h.1 hB) (x_RP_pair (rc_3 c X) ?_) (cI_b h.2.1 f4 hc1) (x_Mo_pair (rc_75 c X') ?_) (fRm_76 ex76) (rI_76 (rI_4 f4 h.2.2) ex76 hr) (zF_fr f4 (by omega))
        · have e44 : X'.1 4 4 = nI ((bpr S.1).length + 1) := by rw [hX', aI_1, upd_1]
          rw [e_RP_pair, bO (g3_0 c X), bO (g4_0 c X), kZ_of (M_has_t hs hG hj), if_pos rfl, bO (g3_0 c X), bO (g4_0 c X), kZ_of (M_has_t hs hG hk), if_pos rfl, bO (g3_0 c X), kZ_of ea, if_pos rfl, bO (g3_0 c X'), bO (g4_4 c X'), e44, nI_pred]
        · rw [e_Mo_pair, kZ_of (M_isCell_t hs hr0 hj), if_pos rfl, kZ_of (M_isCell_t hs hr0 hk), if_pos rfl, bO (g75_0 c _), bO r386', if_pos hne4, bO (g75_0 c _), bO r386', bO (g75_0 c _), bO (y76 (i387 _) (by omega)), bO (g75_0 c _), bO (y76 (i388 _) (by omega)), aI_1, aI_aI, bO (g75_0 c _), bO (r386 _), upd_n _ _ (by omega), upd_n _ _ (by omega), e386, nI_1, bO (show ix_si (hp c _) 76 386 _ = _ from s76 (i := 386) (by omega)), aI_1, aI_aI, ← hX'']
      · have e4 : (bpr S.1).length = 4 := by omega
        have e44 : X.1 4 4 = 4 := by rw [hp4, e4]; rfl
        have ea : ix_M mBd_addPair [.ref 4, .int (nI j), .int (nI k)] (hp c X) = some ([.int (ix_bi false)], hp c X) := x_Bd_addPair (rc_4 c X) (by rw [e_Bd_addPair, bO (g4_4 c X), e44, if_neg (by decide), bO (g4_4 c X), e44, if_neg (by decide)])
        have r386' : ix_ai (hp c X) 76 386 = some 4 := by
          have := r76 (c := c) (X := X) (i := 386) (by omega)
          rw [A_p hA, e4] at this
          exact this
        refine ok_0 h (r := -4) (x_RP_pair (rc_3 c X) ?_) (x_Mo_pair (rc_75 c X) ?_)
        · rw [e_RP_pair, bO (g3_0 c X), bO (g4_0 c X), kZ_of (M_has_t hs hG hj), if_pos rfl, bO (g3_0 c X), bO (g4_0 c X), kZ_of (M_has_t hs hG hk), if_pos rfl, bO (g3_0 c X), kZ_of ea, if_neg (by decide)]
        · rw [e_Mo_pair, kZ_of (M_isCell_t hs hA hj), if_pos rfl, kZ_of (M_isCell_t hs hA hk), if_pos rfl, bO (g75_0 c _), bO r386', if_neg (by decide)]
    · exact ok_0 h (r := -1) (x_RP_pair (rc_3 c X) (by rw [e_RP_pair, bO (g3_0 c X), bO (g4_0 c X), kZ_of (M_has_t hs hG hj), if_pos rfl, bO (g3_0 c X), bO (g4_0 c X), kZ_of (M_has_f hG hy), if_neg (by decide)])) (x_Mo_pair (rc_75 c X) (by rw [e_Mo_pair, kZ_of (M_isCell_t hs hA hj), if_pos rfl, kZ_of (M_isCell_f hs hA hy), if_neg (by decide)]))
  · exact ok_0 h (r := -1) (x_RP_pair (rc_3 c X) (by rw [e_RP_pair, bO (g3_0 c X), bO (g4_0 c X), kZ_of (M_has_f hG hx), if_neg (by decide)])) (x_Mo_pair (rc_75 c X) (by rw [e_Mo_pair, kZ_of (M_isCell_f hs hA hx), if_neg (by decide)]))
theorem K_unpair {c : ixK} {X : ixX} {S : sT} (h : invK c X S) : okI mRP_unpair mMo_unpair [] c X := by
  obtain ⟨hs, hG, hA, hb⟩ := invK_G h
  have hp4 : X.1 4 4 = nI (bpr S.1).length := h.2.1.1.2.1.1
  obtain ⟨X', hX'⟩ : ∃ Y, Y = aI X 4 (upd (X.1 4) 4 0) := ⟨_, rfl⟩
  have f4 : fRm 4 21 X X' := by rw [hX']; exact fRm_aI (fRm_refl _ _ _) (by omega) (by omega)
  have hB : bOK (setP S.1 []) := ⟨hs, hb.2.1, hb.2.2.1, Nat.zero_le _, fun i hi => absurd hi (Nat.not_lt_zero i), hb.2.2.2.2.2⟩
  have hc1 : cBd 4 X' (setP S.1 []) := by
    have hg0 : cG 4 X' S.1 := cG_cong (by rw [hX', aI_o (by omega)]) (by rw [hX']; rfl) (by rw [hX']; rfl) (by rw [hX']; rfl) hG
    refine ⟨hg0, ⟨?_, fun i hi => absurd hi (Nat.not_lt_zero i)⟩, fun s hs2 => ?_⟩
    · show X'.1 4 4 = nI 0
      rw [hX', aI_1, upd_1]; rfl
    · have hR2 : cR (4 + 5 + 2 * s) X' (brt S.1 s) := cR_cong (X := X) (by rw [hX', aI_o (by omega)]) (by rw [hX']; rfl) (by rw [hX', aI_o (by omega)]) (h.2.1.1.2.2 s hs2)
      exact hR2
  have hr0 : rBd (X'.1 76) S.1 := (rI_4 f4 h.2.2).1
  obtain ⟨X'', hX''⟩ : ∃ Y, Y = aI X' 76 (upd (X'.1 76) 386 0) := ⟨_, rfl⟩
  have ex76 : eX [76] X' X'' := by rw [hX'']; exact eX_aI (eX_refl _ _) (by decide)
  have hr : rBd (X''.1 76) (setP S.1 []) := by
    rw [hX'', aI_1]
    exact rBd_P hs hr0 (by rw [upd_1]; rfl) (fun i hi => absurd hi (Nat.not_lt_zero i)) (fun i hi => by rw [upd_n _ _ (by omega)])
  refine ok_s (S := S) (S' := (setP S.1 [], S.2)) (r := nI (bpr S.1).length) (sOK_b h.1 hB) (x_RP_unpair (rc_3 c X) ?_) (cI_b h.2.1 f4 hc1) (x_Mo_unpair (rc_75 c X') ?_) (fRm_76 ex76) (rI_76 (rI_4 f4 h.2.2) ex76 hr) (zF_fr f4 (by omega))
  · rw [e_RP_unpair, bO (g3_0 c X), bO (g4_4 c X), hp4, bO (g3_0 c X), bO (p4_4 c X 0), ← hX']
  · have r386' : ix_ai (hp c X') 76 386 = some (nI (bpr S.1).length) := by
      have := r76 (c := c) (X := X') (i := 386) (by omega)
      rw [A_p hr0] at this
      exact this
    rw [e_Mo_unpair, bO (g75_0 c _), bO r386', bO (g75_0 c _), bO (show ix_si (hp c _) 76 386 _ = _ from s76 (i := 386) (by omega)), ← hX'']
theorem K_falling {c : ixK} {X : ixX} {S : sT} (h : invK c X S) (x1 x2 : Int32) : okL mRP_falling mMo_falling [.int x1, .int x2] c X := by
  obtain ⟨hs, hG, hA, hb⟩ := invK_G h
  have h64 := bS_64 hs
  rcases i_cases x1 (n := bn S.1) (by omega) with ⟨j, hj, rfl⟩ | hx
  · rcases i_cases x2 (n := bn S.1) (by omega) with ⟨k, hk, rfl⟩ | hy
    · obtain ⟨g, e1, e2⟩ := M_dspread (c := c) hs hG hj
      have hr0 : rBd ((aJ X 60 g).1 76) S.1 := hA
      obtain ⟨g2, f1, f2⟩ := M_layFalls (c := c) hs hr0 hj
      refine okL_q h (r := lN (fw S.1 j k)) (X' := aJ X 60 g) (x_RP_falling (rc_3 c X) ?_) (fRm_aJ (fRm_refl _ _ _) (by omega) (by omega)) (X'' := aJ (aJ X 60 g) 79 g2) (x_Mo_falling (rc_75 c _) ?_) (rS_aJ (rS_refl _) (by omega) (by omega))
      · rw [e_RP_falling, bO (g3_0 c X), bO (g4_0 c X), kZ_of (M_has_t hs hG hj), if_pos rfl, bO (g3_0 c X), bO (g4_0 c X), kZ_of (M_has_t hs hG hk), if_pos rfl, bO (g3_4 c X), bO (g3_0 c X), bO (g4_0 c X), kV_of e1, bO (g3_4 c _), kL_of (M_waysTo (by omega)), aJ_1, e2 k hk]
      · rw [e_Mo_falling, kZ_of (M_isCell_t hs hr0 hj), if_pos rfl, kZ_of (M_isCell_t hs hr0 hk), if_pos rfl, kV_of f1, bO (g75_3 c _), bO (r79 (by omega)), aJ_1, f2 k hk]
    · exact okL_q h (r := -1000000000000000001) (x_RP_falling (rc_3 c X) (by rw [e_RP_falling, bO (g3_0 c X), bO (g4_0 c X), kZ_of (M_has_t hs hG hj), if_pos rfl, bO (g3_0 c X), bO (g4_0 c X), kZ_of (M_has_f hG hy), if_neg (by decide)])) (fRm_refl _ _ _) (x_Mo_falling (rc_75 c X) (by rw [e_Mo_falling, kZ_of (M_isCell_t hs hA hj), if_pos rfl, kZ_of (M_isCell_f hs hA hy), if_neg (by decide)])) (rS_refl _)
  · exact okL_q h (r := -1000000000000000001) (x_RP_falling (rc_3 c X) (by rw [e_RP_falling, bO (g3_0 c X), bO (g4_0 c X), kZ_of (M_has_f hG hx), if_neg (by decide)])) (fRm_refl _ _ _) (x_Mo_falling (rc_75 c X) (by rw [e_Mo_falling, kZ_of (M_isCell_f hs hA hx), if_neg (by decide)])) (rS_refl _)
theorem R_flow {c : ixK} {X : ixX} {B : bT} (hb : bS B) (hr4 : ∀ c, brl B c < 4) (hA : rBd (X.1 76) B) : ∃ Y v A P, ix_M mMo_flow [.ref 75] (hp c X) = some ([.int (nI v)], hp c Y) ∧ rS X Y ∧ FlowR B (bop B) (bro B 1) (bro B 2) v A P := by
  obtain ⟨Y, v, ns, f1, f2, f3, _⟩ := R_layFlow (c := c) hb hr4 hA (r1 := 1) (r2 := 2) (by omega) (by omega)
  exact ⟨Y, v, _, _, x_Mo_flow (rc_75 c X) (by rw [e_Mo_flow, show (1 : Int32) = nI 1 from rfl, show (2 : Int32) = nI 2 from rfl, kI_of f1]), f2, f3⟩
theorem K_changed {c : ixK} {X : ixX} {S : sT} (h : invK c X S) (x1 : Int32) : okI mRP_changed mMo_changed [.int x1] c X := by
  obtain ⟨hs, hG, hA, hb⟩ := invK_G h
  have h64 := bS_64 hs
  rcases i_cases x1 (n := bn S.1) (by omega) with ⟨k, hk, rfl⟩ | hx
  · obtain ⟨wl, hwl⟩ : ∃ w : Nat → Bool, w = fun c => bwl S.1 c ^^ decide (c = k) := ⟨_, rfl⟩
    obtain ⟨X', v, A, P, g, m, hX', e1, e2, _, _, _, e3⟩ := C_widen (c := c) hs hG wl false
    have hr0 : rBd (X'.1 76) S.1 := by rw [hX']; exact hA
    have hbk : X'.1 76 (2 + k) = ix_bi (bwl S.1 k) := A_x hr0 hk
    obtain ⟨X1, hX1⟩ : ∃ Y, Y = aI X' 76 (upd (X'.1 76) (2 + k) (ix_bi (bwl S.1 k) ^^^ 1)) := ⟨_, rfl⟩
    have hr1 : rBd (X1.1 76) (setW S.1 wl) := by
      rw [hX1, aI_1]
      refine rBd_W hs hr0 (fun i hi => ?_) (fun i hi => by rw [upd_n _ _ (by omega)])
      rw [hwl]
      by_cases e : i = k
      · rw [e, upd_1]
        show _ = ix_bi (bwl S.1 k ^^ decide (k = k))
        rw [decide_eq_true rfl]
        exact bi_xor _ true
      · rw [upd_n _ _ (by omega)]
        show _ = ix_bi (bwl S.1 i ^^ decide (i = k))
        rw [decide_eq_false e, Bool.xor_false]
        exact A_x hr0 hi
    obtain ⟨Y, v2, A2, P2, f1, f2, f3⟩ := R_flow (c := c) (B := setW S.1 wl) hs hb.2.2.1 hr1
    have hv : v = v2 := (FlowR_eq (B := S.1) hs e2 f3).1
    have hY76 : Y.1 76 = upd (X'.1 76) (2 + k) (ix_bi (bwl S.1 k) ^^^ 1) := by rw [rS_76 f2, hX1, aI_1]
    have hback : upd (Y.1 76) (2 + k) ((ix_bi (bwl S.1 k) ^^^ 1) ^^^ 1) = X'.1 76 := by
      funext i
      by_cases e : i = 2 + k
      · rw [e, upd_1, hbk]
        cases bwl S.1 k <;> decide
      · rw [upd_n _ _ e, hY76, upd_n _ _ e]
    obtain ⟨Z, hZ⟩ : ∃ Z, Z = aI Y 76 (X'.1 76) := ⟨_, rfl⟩
    have hrS : rS X' Z := by
      refine ⟨fun a ha => ?_, ?_⟩
      · by_cases ea : a = 76
        · rw [hZ, ea]
          refine ⟨aI_1 _ _ _, ?_⟩
          show Y.2 76 = X'.2 76
          rw [(f2.1 76 (by omega)).2, hX1]; rfl
        · rw [hZ]
          refine ⟨?_, ?_⟩
          · rw [aI_o ea, (f2.1 a ha).1, hX1, aI_o ea]
          · show Y.2 a = X'.2 a
            rw [(f2.1 a ha).2, hX1]; rfl
      · rw [hZ, aI_o (by omega), f2.2, hX1, aI_o (by omega)]
    refine ok_q h (r := nI v) (X' := X') (x_RP_changed (rc_3 c X) ?_) e3 (X'' := Z) (x_Mo_changed (rc_75 c X') ?_) hrS
    · have e5 : LSt (bwl S.1) ^^^ LSt (fun i => decide (i = k)) = LSt wl := by rw [LS_xor, hwl]
      rw [e_RP_changed, bO (g3_0 c X), bO (g4_0 c X), kZ_of (M_has_t hs hG hk), if_pos rfl, bO (g3_6 c X), bO (g3_0 c X), bO (g4_0 c X), bO (g3_0 c X), bO (g4_0 c X), bO (g5_5 c X), G_x hG, kL_of (M_bit (by omega) _), e5, show (0 : Int32) = ix_bi false from rfl, kI_of e1]
    · rw [e_Mo_changed, kZ_of (M_isCell_t hs hr0 hk), if_pos rfl, bO (g75_0 c _), bO (x76 (jx2 k) (by omega)), hbk, bO (y76 (jx2 k) (by omega)), ← hX1, kI_of f1, bO (g75_0 c _), bO (x76 (jx2 k) (by omega)), bO (y76 (jx2 k) (by omega))]
      rw [show Y.1 76 (2 + k) = ix_bi (bwl S.1 k) ^^^ 1 by rw [hY76, upd_1], hback, ← hZ, hv]
  · exact ok_0 h (r := -1) (x_RP_changed (rc_3 c X) (by rw [e_RP_changed, bO (g3_0 c X), bO (g4_0 c X), kZ_of (M_has_f hG hx), if_neg (by decide)])) (x_Mo_changed (rc_75 c X) (by rw [e_Mo_changed, kZ_of (M_isCell_f hs hA hx), if_neg (by decide)]))
