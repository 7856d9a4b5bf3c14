/-! CALLS: groups that a cell is in; cell -/
theorem M_isInFirstGroup {c : ixK} {X : ixX} {B : bT} (hs : bS B) (hr4 : ∀ c, brl B c < 4) (hA : rBd (X.1 76) B) {G : Nat → Bool} (hG : isG 64 (bro B 3) (EBh B) G) {k : Nat} (hk : k < bn B) : ∃ Y, ix_M mMo_isInFirstGroup [.ref 75, .int (nI k)] (hp c X) = some ([.int (ix_bi (G k))], hp c Y) ∧ rS X Y := by
  have h64 := bS_64 hs
  obtain ⟨Y, ml, ch, f1, f2, f3, f4, f5, f6, f7, f8⟩ := M_layGroup (c := c) hs hr4 hA hG
  obtain ⟨g1, g2, g3⟩ := G_list hs f2 hG f6 f7
  have hlen := mL_len hs f2
  have hc64 := fb_ct_le G 64
  refine ⟨Y, x_Mo_isInFirstGroup (rc_75 c X) ?_, f8⟩
  have e := lp_f (fun t s => l_Mo_isInFirstGroup_8 75 (nI k) s (nI t) (hp c Y)) (fun t => !allB (fun t => !decide (ml.getD (ch.getD t 0) 0 = k)) t) (N := ch.length) (fun t ht => by
    show l_Mo_isInFirstGroup_8 75 (nI k) (!allB (fun t => !decide (ml.getD (ch.getD t 0) 0 = k)) t) (nI t) (hp c Y) = l_Mo_isInFirstGroup_8 75 (nI k) (!(allB (fun t => !decide (ml.getD (ch.getD t 0) 0 = k)) t && !decide (ml.getD (ch.getD t 0) 0 = k))) (nI (t + 1)) (hp c Y)
    have hct := ((f7 _).mp (gd_mem ch t ht)).1
    have hbn := (g1 t ht).2.1
    rw [e_Mo_isInFirstGroup_8, bO (g75_27 c _), f4.1, if_neg (by rw [nI_leI (by omega) (by omega)]; omega), nI_1]
    cases ha : allB (fun t => !decide (ml.getD (ch.getD t 0) 0 = k)) t with
    | false => rw [if_pos (by decide)]; rfl
    | true =>
      rw [if_neg (by decide), bO (g75_19 c _), bO (g75_26 c _), bO (r98 (by omega)), f4.2 t ht, bO (r92 (by omega)), f3.2.1 _ hct]
      by_cases e : ml.getD (ch.getD t 0) 0 = k
      · rw [if_neg (fun n => n (by rw [e])), decide_eq_true e]; rfl
      · rw [if_pos (by rw [nI_eq (by omega) (by omega)]; exact e), decide_eq_false e]; rfl) (k := 0) (by omega)
  have e' : l_Mo_isInFirstGroup_8 75 (nI k) false 0 (hp c Y) = l_Mo_isInFirstGroup_8 75 (nI k) (!allB (fun t => !decide (ml.getD (ch.getD t 0) 0 = k)) ch.length) (nI ch.length) (hp c Y) := e
  have hv : (!allB (fun t => !decide (ml.getD (ch.getD t 0) 0 = k)) ch.length) = G k := by
    rw [Bool.eq_iff_iff, Bool.not_eq_true', g3 k]
    constructor
    · intro hf
      refine Classical.byContradiction fun hn => ?_
      have := (allB_iff (fun t => !decide (ml.getD (ch.getD t 0) 0 = k)) ch.length).mpr (fun t ht => by
        show (!decide (ml.getD (ch.getD t 0) 0 = k)) = true
        rw [decide_eq_false (fun e => hn ⟨t, ht, e⟩)]; rfl)
      rw [this] at hf; cases hf
    · rintro ⟨t, ht, e⟩
      exact allB_f ht (by rw [decide_eq_true e]; rfl)
  rw [e_Mo_isInFirstGroup, kV_of f1, e', hv, e_Mo_isInFirstGroup_8, bO (g75_27 c _), f4.1, if_pos (by rw [nI_leI (by omega) (by omega)]; omega)]
/-- marked cells that are not comparable to one -/
def nCc (B : bT) (k : Nat) : Nat → Bool := fun y => bro B 3 y && !(decide (0 < fw B k y) || decide (0 < fw B y k))
theorem nCc_lt {B : bT} {k x : Nat} (h : nCc B k x = true) : x < bn B := by
  unfold nCc at h
  rw [Bool.and_eq_true] at h
  exact bro_lt h.1
theorem C_someGroup {c : ixK} {X : ixX} {B : bT} (hs : bS B) (hG : cG 4 X B) {k : Nat} (hk : k < bn B) : ∃ X' r, ix_M mRP_isInSomeGreatestGroup [.ref 3, .int (nI k)] (hp c X) = some ([.int (ix_bi r)], hp c X') ∧ fRm 59 75 X X' ∧ ((bro B 3 k = false ∧ r = false) ∨ (bro B 3 k = true ∧ ∃ a b, isW 64 (nCc B k) (EBh B) a ∧ isW 64 (bro B 3) (EBh B) b ∧ r = decide (a + 1 = b))) := by
  have h64 := bS_64 hs
  cases hm : bro B 3 k with
  | false =>
    refine ⟨X, false, x_RP_isInSomeGreatestGroup (rc_3 c X) ?_, fRm_refl _ _ _, .inl ⟨rfl, rfl⟩⟩
    rw [e_RP_isInSomeGreatestGroup, bO (g3_0 c X), bO (g4_0 c X), show (3 : Int32) = nI 3 from rfl, kL_of (M_openWith hG (by omega) (by omega)), kZ_of (M_holds _ (by omega) _), hm, if_neg (by decide)]
  | true =>
    obtain ⟨X1, a, e1, e2, e3, e4⟩ := C_join (c := c) hs hG (L := nCc B k) (fun x hx => nCc_lt hx)
    have hG1 : cG 4 X1 B := cG_cong (e4 _ (by omega)).1 (e4 _ (by omega)).2 (e4 _ (by omega)).2 (e4 _ (by omega)).2 hG
    obtain ⟨X2, b, f1, f2, f3, f4⟩ := C_join (c := c) hs hG1 (L := bro B 3) (fun x hx => bro_lt hx)
    refine ⟨X2, decide (a + 1 = b), x_RP_isInSomeGreatestGroup (rc_3 c X) ?_, fRm_trans e4 f4, .inr ⟨rfl, a, b, e2, f2, rfl⟩⟩
    have eL : LSt (bro B 3) &&& ((LSt (sit B false (bon B k) 16) ||| LSt (sit B true (bon B k) 16)) ^^^ -1) = LSt (nCc B k) := by
      rw [LS_or, LS_not, LS_and]
      refine LS_cong (fun i _ => ?_)
      rw [sit_fall hs, sit_rise hs]
      rfl
    rw [e_RP_isInSomeGreatestGroup, bO (g3_0 c X), bO (g4_0 c X), show (3 : Int32) = nI 3 from rfl, kL_of (M_openWith hG (by omega) (by omega)), kZ_of (M_holds _ (by omega) _), hm, if_pos rfl, bO (g3_0 c X), bO (g4_0 c X), kL_of (M_behind hs hG (by omega)), bO (g3_0 c X), bO (g4_0 c X), kL_of (M_ahead hs hG (by omega)), bO (g3_7 c X), bO (g3_0 c X), bO (g4_0 c X), eL, kI_of e1, bO (g3_7 c X1), bO (g3_0 c X1), bO (g4_0 c X1), kI_of f1, nI_1]
    by_cases q : a + 1 = b
    · rw [if_neg (fun n => n (by rw [q])), decide_eq_true q]
    · rw [if_pos (by rw [nI_eq (by omega) (by omega)]; exact q), decide_eq_false q]
theorem M_isInSomeGroup {c : ixK} {X : ixX} {B : bT} (hs : bS B) (hr4 : ∀ c, brl B c < 4) (hA : rBd (X.1 76) B) {k : Nat} (hk : k < bn B) : ∃ Y r, ix_M mMo_isInSomeGroup [.ref 75, .int (nI k)] (hp c X) = some ([.int (ix_bi r)], hp c Y) ∧ rS X Y ∧ ((bro B 3 k = false ∧ r = false) ∨ (bro B 3 k = true ∧ ∃ a b, isW 64 (nCc B k) (EBh B) a ∧ isW 64 (bro B 3) (EBh B) b ∧ r = decide (a + 1 = b))) := by
  have h64 := bS_64 hs
  have hw := bS_w hs
  obtain ⟨X1, ml, b, e1, hml, hpm, _, hW, hb64, hr1⟩ := M_wholeCover (c := c) hs hr4 hA
  have hlen := mL_len hs hml
  have hmn : ∀ i, i < ml.length → ml.getD i 0 < bn B := fun i hi => ((hml.2.2 _).mp (gd_mem ml i hi)).1
  -- the index of the cell
  have hidx : (bro B 3 k = false ∧ l_Mo_isInSomeGroup_11 75 (nI k) (nI b) (-6) 0 (hp c X1) = some ([.int (ix_bi false)], hp c X1)) ∨ ∃ i, i < ml.length ∧ ml.getD i 0 = k ∧ l_Mo_isInSomeGroup_11 75 (nI k) (nI b) (-6) 0 (hp c X1) = l_Mo_isInSomeGroup_53 75 (nI b) (nI i) 0 (hp c X1) := by
    obtain ⟨o, e2, q1, q2⟩ := lp_up (fun t (o : Option Nat) => l_Mo_isInSomeGroup_11 75 (nI k) (nI b) (oI o) (nI t) (hp c X1)) (fun t o => (∀ i, o = some i → i < ml.length ∧ ml.getD i 0 = k) ∧ (o = none → ∀ i, i < t → ¬ ml.getD i 0 = k)) (N := ml.length) (fun t o ht ho => by
      have hbn := hmn t ht
      show ∃ o' : Option Nat, l_Mo_isInSomeGroup_11 75 (nI k) (nI b) (oI o) (nI t) (hp c X1) = l_Mo_isInSomeGroup_11 75 (nI k) (nI b) (oI o') (nI (t + 1)) (hp c X1) ∧ _
      rw [e_Mo_isInSomeGroup_11, bO (g75_20 c _), hpm.1, if_neg (by rw [nI_leI (by omega) (by omega)]; omega), bO (g75_19 c _), bO (r92 (by omega)), hpm.2.1 t ht, nI_1]
      by_cases e : ml.getD t 0 = k
      · rw [if_neg (fun n => n (by rw [e]))]
        exact ⟨some t, rfl, fun i hi => by rw [← Option.some.inj hi]; exact ⟨ht, e⟩, fun q => by cases q⟩
      · rw [if_pos (by rw [nI_eq (by omega) (by omega)]; exact e)]
        refine ⟨o, rfl, ho.1, fun q i hi => ?_⟩
        by_cases ei : i = t
        · rw [ei]; exact e
        · exact ho.2 q i (by omega)) (k := 0) (s := none) (by omega) ⟨fun i hi => (by cases hi), fun _ i hi => absurd hi (Nat.not_lt_zero i)⟩
    have e2' : l_Mo_isInSomeGroup_11 75 (nI k) (nI b) (-6) 0 (hp c X1) = l_Mo_isInSomeGroup_11 75 (nI k) (nI b) (oI o) (nI ml.length) (hp c X1) := e2
    rw [e2', e_Mo_isInSomeGroup_11, bO (g75_20 c _), hpm.1, if_pos (by rw [nI_leI (by omega) (by omega)]; omega)]
    cases ho : o with
    | none =>
      rw [if_neg (show ¬ (0 : Int32) ≤ oI none by decide)]
      refine .inl ⟨?_, rfl⟩
      cases hm : bro B 3 k with
      | false => rfl
      | true =>
        obtain ⟨i, hi, e⟩ := mem_gd ml k ((hml.2.2 k).mpr ⟨hk, hm⟩)
        exact absurd e (q2 ho i hi)
    | some i =>
      have := q1 i ho
      rw [if_pos (show (0 : Int32) ≤ oI (some i) from nI_pos' (by omega))]
      exact .inr ⟨i, this.1, this.2, rfl⟩
  rcases hidx with ⟨h1, h2⟩ | ⟨i, hi, hik, h2⟩
  · exact ⟨X1, false, x_Mo_isInSomeGroup (rc_75 c X) (by rw [e_Mo_isInSomeGroup, kI_of e1]; exact h2), hr1, .inl ⟨h1, rfl⟩⟩
  · have hmk : bro B 3 k = true := by rw [← hik]; exact ((hml.2.2 _).mp (gd_mem ml i hi)).2
    obtain ⟨X2, e3, q1, q2⟩ := lp_up (fun t (Y : ixX) => l_Mo_isInSomeGroup_53 75 (nI b) (nI i) (nI t) (hp c Y)) (fun t Y => eX [94] X1 Y ∧ ∀ j, j < t → Y.1 94 j = ix_bi (!decide (j = i) && !cmI B ml i j)) (N := ml.length) (fun t Y ht hY => by
      obtain ⟨q1, q2⟩ := hY
      have hpY : pM Y B ml := pM_cong (by rw [q1.2 75 (by decide)]) (q1.2 92 (by decide)) (q1.2 93 (by decide)) hpm
      have fin : ∀ v : Int32, v &&& 1 = ix_bi (!decide (t = i) && !cmI B ml i t) → eX [94] X1 (aI Y 94 (upd (Y.1 94) t (v &&& 1))) ∧ ∀ j, j < t + 1 → (aI Y 94 (upd (Y.1 94) t (v &&& 1))).1 94 j = ix_bi (!decide (j = i) && !cmI B ml i j) := by
        intro v hv
        refine ⟨eX_aI q1 (by decide), fun j hj => ?_⟩
        rw [aI_1]
        by_cases ej : j = t
        · rw [ej, upd_1, hv]
        · rw [upd_n _ _ ej]; exact q2 j (by omega)
      show ∃ Y', l_Mo_isInSomeGroup_53 75 (nI b) (nI i) (nI t) (hp c Y) = l_Mo_isInSomeGroup_53 75 (nI b) (nI i) (nI (t + 1)) (hp c Y') ∧ _
      rw [e_Mo_isInSomeGroup_53, bO (g75_20 c _), hpY.1, if_neg (by rw [nI_leI (by omega) (by omega)]; omega), bO (g75_22 c _), nI_1]
      by_cases et : t = i
      · rw [if_pos (by rw [et]), bO (s94 (by omega))]
        exact ⟨_, rfl, fin 0 (by rw [decide_eq_true et, Bool.not_true, Bool.false_and]; decide)⟩
      · rw [if_neg (by rw [nI_eq (by omega) (by omega)]; exact et), kZ_of (M_areComparable hlen hpY hi ht)]
        cases hc : cmI B ml i t with
        | true =>
          rw [if_pos rfl, bO (s94 (by omega))]
          exact ⟨_, rfl, fin 0 (by rw [hc, Bool.not_true, Bool.and_false]; decide)⟩
        | false =>
          rw [if_neg (by decide), bO (s94 (by omega))]
          exact ⟨_, rfl, fin 1 (by rw [decide_eq_false et, hc]; decide)⟩) (k := 0) (s := X1) (by omega) ⟨eX_refl _ _, fun j hj => absurd hj (Nat.not_lt_zero j)⟩
    have e3' : l_Mo_isInSomeGroup_53 75 (nI b) (nI i) 0 (hp c X1) = l_Mo_isInSomeGroup_53 75 (nI b) (nI i) (nI ml.length) (hp c X2) := e3
    have hp2 : pM X2 B ml := pM_cong (by rw [q1.2 75 (by decide)]) (q1.2 92 (by decide)) (q1.2 93 (by decide)) hpm
    have hSt : pSt X2 ml.length (fun j => decide (j < ml.length) && (!decide (j = i) && !cmI B ml i j)) (eI B ml) := ⟨hp2.1, fun j hj => by
      show _ = ix_bi (decide (j < ml.length) && (!decide (j = i) && !cmI B ml i j))
      rw [q2 j hj, decide_eq_true hj]
      rfl, hp2.2.2⟩
    obtain ⟨X3, a, f1, f2, f3, f4, f5⟩ := M_widest (c := c) hlen (fun x hx => by
      simp only [Bool.and_eq_true, decide_eq_true_eq] at hx
      exact hx.1) (fun i j h => eI_lt hw hml h) (fun i j k h h2 => eI_tr hw h h2) hSt
    have hWa := W_ix hs hml (L := nCc B k) (fun j hj => by
      have hmj := ((hml.2.2 _).mp (gd_mem ml j hj)).2
      show (decide (j < ml.length) && (!decide (j = i) && !cmI B ml i j)) = (bro B 3 (ml.getD j 0) && !(decide (0 < fw B k (ml.getD j 0)) || decide (0 < fw B (ml.getD j 0) k)))
      rw [decide_eq_true hj, hmj, Bool.true_and, Bool.true_and]
      by_cases ej : j = i
      · have hbp : bop B k = true := by
          unfold bro at hmk
          rw [Bool.and_eq_true] at hmk
          exact hmk.2
        rw [decide_eq_true ej, ej, hik, decide_eq_true (rc_self hw hbp)]; rfl
      · have hne : ¬ k = ml.getD j 0 := by
          rw [← hik]
          rcases Nat.lt_or_gt_of_ne ej with q | q
          · exact fun e => nd_gd ml hml.1 j i q hi e.symm
          · exact nd_gd ml hml.1 i j q hj
        rw [decide_eq_false ej, Bool.not_false, Bool.true_and]
        unfold cmI eI EBh
        have hne2 : ¬ ml.getD j 0 = k := fun e => hne e.symm
        rw [hik, decide_eq_true hi, decide_eq_true hj, decide_eq_false hne, decide_eq_false hne2]
        cases decide (0 < fw B k (ml.getD j 0)) <;> cases decide (0 < fw B (ml.getD j 0) k) <;> rfl) (fun j hj => by
      simp only [Bool.and_eq_true, decide_eq_true_eq] at hj
      exact hj.1) (fun x hx => by
      unfold nCc at hx
      rw [Bool.and_eq_true] at hx
      exact (hml.2.2 x).mpr ⟨bro_lt hx.1, hx.1⟩) f2
    refine ⟨X3, decide (a + 1 = b), x_Mo_isInSomeGroup (rc_75 c X) ?_, rS_trans hr1 (rS_trans (rS_eX q1 (by decide) (by rw [q1.2 75 (by decide)])) (rS_eX f4 (by decide) (f5 31 (by omega)))), .inr ⟨hmk, a, b, hWa, hW, rfl⟩⟩
    rw [e_Mo_isInSomeGroup, kI_of e1, h2, e3', e_Mo_isInSomeGroup_53, bO (g75_20 c _), hp2.1, if_pos (by rw [nI_leI (by omega) (by omega)]; omega), kI_of f1, nI_1]
    by_cases q : a + 1 = b
    · rw [if_neg (fun n => n (by rw [q])), decide_eq_true q]
    · rw [if_pos (by rw [nI_eq (by omega) (by omega)]; exact q), decide_eq_false q]
theorem flag_if (b : Bool) (h : ixH) : (if b = true then some ([Value.int 1], h) else some ([Value.int 0], h)) = some ([Value.int (ix_bi b)], h) := by cases b <;> rfl
theorem K_cell {c : ixK} {X : ixX} {S : sT} (h : invK c X S) (x1 x2 : Int32) : okI mRP_cell mMo_cell [.int x1, .int x2] c X := by
  obtain ⟨hs, hG, hA, hb⟩ := invK_G h
  have h64 := bS_64 hs
  rcases i_cases x1 (n := bn S.1) (by omega) with ⟨k, hk, rfl⟩ | hx
  · have hk64 : k < 64 := by omega
    rcases i_cases x2 (n := 9) (by omega) with ⟨j, hj, rfl⟩ | hy
    · rcases (show j = 0 ∨ j = 1 ∨ j = 2 ∨ j = 3 ∨ j = 4 ∨ j = 5 ∨ j = 6 ∨ j = 7 ∨ j = 8 by omega) with rfl | rfl | rfl | rfl | rfl | rfl | rfl | rfl | rfl
      · exact ok_0 h (r := ix_bi (bwl S.1 k)) (x_RP_cell (rc_3 c X) (by rw [e_RP_cell, bO (g3_0 c X), bO (g4_0 c X), kZ_of (M_has_t hs hG hk), if_pos rfl, sel_at (j := 0) (by omega) rfl, bO (g5_5 c X), G_x hG, kZ_of (M_holds _ hk64 _), kI_of (M_flag _ _)])) (x_Mo_cell (rc_75 c X) (by rw [e_Mo_cell, kZ_of (M_isCell_t hs hA hk), if_pos rfl, sel_at (j := 0) (by omega) rfl, bO (g75_0 c X), bO (x76 (jx2 k) (by omega)), A_x hA hk]))
      · exact ok_0 h (r := nI (brl S.1 k)) (x_RP_cell (rc_3 c X) (by rw [e_RP_cell, bO (g3_0 c X), bO (g4_0 c X), kZ_of (M_has_t hs hG hk), if_pos rfl, sel_at (j := 1) (by omega) rfl, kI_of (M_groleOf hG hb.2.2.1 hk64)])) (x_Mo_cell (rc_75 c X) (by rw [e_Mo_cell, kZ_of (M_isCell_t hs hA hk), if_pos rfl, sel_at (j := 1) (by omega) rfl, bO (g75_0 c X), bO (x76 (i66 k) (by omega)), A_r hA hk]))
      · exact ok_0 h (r := iS (fun l => decide (l < 4) && bwi S.1 l k)) (x_RP_cell (rc_3 c X) (by rw [e_RP_cell, bO (g3_0 c X), bO (g4_0 c X), kZ_of (M_has_t hs hG hk), if_pos rfl, sel_at (j := 2) (by omega) rfl, kI_of (M_leversOf hG hk64)])) (x_Mo_cell (rc_75 c X) (by rw [e_Mo_cell, kZ_of (M_isCell_t hs hA hk), if_pos rfl, sel_at (j := 2) (by omega) rfl, kI_of (M_switchesOf hs hA hk)]))
      · have hEs : ∀ c, decide (c = k) = true → c < bn S.1 := fun c hc => by rw [of_decide_eq_true hc]; exact hk
        exact ok_0 h (r := nI (fb_ct (fun c => sar S.1 (fun i => decide (i = k)) c && bop S.1 c) 64)) (x_RP_cell (rc_3 c X) (by rw [e_RP_cell, bO (g3_0 c X), bO (g4_0 c X), kZ_of (M_has_t hs hG hk), if_pos rfl, sel_at (j := 3) (by omega) rfl, kL_of (M_bit hk64 _), kL_of (M_around hs hG hEs), kL_of (M_gopen hG), LS_and, kI_of (M_size _ _)])) (x_Mo_cell (rc_75 c X) (by rw [e_Mo_cell, kZ_of (M_isCell_t hs hA hk), if_pos rfl, sel_at (j := 3) (by omega) rfl, kI_of (M_openBeside hs hA hk)]))
      · obtain ⟨g, f1⟩ := M_mbehind (c := c) hs hA hk
        have hct : fb_ct (sit S.1 false (bon S.1 k) 16) 64 = fb_ct (fun y => decide (0 < fw S.1 k y)) 64 := fb_ct_cong fun i _ => sit_fall hs k i
        exact ok_q h (r := nI (fb_ct (fun y => decide (0 < fw S.1 k y)) 64)) (x_RP_cell (rc_3 c X) (by rw [e_RP_cell, bO (g3_0 c X), bO (g4_0 c X), kZ_of (M_has_t hs hG hk), if_pos rfl, sel_at (j := 4) (by omega) rfl, kL_of (M_behind hs hG hk64), kI_of (M_size _ _), hct])) (fRm_refl _ _ _) (x_Mo_cell (rc_75 c X) (by rw [e_Mo_cell, kZ_of (M_isCell_t hs hA hk), if_pos rfl, sel_at (j := 4) (by omega) rfl, kI_of f1])) (rS_aJ (rS_refl _) (by omega) (by omega))
      · obtain ⟨X', v, A, P, e1, e2, e3, e4⟩ := C_pass (c := c) hs hG false
        have hr : rBd (X'.1 76) S.1 := by rw [(e4 76 (by omega)).1]; exact hA
        obtain ⟨Y, v2, ns, f1, f2, f3⟩ := M_isInPass (c := c) hs hb.2.2.1 hr false hk
        have heq := (FlowR_eq hs e2 f2).2 k hk
        exact ok_q h (r := ix_bi (A k && !P k)) (x_RP_cell (rc_3 c X) (by rw [e_RP_cell, bO (g3_0 c X), bO (g4_0 c X), kZ_of (M_has_t hs hG hk), if_pos rfl, sel_at (j := 5) (by omega) rfl, show (0 : Int32) = ix_bi false from rfl, kL_of e1, kZ_of (M_holds _ hk64 _), kI_of (M_flag _ _)])) e4 (x_Mo_cell (rc_75 c X') (by rw [e_Mo_cell, kZ_of (M_isCell_t hs hr hk), if_pos rfl, sel_at (j := 5) (by omega) rfl, show nI 5 - 5 = ix_bi false from by decide, kZ_of f1, flag_if, heq.1, heq.2])) f3
      · obtain ⟨X', v, A, P, e1, e2, e3, e4⟩ := C_pass (c := c) hs hG true
        have hr : rBd (X'.1 76) S.1 := by rw [(e4 76 (by omega)).1]; exact hA
        obtain ⟨Y, v2, ns, f1, f2, f3⟩ := M_isInPass (c := c) hs hb.2.2.1 hr true hk
        have heq := (FlowR_eq hs e2 f2).2 k hk
        exact ok_q h (r := ix_bi (A k && !P k)) (x_RP_cell (rc_3 c X) (by rw [e_RP_cell, bO (g3_0 c X), bO (g4_0 c X), kZ_of (M_has_t hs hG hk), if_pos rfl, sel_at (j := 6) (by omega) rfl, show (1 : Int32) = ix_bi true from rfl, kL_of e1, kZ_of (M_holds _ hk64 _), kI_of (M_flag _ _)])) e4 (x_Mo_cell (rc_75 c X') (by rw [e_Mo_cell, kZ_of (M_isCell_t hs hr hk), if_pos rfl, sel_at (j := 6) (by omega) rfl, show nI 6 - 5 = ix_bi true from by decide, kZ_of f1, flag_if, heq.1, heq.2])) f3
      · obtain ⟨X', G, e1, e2, e3⟩ := C_firstGroup (c := c) hs hG
        have hr : rBd (X'.1 76) S.1 := by rw [(e3 76 (by omega)).1]; exact hA
        obtain ⟨Y, f1, f2⟩ := M_isInFirstGroup (c := c) hs hb.2.2.1 hr e2 hk
        exact ok_q h (r := ix_bi (G k)) (x_RP_cell (rc_3 c X) (by rw [e_RP_cell, bO (g3_0 c X), bO (g4_0 c X), kZ_of (M_has_t hs hG hk), if_pos rfl, sel_at (j := 7) (by omega) rfl, kL_of e1, kZ_of (M_holds _ hk64 _), kI_of (M_flag _ _)])) e3 (x_Mo_cell (rc_75 c X') (by rw [e_Mo_cell, kZ_of (M_isCell_t hs hr hk), if_pos rfl, sel_at (j := 7) (by omega) rfl, kZ_of f1, flag_if])) f2
      · obtain ⟨X', r, e1, e2, e3⟩ := C_someGroup (c := c) hs hG hk
        have hr : rBd (X'.1 76) S.1 := by rw [(e2 76 (by omega)).1]; exact hA
        obtain ⟨Y, r2, f1, f2, f3⟩ := M_isInSomeGroup (c := c) hs hb.2.2.1 hr hk
        have hrr : r = r2 := by
          rcases e3 with ⟨a1, a2⟩ | ⟨a1, a, b, a2, a3, a4⟩
          · rcases f3 with ⟨b1, b2⟩ | ⟨b1, _⟩
            · rw [a2, b2]
            · rw [a1] at b1; cases b1
          · rcases f3 with ⟨b1, _⟩ | ⟨_, a', b', b2, b3, b4⟩
            · rw [a1] at b1; cases b1
            · rw [a4, b4, isW_eq a2 b2, isW_eq a3 b3]
        exact ok_q h (r := ix_bi r) (x_RP_cell (rc_3 c X) (by rw [e_RP_cell, bO (g3_0 c X), bO (g4_0 c X), kZ_of (M_has_t hs hG hk), if_pos rfl, sel_at (j := 8) (by omega) rfl, kZ_of e1, kI_of (M_flag _ _)])) e2 (x_Mo_cell (rc_75 c X') (by rw [e_Mo_cell, kZ_of (M_isCell_t hs hr hk), if_pos rfl, sel_at (j := 8) (by omega) rfl, kZ_of f1, flag_if, hrr])) f2
    · have hne : ∀ k, 0 ≤ k → k < 0 + 9 → ¬ x2 = nI k := fun k _ hk => i_out (by omega) hy (by omega)
      exact ok_0 h (r := -2) (x_RP_cell (rc_3 c X) (by rw [e_RP_cell, bO (g3_0 c X), bO (g4_0 c X), kZ_of (M_has_t hs hG hk), if_pos rfl]; exact sel_out _ 0 hne)) (x_Mo_cell (rc_75 c X) (by rw [e_Mo_cell, kZ_of (M_isCell_t hs hA hk), if_pos rfl]; exact sel_out _ 0 hne))
  · exact ok_0 h (r := -1) (x_RP_cell (rc_3 c X) (by rw [e_RP_cell, bO (g3_0 c X), bO (g4_0 c X), kZ_of (M_has_f hG hx), if_neg (by decide)])) (x_Mo_cell (rc_75 c X) (by rw [e_Mo_cell, kZ_of (M_isCell_f hs hA hx), if_neg (by decide)]))
