/-! BOARDS -/
theorem lit_nle {x : Int32} {a k : Nat} (hx : x = nI a) (h : k < a) (ha : a < 2147483648) : ¬ x ≤ nI k := by
  rw [hx, nI_leI (by omega) (by omega)]
  omega
theorem lit_le {x : Int32} {a k : Nat} (hx : x = nI a) (h : a ≤ k) (hk : k < 2147483648) : x ≤ nI k := by
  rw [hx, nI_leI (by omega) (by omega)]
  omega
theorem aI_o {a b : Nat} (h : ¬ b = a) (X : ixX) (f : Nat → Int32) : (aI X a f).1 b = X.1 b := if_neg h
theorem aJ_o {a b : Nat} (h : ¬ b = a) (X : ixX) (f : Nat → Int64) : (aJ X a f).2 b = X.2 b := if_neg h
theorem md_sub {c j w : Nat} (hj : j < w) (hc : j ≤ c) : (c - j) % w = 0 ↔ c % w = j := by
  constructor
  · intro h
    have e : c = (c - j) + j := by omega
    rw [e, Nat.add_mod, h, Nat.zero_add, Nat.mod_mod, Nat.mod_eq_of_lt hj]
  · intro h
    have e := Nat.div_add_mod c w
    rw [h] at e
    have e2 : c - j = w * (c / w) := by omega
    rw [e2]
    exact Nat.mul_mod_right _ _
theorem md_lt {c j w h : Nat} (hj : c % w = j) (hw : 0 < w) : c - j < w * h ↔ c < w * h := by
  have e := Nat.div_add_mod c w
  have e0 := Nat.mod_lt c hw
  constructor
  · intro q
    have q2 : w * (c / w) < w * h := by omega
    have q3 : c / w < h := Nat.lt_of_mul_lt_mul_left q2
    have q4 : w * (c / w + 1) ≤ w * h := Nat.mul_le_mul_left w q3
    rw [Nat.mul_add, Nat.mul_one] at q4
    omega
  · intro q
    omega
theorem md_succ {c w : Nat} (hw : 0 < w) : (c + 1) % w = 0 ↔ c % w = w - 1 := by
  have e0 := Nat.mod_lt c hw
  constructor
  · intro h
    rcases Nat.lt_or_ge (c % w + 1) w with q | q
    · have e : (c + 1) % w = (c % w + 1) % w := (Nat.mod_add_mod c w 1).symm
      rw [e, Nat.mod_eq_of_lt q] at h
      omega
    · omega
  · intro h
    have e := Nat.div_add_mod c w
    have e2 : c + 1 = w * (c / w + 1) := by rw [Nat.mul_add, Nat.mul_one]; omega
    rw [e2]
    exact Nat.mul_mod_right _ _
theorem md_mul {c k w : Nat} (h : c % w = 0) (hw : 0 < w) : c < (k + 1) * w ↔ (c < k * w ∨ c = k * w) := by
  have e := Nat.div_add_mod c w
  rw [h, Nat.add_zero, Nat.mul_comm] at e
  generalize c / w = q at e
  subst e
  rw [Nat.mul_lt_mul_right hw, Nat.mul_lt_mul_right hw]
  constructor
  · intro g
    rcases Nat.lt_or_ge q k with g2 | g2
    · exact .inl g2
    · have : q = k := by omega
      exact .inr (by rw [this])
  · rintro (g | g)
    · omega
    · have := Nat.eq_of_mul_eq_mul_right hw g
      omega
def newB (w h : Nat) : bT := (w, h, fun _ => false, fun _ => 0, fun _ _ => false, [], fun _ => [])
theorem newB_OK {w h : Nat} (h1 : 2 ≤ w) (h2 : w ≤ 8) (h3 : 2 ≤ h) (h4 : h ≤ 8) : bOK (newB w h) := ⟨⟨h1, h2, h3, h4⟩, fun c _ => ⟨rfl, rfl, fun _ => rfl⟩, fun c => by show 0 < 4; omega, by show 0 ≤ 4; omega, fun i hi => absurd hi (Nat.not_lt_zero i), fun s => ⟨List.nodup_nil, fun c hc => by cases hc⟩⟩
theorem M_shape {c : ixK} {X : ixX} {w h : Nat} (h1 : 2 ≤ w) (h2 : w ≤ 8) (h3 : 2 ≤ h) (h4 : h ≤ 8) : ∃ X', ix_M mGr_shape [.ref 5, .int (nI w), .int (nI h)] (hp c X) = some ([], hp c X') ∧ cG 4 X' (newB w h) ∧ fRm 5 8 X X' := by
  have hn : w * h ≤ 64 := Nat.mul_le_mul h2 h4
  have hw : 0 < w := by omega
  -- the firsts
  have eA : ∀ Y : ixX, Y.1 5 0 = nI w → Y.1 5 1 = nI h → l_Gr_shape_20 5 0 0 (hp c Y) = l_Gr_shape_51 5 (LSt (fun c => decide (c % w = 0) && decide (c < h * w))) 0 (hp c Y) := by
    intro Y y0 y1
    have e := lp_f (fun k s => l_Gr_shape_20 5 s (nI k) (hp c Y)) (fun k => LSt (fun c => decide (c % w = 0) && decide (c < k * w))) (N := h) (fun k hk => by
      show l_Gr_shape_20 5 (LSt (fun c => decide (c % w = 0) && decide (c < k * w))) (nI k) (hp c Y) = l_Gr_shape_20 5 (LSt (fun c => decide (c % w = 0) && decide (c < (k + 1) * w))) (nI (k + 1)) (hp c Y)
      have hkw : k * w < 64 := by
        have : (k + 1) * w ≤ h * w := Nat.mul_le_mul_right w hk
        rw [Nat.succ_mul, Nat.mul_comm h w] at this
        omega
      rw [e_Gr_shape_20, bO (g5_1 c Y), y1, if_neg (by rw [nI_leI (by omega) (by omega)]; omega), bO (g5_0 c Y), y0, nI_mul, kL_of (M_bit hkw _), LS_or, nI_1]
      congr 1
      refine LS_cong (fun i hi => ?_)
      rw [Bool.eq_iff_iff]
      simp only [Bool.or_eq_true, Bool.and_eq_true, decide_eq_true_eq]
      constructor
      · rintro (g | g)
        · exact ⟨g.1, (md_mul g.1 hw).mpr (.inl g.2)⟩
        · have g1 : i % w = 0 := by rw [g]; exact Nat.mul_mod_left _ _
          exact ⟨g1, (md_mul g1 hw).mpr (.inr g)⟩
      · rintro ⟨g1, g2⟩
        rcases (md_mul g1 hw).mp g2 with g | g
        · exact .inl ⟨g1, g⟩
        · exact .inr g) (k := 0) (by omega)
    have e2 : l_Gr_shape_20 5 (LSt (fun c => decide (c % w = 0) && decide (c < 0 * w))) (nI 0) (hp c Y) = l_Gr_shape_20 5 (LSt (fun c => decide (c % w = 0) && decide (c < h * w))) (nI h) (hp c Y) := e
    have e3 : (0 : Int64) = LSt (fun c => decide (c % w = 0) && decide (c < 0 * w)) := by
      rw [LS_0]
      exact LS_cong (fun i hi => by rw [Nat.zero_mul]; simp)
    have e4 : l_Gr_shape_20 5 0 0 (hp c Y) = l_Gr_shape_20 5 (LSt (fun c => decide (c % w = 0) && decide (c < 0 * w))) (nI 0) (hp c Y) := by rw [← e3]; rfl
    rw [e4, e2, e_Gr_shape_20, bO (g5_1 c Y), y1, if_pos (by rw [nI_leI (by omega) (by omega)]; omega)]
  -- the cells
  have eB : ∀ Y : ixX, Y.1 5 0 = nI w → Y.2 5 2 = 0 → ∃ g, l_Gr_shape_51 5 (LSt (fun c => decide (c % w = 0) && decide (c < h * w))) 0 (hp c Y) = l_Gr_shape_51 5 (LSt (fun c => decide (c % w = 0) && decide (c < h * w))) (nI w) (hp c (aJ Y 5 g)) ∧ g 2 = LSt (fun c => decide (c < w * h)) := by
    intro Y y0 y2
    obtain ⟨g, e, hg⟩ := lp_up (fun k (g : Nat → Int64) => l_Gr_shape_51 5 (LSt (fun c => decide (c % w = 0) && decide (c < h * w))) (nI k) (hp c (aJ Y 5 g))) (fun k g => g 2 = LSt (fun c => decide (c % w < k) && decide (c < w * h))) (N := w) (fun k g hk hg => by
      refine ⟨vp_updL g 2 (g 2 ||| ix_shl (LSt (fun c => decide (c % w = 0) && decide (c < h * w))) (nI k)), ?_, ?_⟩
      · show l_Gr_shape_51 5 _ (nI k) (hp c (aJ Y 5 g)) = l_Gr_shape_51 5 _ (nI (k + 1)) (hp c (aJ Y 5 _))
        rw [e_Gr_shape_51, bO (g5_0 c _), aJ_2, y0, if_neg (by rw [nI_leI (by omega) (by omega)]; omega), bO (g5_2 c _), bO (p5_2 c _ _), aJ_1, aJ_aJ, nI_1]
      · show vp_updL g 2 _ 2 = _
        rw [updL_1, hg, LS_shl _ (by omega), LS_or]
        refine LS_cong (fun i hi => ?_)
        rw [Bool.eq_iff_iff]
        simp only [Bool.or_eq_true, Bool.and_eq_true, decide_eq_true_eq]
        rw [Nat.mul_comm h w]
        constructor
        · rintro (q | q)
          · exact ⟨by omega, q.2⟩
          · have q1 := (md_sub hk q.1).mp q.2.1
            exact ⟨by omega, (md_lt q1 hw).mp q.2.2⟩
        · rintro ⟨q1, q2⟩
          rcases Nat.lt_or_ge (i % w) k with q3 | q3
          · exact .inl ⟨q3, q2⟩
          · have q4 : i % w = k := by omega
            have q5 : k ≤ i := by rw [← q4]; exact Nat.mod_le _ _
            exact .inr ⟨q5, (md_sub hk q5).mpr q4, (md_lt q4 hw).mpr q2⟩) (k := 0) (s := Y.2 5) (by omega) (by
        rw [y2, LS_0]
        exact LS_cong (fun i hi => by simp))
    refine ⟨g, ?_, ?_⟩
    · have e2 : l_Gr_shape_51 5 (LSt (fun c => decide (c % w = 0) && decide (c < h * w))) (nI 0) (hp c (aJ Y 5 (Y.2 5))) = l_Gr_shape_51 5 (LSt (fun c => decide (c % w = 0) && decide (c < h * w))) (nI w) (hp c (aJ Y 5 g)) := e
      rw [aJ_self] at e2
      exact e2
    · rw [hg]
      exact LS_cong (fun i hi => by rw [decide_eq_true (Nat.mod_lt i hw)]; rfl)
  -- roles and wires
  have eC : ∀ Y : ixX, ∃ g, l_Gr_shape_122 5 0 (hp c Y) = l_Gr_shape_145 5 0 (hp c (aJ Y 6 g)) ∧ ∀ r, r < 4 → g r = 0 := by
    intro Y
    obtain ⟨g, e, hg⟩ := lp_up (fun k (g : Nat → Int64) => l_Gr_shape_122 5 (nI k) (hp c (aJ Y 6 g))) (fun k g => ∀ r, r < k → g r = 0) (N := 4) (fun k g hk hg => by
      refine ⟨vp_updL g k 0, ?_, ?_⟩
      · show l_Gr_shape_122 5 (nI k) (hp c (aJ Y 6 g)) = l_Gr_shape_122 5 (nI (k + 1)) (hp c (aJ Y 6 _))
        rw [e_Gr_shape_122, if_neg (lit_nle (x := 4) (a := 4) (k := k) rfl (by omega) (by omega)), bO (g5_6 c _), bO (s6_ hk), aJ_1, aJ_aJ, nI_1]
      · intro r hr
        by_cases q : r = k
        · rw [q, updL_1]
        · rw [updL_n _ _ q]; exact hg r (by omega)) (k := 0) (s := Y.2 6) (by omega) (fun r hr => absurd hr (Nat.not_lt_zero r))
    refine ⟨g, ?_, hg⟩
    have e2 : l_Gr_shape_122 5 (nI 0) (hp c (aJ Y 6 (Y.2 6))) = l_Gr_shape_122 5 (nI 4) (hp c (aJ Y 6 g)) := e
    rw [aJ_self] at e2
    rw [show (0 : Int32) = nI 0 from rfl, e2, e_Gr_shape_122, if_pos (show (4 : Int32) ≤ nI 4 by decide)]
    rfl
  have eD : ∀ Y : ixX, ∃ g, l_Gr_shape_145 5 0 (hp c Y) = some ([], hp c (aJ Y 7 g)) ∧ ∀ r, r < 4 → g r = 0 := by
    intro Y
    obtain ⟨g, e, hg⟩ := lp_up (fun k (g : Nat → Int64) => l_Gr_shape_145 5 (nI k) (hp c (aJ Y 7 g))) (fun k g => ∀ r, r < k → g r = 0) (N := 4) (fun k g hk hg => by
      refine ⟨vp_updL g k 0, ?_, ?_⟩
      · show l_Gr_shape_145 5 (nI k) (hp c (aJ Y 7 g)) = l_Gr_shape_145 5 (nI (k + 1)) (hp c (aJ Y 7 _))
        rw [e_Gr_shape_145, if_neg (lit_nle (x := 4) (a := 4) (k := k) rfl (by omega) (by omega)), bO (g5_7 c _), bO (s7 hk), aJ_1, aJ_aJ, nI_1]
      · intro r hr
        by_cases q : r = k
        · rw [q, updL_1]
        · rw [updL_n _ _ q]; exact hg r (by omega)) (k := 0) (s := Y.2 7) (by omega) (fun r hr => absurd hr (Nat.not_lt_zero r))
    refine ⟨g, ?_, hg⟩
    have e2 : l_Gr_shape_145 5 (nI 0) (hp c (aJ Y 7 (Y.2 7))) = l_Gr_shape_145 5 (nI 4) (hp c (aJ Y 7 g)) := e
    rw [aJ_self] at e2
    rw [show (0 : Int32) = nI 0 from rfl, e2, e_Gr_shape_145, if_pos (show (4 : Int32) ≤ nI 4 by decide)]
  -- together
  obtain ⟨Y0, hY0⟩ : ∃ Y, Y = aJ (aI (aI X 5 (upd (X.1 5) 0 (nI w))) 5 (upd ((aI X 5 (upd (X.1 5) 0 (nI w))).1 5) 1 (nI h))) 5 (vp_updL (X.2 5) 2 0) := ⟨_, rfl⟩
  have y0 : Y0.1 5 0 = nI w := by rw [hY0, aJ_2, aI_1, upd_n _ _ (by omega), aI_1, upd_1]
  have y1 : Y0.1 5 1 = nI h := by rw [hY0, aJ_2, aI_1, upd_1]
  have y2 : Y0.2 5 2 = 0 := by rw [hY0, aJ_1, updL_1]
  have f0 : fRm 5 8 X Y0 := by
    rw [hY0]
    exact fRm_aJ (fRm_aI (fRm_aI (fRm_refl _ _ _) (by omega) (by omega)) (by omega) (by omega)) (by omega) (by omega)
  obtain ⟨g1, a1, b1⟩ := eB Y0 y0 y2
  obtain ⟨Y1, hY1⟩ : ∃ Y, Y = aJ (aJ (aJ (aJ Y0 5 g1) 5 (vp_updL g1 3 (LSt (fun c => decide (c < w * h) && !decide (c % w = 0))))) 5 (vp_updL (vp_updL g1 3 (LSt (fun c => decide (c < w * h) && !decide (c % w = 0)))) 4 (LSt (fun c => decide (c < w * h) && !decide ((c + 1) % w = 0))))) 5 (vp_updL (vp_updL (vp_updL g1 3 (LSt (fun c => decide (c < w * h) && !decide (c % w = 0)))) 4 (LSt (fun c => decide (c < w * h) && !decide ((c + 1) % w = 0)))) 5 0) := ⟨_, rfl⟩
  have e1 : l_Gr_shape_51 5 (LSt (fun c => decide (c % w = 0) && decide (c < h * w))) (nI w) (hp c (aJ Y0 5 g1)) = l_Gr_shape_122 5 0 (hp c Y1) := by
    have n1 : LSt (fun c => decide (c < w * h)) &&& (LSt (fun c => decide (c % w = 0) && decide (c < h * w)) ^^^ -1) = LSt (fun c => decide (c < w * h) && !decide (c % w = 0)) := by
      rw [LS_not, LS_and]
      refine LS_cong (fun i hi => ?_)
      rw [Nat.mul_comm h w]
      cases decide (i < w * h) <;> cases decide (i % w = 0) <;> rfl
    have n2 : LSt (fun c => decide (c < w * h)) &&& (ix_shl (LSt (fun c => decide (c % w = 0) && decide (c < h * w))) (nI (w - 1)) ^^^ -1) = LSt (fun c => decide (c < w * h) && !decide ((c + 1) % w = 0)) := by
      rw [LS_shl _ (by omega), LS_not, LS_and]
      refine LS_cong (fun i hi => ?_)
      rw [Nat.mul_comm h w]
      by_cases q : i < w * h
      · rw [decide_eq_true q, Bool.true_and, Bool.true_and]
        congr 1
        rw [Bool.eq_iff_iff]
        simp only [Bool.and_eq_true, decide_eq_true_eq]
        rw [md_succ hw]
        constructor
        · rintro ⟨q1, q2, q3⟩
          exact (md_sub (by omega) q1).mp q2
        · intro q2
          have q5 : w - 1 ≤ i := by rw [← q2]; exact Nat.mod_le _ _
          exact ⟨q5, (md_sub (by omega) q5).mpr q2, (md_lt q2 hw).mpr q⟩
      · rw [decide_eq_false q]
        rfl
    have e3 : nI w - 1 = nI (w - 1) := nI_sub (b := 1) (by omega)
    rw [e_Gr_shape_51, bO (g5_0 c _), aJ_2, y0, if_pos (by rw [nI_leI (by omega) (by omega)]; omega), bO (g5_2 c _), aJ_1, b1, n1, bO (p5_3 c _ _), aJ_1, bO (g5_2 c _), aJ_1, updL_n _ _ (by omega), b1, bO (g5_0 c _), aJ_2, aJ_2, y0, e3, n2, bO (p5_4 c _ _), aJ_1, bO (p5_5 c _ _), aJ_1, hY1]
  obtain ⟨g2, a2, b2⟩ := eC Y1
  obtain ⟨g3, a3, b3⟩ := eD (aJ Y1 6 g2)
  refine ⟨aJ (aJ Y1 6 g2) 7 g3, x_Gr_shape (rc_5 c X) ?_, ⟨?_, ?_, ?_, ?_, ?_, ?_, ?_, ?_⟩, ?_⟩
  · rw [e_Gr_shape, bO (p5_0 c X _), bO (p5_1 c _ _), bO (p5_2 c _ _)]
    rw [show (aI (aI X 5 (upd (X.1 5) 0 (nI w))) 5 (upd ((aI X 5 (upd (X.1 5) 0 (nI w))).1 5) 1 (nI h))).2 5 = X.2 5 from rfl, ← hY0, eA Y0 y0 y1, a1, e1, a2, a3]
  · show (aJ (aJ Y1 6 g2) 7 g3).1 5 0 = nI w
    rw [aJ_2, aJ_2, hY1, aJ_2, aJ_2, aJ_2, aJ_2]
    exact y0
  · show (aJ (aJ Y1 6 g2) 7 g3).1 5 1 = nI h
    rw [aJ_2, aJ_2, hY1, aJ_2, aJ_2, aJ_2, aJ_2]
    exact y1
  · show (aJ (aJ Y1 6 g2) 7 g3).2 5 2 = _
    rw [aJ_o (by omega), aJ_o (by omega), hY1, aJ_1, updL_n _ _ (by omega), updL_n _ _ (by omega), updL_n _ _ (by omega), b1]
    rfl
  · show (aJ (aJ Y1 6 g2) 7 g3).2 5 3 = _
    rw [aJ_o (by omega), aJ_o (by omega), hY1, aJ_1, updL_n _ _ (by omega), updL_n _ _ (by omega), updL_1]
    rfl
  · show (aJ (aJ Y1 6 g2) 7 g3).2 5 4 = _
    rw [aJ_o (by omega), aJ_o (by omega), hY1, aJ_1, updL_n _ _ (by omega), updL_1]
    rfl
  · show (aJ (aJ Y1 6 g2) 7 g3).2 5 5 = _
    rw [aJ_o (by omega), aJ_o (by omega), hY1, aJ_1, updL_1, LS_0]
    rfl
  · intro r h5 h6
    show (aJ (aJ Y1 6 g2) 7 g3).2 6 r = _
    rw [aJ_o (by omega), aJ_1, b2 r h6, LS_0]
    refine LS_cong (fun i hi => ?_)
    show false = decide (0 = r)
    rw [decide_eq_false (by omega)]
  · intro l h5
    show (aJ (aJ Y1 6 g2) 7 g3).2 7 l = _
    rw [aJ_1, b3 l h5, LS_0]
    rfl
  · refine fRm_aJ (fRm_aJ ?_ (by omega) (by omega)) (by omega) (by omega)
    rw [hY1]
    exact fRm_aJ (fRm_aJ (fRm_aJ (fRm_aJ f0 (by omega) (by omega)) (by omega) (by omega)) (by omega) (by omega)) (by omega) (by omega)
theorem M_rkeep0 {r : Nat} (hr : rtA r) {c : ixK} {X : ixX} : ∃ X', ix_M mRt_keep [.ref r, .int 0] (hp c X) = some ([], hp c X') ∧ cR r X' [] ∧ fRm r (r + 2) X X' := by
  have e0 : ix_M mRt_firstCells [.ref r, .int 0] (hp c X) = some ([.long 0], hp c X) := x_Rt_firstCells (rt_rc hr c X) (by rw [e_Rt_firstCells, e_Rt_firstCells_5, if_pos (by decide)])
  refine ⟨_, x_Rt_keep (rt_rc hr c X) (by rw [e_Rt_keep, kL_of e0, bO (rt_p2 hr c X _), bO (rt_p1 hr c _ _)]), ⟨?_, ?_, ?_⟩, ?_⟩
  · rw [aI_1, upd_1]
    rfl
  · rw [aI_2, aJ_1, updL_1, LS_0]
    exact LS_cong (fun i hi => by simp)
  · intro k hk
    exact absurd hk (Nat.not_lt_zero k)
  · exact fRm_aI (fRm_aJ (fRm_refl _ _ _) (by omega) (by omega)) (by omega) (by omega)
theorem M_begin {c : ixK} {X : ixX} {w h : Nat} (h1 : 2 ≤ w) (h2 : w ≤ 8) (h3 : 2 ≤ h) (h4 : h ≤ 8) : ∃ X', ix_M mBd_begin [.ref 4, .int (nI w), .int (nI h)] (hp c X) = some ([], hp c X') ∧ cBd 4 X' (newB w h) ∧ fRm 4 19 X X' := by
  obtain ⟨X1, e1, a1, f1⟩ := M_shape (c := c) (X := X) h1 h2 h3 h4
  obtain ⟨X2, hX2⟩ : ∃ Y, Y = aI X1 4 (upd (X1.1 4) 4 0) := ⟨_, rfl⟩
  have f2 : fRm 4 9 X X2 := by
    rw [hX2]
    exact fRm_aI (fRm_mono f1 (by omega) (by omega)) (by omega) (by omega)
  obtain ⟨X3, e3, f3, a3⟩ := lp_up (fun k (Y : ixX) => l_Bd_begin_16 4 (nI k) (hp c Y)) (fun k Y => fRm 9 19 X2 Y ∧ ∀ s, s < k → cR (9 + 2 * s) Y []) (N := 5) (fun k Y hk hY => by
    obtain ⟨Z, e, a, f⟩ := M_rkeep0 (rtA_4 hk) (c := c) (X := Y)
    refine ⟨Z, ?_, fRm_trans hY.1 (fRm_mono f (by omega) (by omega)), ?_⟩
    · show l_Bd_begin_16 4 (nI k) (hp c Y) = l_Bd_begin_16 4 (nI (k + 1)) (hp c Z)
      rw [e_Bd_begin_16, if_neg (lit_nle (x := 5) (a := 5) (k := k) rfl (by omega) (by omega)), bO (g4_1 c _), bO (q8_ hk), kV_of e, nI_1]
    · intro s hs
      by_cases q : s = k
      · rw [q]; exact a
      · exact cR_cong (f _ (by omega)).1 (f _ (by omega)).2 (f _ (by omega)).1 (hY.2 s (by omega))) (k := 0) (s := X2) (by omega) ⟨fRm_refl _ _ _, fun s hs => absurd hs (Nat.not_lt_zero s)⟩
  have e3' : l_Bd_begin_16 4 0 (hp c X2) = l_Bd_begin_16 4 (nI 5) (hp c X3) := e3
  refine ⟨X3, x_Bd_begin (rc_4 c X) ?_, ⟨?_, ⟨?_, ?_⟩, ?_⟩, ?_⟩
  · rw [e_Bd_begin, bO (g4_0 c X), kV_of e1, bO (p4_4 c X1 0), ← hX2, e3', e_Bd_begin_16, if_pos (show (5 : Int32) ≤ nI 5 by decide)]
  · refine cG_cong (f3 _ (by omega)).1 (f3 _ (by omega)).2 (f3 _ (by omega)).2 (f3 _ (by omega)).2 ?_
    rw [hX2]
    exact cG_cong (aI_o (by omega) _ _) rfl rfl rfl a1
  · rw [(f3 4 (by omega)).1, hX2, aI_1, upd_1]
    rfl
  · intro i hi
    exact absurd hi (Nat.not_lt_zero i)
  · intro s hs
    have := a3 s hs
    rw [show 4 + 5 + 2 * s = 9 + 2 * s by omega]
    exact this
  · exact fRm_trans (fRm_mono f2 (by omega) (by omega)) (fRm_mono f3 (by omega) (by omega))
