/-! CALLS: about, check -/
theorem M_misFalling {c : ixK} {X : ixX} {B : bT} (hb : bOK B) (h : rBd (X.1 76) B) {s : Nat} (hs : s < 5) : ix_M mMo_isFalling [.ref 75, .int (nI s)] (hp c X) = some ([.int (ix_bi (vld B s && allB (rsB (brt B s)) (brt B s).length))], hp c X) := by
  have hlen := bOK_len hb s
  refine x_Mo_isFalling (rc_75 c X) ?_
  rw [e_Mo_isFalling, kZ_of (M_risValid hb h hs)]
  rcases Nat.eq_zero_or_pos (brt B s).length with z | z
  · rw [e_Mo_isFalling_8, kI_of (M_mlength h hs), z, if_pos (by decide)]
    show _ = some ([Value.int (ix_bi (vld B s && true))], hp c X)
    rw [Bool.and_true]
  · have e := lp_f (fun k b => l_Mo_isFalling_8 75 (nI s) b (nI (k + 1)) (hp c X)) (fun k => vld B s && allB (rsB (brt B s)) (k + 1)) (N := (brt B s).length - 1) (fun k hk => by
      show l_Mo_isFalling_8 75 (nI s) (vld B s && allB (rsB (brt B s)) (k + 1)) (nI (k + 1)) (hp c X) = l_Mo_isFalling_8 75 (nI s) (vld B s && (allB (rsB (brt B s)) (k + 1) && rsB (brt B s) (k + 1))) (nI (k + 1 + 1)) (hp c X)
      have c1 := bOK_64 hb (gd_mem (brt B s) (k + 1) (by omega))
      have c2 := bOK_64 hb (gd_mem (brt B s) k (by omega))
      have hrs : rsB (brt B s) (k + 1) = decide ((brt B s).getD k 0 < (brt B s).getD (k + 1) 0) := by
        unfold rsB
        rw [decide_eq_false (by omega), Bool.false_or]
        rfl
      rw [e_Mo_isFalling_8, kI_of (M_mlength h hs), if_neg (by rw [nI_leI (by omega) (by omega)]; omega), ← Bool.and_assoc, nI_1 (k + 1)]
      cases (vld B s && allB (rsB (brt B s)) (k + 1)) with
      | false => rw [if_neg (by decide)]; rfl
      | true =>
        rw [if_pos rfl, kI_of (M_mcellOf h hs (by omega) hlen), show nI (k + 1) - 1 = nI k from nI_sub (b := 1) (a := k + 1) (by omega), kI_of (M_mcellOf h hs (by omega) hlen), hrs]
        by_cases q : (brt B s).getD k 0 < (brt B s).getD (k + 1) 0
        · rw [if_neg (by rw [nI_leI (by omega) (by omega)]; omega), decide_eq_true q]; rfl
        · rw [if_pos (by rw [nI_leI (by omega) (by omega)]; omega), decide_eq_false q]; rfl) (k := 0) (by omega)
    have e' : l_Mo_isFalling_8 75 (nI s) (vld B s && allB (rsB (brt B s)) 1) 1 (hp c X) = l_Mo_isFalling_8 75 (nI s) (vld B s && allB (rsB (brt B s)) ((brt B s).length - 1 + 1)) (nI ((brt B s).length - 1 + 1)) (hp c X) := e
    have e0 : allB (rsB (brt B s)) 1 = true := rfl
    rw [e0, Bool.and_true, show (brt B s).length - 1 + 1 = (brt B s).length from by omega] at e'
    rw [e', e_Mo_isFalling_8, kI_of (M_mlength h hs), if_pos (by rw [nI_leI (by omega) (by omega)]; omega)]
theorem ct_listq {l : List Nat} (hn : l.Nodup) (hl : ∀ x, x ∈ l → x < 64) (q : Nat → Bool) : fb_ct (fun x => decide (x ∈ l) && q x) 64 = fb_ct (fun i => q (l.getD i 0)) l.length := by
  have hlen := nd_len hn hl
  have h1 : fb_ct (fun i => q (l.getD i 0)) l.length = fb_ct (fun i => decide (i < l.length) && q (l.getD i 0)) 64 := by
    rw [ct_64 (p := fun i => decide (i < l.length) && q (l.getD i 0)) hlen (fun c hc => by
      show (decide (c < l.length) && q (l.getD c 0)) = false
      rw [decide_eq_false (by omega), Bool.false_and])]
    exact fb_ct_cong (fun k hk => by rw [decide_eq_true hk, Bool.true_and])
  rw [h1]
  have l1 := ct_inj (p := fun x => decide (x ∈ l) && q x) (q := fun i => decide (i < l.length) && q (l.getD i 0)) (n := 64) (fun x i => l.getD i 0 = x) (fun x _ hx => by
    rw [Bool.and_eq_true] at hx
    obtain ⟨i, hi, e⟩ := mem_gd l x (of_decide_eq_true hx.1)
    refine ⟨i, by omega, ?_, e⟩
    show (decide (i < l.length) && q (l.getD i 0)) = true
    rw [decide_eq_true hi, e, hx.2]; rfl) (fun x x' i _ _ a b => a.symm.trans b)
  have l2 := ct_inj (p := fun i => decide (i < l.length) && q (l.getD i 0)) (q := fun x => decide (x ∈ l) && q x) (n := 64) (fun i x => l.getD i 0 = x) (fun i _ hi => by
    rw [Bool.and_eq_true] at hi
    have hm := gd_mem l i (of_decide_eq_true hi.1)
    refine ⟨l.getD i 0, hl _ hm, ?_, rfl⟩
    show (decide (l.getD i 0 ∈ l) && q (l.getD i 0)) = true
    rw [decide_eq_true hm, hi.2]; rfl) (fun i i' x hi hi' a b => by
    rw [Bool.and_eq_true] at hi hi'
    have hi := of_decide_eq_true hi.1
    have hi' := of_decide_eq_true hi'.1
    rcases Nat.lt_trichotomy i i' with w | w | w
    · exact absurd (a.trans b.symm) (nd_gd l hn i i' w hi')
    · exact w
    · exact absurd (b.trans a.symm) (nd_gd l hn i' i w hi))
  omega
theorem M_markedOn {c : ixK} {X : ixX} {B : bT} (hb : bOK B) (h : rBd (X.1 76) B) {s : Nat} (hs : s < 5) : ix_M mMo_markedOn [.ref 75, .int (nI s)] (hp c X) = some ([.int (nI (fb_ct (fun x => decide (x ∈ brt B s) && bro B 3 x) 64))], hp c X) := by
  have hlen := bOK_len hb s
  refine x_Mo_markedOn (rc_75 c X) ?_
  rw [ct_listq (hb.2.2.2.2.2 s).1 (fun x hx => bOK_64 hb hx)]
  have e := lp_f (fun k v => l_Mo_markedOn_4 75 (nI s) v (nI k) (hp c X)) (fun k => nI (fb_ct (fun i => bro B 3 ((brt B s).getD i 0)) k)) (N := (brt B s).length) (fun k hk => by
    show l_Mo_markedOn_4 75 (nI s) (nI (fb_ct (fun i => bro B 3 ((brt B s).getD i 0)) k)) (nI k) (hp c X) = l_Mo_markedOn_4 75 (nI s) (nI (fb_ct (fun i => bro B 3 ((brt B s).getD i 0)) (k + 1))) (nI (k + 1)) (hp c X)
    rw [e_Mo_markedOn_4, kI_of (M_mlength h hs), if_neg (by rw [nI_leI (by omega) (by omega)]; omega), kI_of (M_mcellOf h hs hk hlen), show (3 : Int32) = nI 3 from rfl, kZ_of (M_mhas hb.1 hb.2.2.1 h ((hb.2.2.2.2.2 s).2 _ (gd_mem _ k hk)) (by omega)), ← ct_step, nI_1 k]
    cases bro B 3 ((brt B s).getD k 0) with
    | true => rw [if_pos rfl]; rfl
    | false => rw [if_neg (by decide)]; rfl) (k := 0) (by omega)
  have e' : l_Mo_markedOn_4 75 (nI s) 0 0 (hp c X) = l_Mo_markedOn_4 75 (nI s) (nI (fb_ct (fun i => bro B 3 ((brt B s).getD i 0)) (brt B s).length)) (nI (brt B s).length) (hp c X) := e
  rw [e_Mo_markedOn, e', e_Mo_markedOn_4, kI_of (M_mlength h hs), if_pos (by rw [nI_leI (by omega) (by omega)]; omega)]
theorem K_about {c : ixK} {X : ixX} {S : sT} (h : invK c X S) (x1 x2 : Int32) : okI mRP_about mMo_about [.int x1, .int x2] c X := by
  obtain ⟨hs, hG, hA, hb⟩ := invK_G h
  rcases i_cases x1 (n := 5) (by omega) with ⟨s, hs5, rfl⟩ | hx
  · have hR := c_rt h.2.1.1 hs5
    have hlen := bOK_len hb s
    have hra := rtA_4 hs5
    rcases i_cases x2 (n := 5) (by omega) with ⟨j, hj, rfl⟩ | hy
    · rcases (show j = 0 ∨ j = 1 ∨ j = 2 ∨ j = 3 ∨ j = 4 by omega) with rfl | rfl | rfl | rfl | rfl
      · exact ok_0 h (r := ix_bi (vld S.1 s)) (x_RP_about (rc_3 c X) (by rw [e_RP_about, kZ_of (M_isSlot_t hs5 _), if_pos rfl, bO (g3_0 c X), bO (g4_1 c X), bO (q8_ hs5), sel_at (j := 0) (by omega) rfl, kZ_of (M_cisValid hb h.2.1.1 hs5), kI_of (M_flag _ _)])) (x_Mo_about (rc_75 c X) (by rw [e_Mo_about, kZ_of (M_misSlot_t hs5 _), if_pos rfl, sel_at (j := 0) (by omega) rfl, kZ_of (M_risValid hb hA hs5), flag_if]))
      · refine ok_0 h (r := ix_bi (vld S.1 s && allB (rsB (brt S.1 s)) (brt S.1 s).length)) (x_RP_about (rc_3 c X) ?_) (x_Mo_about (rc_75 c X) (by rw [e_Mo_about, kZ_of (M_misSlot_t hs5 _), if_pos rfl, sel_at (j := 1) (by omega) rfl, kZ_of (M_misFalling hb hA hs5), flag_if]))
        rw [e_RP_about, kZ_of (M_isSlot_t hs5 _), if_pos rfl, bO (g3_0 c X), bO (g4_1 c X), bO (q8_ hs5), sel_at (j := 1) (by omega) rfl, kZ_of (M_cisValid hb h.2.1.1 hs5)]
        cases vld S.1 s with
        | false => rw [if_neg (by decide)]; exact kI_of (M_flag false _)
        | true =>
          rw [if_pos rfl, kZ_of (M_ronlyRises hra hR hlen (hb.2.2.2.2.2 s).1 (fun x hx => bOK_64 hb hx)), Bool.true_and]
          cases allB (rsB (brt S.1 s)) (brt S.1 s).length with
          | false => rw [if_neg (by decide)]; exact kI_of (M_flag false _)
          | true => rw [if_pos rfl]; exact kI_of (M_flag true _)
      · exact ok_0 h (r := ix_bi (prf S.1 s)) (x_RP_about (rc_3 c X) (by rw [e_RP_about, kZ_of (M_isSlot_t hs5 _), if_pos rfl, bO (g3_0 c X), bO (g4_1 c X), bO (q8_ hs5), sel_at (j := 2) (by omega) rfl, kZ_of (M_cisProof hb h.2.1.1 hs5), kI_of (M_flag _ _)])) (x_Mo_about (rc_75 c X) (by rw [e_Mo_about, kZ_of (M_misSlot_t hs5 _), if_pos rfl, sel_at (j := 2) (by omega) rfl, kZ_of (M_risFromTo hb hA hs5), flag_if]))
      · exact ok_0 h (r := nI (fb_ct (fun x => decide (x ∈ brt S.1 s) && bro S.1 3 x) 64)) (x_RP_about (rc_3 c X) (by rw [e_RP_about, kZ_of (M_isSlot_t hs5 _), if_pos rfl, bO (g3_0 c X), bO (g4_1 c X), bO (q8_ hs5), sel_at (j := 3) (by omega) rfl, bO (rt_g2 hra c X), hR.2.1, bO (g3_0 c X), bO (g4_0 c X), show (3 : Int32) = nI 3 from rfl, kL_of (M_openWith hG (by omega) (by omega)), LS_and, kI_of (M_size _ _)])) (x_Mo_about (rc_75 c X) (by rw [e_Mo_about, kZ_of (M_misSlot_t hs5 _), if_pos rfl, sel_at (j := 3) (by omega) rfl, kI_of (M_markedOn hb hA hs5)]))
      · exact ok_0 h (r := iS (fun t => decide (t < 5) && mtS S.1 s t)) (x_RP_about (rc_3 c X) (by rw [e_RP_about, kZ_of (M_isSlot_t hs5 _), if_pos rfl, bO (g3_0 c X), bO (g4_1 c X), bO (q8_ hs5), sel_at (j := 4) (by omega) rfl, kI_of (M_slotsMet hb h.2.1.1 hs5)])) (x_Mo_about (rc_75 c X) (by rw [e_Mo_about, kZ_of (M_misSlot_t hs5 _), if_pos rfl, sel_at (j := 4) (by omega) rfl, kI_of (M_meets hb hA hs5)]))
    · have hne : ∀ k, 0 ≤ k → k < 0 + 5 → ¬ x2 = nI k := fun k _ hk => i_out (by omega) hy (by omega)
      exact ok_0 h (r := -2) (x_RP_about (rc_3 c X) (by rw [e_RP_about, kZ_of (M_isSlot_t hs5 _), if_pos rfl, bO (g3_0 c X), bO (g4_1 c X), bO (q8_ hs5)]; exact sel_out _ 0 hne)) (x_Mo_about (rc_75 c X) (by rw [e_Mo_about, kZ_of (M_misSlot_t hs5 _), if_pos rfl]; exact sel_out _ 0 hne))
  · exact ok_0 h (r := -1) (x_RP_about (rc_3 c X) (by rw [e_RP_about, kZ_of (M_isSlot_f hx _), if_neg (by decide)])) (x_Mo_about (rc_75 c X) (by rw [e_Mo_about, kZ_of (M_misSlot_f hx _), if_neg (by decide)]))
/-! check -/
def sn (B : bT) (m : Int32) (x : Nat) : Nat → Bool
  | 0 => false
  | k + 1 => sn B m x k || (bt m k && decide (x ∈ brt B k))
theorem sn_iff (B : bT) (m : Int32) (x : Nat) : ∀ k, sn B m x k = true ↔ ∃ j, j < k ∧ bt m j = true ∧ x ∈ brt B j
  | 0 => ⟨fun h => (by cases h), fun ⟨j, h, _⟩ => absurd h (Nat.not_lt_zero j)⟩
  | k + 1 => by
    show (sn B m x k || (bt m k && decide (x ∈ brt B k))) = true ↔ _
    rw [Bool.or_eq_true, sn_iff B m x k, Bool.and_eq_true, decide_eq_true_eq]
    constructor
    · rintro (⟨j, h1, h2⟩ | h)
      · exact ⟨j, by omega, h2⟩
      · exact ⟨k, by omega, h⟩
    · rintro ⟨j, h1, h2⟩
      rcases Nat.lt_or_ge j k with q | q
      · exact .inl ⟨j, q, h2⟩
      · have e : j = k := by omega
        rw [e] at h2
        exact .inr h2
theorem bt_cases (m : Int32) {k : Nat} (hk : k < 32) : (bt m k = true ∧ (ix_ishr m (nI k)) &&& 1 = 1 ∧ ¬ (ix_ishr m (nI k)) &&& 1 = 0) ∨ (bt m k = false ∧ ¬ (ix_ishr m (nI k)) &&& 1 = 1 ∧ (ix_ishr m (nI k)) &&& 1 = 0) := by
  cases q : bt m k with
  | true =>
    refine .inl ⟨rfl, (sh1_1 m hk).mpr q, fun e => ?_⟩
    have := (sh1_0 m hk).mp e
    rw [q] at this; cases this
  | false =>
    refine .inr ⟨rfl, fun e => ?_, (sh1_0 m hk).mpr q⟩
    have := (sh1_1 m hk).mp e
    rw [q] at this; cases this
theorem M_cellsOn {c : ixK} {X : ixX} {B : bT} (h : cBd 4 X B) (m : Int32) : ix_M mRP_cellsOn [.ref 3, .int m] (hp c X) = some ([.long (LSt (fun x => sn B m x 5))], hp c X) := by
  refine x_RP_cellsOn (rc_3 c X) ?_
  have e := lp_f (fun k v => l_RP_cellsOn_5 3 m v (nI k) (hp c X)) (fun k => LSt (fun x => sn B m x k)) (N := 5) (fun k hk => by
    show l_RP_cellsOn_5 3 m (LSt (fun x => sn B m x k)) (nI k) (hp c X) = l_RP_cellsOn_5 3 m (LSt (fun x => sn B m x k || (bt m k && decide (x ∈ brt B k)))) (nI (k + 1)) (hp c X)
    rw [e_RP_cellsOn_5, if_neg (lit_nle (x := 5) (a := 5) (k := k) rfl hk (by omega)), nI_1]
    rcases bt_cases m (k := k) (by omega) with ⟨q, q1, q2⟩ | ⟨q, q1, q2⟩
    · rw [if_neg (fun n => n q1), bO (g3_0 c X), bO (g4_1 c X), bO (q8_ hk), bO (rt_g2 (rtA_4 hk) c _), (c_rt h hk).2.1, LS_or, q]
      rw [LS_cong (q := fun x => sn B m x k || (true && decide (x ∈ brt B k))) (fun i _ => by rw [Bool.true_and])]
    · rw [if_pos q1, q]
      rw [LS_cong (q := fun x => sn B m x k || (false && decide (x ∈ brt B k))) (fun i _ => by rw [Bool.false_and, Bool.or_false])]) (k := 0) (by omega)
  have e' : l_RP_cellsOn_5 3 m (LSt (fun x => sn B m x 0)) 0 (hp c X) = l_RP_cellsOn_5 3 m (LSt (fun x => sn B m x 5)) (nI 5) (hp c X) := e
  rw [e_RP_cellsOn, LS_0]
  rw [show LSt (fun _ => false) = LSt (fun x => sn B m x 0) from rfl, e', e_RP_cellsOn_5, if_pos (show (5 : Int32) ≤ nI 5 by decide)]
theorem M_uncovered {c : ixK} {X : ixX} {B : bT} (hb : bOK B) (h : rBd (X.1 76) B) (m : Int32) : ix_M mMo_uncovered [.ref 75, .int m] (hp c X) = some ([.int (nI (fb_ct (fun x => bro B 3 x && !sn B m x 5) 64))], hp c X) := by
  have h64 := bS_64 hb.1
  refine x_Mo_uncovered (rc_75 c X) ?_
  rw [ct_64 (p := fun x => bro B 3 x && !sn B m x 5) h64 (fun x hx => by
    show (bro B 3 x && !sn B m x 5) = false
    cases q : bro B 3 x with
    | false => rfl
    | true => exact absurd (bro_lt q) (by omega))]
  have inner : ∀ x, x < bn B → ∀ v, l_Mo_uncovered_23 75 m v (nI x) (bro B 3 x) 0 (hp c X) = l_Mo_uncovered_23 75 m v (nI x) (bro B 3 x && !sn B m x 5) (nI 5) (hp c X) := by
    intro x hx v
    have e := lp_f (fun k b => l_Mo_uncovered_23 75 m v (nI x) b (nI k) (hp c X)) (fun k => bro B 3 x && !sn B m x k) (N := 5) (fun k hk => by
      show l_Mo_uncovered_23 75 m v (nI x) (bro B 3 x && !sn B m x k) (nI k) (hp c X) = l_Mo_uncovered_23 75 m v (nI x) (bro B 3 x && !(sn B m x k || (bt m k && decide (x ∈ brt B k)))) (nI (k + 1)) (hp c X)
      have hlt := bOK_len hb k
      rw [Bool.not_or, ← Bool.and_assoc, e_Mo_uncovered_23, if_neg (lit_nle (x := 5) (a := 5) (k := k) rfl hk (by omega)), nI_1 k]
      cases (bro B 3 x && !sn B m x k) with
      | false => rw [if_neg (by decide)]; rfl
      | true =>
        rw [if_pos rfl]
        rcases bt_cases m (k := k) (by omega) with ⟨q, q1, q2⟩ | ⟨q, q1, q2⟩
        · rw [if_neg q2, q]
          by_cases hm : x ∈ brt B k
          · obtain ⟨i, hi, ei⟩ := mem_gd _ _ hm
            rw [kI_of (M_mindexOf_t hb h hk (by omega) hi ei), if_pos (nI_pos' (by omega)), decide_eq_true hm]; rfl
          · rw [kI_of (M_mindexOf_f hb h hk (by omega) hm), if_neg (by decide), decide_eq_false hm]; rfl
        · rw [if_pos q2, q]; rfl) (k := 0) (by omega)
    have e' : l_Mo_uncovered_23 75 m v (nI x) (bro B 3 x && !sn B m x 0) 0 (hp c X) = l_Mo_uncovered_23 75 m v (nI x) (bro B 3 x && !sn B m x 5) (nI 5) (hp c X) := e
    rw [← e']
    show _ = l_Mo_uncovered_23 75 m v (nI x) (bro B 3 x && true) 0 (hp c X)
    rw [Bool.and_true]
  have e := lp_f (fun k v => l_Mo_uncovered_4 75 m v (nI k) (hp c X)) (fun k => nI (fb_ct (fun x => bro B 3 x && !sn B m x 5) k)) (N := bn B) (fun k hk => by
    show l_Mo_uncovered_4 75 m (nI (fb_ct (fun x => bro B 3 x && !sn B m x 5) k)) (nI k) (hp c X) = l_Mo_uncovered_4 75 m (nI (fb_ct (fun x => bro B 3 x && !sn B m x 5) (k + 1))) (nI (k + 1)) (hp c X)
    rw [e_Mo_uncovered_4, kI_of (M_mcells h), if_neg (by rw [nI_leI (by omega) (by omega)]; omega), show (3 : Int32) = nI 3 from rfl, kZ_of (M_mhas hb.1 hb.2.2.1 h hk (by omega)), inner k hk, e_Mo_uncovered_23, if_pos (show (5 : Int32) ≤ nI 5 by decide), ← ct_step, nI_1 k]
    cases (bro B 3 k && !sn B m k 5) with
    | true => rw [if_pos rfl]; rfl
    | false => rw [if_neg (by decide)]; rfl) (k := 0) (by omega)
  have e' : l_Mo_uncovered_4 75 m 0 0 (hp c X) = l_Mo_uncovered_4 75 m (nI (fb_ct (fun x => bro B 3 x && !sn B m x 5) (bn B))) (nI (bn B)) (hp c X) := e
  rw [e_Mo_uncovered, e', e_Mo_uncovered_4, kI_of (M_mcells h), if_pos (by rw [nI_leI (by omega) (by omega)]; omega)]
def prAll (B : bT) (m : Int32) : Prop := ∀ k, k < 5 → bt m k = true → prf B k = true ∧ ∀ t, t < 5 → bt m t = true → ¬ t = k → ∀ x, x ∈ brt B k → ¬ x ∈ brt B t
theorem M_areProof {c : ixK} {X : ixX} {B : bT} (hb : bOK B) (h : cBd 4 X B) (m : Int32) : ∃ b, ix_M mRP_areProof [.ref 3, .int m] (hp c X) = some ([.int (ix_bi b)], hp c X) ∧ (b = true ↔ prAll B m) := by
  have key : ∃ b, l_RP_areProof_5 3 m (LSt (fun x => sn B m x 0)) (nI 0) (hp c X) = some ([.int (ix_bi b)], hp c X) ∧ (b = true ↔ prAll B m) := by
    rcases lp_out (fun k (_ : Unit) => l_RP_areProof_5 3 m (LSt (fun x => sn B m x k)) (nI k) (hp c X)) (fun k _ => ∀ i, i < k → bt m i = true → prf B i = true ∧ ∀ j, j < i → bt m j = true → ∀ x, x ∈ brt B i → ¬ x ∈ brt B j) (fun R => R = some ([.int (ix_bi false)], hp c X) ∧ ¬ prAll B m) (N := 5) (fun k s hk hs => by
      show (∃ s' : Unit, l_RP_areProof_5 3 m (LSt (fun x => sn B m x k)) (nI k) (hp c X) = l_RP_areProof_5 3 m (LSt (fun x => sn B m x k || (bt m k && decide (x ∈ brt B k)))) (nI (k + 1)) (hp c X) ∧ _) ∨ (l_RP_areProof_5 3 m (LSt (fun x => sn B m x k)) (nI k) (hp c X) = _ ∧ _)
      rw [e_RP_areProof_5, if_neg (lit_nle (x := 5) (a := 5) (k := k) rfl hk (by omega)), nI_1]
      rcases bt_cases m (k := k) (by omega) with ⟨q, q1, q2⟩ | ⟨q, q1, q2⟩
      · rw [if_pos q2, bO (g3_0 c X), bO (g4_1 c X), bO (q8_ hk), kZ_of (M_cisProof hb h hk)]
        cases hpf : prf B k with
        | false =>
          rw [if_neg (by decide)]
          refine .inr ⟨rfl, fun hP => ?_⟩
          have := (hP k hk q).1
          rw [hpf] at this; cases this
        | true =>
          rw [if_pos rfl, bO (rt_g2 (rtA_4 hk) c _), (c_rt h hk).2.1, LS_and]
          by_cases hz : LSt (fun i => decide (i ∈ brt B k) && sn B m i k) = 0
          · rw [if_pos hz, bO (rt_g2 (rtA_4 hk) c _), (c_rt h hk).2.1, LS_or, q]
            refine .inl ⟨(), ?_, fun i hi hbi => ?_⟩
            · rw [LS_cong (q := fun x => sn B m x k || (true && decide (x ∈ brt B k))) (fun i _ => by rw [Bool.true_and])]
            · rcases Nat.lt_or_ge i k with r | r
              · exact hs i r hbi
              · have ei : i = k := by omega
                rw [ei]
                refine ⟨hpf, fun j hj hbj x hx hx2 => ?_⟩
                have := LS_zero.mp hz x (bOK_64 hb hx)
                rw [decide_eq_true hx, Bool.true_and] at this
                have h2 := (sn_iff B m x k).mpr ⟨j, hj, hbj, hx2⟩
                rw [this] at h2; cases h2
          · rw [if_neg hz]
            refine .inr ⟨rfl, fun hP => hz (LS_zero.mpr (fun x hx => ?_))⟩
            by_cases hm : x ∈ brt B k
            · rw [decide_eq_true hm, Bool.true_and]
              cases hsn : sn B m x k with
              | false => rfl
              | true =>
                obtain ⟨j, h1, h2, h3⟩ := (sn_iff B m x k).mp hsn
                exact absurd h3 ((hP k hk q).2 j (by omega) h2 (by omega) x hm)
            · rw [decide_eq_false hm, Bool.false_and]
      · rw [if_neg (fun n => n q2), q]
        refine .inl ⟨(), ?_, fun i hi hbi => ?_⟩
        · rw [LS_cong (q := fun x => sn B m x k || (false && decide (x ∈ brt B k))) (fun i _ => by rw [Bool.false_and, Bool.or_false])]
        · rcases Nat.lt_or_ge i k with r | r
          · exact hs i r hbi
          · have ei : i = k := by omega
            rw [ei, q] at hbi; cases hbi) (k := 0) (s := ()) (by omega) (fun i hi => absurd hi (Nat.not_lt_zero i)) with ⟨_, e, hg⟩ | ⟨e, hn⟩
    · have e' : l_RP_areProof_5 3 m (LSt (fun x => sn B m x 0)) (nI 0) (hp c X) = l_RP_areProof_5 3 m (LSt (fun x => sn B m x 5)) (nI 5) (hp c X) := e
      refine ⟨true, ?_, fun _ k hk hbk => ⟨(hg k hk hbk).1, fun t ht hbt hne x hx hx2 => ?_⟩, fun _ => rfl⟩
      · rw [e', e_RP_areProof_5, if_pos (show (5 : Int32) ≤ nI 5 by decide)]
      · rcases Nat.lt_or_ge t k with r | r
        · exact (hg k hk hbk).2 t r hbt x hx hx2
        · exact (hg t ht hbt).2 k (by omega) hbk x hx2 hx
    · exact ⟨false, e, fun q => (by cases q), fun q => absurd q hn⟩
  obtain ⟨b, e, hb2⟩ := key
  refine ⟨b, x_RP_areProof (rc_3 c X) ?_, hb2⟩
  rw [e_RP_areProof, LS_0]
  exact e
theorem iS_and0 (p : Nat → Bool) (x : Int32) : iS p &&& x = 0 ↔ ∀ i, i < 16 → p i = true → bt x i = false := by
  constructor
  · intro h i hi hpi
    have := congrArg (fun z => bt z i) h
    simp only [b_and, b_0, b_iS p (show i < 32 by omega)] at this
    rw [decide_eq_true hi, hpi, Bool.true_and, Bool.true_and] at this
    exact this
  · intro h
    refine b_ext (fun i hi => ?_)
    rw [b_and, b_0, b_iS p hi]
    rcases Nat.lt_or_ge i 16 with q | q
    · rw [decide_eq_true q, Bool.true_and]
      cases hpi : p i with
      | false => rfl
      | true => rw [h i q hpi]; rfl
    · rw [decide_eq_false (by omega), Bool.false_and, Bool.false_and]
theorem M_misProof {c : ixK} {X : ixX} {B : bT} (hb : bOK B) (h : rBd (X.1 76) B) (m : Int32) : ∃ b, ix_M mMo_isProof [.ref 75, .int m] (hp c X) = some ([.int (ix_bi b)], hp c X) ∧ (b = true ↔ prAll B m) := by
  obtain ⟨b, e, hb2⟩ := lp_up (fun k b => l_Mo_isProof_4 75 m b (nI k) (hp c X)) (fun k (b : Bool) => b = true ↔ ∀ i, i < k → bt m i = true → prf B i = true ∧ ∀ t, t < 5 → bt m t = true → ¬ t = i → ∀ x, x ∈ brt B i → ¬ x ∈ brt B t) (N := 5) (fun k b hk hs => by
    show ∃ s' : Bool, l_Mo_isProof_4 75 m b (nI k) (hp c X) = l_Mo_isProof_4 75 m s' (nI (k + 1)) (hp c X) ∧ _
    rw [e_Mo_isProof_4, if_neg (lit_nle (x := 5) (a := 5) (k := k) rfl hk (by omega)), nI_1]
    rcases bt_cases m (k := k) (by omega) with ⟨q, q1, q2⟩ | ⟨q, q1, q2⟩
    · rw [if_neg (fun n => n q1)]
      cases b with
      | false =>
        rw [if_neg (by decide)]
        refine ⟨false, rfl, fun z => (by cases z), fun z => hs.mpr (fun i hi => z i (by omega))⟩
      | true =>
        rw [if_pos rfl, kZ_of (M_risFromTo hb h hk)]
        cases hpf : prf B k with
        | false =>
          rw [if_neg (by decide)]
          refine ⟨false, rfl, fun z => (by cases z), fun z => ?_⟩
          have := (z k (by omega) q).1
          rw [hpf] at this; cases this
        | true =>
          rw [if_pos rfl, kI_of (M_meets hb h hk)]
          by_cases hz : iS (fun t => decide (t < 5) && mtS B k t) &&& m = 0
          · rw [if_neg (fun n => n hz)]
            refine ⟨true, rfl, fun _ i hi hbi => ?_, fun _ => rfl⟩
            rcases Nat.lt_or_ge i k with r | r
            · exact hs.mp rfl i r hbi
            · have ei : i = k := by omega
              rw [ei]
              refine ⟨hpf, fun t ht hbt hne => ?_⟩
              refine (mtO_none B k t).mp ?_
              cases ho : mtO B k t with
              | none => rfl
              | some z =>
                have := (iS_and0 _ m).mp hz t (by omega) (by
                  show (decide (t < 5) && (!decide (t = k) && !(mtO B k t).isNone)) = true
                  rw [decide_eq_true ht, decide_eq_false hne, ho]; rfl)
                rw [hbt] at this; cases this
          · rw [if_pos hz]
            refine ⟨false, rfl, fun z => (by cases z), fun z => absurd ((iS_and0 _ m).mpr (fun t ht hm => ?_)) hz⟩
            have hm2 : (decide (t < 5) && (!decide (t = k) && !(mtO B k t).isNone)) = true := hm
            rw [Bool.and_eq_true, Bool.and_eq_true, Bool.not_eq_true', Bool.not_eq_true', decide_eq_true_eq, decide_eq_false_iff_not] at hm2
            cases hbt : bt m t with
            | false => rfl
            | true =>
              have := (mtO_none B k t).mpr ((z k (by omega) q).2 t hm2.1 hbt hm2.2.1)
              rw [this] at hm2
              cases hm2.2.2
    · rw [if_pos q1]
      refine ⟨b, rfl, fun z i hi hbi => ?_, fun z => hs.mpr (fun i hi => z i (by omega))⟩
      rcases Nat.lt_or_ge i k with r | r
      · exact hs.mp z i r hbi
      · have ei : i = k := by omega
        rw [ei, q] at hbi; cases hbi) (k := 0) (s := true) (by omega) ⟨fun _ i hi => absurd hi (Nat.not_lt_zero i), fun _ => rfl⟩
  have e' : l_Mo_isProof_4 75 m true 0 (hp c X) = l_Mo_isProof_4 75 m b (nI 5) (hp c X) := e
  refine ⟨b, x_Mo_isProof (rc_75 c X) ?_, hb2⟩
  rw [e_Mo_isProof, e', e_Mo_isProof_4, if_pos (show (5 : Int32) ≤ nI 5 by decide)]
theorem K_check {c : ixK} {X : ixX} {S : sT} (h : invK c X S) (x1 x2 : Int32) : okI mRP_check mMo_check [.int x1, .int x2] c X := by
  obtain ⟨hs, hG, hA, hb⟩ := invK_G h
  rcases i_cases x1 (n := 32) (by omega) with ⟨s, hs5, rfl⟩ | hx
  · have n0 : ¬ nI s < 0 := nI_pos (by omega)
    have n1 : nI s < 32 := by
      show nI s < nI 32
      rw [nI_ltI (by omega) (by omega)]; exact hs5
    have hin : ix_M mMo_in [.int (nI s), .int 0, .int 31] (hp c X) = some ([.int (ix_bi true)], hp c X) := M_in0_t (n := 32) hs5 (by omega) _
    rcases flag_of x2 with rfl | rfl | ⟨f0, f1, f2⟩
    · exact ok_0 h (r := nI (fb_ct (fun x => bro S.1 3 x && !sn S.1 (nI s) x 5) 64)) (x_RP_check (rc_3 c X) (by rw [e_RP_check, if_neg n0, if_pos n1, kZ_of (M_isFlag_0 _), if_pos rfl, if_neg (fun n => n rfl), bO (g3_0 c X), bO (g4_0 c X), show (3 : Int32) = nI 3 from rfl, kL_of (M_openWith hG (by omega) (by omega)), kL_of (M_cellsOn h.2.1.1 _), LS_not, LS_and, kI_of (M_size _ _)])) (x_Mo_check (rc_75 c X) (by rw [e_Mo_check, kZ_of hin, if_pos rfl, if_neg (fun n => n rfl), kI_of (M_uncovered hb hA _)]))
    · obtain ⟨b1, e1, q1⟩ := M_areProof (c := c) hb h.2.1.1 (nI s)
      obtain ⟨b2, e2, q2⟩ := M_misProof (c := c) hb hA (nI s)
      have hbb : b2 = b1 := by rw [Bool.eq_iff_iff, q1, q2]
      rw [hbb] at e2
      exact ok_0 h (r := ix_bi b1) (x_RP_check (rc_3 c X) (by rw [e_RP_check, if_neg n0, if_pos n1, kZ_of (M_isFlag_1 _), if_pos rfl, if_pos (by decide), kZ_of e1, kI_of (M_flag _ _)])) (x_Mo_check (rc_75 c X) (by rw [e_Mo_check, kZ_of hin, if_pos rfl, if_pos (by decide), if_neg (fun n => n rfl), kZ_of e2, flag_if]))
    · exact ok_0 h (r := -2) (x_RP_check (rc_3 c X) (by rw [e_RP_check, if_neg n0, if_pos n1, kZ_of (M_isFlag_f f0 f1 _), if_neg (by decide)])) (x_Mo_check (rc_75 c X) (by rw [e_Mo_check, kZ_of hin, if_pos rfl, if_pos f0, if_pos f1]))
  · have hin : ix_M mMo_in [.int x1, .int 0, .int 31] (hp c X) = some ([.int (ix_bi false)], hp c X) := M_in0_f (n := 32) (by omega) (by omega) hx _
    refine ok_0 h (r := -1) (x_RP_check (rc_3 c X) ?_) (x_Mo_check (rc_75 c X) (by rw [e_Mo_check, kZ_of hin, if_neg (by decide)]))
    rw [e_RP_check]
    by_cases h0 : x1 < 0
    · rw [if_pos h0]
    · rcases hx with h1 | h1
      · exact absurd h1 h0
      · obtain ⟨j, hj, rfl⟩ := nI_of h0
        rw [if_neg h0, if_neg (fun q => by
          have q' : nI j < nI 32 := q
          rw [nI_ltI (by omega) (by omega)] at q'
          rw [nI_leI (by omega) (by omega)] at h1
          omega)]
