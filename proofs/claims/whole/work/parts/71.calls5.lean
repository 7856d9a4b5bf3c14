/-! CALLS: count, cell -/
theorem sel_g {α : Type} (d : α) : ∀ (l : List α) (n k : Nat), n ≤ k → k < 2147483648 → ix_sel (nI k) n l d = (l[k - n]?).getD d
  | [], n, k, _, _ => by simp [ix_sel]
  | a :: l, n, k, h, hk => by
    show (if nI k = nI n then a else ix_sel (nI k) (n + 1) l d) = _
    by_cases e : k = n
    · rw [if_pos (by rw [e]), e, Nat.sub_self]; rfl
    · rw [if_neg (by rw [nI_eq (by omega) (by omega)]; exact e), sel_g d l (n + 1) k (by omega) hk, show k - n = (k - (n + 1)) + 1 by omega]
      rfl
theorem sel_at {α : Type} {d a : α} {l : List α} {j : Nat} (hj : j < 1000) (h : l[j]? = some a) : ix_sel (nI j) 0 l d = a := by
  rw [sel_g d l 0 j (Nat.zero_le _) (by omega), Nat.sub_zero, h]; rfl
theorem sel_out {α : Type} {d : α} {x : Int32} : ∀ (l : List α) (n : Nat), (∀ k, n ≤ k → k < n + l.length → ¬ x = nI k) → ix_sel x n l d = d
  | [], n, _ => rfl
  | a :: l, n, h => by
    show (if x = nI n then a else ix_sel x (n + 1) l d) = _
    rw [if_neg (h n (Nat.le_refl n) (by show n < n + (l.length + 1); omega))]
    exact sel_out l (n + 1) (fun k h1 h2 => h k (by omega) (by show k < n + (l.length + 1); omega))
theorem M_withRole {c : ixK} {X : ixX} {B : bT} (hs : bS B) (hr4 : ∀ c, brl B c < 4) (hA : rBd (X.1 76) B) {r : Nat} (hr : r < 4) : ix_M mMo_withRole [.ref 75, .int (nI r)] (hp c X) = some ([.int (nI (fb_ct (bro B r) 64))], hp c X) := by
  have h64 := bS_64 hs
  refine x_Mo_withRole (rc_75 c X) ?_
  have e := lp_f (fun k s => l_Mo_withRole_4 75 (nI r) s (nI k) (hp c X)) (fun k => nI (fb_ct (bro B r) k)) (N := bn B) (fun k hk => by
    show l_Mo_withRole_4 75 (nI r) (nI (fb_ct (bro B r) k)) (nI k) (hp c X) = l_Mo_withRole_4 75 (nI r) (nI (fb_ct (bro B r) (k + 1))) (nI (k + 1)) (hp c X)
    rw [e_Mo_withRole_4, kI_of (M_mcells hA), if_neg (by rw [nI_leI (by omega) (by omega)]; omega), kZ_of (M_mhas hs hr4 hA hk hr), fb_ct_succ]
    cases bro B r k with
    | true => rw [if_pos rfl, nI_1, nI_1, if_pos rfl]
    | false => rw [if_neg (by decide), nI_a0, nI_1, if_neg (by decide)]; rfl) (k := 0) (by omega)
  have e2 : l_Mo_withRole_4 75 (nI r) 0 0 (hp c X) = l_Mo_withRole_4 75 (nI r) (nI (fb_ct (bro B r) (bn B))) (nI (bn B)) (hp c X) := e
  rw [e_Mo_withRole, e2, e_Mo_withRole_4, kI_of (M_mcells hA), if_pos (by rw [nI_leI (by omega) (by omega)]; omega), ct_64 h64 (fun x hx => by
    cases q : bro B r x with
    | false => rfl
    | true => have := bro_lt q; omega)]
theorem M_slotsInUse {c : ixK} {X : ixX} {B : bT} (hb : bOK B) (h : cBd 4 X B) : ix_M mBd_slotsInUse [.ref 4] (hp c X) = some ([.int (iS (fun s => decide (s < 5) && decide (0 < (brt B s).length)))], hp c X) := by
  refine x_Bd_slotsInUse (rc_4 c X) ?_
  have e := lp_f (fun k s => l_Bd_slotsInUse_4 4 s (nI k) (hp c X)) (fun k => iS (fun s => decide (s < k) && decide (0 < (brt B s).length))) (N := 5) (fun k hk => by
    show l_Bd_slotsInUse_4 4 (iS (fun s => decide (s < k) && decide (0 < (brt B s).length))) (nI k) (hp c X) = l_Bd_slotsInUse_4 4 (iS (fun s => decide (s < k + 1) && decide (0 < (brt B s).length))) (nI (k + 1)) (hp c X)
    have hR := h.2.2 k hk
    have hlen := bOK_len hb k
    rw [show 4 + 5 + 2 * k = 9 + 2 * k by omega] at hR
    rw [e_Bd_slotsInUse_4, if_neg (lit_nle (x := 5) (a := 5) (k := k) rfl hk (by omega)), bO (g4_1 c _), bO (q8_ hk), bO (rt_g1 (rtA_4 hk) c _), hR.1, nI_1]
    by_cases h0 : 0 < (brt B k).length
    · rw [if_neg (nI_nle h0 (by omega)), iS_add (by omega)]
      congr 1
      refine iS_cong (fun i hi => ?_)
      by_cases hi2 : i = k
      · subst hi2; simp [h0]
      · have : (i < k + 1) ↔ (i < k) := by omega
        simp [hi2, this]
    · have h1 : (brt B k).length = 0 := by omega
      rw [h1, if_pos (by decide)]
      congr 1
      refine iS_cong (fun i hi => ?_)
      by_cases hi2 : i = k
      · subst hi2; simp [h0]
      · have : (i < k + 1) ↔ (i < k) := by omega
        simp [this]) (k := 0) (by omega)
  have e2 : l_Bd_slotsInUse_4 4 (iS (fun s => decide (s < 0) && decide (0 < (brt B s).length))) (nI 0) (hp c X) = l_Bd_slotsInUse_4 4 (iS (fun s => decide (s < 5) && decide (0 < (brt B s).length))) (nI 5) (hp c X) := e
  have e3 : (0 : Int32) = iS (fun s => decide (s < 0) && decide (0 < (brt B s).length)) := by
    rw [iS_0]
    exact iS_cong (fun i hi => by simp)
  have e4 : l_Bd_slotsInUse_4 4 0 0 (hp c X) = l_Bd_slotsInUse_4 4 (iS (fun s => decide (s < 0) && decide (0 < (brt B s).length))) (nI 0) (hp c X) := by rw [← e3]; rfl
  rw [e_Bd_slotsInUse, e4, e2, e_Bd_slotsInUse_4, if_pos (show (5 : Int32) ≤ nI 5 by decide)]
theorem or_0 (x : Int32) : x ||| 0 = x := b_ext (fun i hi => by rw [b_or, b_0, Bool.or_false])
theorem M_routes {c : ixK} {X : ixX} {B : bT} (hb : bOK B) (h : rBd (X.1 76) B) : ix_M mMo_routes [.ref 75] (hp c X) = some ([.int (iS (fun s => decide (s < 5) && decide (0 < (brt B s).length)))], hp c X) := by
  refine x_Mo_routes (rc_75 c X) ?_
  have e := lp_f (fun k s => l_Mo_routes_4 75 s (nI k) (hp c X)) (fun k => iS (fun s => decide (s < k) && decide (0 < (brt B s).length))) (N := 5) (fun k hk => by
    show l_Mo_routes_4 75 (iS (fun s => decide (s < k) && decide (0 < (brt B s).length))) (nI k) (hp c X) = l_Mo_routes_4 75 (iS (fun s => decide (s < k + 1) && decide (0 < (brt B s).length))) (nI (k + 1)) (hp c X)
    have hlen := bOK_len hb k
    rw [e_Mo_routes_4, if_neg (lit_nle (x := 5) (a := 5) (k := k) rfl hk (by omega)), kI_of (M_mlength h hk), nI_1]
    by_cases h0 : 0 < (brt B k).length
    · rw [if_neg (nI_nle h0 (by omega)), iS_add (by omega)]
      congr 1
      refine iS_cong (fun i hi => ?_)
      by_cases hi2 : i = k
      · subst hi2; simp [h0]
      · have : (i < k + 1) ↔ (i < k) := by omega
        simp [hi2, this]
    · have h1 : (brt B k).length = 0 := by omega
      rw [h1, if_pos (by decide), or_0]
      congr 1
      refine iS_cong (fun i hi => ?_)
      by_cases hi2 : i = k
      · subst hi2; simp [h0]
      · have : (i < k + 1) ↔ (i < k) := by omega
        simp [this]) (k := 0) (by omega)
  have e2 : l_Mo_routes_4 75 (iS (fun s => decide (s < 0) && decide (0 < (brt B s).length))) (nI 0) (hp c X) = l_Mo_routes_4 75 (iS (fun s => decide (s < 5) && decide (0 < (brt B s).length))) (nI 5) (hp c X) := e
  have e3 : (0 : Int32) = iS (fun s => decide (s < 0) && decide (0 < (brt B s).length)) := by
    rw [iS_0]
    exact iS_cong (fun i hi => by simp)
  have e4 : l_Mo_routes_4 75 0 0 (hp c X) = l_Mo_routes_4 75 (iS (fun s => decide (s < 0) && decide (0 < (brt B s).length))) (nI 0) (hp c X) := by rw [← e3]; rfl
  rw [e_Mo_routes, e4, e2, e_Mo_routes_4, if_pos (show (5 : Int32) ≤ nI 5 by decide)]
theorem K_count {c : ixK} {X : ixX} {S : sT} (h : invK c X S) (x1 : Int32) : okI mRP_count mMo_count [.int x1] c X := by
  obtain ⟨hs, hG, hA, hb⟩ := invK_G h
  have h64 := bS_64 hs
  rcases i_cases x1 (n := 9) (by omega) with ⟨k, hk, rfl⟩ | hx
  · rcases (show k = 0 ∨ k = 1 ∨ k = 2 ∨ k = 3 ∨ k = 4 ∨ k = 5 ∨ k = 6 ∨ k = 7 ∨ k = 8 by omega) with rfl | rfl | rfl | rfl | rfl | rfl | rfl | rfl | rfl
    · exact ok_0 h (r := nI (bw S.1)) (x_RP_count (rc_3 c X) (by rw [e_RP_count, sel_at (j := 0) (by omega) rfl, bO (g3_0 c X), bO (g4_0 c X), bO (g5_0 c X), G_w hG])) (x_Mo_count (rc_75 c X) (by rw [e_Mo_count, sel_at (j := 0) (by omega) rfl, bO (g75_0 c X), bO (r76 (i := 0) (by omega)), A_w hA]))
    · exact ok_0 h (r := nI (bh S.1)) (x_RP_count (rc_3 c X) (by rw [e_RP_count, sel_at (j := 1) (by omega) rfl, bO (g3_0 c X), bO (g4_0 c X), bO (g5_1 c X), G_h hG])) (x_Mo_count (rc_75 c X) (by rw [e_Mo_count, sel_at (j := 1) (by omega) rfl, bO (g75_0 c X), bO (r76 (i := 1) (by omega)), A_h hA]))
    · exact ok_0 h (r := nI (fb_ct (bwl S.1) 64)) (x_RP_count (rc_3 c X) (by rw [e_RP_count, sel_at (j := 2) (by omega) rfl, bO (g3_0 c X), bO (g4_0 c X), bO (g5_5 c X), G_x hG, kI_of (M_size _ _)])) (x_Mo_count (rc_75 c X) (by rw [e_Mo_count, sel_at (j := 2) (by omega) rfl, kI_of (M_walls hs hA), ct_bwl hb]))
    · exact ok_0 h (r := nI (fb_ct (bro S.1 1) 64)) (x_RP_count (rc_3 c X) (by rw [e_RP_count, sel_at (j := 3) (by omega) rfl, bO (g3_0 c X), bO (g4_0 c X), show (1 : Int32) = nI 1 from rfl, kL_of (M_openWith hG (by omega) (by omega)), kI_of (M_size _ _)])) (x_Mo_count (rc_75 c X) (by rw [e_Mo_count, sel_at (j := 3) (by omega) rfl, show nI 3 - 2 = nI 1 from by decide, kI_of (M_withRole hs hb.2.2.1 hA (by omega))]))
    · exact ok_0 h (r := nI (fb_ct (bro S.1 2) 64)) (x_RP_count (rc_3 c X) (by rw [e_RP_count, sel_at (j := 4) (by omega) rfl, bO (g3_0 c X), bO (g4_0 c X), show (2 : Int32) = nI 2 from rfl, kL_of (M_openWith hG (by omega) (by omega)), kI_of (M_size _ _)])) (x_Mo_count (rc_75 c X) (by rw [e_Mo_count, sel_at (j := 4) (by omega) rfl, show nI 4 - 2 = nI 2 from by decide, kI_of (M_withRole hs hb.2.2.1 hA (by omega))]))
    · exact ok_0 h (r := nI (fb_ct (bro S.1 3) 64)) (x_RP_count (rc_3 c X) (by rw [e_RP_count, sel_at (j := 5) (by omega) rfl, bO (g3_0 c X), bO (g4_0 c X), show (3 : Int32) = nI 3 from rfl, kL_of (M_openWith hG (by omega) (by omega)), kI_of (M_size _ _)])) (x_Mo_count (rc_75 c X) (by rw [e_Mo_count, sel_at (j := 5) (by omega) rfl, show nI 5 - 2 = nI 3 from by decide, kI_of (M_withRole hs hb.2.2.1 hA (by omega))]))
    · have hp4 : X.1 4 4 = nI (bpr S.1).length := h.2.1.1.2.1.1
      have r386 : ix_ai (hp c X) 76 386 = some (nI (bpr S.1).length) := by
        have := r76 (c := c) (X := X) (i := 386) (by omega)
        rw [A_p hA] at this
        exact this
      exact ok_0 h (r := nI (bpr S.1).length) (x_RP_count (rc_3 c X) (by rw [e_RP_count, sel_at (j := 6) (by omega) rfl, bO (g3_0 c X), bO (g4_4 c X), hp4])) (x_Mo_count (rc_75 c X) (by rw [e_Mo_count, sel_at (j := 6) (by omega) rfl, bO (g75_0 c X), bO r386]))
    · exact ok_0 h (r := iS (fun s => decide (s < 5) && decide (0 < (brt S.1 s).length))) (x_RP_count (rc_3 c X) (by rw [e_RP_count, sel_at (j := 7) (by omega) rfl, bO (g3_0 c X), kI_of (M_slotsInUse hb h.2.1.1)])) (x_Mo_count (rc_75 c X) (by rw [e_Mo_count, sel_at (j := 7) (by omega) rfl, kI_of (M_routes hb hA)]))
    · exact ok_0 h (r := nI S.2.2.length) (x_RP_count (rc_3 c X) (by rw [e_RP_count, sel_at (j := 8) (by omega) rfl, bO (g3_3 c X), bO (g57_1 c X), h.2.1.2.2.2.1])) (x_Mo_count (rc_75 c X) (by rw [e_Mo_count, sel_at (j := 8) (by omega) rfl, bO (g75_31 c X), h.2.2.2.2.2.1]))
  · have hne : ∀ k, 0 ≤ k → k < 0 + 9 → ¬ x1 = nI k := fun k _ hk => i_out (by omega) hx (by omega)
    exact ok_0 h (r := -2) (x_RP_count (rc_3 c X) (by rw [e_RP_count]; exact sel_out _ 0 hne)) (x_Mo_count (rc_75 c X) (by rw [e_Mo_count]; exact sel_out _ 0 hne))
/-! cells -/
theorem M_switchesOf {c : ixK} {X : ixX} {B : bT} (hs : bS B) (h : rBd (X.1 76) B) {k : Nat} (hk : k < bn B) : ix_M mMo_switchesOf [.ref 75, .int (nI k)] (hp c X) = some ([.int (iS (fun l => decide (l < 4) && bwi B l k))], hp c X) := by
  have h64 := bS_64 hs
  refine x_Mo_switchesOf (rc_75 c X) ?_
  have e := lp_f (fun l s => l_Mo_switchesOf_4 75 (nI k) s (nI l) (hp c X)) (fun t => iS (fun l => decide (l < t) && bwi B l k)) (N := 4) (fun t ht => by
    show l_Mo_switchesOf_4 75 (nI k) (iS (fun l => decide (l < t) && bwi B l k)) (nI t) (hp c X) = l_Mo_switchesOf_4 75 (nI k) (iS (fun l => decide (l < t + 1) && bwi B l k)) (nI (t + 1)) (hp c X)
    rw [e_Mo_switchesOf_4, if_neg (lit_nle (x := 4) (a := 4) (k := t) rfl ht (by omega)), bO (g75_0 c _), bO (x76 (i130c t k) (by omega)), A_i h ht hk, nI_1]
    cases q : bwi B t k with
    | true =>
      rw [show ix_bi true = 1 from rfl, iS_add (by omega)]
      congr 1
      refine iS_cong (fun i hi => ?_)
      by_cases hi2 : i = t
      · subst hi2; simp [q]
      · have : (i < t + 1) ↔ (i < t) := by omega
        simp [hi2, this]
    | false =>
      have e0 : ix_ishl (ix_bi false) (nI t) = 0 := by
        rw [show ix_bi false = 0 from rfl]
        rcases (show t = 0 ∨ t = 1 ∨ t = 2 ∨ t = 3 by omega) with rfl | rfl | rfl | rfl <;> decide
      rw [e0, or_0]
      congr 1
      refine iS_cong (fun i hi => ?_)
      by_cases hi2 : i = t
      · subst hi2; simp [q]
      · have : (i < t + 1) ↔ (i < t) := by omega
        simp [this]) (k := 0) (by omega)
  have e2 : l_Mo_switchesOf_4 75 (nI k) (iS (fun l => decide (l < 0) && bwi B l k)) (nI 0) (hp c X) = l_Mo_switchesOf_4 75 (nI k) (iS (fun l => decide (l < 4) && bwi B l k)) (nI 4) (hp c X) := e
  have e3 : (0 : Int32) = iS (fun l => decide (l < 0) && bwi B l k) := by
    rw [iS_0]
    exact iS_cong (fun i hi => by simp)
  have e4 : l_Mo_switchesOf_4 75 (nI k) 0 0 (hp c X) = l_Mo_switchesOf_4 75 (nI k) (iS (fun l => decide (l < 0) && bwi B l k)) (nI 0) (hp c X) := by rw [← e3]; rfl
  rw [e_Mo_switchesOf, e4, e2, e_Mo_switchesOf_4, if_pos (show (4 : Int32) ≤ nI 4 by decide)]
theorem M_openBeside {c : ixK} {X : ixX} {B : bT} (hs : bS B) (h : rBd (X.1 76) B) {k : Nat} (hk : k < bn B) : ix_M mMo_openBeside [.ref 75, .int (nI k)] (hp c X) = some ([.int (nI (fb_ct (fun c => sar B (fun i => decide (i = k)) c && bop B c) 64))], hp c X) := by
  have h64 := bS_64 hs
  refine x_Mo_openBeside (rc_75 c X) ?_
  have e := lp_f (fun d s => l_Mo_openBeside_4 75 (nI k) s (nI d) (hp c X)) (fun d => nI (fb_ct (fun d => nbo B k d) d)) (N := 4) (fun d hd => by
    show l_Mo_openBeside_4 75 (nI k) (nI (fb_ct (fun d => nbo B k d) d)) (nI d) (hp c X) = l_Mo_openBeside_4 75 (nI k) (nI (fb_ct (fun d => nbo B k d) (d + 1))) (nI (d + 1)) (hp c X)
    rw [e_Mo_openBeside_4, if_neg (lit_nle (x := 4) (a := 4) (k := d) rfl hd (by omega)), kZ_of (M_isOpenBeside hs h hk hd), fb_ct_succ]
    cases nbo B k d with
    | true => rw [if_pos rfl, nI_1, nI_1, if_pos rfl]
    | false => rw [if_neg (by decide), nI_a0, nI_1, if_neg (by decide)]; rfl) (k := 0) (by omega)
  have e2 : l_Mo_openBeside_4 75 (nI k) 0 0 (hp c X) = l_Mo_openBeside_4 75 (nI k) (nI (fb_ct (fun d => nbo B k d) 4)) (nI 4) (hp c X) := e
  have hnb : ∀ d, nbo B k d = true ↔ ∃ y, nb B k d = some y ∧ bop B y = true := by
    intro d
    unfold nbo
    cases nb B k d with
    | none => exact ⟨fun q => (by cases q), fun ⟨y, q, _⟩ => (by cases q)⟩
    | some y => exact ⟨fun q => ⟨y, rfl, q⟩, fun ⟨z, q, q2⟩ => by rw [Option.some.inj q]; exact q2⟩
  have hEs : ∀ c, decide (c = k) = true → c < bn B := fun c hc => by rw [of_decide_eq_true hc]; exact hk
  have hsar : ∀ y, (sar B (fun i => decide (i = k)) y && bop B y) = true ↔ y < bn B ∧ adjB B k y = true ∧ bop B y = true := by
    intro y
    rw [Bool.and_eq_true, sar_iff hs hEs]
    constructor
    · rintro ⟨⟨q1, z, _, q2, q3⟩, q4⟩
      rw [of_decide_eq_true q2] at q3
      exact ⟨q1, q3, q4⟩
    · rintro ⟨q1, q2, q3⟩
      exact ⟨⟨q1, k, hk, decide_eq_true rfl, q2⟩, q3⟩
  have hc4 : fb_ct (fun d => decide (d < 4) && nbo B k d) 64 = fb_ct (fun d => nbo B k d) 4 := by
    rw [ct_64 (p := fun d => decide (d < 4) && nbo B k d) (n := 4) (by omega) (fun d hd => by rw [decide_eq_false (by omega)]; rfl)]
    exact fb_ct_cong fun d hd => by rw [decide_eq_true hd]; rfl
  have l1 := ct_inj (p := fun d => decide (d < 4) && nbo B k d) (q := fun y => sar B (fun i => decide (i = k)) y && bop B y) (n := 64) (fun d y => d < 4 ∧ nb B k d = some y) (fun d _ hd => by
    simp only [Bool.and_eq_true, decide_eq_true_eq] at hd
    obtain ⟨y, y1, y2⟩ := (hnb d).mp hd.2
    have hy := nb_lt hs hk y1
    exact ⟨y, by omega, (hsar y).mpr ⟨hy, (nb_iff hs hk hy).mpr ⟨d, hd.1, y1⟩, y2⟩, hd.1, y1⟩) (fun d d' y _ _ ⟨a1, a2⟩ ⟨b1, b2⟩ => nb_one hs hk a1 b1 a2 b2)
  have l2 := ct_inj (p := fun y => sar B (fun i => decide (i = k)) y && bop B y) (q := fun d => decide (d < 4) && nbo B k d) (n := 64) (fun y d => nb B k d = some y) (fun y _ hy => by
    obtain ⟨q1, q2, q3⟩ := (hsar y).mp hy
    obtain ⟨d, hd, e⟩ := (nb_iff hs hk q1).mp q2
    exact ⟨d, by omega, by rw [decide_eq_true hd, (hnb d).mpr ⟨y, e, q3⟩]; rfl, e⟩) (fun y y' d _ _ a b => Option.some.inj (a.symm.trans b))
  have hfin : fb_ct (fun d => nbo B k d) 4 = fb_ct (fun c => sar B (fun i => decide (i = k)) c && bop B c) 64 := by omega
  rw [e_Mo_openBeside, e2, e_Mo_openBeside_4, if_pos (show (4 : Int32) ≤ nI 4 by decide), hfin]
theorem M_mbehind {c : ixK} {X : ixX} {B : bT} (hs : bS B) (h : rBd (X.1 76) B) {k : Nat} (hk : k < bn B) : ∃ g, ix_M mMo_behind [.ref 75, .int (nI k)] (hp c X) = some ([.int (nI (fb_ct (fun y => decide (0 < fw B k y)) 64))], hp c (aJ X 79 g)) := by
  have h64 := bS_64 hs
  have hw := bS_w hs
  obtain ⟨g, f1, f2⟩ := M_layFalls (c := c) hs h hk
  have hA : rBd ((aJ X 79 g).1 76) B := h
  refine ⟨g, x_Mo_behind (rc_75 c X) ?_⟩
  have e := lp_f (fun t s => l_Mo_behind_9 75 s (nI t) (hp c (aJ X 79 g))) (fun t => nI (fb_ct (fun y => decide (0 < fw B k y)) t)) (N := bn B) (fun t ht => by
    show l_Mo_behind_9 75 (nI (fb_ct (fun y => decide (0 < fw B k y)) t)) (nI t) (hp c (aJ X 79 g)) = l_Mo_behind_9 75 (nI (fb_ct (fun y => decide (0 < fw B k y)) (t + 1))) (nI (t + 1)) (hp c (aJ X 79 g))
    have hsm := fw_small hs k ht
    rw [e_Mo_behind_9, kI_of (M_mcells hA), if_neg (by rw [nI_leI (by omega) (by omega)]; omega), bO (g75_3 c _), bO (r79 (by omega)), aJ_1, f2 t ht, fb_ct_succ]
    by_cases h0 : fw B k t = 0
    · rw [if_pos ((lN_pos hsm).mpr h0), nI_a0, nI_1, decide_eq_false (by omega), if_neg (by decide)]; rfl
    · rw [if_neg (fun q => h0 ((lN_pos hsm).mp q)), nI_1, nI_1, decide_eq_true (by omega), if_pos rfl]) (k := 0) (by omega)
  have e2 : l_Mo_behind_9 75 0 0 (hp c (aJ X 79 g)) = l_Mo_behind_9 75 (nI (fb_ct (fun y => decide (0 < fw B k y)) (bn B))) (nI (bn B)) (hp c (aJ X 79 g)) := e
  rw [e_Mo_behind, kV_of f1, e2, e_Mo_behind_9, kI_of (M_mcells hA), if_pos (by rw [nI_leI (by omega) (by omega)]; omega), ct_64 h64 (fun x hx => by
    rw [decide_eq_false]
    intro q
    have := bop_lt ((rc_iff hw k x).mp q).1
    omega)]
theorem M_isInPass {c : ixK} {X : ixX} {B : bT} (hs : bS B) (hb : ∀ c, brl B c < 4) (hA : rBd (X.1 76) B) (far : Bool) {k : Nat} (hk : k < bn B) : ∃ Y v, ∃ ns : List Nat, ix_M mMo_isInPass [.ref 75, .int (nI k), .int (ix_bi far)] (hp c X) = some ([.int (ix_bi (decide (k ∈ ns) && !decide (64 + k ∈ ns)))], hp c Y) ∧ FlowR B (bop B) (bro B (if far = true then 2 else 1)) (bro B (if far = true then 1 else 2)) v (fun c => decide (c ∈ ns)) (fun c => decide (64 + c ∈ ns)) ∧ rS X Y := by
  have h64 := bS_64 hs
  obtain ⟨Y, v, ns, f1, f2, f3, f4⟩ := R_pass (c := c) hs hb hA far
  refine ⟨Y, v, ns, x_Mo_isInPass (rc_75 c X) ?_, f2, f4⟩
  rw [e_Mo_isInPass, kV_of f1, bO (g75_18 c _), bO (r91 (by omega)), f3 k hk]
  cases (decide (k ∈ ns) && !decide (64 + k ∈ ns)) <;> rfl
