/-! STREAM: the class's flow; its own cells are 65 (sets) and 66 (exits) -/
def sY (X : ixX) (g m : Nat → Int64) : ixX := aJ (aJ X 65 g) 66 m
theorem sY_1 (X : ixX) (g m : Nat → Int64) : (sY X g m).1 = X.1 := rfl
theorem sY_65 (X : ixX) (g m : Nat → Int64) : (sY X g m).2 65 = g := rfl
theorem sY_66 (X : ixX) (g m : Nat → Int64) : (sY X g m).2 66 = m := rfl
theorem sY_o (X : ixX) (g m : Nat → Int64) {a : Nat} (h1 : ¬ a = 65) (h2 : ¬ a = 66) : (sY X g m).2 a = X.2 a := by
  unfold sY
  rw [aJ_o h2, aJ_o h1]
theorem sY_wg (X : ixX) (g m g' : Nat → Int64) : aJ (sY X g m) 65 g' = sY X g' m := by
  unfold sY aJ
  congr 1
  funext b
  dsimp only
  by_cases h1 : b = 65
  · subst h1; rfl
  · rw [if_neg h1, if_neg h1, if_neg h1]
theorem sY_wm (X : ixX) (g m m' : Nat → Int64) : aJ (sY X g m) 66 m' = sY X g m' := by
  unfold sY
  rw [aJ_aJ]
theorem sY_self (X : ixX) : sY X (X.2 65) (X.2 66) = X := by
  unfold sY
  rw [aJ_self]
  exact aJ_self X 66
theorem sY_fr {lo hi : Nat} {X Y : ixX} {g m : Nat → Int64} (h : fRm lo hi X Y) (h1 : lo ≤ 65) (h2 : 67 ≤ hi) : fRm lo hi X (sY Y g m) := fRm_aJ (fRm_aJ h (by omega) (by omega)) (by omega) (by omega)
theorem sY_G {X : ixX} {B : bT} (h : cG 4 X B) (g m : Nat → Int64) : cG 4 (sY X g m) B := cG_cong rfl rfl rfl rfl h
theorem st_r {c : ixK} {X : ixX} {g m : Nat → Int64} {i : Nat} (hi : i < 64) : ix_al (hp c (sY X g m)) 66 (nI i) = some (m i) := r66 hi
theorem st_s {c : ixK} {X : ixX} {g m : Nat → Int64} {i : Nat} {x : Int64} (hi : i < 64) : ix_sl (hp c (sY X g m)) 66 (nI i) x = some (hp c (sY X g (vp_updL m i x))) := by
  rw [s66 hi, sY_wm]
  rfl
theorem st_g1 (c : ixK) (X : ixX) (g m : Nat → Int64) : ix_gl (hp c (sY X g m)) 65 7 1 = some (g 1) := g65_1 c _
theorem st_p1 (c : ixK) (X : ixX) (g m : Nat → Int64) (x : Int64) : ix_pf (hp c (sY X g m)) 65 7 1 (.long x) = some (hp c (sY X (vp_updL g 1 x) m)) := by
  rw [p65_1, sY_wg]
  rfl
theorem st_g2 (c : ixK) (X : ixX) (g m : Nat → Int64) : ix_gl (hp c (sY X g m)) 65 7 2 = some (g 2) := g65_2 c _
theorem st_p2 (c : ixK) (X : ixX) (g m : Nat → Int64) (x : Int64) : ix_pf (hp c (sY X g m)) 65 7 2 (.long x) = some (hp c (sY X (vp_updL g 2 x) m)) := by
  rw [p65_2, sY_wg]
  rfl
theorem st_g3 (c : ixK) (X : ixX) (g m : Nat → Int64) : ix_gl (hp c (sY X g m)) 65 7 3 = some (g 3) := g65_3 c _
theorem st_p3 (c : ixK) (X : ixX) (g m : Nat → Int64) (x : Int64) : ix_pf (hp c (sY X g m)) 65 7 3 (.long x) = some (hp c (sY X (vp_updL g 3 x) m)) := by
  rw [p65_3, sY_wg]
  rfl
theorem st_g4 (c : ixK) (X : ixX) (g m : Nat → Int64) : ix_gl (hp c (sY X g m)) 65 7 4 = some (g 4) := g65_4 c _
theorem st_p4 (c : ixK) (X : ixX) (g m : Nat → Int64) (x : Int64) : ix_pf (hp c (sY X g m)) 65 7 4 (.long x) = some (hp c (sY X (vp_updL g 4 x) m)) := by
  rw [p65_4, sY_wg]
  rfl
theorem st_g5 (c : ixK) (X : ixX) (g m : Nat → Int64) : ix_gl (hp c (sY X g m)) 65 7 5 = some (g 5) := g65_5 c _
theorem st_p5 (c : ixK) (X : ixX) (g m : Nat → Int64) (x : Int64) : ix_pf (hp c (sY X g m)) 65 7 5 (.long x) = some (hp c (sY X (vp_updL g 5 x) m)) := by
  rw [p65_5, sY_wg]
  rfl
theorem st_g6 (c : ixK) (X : ixX) (g m : Nat → Int64) : ix_gl (hp c (sY X g m)) 65 7 6 = some (g 6) := g65_6 c _
theorem st_p6 (c : ixK) (X : ixX) (g m : Nat → Int64) (x : Int64) : ix_pf (hp c (sY X g m)) 65 7 6 (.long x) = some (hp c (sY X (vp_updL g 6 x) m)) := by
  rw [p65_6, sY_wg]
  rfl
theorem st_g7 (c : ixK) (X : ixX) (g m : Nat → Int64) : ix_gl (hp c (sY X g m)) 65 7 7 = some (g 7) := g65_7 c _
theorem st_p7 (c : ixK) (X : ixX) (g m : Nat → Int64) (x : Int64) : ix_pf (hp c (sY X g m)) 65 7 7 (.long x) = some (hp c (sY X (vp_updL g 7 x) m)) := by
  rw [p65_7, sY_wg]
  rfl
theorem st_g8 (c : ixK) (X : ixX) (g m : Nat → Int64) : ix_gl (hp c (sY X g m)) 65 7 8 = some (g 8) := g65_8 c _
theorem st_p8 (c : ixK) (X : ixX) (g m : Nat → Int64) (x : Int64) : ix_pf (hp c (sY X g m)) 65 7 8 (.long x) = some (hp c (sY X (vp_updL g 8 x) m)) := by
  rw [p65_8, sY_wg]
  rfl
theorem st_g9 (c : ixK) (X : ixX) (g m : Nat → Int64) : ix_gl (hp c (sY X g m)) 65 7 9 = some (g 9) := g65_9 c _
theorem st_p9 (c : ixK) (X : ixX) (g m : Nat → Int64) (x : Int64) : ix_pf (hp c (sY X g m)) 65 7 9 (.long x) = some (hp c (sY X (vp_updL g 9 x) m)) := by
  rw [p65_9, sY_wg]
  rfl
theorem st_g10 (c : ixK) (X : ixX) (g m : Nat → Int64) : ix_gl (hp c (sY X g m)) 65 7 10 = some (g 10) := g65_10 c _
theorem st_p10 (c : ixK) (X : ixX) (g m : Nat → Int64) (x : Int64) : ix_pf (hp c (sY X g m)) 65 7 10 (.long x) = some (hp c (sY X (vp_updL g 10 x) m)) := by
  rw [p65_10, sY_wg]
  rfl
def sG (g : Nat → Int64) (O S T t : Nat → Bool) (q : gT) : Prop := g 1 = LSt O ∧ g 2 = LSt S ∧ g 3 = LSt T ∧ g 4 = LSt t ∧ g 5 = LSt q.1 ∧ g 6 = LSt q.2.1 ∧ g 7 = LSt q.2.2.1 ∧ g 8 = LSt q.2.2.2
theorem M_before {c : ixK} {X : ixX} {B : bT} {g m : Nat → Int64} {O S T t : Nat → Bool} {q : gT} (hs : bS B) (h : cG 4 X B) (hq : kOK B q) (hg : sG g O S T t q) (s : Nat → Bool) : ix_M mSm_before [.ref 65, .ref 5, .long (LSt s)] (hp c (sY X g m)) = some ([.long (LSt (bfr B q s))], hp c (sY X g m)) := by
  have h64 := bS_64 hs
  have hw := bS_w hs
  have h8 := hs.2.1
  have hG := sY_G h g m
  refine x_Sm_before (rc_65 c _) ?_
  have e : ix_ush (LSt s &&& LSt (fun c => decide (c < bn B) && !decide (c % bw B = 0))) 1 &&& LSt q.1 ||| ix_shl (LSt s &&& LSt (fun c => decide (c < bn B) && !decide ((c + 1) % bw B = 0))) 1 &&& LSt q.2.1 ||| ix_ush (LSt s) (nI (bw B)) &&& LSt q.2.2.1 ||| ix_shl (LSt s) (nI (bw B)) &&& LSt q.2.2.2 = LSt (bfr B q s) := by
    rw [show (1 : Int32) = nI 1 from rfl, LS_and, LS_ush _ (by omega), LS_and, LS_and, LS_shl _ (by omega), LS_and, LS_or, LS_ush _ (by omega), LS_and, LS_or, LS_shl _ (by omega), LS_and, LS_or]
    refine LS_cong (fun i hi => ?_)
    obtain ⟨k1, k2, k3, k4⟩ := hq i
    have t1 : ((decide (i + 1 < 64) && (s (i + 1) && (decide (i + 1 < bn B) && !decide ((i + 1) % bw B = 0)))) && q.1 i) = (q.1 i && s (i + 1)) := by
      cases z : q.1 i with
      | false => simp
      | true =>
        have k := k1 z
        rw [decide_eq_true (show i + 1 < 64 by omega), decide_eq_true k.1, decide_eq_false k.2]
        cases s (i + 1) <;> rfl
    have t2 : ((decide (1 ≤ i) && (s (i - 1) && (decide (i - 1 < bn B) && !decide ((i - 1 + 1) % bw B = 0)))) && q.2.1 i) = (q.2.1 i && s (i - 1)) := by
      cases z : q.2.1 i with
      | false => simp
      | true =>
        have k := k2 z
        have h0 : ¬ i = 0 := fun e => k.2 (by rw [e]; exact Nat.zero_mod _)
        rw [show i - 1 + 1 = i by omega, decide_eq_true (show 1 ≤ i by omega), decide_eq_true (show i - 1 < bn B by omega), decide_eq_false k.2]
        cases s (i - 1) <;> rfl
    have t3 : ((decide (i + bw B < 64) && s (i + bw B)) && q.2.2.1 i) = (q.2.2.1 i && s (i + bw B)) := by
      cases z : q.2.2.1 i with
      | false => simp
      | true =>
        have k := k3 z
        rw [decide_eq_true (show i + bw B < 64 by omega)]
        cases s (i + bw B) <;> rfl
    have t4 : ((decide (bw B ≤ i) && s (i - bw B)) && q.2.2.2 i) = (q.2.2.2 i && s (i - bw B)) := by
      cases z : q.2.2.2 i with
      | false => simp
      | true =>
        have k := k4 z
        rw [decide_eq_true k.2]
        cases s (i - bw B) <;> rfl
    show (((_ || _) || _) || _) = (((_ || _) || _) || _)
    rw [t1, t2, t3, t4]
  obtain ⟨_, _, _, _, g5, g6, g7, g8⟩ := hg
  rw [e_Sm_before, bO (g5_3 c _), G_f hG, bO (st_g5 c X g m), bO (g5_4 c _), G_l hG, bO (st_g6 c X g m), bO (g5_0 c _), G_w hG, bO (st_g7 c X g m), bO (g5_0 c _), G_w hG, bO (st_g8 c X g m), g5, g6, g7, g8, e]
theorem M_after {c : ixK} {X : ixX} {B : bT} {g m : Nat → Int64} {O S T t : Nat → Bool} {q : gT} (hs : bS B) (h : cG 4 X B) (hq : kOK B q) (hg : sG g O S T t q) {x y : Nat} (ha : arc B q x y = true) (hu : ∀ d, arc B q x d = true → d = y) : ix_M mSm_after [.ref 65, .ref 5, .long (LSt (fun i => decide (i = x)))] (hp c (sY X g m)) = some ([.long (LSt (fun i => decide (i = y)))], hp c (sY X g m)) := by
  have h64 := bS_64 hs
  have hw := bS_w hs
  have h8 := hs.2.1
  have hG := sY_G h g m
  refine x_Sm_after (rc_65 c _) ?_
  have e : ix_shl (LSt (fun i => decide (i = x)) &&& LSt q.1) 1 ||| ix_ush (LSt (fun i => decide (i = x)) &&& LSt q.2.1) 1 ||| ix_shl (LSt (fun i => decide (i = x)) &&& LSt q.2.2.1) (nI (bw B)) ||| ix_ush (LSt (fun i => decide (i = x)) &&& LSt q.2.2.2) (nI (bw B)) = LSt (fun i => decide (i = y)) := by
    rw [show (1 : Int32) = nI 1 from rfl, LS_and, LS_shl _ (by omega), LS_and, LS_ush _ (by omega), LS_or, LS_and, LS_shl _ (by omega), LS_or, LS_and, LS_ush _ (by omega), LS_or]
    refine LS_cong (fun i hi => ?_)
    rw [Bool.eq_iff_iff]
    simp only [Bool.or_eq_true, Bool.and_eq_true, decide_eq_true_eq]
    obtain ⟨k1, k2, k3, k4⟩ := hq x
    constructor
    · rintro (((z | z) | z) | z)
      · exact hu i ((arc_iff B q x i).mpr (.inl ⟨by rw [← z.2.1]; exact z.2.2, by omega⟩))
      · exact hu i ((arc_iff B q x i).mpr (.inr (.inl ⟨by rw [← z.2.1]; exact z.2.2, by omega⟩)))
      · exact hu i ((arc_iff B q x i).mpr (.inr (.inr (.inl ⟨by rw [← z.2.1]; exact z.2.2, by omega⟩))))
      · exact hu i ((arc_iff B q x i).mpr (.inr (.inr (.inr ⟨by rw [← z.2.1]; exact z.2.2, by omega⟩))))
    · intro z
      subst z
      rcases (arc_iff B q x i).mp ha with z | z | z | z
      · refine .inl (.inl (.inl ⟨by omega, ?_⟩))
        rw [show i - 1 = x by omega]
        exact ⟨rfl, z.1⟩
      · have := k2 z.1
        refine .inl (.inl (.inr ⟨by omega, ?_⟩))
        rw [← z.2]
        exact ⟨rfl, z.1⟩
      · refine .inl (.inr ⟨by omega, ?_⟩)
        rw [show i - bw B = x by omega]
        exact ⟨rfl, z.1⟩
      · have := k4 z.1
        refine .inr ⟨by omega, ?_⟩
        rw [← z.2]
        exact ⟨rfl, z.1⟩
  obtain ⟨_, _, _, _, g5, g6, g7, g8⟩ := hg
  rw [e_Sm_after, bO (st_g5 c X g m), bO (st_g6 c X g m), bO (st_g7 c X g m), bO (g5_0 c _), G_w hG, bO (st_g8 c X g m), bO (g5_0 c _), G_w hG, g5, g6, g7, g8, e]
def cutq (q : gT) (x : Nat → Bool) : gT := (fun c => q.1 c && !x c, fun c => q.2.1 c && !x c, fun c => q.2.2.1 c && !x c, fun c => q.2.2.2 c && !x c)
theorem M_cut {c : ixK} {X : ixX} {g m : Nat → Int64} {q : gT} (h5 : g 5 = LSt q.1) (h6 : g 6 = LSt q.2.1) (h7 : g 7 = LSt q.2.2.1) (h8 : g 8 = LSt q.2.2.2) (x : Nat → Bool) : ∃ g', ix_M mSm_cut [.ref 65, .long (LSt x)] (hp c (sY X g m)) = some ([], hp c (sY X g' m)) ∧ g' 5 = LSt (cutq q x).1 ∧ g' 6 = LSt (cutq q x).2.1 ∧ g' 7 = LSt (cutq q x).2.2.1 ∧ g' 8 = LSt (cutq q x).2.2.2 ∧ ∀ k, (k < 5 ∨ 8 < k) → g' k = g k := by
  refine ⟨_, x_Sm_cut (rc_65 c _) (by rw [e_Sm_cut, bO (st_g5 c X g m), bO (st_p5 c X g m _), bO (st_g6 c X _ m), bO (st_p6 c X _ m _), bO (st_g7 c X _ m), bO (st_p7 c X _ m _), bO (st_g8 c X _ m), bO (st_p8 c X _ m _)]), ?_, ?_, ?_, ?_, ?_⟩
  · rw [updL_n _ _ (by omega), updL_n _ _ (by omega), updL_n _ _ (by omega), updL_1, h5, LS_not, LS_and]
    rfl
  · rw [updL_n _ _ (by omega), updL_n _ _ (by omega), updL_1, updL_n _ _ (by omega), h6, LS_not, LS_and]
    rfl
  · rw [updL_n _ _ (by omega), updL_1, updL_n _ _ (by omega), updL_n _ _ (by omega), h7, LS_not, LS_and]
    rfl
  · rw [updL_1, updL_n _ _ (by omega), updL_n _ _ (by omega), updL_n _ _ (by omega), h8, LS_not, LS_and]
    rfl
  · intro k hk
    rw [updL_n _ _ (by omega), updL_n _ _ (by omega), updL_n _ _ (by omega), updL_n _ _ (by omega)]
def ldq (B : bT) (q : gT) (x : Nat) (ys : Nat → Bool) : gT := (fun c => q.1 c || (decide (c = x) && (!decide ((c + 1) % bw B = 0) && ys (c + 1))), fun c => q.2.1 c || (decide (c = x) && (!decide (c % bw B = 0) && ys (c - 1))), fun c => q.2.2.1 c || (decide (c = x) && ys (c + bw B)), fun c => q.2.2.2 c || (decide (c = x) && (decide (bw B ≤ c) && ys (c - bw B))))
theorem M_lead {c : ixK} {X : ixX} {B : bT} {g m : Nat → Int64} {O S T t : Nat → Bool} {q : gT} (hs : bS B) (h : cG 4 X B) (hg : sG g O S T t q) {x : Nat} (hx : x < bn B) {ys : Nat → Bool} (hy : ∀ c, ys c = true → c < bn B) : ∃ g', ix_M mSm_lead [.ref 65, .ref 5, .long (LSt (fun i => decide (i = x))), .long (LSt ys)] (hp c (sY X g m)) = some ([], hp c (sY X g' m)) ∧ sG g' O S T t (ldq B q x ys) := by
  have h64 := bS_64 hs
  have hw := bS_w hs
  have h8' := hs.2.1
  have hG := fun g' => sY_G h g' m
  obtain ⟨g1, g2, g3, g4, g5, g6, g7, g8⟩ := hg
  have n1 : ∀ z : Nat → Bool, LSt z ||| ix_ush (LSt ys &&& LSt (fun c => decide (c < bn B) && !decide (c % bw B = 0))) 1 &&& LSt (fun i => decide (i = x)) = LSt (fun c => z c || (decide (c = x) && (!decide ((c + 1) % bw B = 0) && ys (c + 1)))) := by
    intro z
    rw [show (1 : Int32) = nI 1 from rfl, LS_and, LS_ush _ (by omega), LS_and, LS_or]
    refine LS_cong (fun i hi => ?_)
    congr 1
    by_cases e : i = x
    · rw [decide_eq_true e]
      cases z1 : ys (i + 1) with
      | false => simp
      | true =>
        have := hy _ z1
        rw [decide_eq_true (show i + 1 < 64 by omega), decide_eq_true this]
        cases decide ((i + 1) % bw B = 0) <;> rfl
    · rw [decide_eq_false e]
      simp
  have n2 : ∀ z : Nat → Bool, LSt z ||| ix_shl (LSt ys &&& LSt (fun c => decide (c < bn B) && !decide ((c + 1) % bw B = 0))) 1 &&& LSt (fun i => decide (i = x)) = LSt (fun c => z c || (decide (c = x) && (!decide (c % bw B = 0) && ys (c - 1)))) := by
    intro z
    rw [show (1 : Int32) = nI 1 from rfl, LS_and, LS_shl _ (by omega), LS_and, LS_or]
    refine LS_cong (fun i hi => ?_)
    congr 1
    by_cases e : i = x
    · rw [decide_eq_true e]
      by_cases e0 : i = 0
      · rw [e0, Nat.zero_mod, decide_eq_true (rfl : 0 = 0)]
        simp
      · rw [show i - 1 + 1 = i by omega, decide_eq_true (show 1 ≤ i by omega), decide_eq_true (show i - 1 < bn B by omega)]
        cases decide (i % bw B = 0) <;> cases ys (i - 1) <;> rfl
    · rw [decide_eq_false e]
      simp
  have n3 : ∀ z : Nat → Bool, LSt z ||| ix_ush (LSt ys) (nI (bw B)) &&& LSt (fun i => decide (i = x)) = LSt (fun c => z c || (decide (c = x) && ys (c + bw B))) := by
    intro z
    rw [LS_ush _ (by omega), LS_and, LS_or]
    refine LS_cong (fun i hi => ?_)
    congr 1
    cases z1 : ys (i + bw B) with
    | false => simp
    | true =>
      have := hy _ z1
      rw [decide_eq_true (show i + bw B < 64 by omega)]
      cases decide (i = x) <;> rfl
  have n4 : ∀ z : Nat → Bool, LSt z ||| ix_shl (LSt ys) (nI (bw B)) &&& LSt (fun i => decide (i = x)) = LSt (fun c => z c || (decide (c = x) && (decide (bw B ≤ c) && ys (c - bw B)))) := by
    intro z
    rw [LS_shl _ (by omega), LS_and, LS_or]
    refine LS_cong (fun i hi => ?_)
    congr 1
    cases decide (i = x) <;> cases decide (bw B ≤ i) <;> cases ys (i - bw B) <;> rfl
  refine ⟨_, x_Sm_lead (rc_65 c _) (by rw [e_Sm_lead, bO (st_g5 c X g m), bO (g5_3 c _), G_f (hG _), bO (st_p5 c X g m _), bO (st_g6 c X _ m), bO (g5_4 c _), G_l (hG _), bO (st_p6 c X _ m _), bO (st_g7 c X _ m), bO (g5_0 c _), G_w (hG _), bO (st_p7 c X _ m _), bO (st_g8 c X _ m), bO (g5_0 c _), G_w (hG _), bO (st_p8 c X _ m _)]), ?_, ?_, ?_, ?_, ?_, ?_, ?_, ?_⟩
  · rw [updL_n _ _ (by omega), updL_n _ _ (by omega), updL_n _ _ (by omega), updL_n _ _ (by omega), g1]
  · rw [updL_n _ _ (by omega), updL_n _ _ (by omega), updL_n _ _ (by omega), updL_n _ _ (by omega), g2]
  · rw [updL_n _ _ (by omega), updL_n _ _ (by omega), updL_n _ _ (by omega), updL_n _ _ (by omega), g3]
  · rw [updL_n _ _ (by omega), updL_n _ _ (by omega), updL_n _ _ (by omega), updL_n _ _ (by omega), g4]
  · rw [updL_n _ _ (by omega), updL_n _ _ (by omega), updL_n _ _ (by omega), updL_1, g5, n1]
    rfl
  · rw [updL_n _ _ (by omega), updL_n _ _ (by omega), updL_1, updL_n _ _ (by omega), g6, n2]
    rfl
  · rw [updL_n _ _ (by omega), updL_1, updL_n _ _ (by omega), updL_n _ _ (by omega), g7, n3]
    rfl
  · rw [updL_1, updL_n _ _ (by omega), updL_n _ _ (by omega), updL_n _ _ (by omega), g8, n4]
    rfl
theorem M_one {p : Nat → Bool} {k : Nat} (hk : k < 64) (hp : p k = true) (hl : ∀ j, j < k → p j = false) (h : ixH) : ix_M mSm_one [.long (LSt p)] h = some ([.long (LSt (fun i => decide (i = k)))], h) := x_Sm_one (by rw [e_Sm_one, LS_low hk hp hl])
theorem M_one0 (h : ixH) : ix_M mSm_one [.long 0] h = some ([.long 0], h) := x_Sm_one (by rw [e_Sm_one, show (0 : Int64) &&& -0 = 0 from by decide])
/-- the search -/
theorem M_search {c : ixK} {X : ixX} {B : bT} {g m : Nat → Int64} {O S T t : Nat → Bool} {q : gT} (h : cG 4 X B) (hL : LyG B O S t q) (hg : sG g O S T t q) (hT : ∀ c, T c = true → c < bn B) : ∃ g' m' r, ix_M mSm_search [.ref 65, .ref 5] (hp c (sY X g m)) = some ([.int r], hp c (sY X g' m')) ∧ (∀ k, k < 9 → g' k = g k) ∧ ((r = -1 ∧ ∃ k, FinR (bn B) O S T (adjB B) (arc B q) t (ly B O S t q k).2.1 (ly B O S t q k).2.2 ∧ g' 9 = LSt (ly B O S t q k).2.1 ∧ g' 10 = LSt (ly B O S t q k).2.2) ∨ ∃ k, k < 64 ∧ r = nI k ∧ (∀ j, j < k + 1 → m' j = LSt (fk B O S t q j)) ∧ ∃ x, x < bn B ∧ fk B O S t q k x = true ∧ T x = true) := by
  have hs := hL.1
  have hq := hL.2.1
  have h64 := bS_64 hs
  obtain ⟨Q, hQ⟩ : ∃ Q : Option (List Value × ixH) → Prop, Q = fun R => ∃ g' m' r, R = some ([.int r], hp c (sY X g' m')) ∧ (∀ k, k < 9 → g' k = g k) ∧ ((r = -1 ∧ ∃ k, FinR (bn B) O S T (adjB B) (arc B q) t (ly B O S t q k).2.1 (ly B O S t q k).2.2 ∧ g' 9 = LSt (ly B O S t q k).2.1 ∧ g' 10 = LSt (ly B O S t q k).2.2) ∨ ∃ k, k < 64 ∧ r = nI k ∧ (∀ j, j < k + 1 → m' j = LSt (fk B O S t q j)) ∧ ∃ x, x < bn B ∧ fk B O S t q k x = true ∧ T x = true) := ⟨_, rfl⟩
  have i9 : vp_updL (vp_updL g 9 (LSt S)) 10 0 9 = LSt S := by rw [updL_n _ _ (by omega), updL_1]
  have i10 : vp_updL (vp_updL g 9 (LSt S)) 10 0 10 = LSt (fun _ => false) := by
    rw [updL_1]
    exact LS_0
  have main := lp_out (fun k (s : (Nat → Int64) × (Nat → Int64)) => l_Sm_search_21 65 5 (LSt (ly B O S t q k).1) (nI k) (hp c (sY X s.1 s.2))) (fun k s => (∀ j, j < 9 → s.1 j = g j) ∧ s.1 9 = LSt (ly B O S t q k).2.1 ∧ s.1 10 = LSt (ly B O S t q k).2.2 ∧ (∀ j, j < k → s.2 j = LSt (fk B O S t q j)) ∧ (∀ j x, j < k → x < bn B → fk B O S t q j x = true → T x = true → False) ∧ ((∀ x, x < 64 → (ly B O S t q k).1 x = false) ∨ ∀ j, j < k → ∃ x, x < 64 ∧ fk B O S t q j x = true)) Q (N := 64) (fun k s hk hP => by
    obtain ⟨p1, p2, p3, p4, p5, p6⟩ := hP
    have hF : ∀ x, fk B O S t q k x = true → x < bn B := fun x hx => hL.2.2.2.1 x (fk_O hL (ly_inv hL k) hx)
    have hg' : sG s.1 O S T t q := ⟨by rw [p1 1 (by omega)]; exact hg.1, by rw [p1 2 (by omega)]; exact hg.2.1, by rw [p1 3 (by omega)]; exact hg.2.2.1, by rw [p1 4 (by omega)]; exact hg.2.2.2.1, by rw [p1 5 (by omega)]; exact hg.2.2.2.2.1, by rw [p1 6 (by omega)]; exact hg.2.2.2.2.2.1, by rw [p1 7 (by omega)]; exact hg.2.2.2.2.2.2.1, by rw [p1 8 (by omega)]; exact hg.2.2.2.2.2.2.2⟩
    show (∃ s' : (Nat → Int64) × (Nat → Int64), l_Sm_search_21 65 5 (LSt (ly B O S t q k).1) (nI k) (hp c (sY X s.1 s.2)) = l_Sm_search_21 65 5 (LSt (ly B O S t q (k + 1)).1) (nI (k + 1)) (hp c (sY X s'.1 s'.2)) ∧ _) ∨ Q (l_Sm_search_21 65 5 (LSt (ly B O S t q k).1) (nI k) (hp c (sY X s.1 s.2)))
    have e64 : ¬ (64 : Int32) ≤ nI k := by
      show ¬ nI 64 ≤ nI k
      rw [nI_leI (by omega) (by omega)]
      omega
    rw [e_Sm_search_21, if_neg e64]
    by_cases hz : LSt (ly B O S t q k).1 = 0
    · rw [if_pos hz, hQ]
      refine .inr ⟨s.1, s.2, -1, rfl, p1, .inl ⟨rfl, k, ly_fin hL p5 (.inl (LS_zero.mp hz)), p2, p3⟩⟩
    · rw [if_neg hz]
      have p6' : ∀ j, j < k → ∃ x, x < 64 ∧ fk B O S t q j x = true := by
        rcases p6 with h6 | h6
        · exact absurd (LS_zero.mpr h6) hz
        · exact h6
      have eF : (LSt (ly B O S t q k).1 &&& (LSt t ^^^ -1) ||| LSt (bfr B q (fun d => (ly B O S t q k).1 d && t d))) &&& (LSt (ly B O S t q k).2.2 ^^^ -1) = LSt (fk B O S t q k) := by
        rw [LS_not, LS_and, LS_or, LS_not, LS_and]
        rfl
      rw [bO (st_g4 c X s.1 s.2), bO (st_g4 c X s.1 s.2), hg'.2.2.2.1, LS_and, kL_of (M_before hs h hq hg' _), bO (st_g10 c X s.1 s.2), bO (st_g10 c X s.1 s.2), p3, eF, bO (st_p10 c X s.1 s.2 _), bO (g65_0 c _), bO (st_s hk), bO (st_g3 c X _ _), updL_n _ _ (by omega), hg'.2.2.1]
      have eP : LSt (ly B O S t q k).2.2 ||| LSt (fk B O S t q k) = LSt (ly B O S t q (k + 1)).2.2 := by
        rw [LS_or]
        rfl
      rw [eP]
      by_cases hz2 : LSt (fk B O S t q k) &&& LSt T = 0
      · have hz3 : ∀ x, x < 64 → (fk B O S t q k x && T x) = false := by
          rw [LS_and] at hz2
          exact LS_zero.mp hz2
        have eE : (LSt (sar B (fk B O S t q k)) &&& LSt O ||| LSt (fk B O S t q k) &&& LSt t) &&& (LSt (ly B O S t q k).2.1 ^^^ -1) = LSt (ly B O S t q (k + 1)).1 := by
          rw [LS_and, LS_and, LS_or, LS_not, LS_and]
          rfl
        have eA : LSt (ly B O S t q k).2.1 ||| LSt (ly B O S t q (k + 1)).1 = LSt (ly B O S t q (k + 1)).2.1 := by
          rw [LS_or]
          rfl
        rw [if_pos hz2, kL_of (M_around hs (sY_G h _ _) hF), bO (st_g1 c X _ _), bO (st_g4 c X _ _), bO (st_g9 c X _ _), bO (st_g9 c X _ _), updL_n _ _ (by omega), updL_n _ _ (by omega), updL_n _ _ (by omega), hg'.1, hg'.2.2.2.1, p2, eE, eA, bO (st_p9 c X _ _ _), nI_1]
        refine .inl ⟨(vp_updL (vp_updL s.1 10 (LSt (ly B O S t q (k + 1)).2.2)) 9 (LSt (ly B O S t q (k + 1)).2.1), vp_updL s.2 k (LSt (fk B O S t q k))), rfl, ?_, ?_, ?_, ?_, ?_, ?_⟩
        · intro j hj
          show vp_updL _ 9 _ j = _
          rw [updL_n _ _ (by omega), updL_n _ _ (by omega)]
          exact p1 j hj
        · dsimp only
          rw [updL_1]
        · dsimp only
          rw [updL_n _ _ (by omega), updL_1]
        · intro j hj
          show vp_updL s.2 k _ j = _
          by_cases e : j = k
          · rw [e, updL_1]
          · rw [updL_n _ _ e]
            exact p4 j (by omega)
        · intro j x hj hx h1 h2
          by_cases e : j = k
          · subst e
            have := hz3 x (by omega)
            rw [h1, h2] at this
            cases this
          · exact p5 j x (by omega) hx h1 h2
        · by_cases hne : ∃ x, x < 64 ∧ fk B O S t q k x = true
          · refine .inr (fun j hj => ?_)
            by_cases e : j = k
            · rw [e]; exact hne
            · exact p6' j (by omega)
          · refine .inl (fun x hx => ?_)
            cases z : (ly B O S t q (k + 1)).1 x with
            | false => rfl
            | true =>
              exfalso
              rcases ((en_iff hs hF).mp z).1 with ⟨⟨_, y, hy, hy1, _⟩, _⟩ | hy1
              · exact hne ⟨y, by omega, hy1⟩
              · exact hne ⟨x, hx, hy1.1⟩
      · rw [if_neg hz2, hQ]
        refine .inr ⟨_, _, nI k, rfl, ?_, .inr ⟨k, hk, rfl, ?_, ?_⟩⟩
        · intro j hj
          rw [updL_n _ _ (by omega)]
          exact p1 j hj
        · intro j hj
          by_cases e : j = k
          · rw [e, updL_1]
          · rw [updL_n _ _ e]
            exact p4 j (by omega)
        · rw [LS_and] at hz2
          obtain ⟨x, hx, hx1, _⟩ := LS_least hz2
          simp only [Bool.and_eq_true] at hx1
          exact ⟨x, hT x hx1.2, hx1.1, hx1.2⟩) (k := 0) (s := (vp_updL (vp_updL g 9 (LSt S)) 10 0, m)) (by omega) ⟨(fun j hj => by show vp_updL _ 10 _ j = _; rw [updL_n _ _ (by omega), updL_n _ _ (by omega)]), i9, i10, (fun j hj => absurd hj (Nat.not_lt_zero j)), (fun j x hj => absurd hj (Nat.not_lt_zero j)), .inr (fun j hj => absurd hj (Nat.not_lt_zero j))⟩
  have start : ix_D mSm_search 0 [some (.ref 65), some (.ref 5), none, none, none, none, none] [] (hp c (sY X g m)) = l_Sm_search_21 65 5 (LSt (ly B O S t q 0).1) (nI 0) (hp c (sY X (vp_updL (vp_updL g 9 (LSt S)) 10 0) m)) := by
    rw [e_Sm_search, bO (st_g2 c X g m), bO (st_g2 c X g m), hg.2.1, bO (st_p9 c X g m _), bO (st_p10 c X _ m _)]
    rfl
  have hq2 : Q (l_Sm_search_21 65 5 (LSt (ly B O S t q 0).1) (nI 0) (hp c (sY X (vp_updL (vp_updL g 9 (LSt S)) 10 0) m))) := by
    rcases main with ⟨s', e, p1, p2, p3, p4, p5, p6⟩ | hq3
    · have e' : l_Sm_search_21 65 5 (LSt (ly B O S t q 0).1) (nI 0) (hp c (sY X (vp_updL (vp_updL g 9 (LSt S)) 10 0) m)) = l_Sm_search_21 65 5 (LSt (ly B O S t q 64).1) (nI 64) (hp c (sY X s'.1 s'.2)) := e
      rw [e', e_Sm_search_21, if_pos (show (64 : Int32) ≤ nI 64 by decide), hQ]
      refine ⟨s'.1, s'.2, -1, rfl, p1, .inl ⟨rfl, 64, ly_fin hL p5 ?_, p2, p3⟩⟩
      rcases p6 with h6 | h6
      · exact .inl h6
      · exact .inr ⟨rfl, h6⟩
    · exact hq3
  rw [hQ] at hq2
  obtain ⟨g', m', r, e, r1, r2⟩ := hq2
  exact ⟨g', m', r, x_Sm_search (rc_65 c _) (by rw [start]; exact e), r1, r2⟩
