/-! TUPLES: the bundle's methods -/
set_option maxRecDepth 4000 in
theorem sh_102 {c : ixK} {a b : Nat} (h : cBn c a b) : sp_sh c 102 = (19, 0, [(2, 103), (2, 104), (2, 105), (2, a), (2, b)]) := by
  obtain ⟨_, h2⟩ := h
  show (sp_T c.2.2.2).getD 99 (3, 8, []) = _
  rcases h2 with ⟨e, rfl, rfl⟩ | ⟨e, rfl, rfl⟩ <;> rw [e] <;> rfl
theorem cBn_c {c : ixK} {a b : Nat} (h : cBn c a b) : c.2.2.2 = 1 ∨ c.2.2.2 = 2 := h.2.elim (fun q => .inl q.1) (fun q => .inr q.1)
set_option maxRecDepth 4000 in
theorem sh_103 {c : ixK} (h2 : c.2.2.2 = 1 ∨ c.2.2.2 = 2) : sp_sh c 103 = (1, 4, []) := by
  show (sp_T c.2.2.2).getD 100 (3, 8, []) = _
  rcases h2 with e | e <;> rw [e] <;> rfl
set_option maxRecDepth 4000 in
theorem sh_104 {c : ixK} (h2 : c.2.2.2 = 1 ∨ c.2.2.2 = 2) : sp_sh c 104 = (0, 4, []) := by
  show (sp_T c.2.2.2).getD 101 (3, 8, []) = _
  rcases h2 with e | e <;> rw [e] <;> rfl
set_option maxRecDepth 4000 in
theorem sh_105 {c : ixK} (h2 : c.2.2.2 = 1 ∨ c.2.2.2 = 2) : sp_sh c 105 = (0, 4, []) := by
  show (sp_T c.2.2.2).getD 102 (3, 8, []) = _
  rcases h2 with e | e <;> rw [e] <;> rfl
theorem rc_102 {c : ixK} {a b : Nat} (h : cBn c a b) (X : ixX) : ix_rc (hp c X) 102 = some 9 := hp_rc (by omega) (by have := h.1; omega) (sh_102 h)
theorem gb_0 {c : ixK} {a b : Nat} (h : cBn c a b) (X : ixX) : ix_gr (hp c X) 102 9 0 = some 103 := hp_gr (by omega) (by have := h.1; omega) (sh_102 h) rfl
theorem gb_1 {c : ixK} {a b : Nat} (h : cBn c a b) (X : ixX) : ix_gr (hp c X) 102 9 1 = some 104 := hp_gr (by omega) (by have := h.1; omega) (sh_102 h) rfl
theorem gb_2 {c : ixK} {a b : Nat} (h : cBn c a b) (X : ixX) : ix_gr (hp c X) 102 9 2 = some 105 := hp_gr (by omega) (by have := h.1; omega) (sh_102 h) rfl
theorem gb_3 {c : ixK} {a b : Nat} (h : cBn c a b) (X : ixX) : ix_gr (hp c X) 102 9 3 = some a := hp_gr (by omega) (by have := h.1; omega) (sh_102 h) rfl
theorem gb_4 {c : ixK} {a b : Nat} (h : cBn c a b) (X : ixX) : ix_gr (hp c X) 102 9 4 = some b := hp_gr (by omega) (by have := h.1; omega) (sh_102 h) rfl
theorem r103 {c : ixK} {a b : Nat} (h : cBn c a b) {X : ixX} {i : Nat} (hi : i < 4) : ix_al (hp c X) 103 (nI i) = some (X.2 103 i) := hp_al (by have := h.1; omega) (sh_103 (cBn_c h)) hi (by decide)
theorem s103 {c : ixK} {a b : Nat} (h : cBn c a b) {X : ixX} {i : Nat} {x : Int64} (hi : i < 4) : ix_sl (hp c X) 103 (nI i) x = some (hp c (aJ X 103 (vp_updL (X.2 103) i x))) := hp_sl (by omega) (by have := h.1; omega) (sh_103 (cBn_c h)) hi (by decide)
theorem r104 {c : ixK} {a b : Nat} (h : cBn c a b) {X : ixX} {i : Nat} (hi : i < 4) : ix_ai (hp c X) 104 (nI i) = some (X.1 104 i) := hp_ai (by have := h.1; omega) (sh_104 (cBn_c h)) hi (by decide)
theorem s104 {c : ixK} {a b : Nat} (h : cBn c a b) {X : ixX} {i : Nat} {x : Int32} (hi : i < 4) : ix_si (hp c X) 104 (nI i) x = some (hp c (aI X 104 (upd (X.1 104) i x))) := hp_si (by omega) (by have := h.1; omega) (sh_104 (cBn_c h)) hi (by decide)
theorem r105 {c : ixK} {a b : Nat} (h : cBn c a b) {X : ixX} {i : Nat} (hi : i < 4) : ix_ai (hp c X) 105 (nI i) = some (X.1 105 i) := hp_ai (by have := h.1; omega) (sh_105 (cBn_c h)) hi (by decide)
theorem s105 {c : ixK} {a b : Nat} (h : cBn c a b) {X : ixX} {i : Nat} {x : Int32} (hi : i < 4) : ix_si (hp c X) 105 (nI i) x = some (hp c (aI X 105 (upd (X.1 105) i x))) := hp_si (by omega) (by have := h.1; omega) (sh_105 (cBn_c h)) hi (by decide)
/-! the tallies exchanged -/
def swK (c : ixK) : ixK := (c.1, c.2.1, c.2.2.1, 3 - c.2.2.2)
theorem swK_Bn {c : ixK} {a b : Nat} (h : cBn c a b) : cBn (swK c) b a := by
  refine ⟨h.1, ?_⟩
  rcases h.2 with ⟨e, e1, e2⟩ | ⟨e, e1, e2⟩
  · exact .inr ⟨by show 3 - c.2.2.2 = 2; omega, e2, e1⟩
  · exact .inl ⟨by show 3 - c.2.2.2 = 1; omega, e2, e1⟩
set_option maxRecDepth 8000 in
theorem sp_T21 : sp_T2 = sp_T1.set 99 (19, 0, [(2, 103), (2, 104), (2, 105), (2, 109), (2, 106)]) := rfl
theorem sp_ex (i : Nat) (h : ¬ i = 99) : sp_T1.getD i (3, 8, []) = sp_T2.getD i (3, 8, []) := by
  rw [sp_T21, List.getD_eq_getElem?_getD, List.getD_eq_getElem?_getD, List.getElem?_set_ne (fun e => h e.symm)]
theorem sh_sw {c : ixK} {a b : Nat} (h : cBn c a b) {x : Nat} (hx : ¬ x = 102) : sp_sh (swK c) x = sp_sh c x := by
  match x with
  | 0 => rfl
  | 1 => rfl
  | 2 => rfl
  | y + 3 =>
    show (sp_T (3 - c.2.2.2)).getD y (3, 8, []) = (sp_T c.2.2.2).getD y (3, 8, [])
    rcases h.2 with ⟨e, _⟩ | ⟨e, _⟩
    · rw [e]; exact (sp_ex y (by omega)).symm
    · rw [e]; exact sp_ex y (by omega)
theorem M_exch {c : ixK} {a b : Nat} (h : cBn c a b) (X : ixX) : ix_M mBn_exchangeTallies [.ref 102] (hp c X) = some ([], hp (swK c) X) := by
  have h1 := h.1
  refine x_Bn_exchangeTallies (rc_102 h X) ?_
  have o1 : ix_ob (hp c X) 102 9 = some [.ref 103, .ref 104, .ref 105, .ref a, .ref b] := hp_ob (by omega) (by omega) (sh_102 h)
  have p1 : ix_pf (hp c X) 102 9 4 (.ref a) = some (ix_up (hp c X) 102 (.inr (9, [.ref 103, .ref 104, .ref 105, .ref a, .ref a]))) := by
    unfold ix_pf
    rw [o1, Option.bind_some]
    exact if_pos (show 4 < 5 by omega)
  have o2 : ix_ob (ix_up (hp c X) 102 (.inr (9, [.ref 103, .ref 104, .ref 105, .ref a, .ref a]))) 102 9 = some [.ref 103, .ref 104, .ref 105, .ref a, .ref a] := by
    unfold ix_ob
    rw [if_pos (show 3 ≤ 102 ∧ 102 < (ix_up (hp c X) 102 (.inr (9, [.ref 103, .ref 104, .ref 105, .ref a, .ref a]))).1 from ⟨by omega, by show 102 < c.1 + 102; omega⟩)]
    rfl
  have p2 : ix_pf (ix_up (hp c X) 102 (.inr (9, [.ref 103, .ref 104, .ref 105, .ref a, .ref a]))) 102 9 3 (.ref b) = some (ix_up (ix_up (hp c X) 102 (.inr (9, [.ref 103, .ref 104, .ref 105, .ref a, .ref a]))) 102 (.inr (9, [.ref 103, .ref 104, .ref 105, .ref b, .ref a]))) := by
    unfold ix_pf
    rw [o2, Option.bind_some]
    exact if_pos (show 3 < 5 by omega)
  have e : ix_up (ix_up (hp c X) 102 (.inr (9, [.ref 103, .ref 104, .ref 105, .ref a, .ref a]))) 102 (.inr (9, [.ref 103, .ref 104, .ref 105, .ref b, .ref a])) = hp (swK c) X := by
    have hs := sh_102 (swK_Bn h)
    show (c.1 + 102, c.2.1, _) = (c.1 + 102, c.2.1, _)
    congr 2
    funext x
    show (if x = 102 then _ else if x = 102 then _ else sp_en (sp_sh c x) (X.1 x) (X.2 x)) = sp_en (sp_sh (swK c) x) (X.1 x) (X.2 x)
    by_cases ex : x = 102
    · rw [if_pos ex, ex, hs]; rfl
    · rw [if_neg ex, if_neg ex, sh_sw h ex]
  rw [e_Bn_exchangeTallies, bO (gb_4 h X), bO (gb_3 h X), bO p1, bO p2, e]
/-! what the bundle has of each pair -/
def tAb (B : bT) (p d r : Nat) : Bool := decide (tIn B d r) && (decide (0 < fw B (pst B p) (cl B d r)) && decide (0 < fw B (cl B d r) (pen B p)))
theorem tAb_iff {B : bT} {p d r : Nat} : tAb B p d r = true ↔ tAl B p d r := by
  unfold tAb tAl
  rw [Bool.and_eq_true, Bool.and_eq_true, decide_eq_true_iff, decide_eq_true_iff, decide_eq_true_iff]
def bnOK (X : ixX) (B : bT) (k : Nat) : Prop := ∀ p, p < k → X.1 104 p = nI (dgB B (pst B p)) ∧ X.1 105 p = nI (dgB B (pen B p)) ∧ X.2 103 p = LSt (fun c => decide (0 < fw B (pst B p) c) && decide (0 < fw B c (pen B p)))
theorem M_isOn {c : ixK} {a b : Nat} (h : cBn c a b) {X : ixX} {B : bT} (hb : bOK B) (hX : bnOK X B (bpr B).length) {p d : Nat} (pn : p < (bpr B).length) (hd : d < 31) : ix_M mBn_isOn [.ref 102, .int (nI p), .int (nI d)] (hp c X) = some ([.int (ix_bi (decide (tOn B p d)))], hp c X) := by
  have h4 := hb.2.2.2.1
  obtain ⟨q1, q2, _, _⟩ := pen_D hb pn
  have g1 := dgB_le hb.1 q1
  have g2 := dgB_le hb.1 q2
  obtain ⟨b1, b2, _⟩ := hX p pn
  refine x_Bn_isOn (rc_102 h X) ?_
  rw [e_Bn_isOn, bO (gb_1 h X), bO (r104 h (by omega)), b1]
  by_cases a1 : d < dgB B (pst B p)
  · rw [if_pos ((nI_ltI (by omega) (by omega)).mpr a1), decide_eq_false (fun o => by have := o.1; omega)]
  · rw [if_neg (fun e => a1 ((nI_ltI (by omega) (by omega)).mp e)), bO (gb_2 h X), bO (r105 h (by omega)), b2]
    by_cases a2 : dgB B (pen B p) < d
    · rw [if_pos ((nI_ltI (by omega) (by omega)).mpr a2), decide_eq_false (fun o => by have := o.2; omega)]
    · rw [if_neg (fun e => a2 ((nI_ltI (by omega) (by omega)).mp e)), decide_eq_true ⟨by omega, by omega⟩]
theorem M_isOn1 {c : ixK} {a b : Nat} (h : cBn c a b) {X : ixX} {B : bT} (hb : bOK B) (hX : bnOK X B (bpr B).length) {p d : Nat} (pn : p < (bpr B).length) (hd : d < 31) : ∃ v, ix_M mBn_isOn [.ref 102, .int (nI p), .int (nI d - 1)] (hp c X) = some ([.int (ix_bi v)], hp c X) := by
  have h4 := hb.2.2.2.1
  rcases Nat.eq_zero_or_pos d with z | z
  · have q1 := (pen_D hb pn).1
    have g1 := dgB_le hb.1 q1
    refine ⟨false, x_Bn_isOn (rc_102 h X) ?_⟩
    have hl : nI d - 1 < nI (dgB B (pst B p)) := by
      rw [z, nI_z, nI_z, show (1 : Int32) = zI 1 from rfl, zI_sub, zI_lt (by omega) (by omega) (by omega) (by omega)]
      omega
    rw [e_Bn_isOn, bO (gb_1 h X), bO (r104 h (by omega)), (hX p pn).1, if_pos hl]
  · rw [show nI d - 1 = nI (d - 1) from nI_sub (b := 1) z]
    exact ⟨_, M_isOn h hb hX pn (by omega)⟩
theorem iS_sT {t : Nat → Bool} {k : Nat} (hk : k < 16) (h : t k = true) : iS (fun i => decide (i < k) && t i) ||| ix_ishl 1 (nI k) = iS (fun i => decide (i < k + 1) && t i) := by
  rw [iS_add hk]
  refine iS_cong (fun i _ => ?_)
  by_cases e : i = k
  · rw [e, h, decide_eq_true rfl, decide_eq_true (show k < k + 1 by omega), Bool.or_true]; rfl
  · rw [decide_eq_false e, Bool.or_false, decide_eq_decide.mpr (show i < k ↔ i < k + 1 by omega)]
theorem iS_sF {t : Nat → Bool} {k : Nat} (h : t k = false) : iS (fun i => decide (i < k) && t i) = iS (fun i => decide (i < k + 1) && t i) := by
  refine iS_cong (fun i _ => ?_)
  by_cases e : i = k
  · rw [e, h, Bool.and_false, Bool.and_false]
  · rw [decide_eq_decide.mpr (show i < k ↔ i < k + 1 by omega)]
theorem M_presentBefore {c : ixK} {a b : Nat} (h : cBn c a b) {X : ixX} {B : bT} (hb : bOK B) (hX : bnOK X B (bpr B).length) {p d : Nat} (pn : p < (bpr B).length) (hd : d < 31) : ix_M mBn_presentBefore [.ref 102, .int (nI p), .int (nI d)] (hp c X) = some ([.int (iS (fun q => decide (q < p) && decide (tOn B q d)))], hp c X) := by
  have h4 := hb.2.2.2.1
  refine x_Bn_presentBefore (rc_102 h X) ?_
  have e := lp_f (fun k (x : Int32) => l_Bn_presentBefore_5 102 (nI p) (nI d) x (nI k) (hp c X)) (fun k => iS (fun q => decide (q < k) && decide (tOn B q d))) (N := p) (fun k hk => by
    show l_Bn_presentBefore_5 102 (nI p) (nI d) (iS (fun q => decide (q < k) && decide (tOn B q d))) (nI k) (hp c X) = l_Bn_presentBefore_5 102 (nI p) (nI d) (iS (fun q => decide (q < k + 1) && decide (tOn B q d))) (nI (k + 1)) (hp c X)
    rw [e_Bn_presentBefore_5, if_neg (fun e => by have := (nI_leI (by omega) (by omega)).mp e; omega), kZ_of (M_isOn h hb hX (show k < (bpr B).length by omega) hd)]
    by_cases o : tOn B k d
    · rw [if_pos (decide_eq_true o), iS_sT (t := fun q => decide (tOn B q d)) (by omega) (decide_eq_true o), nI_1]
    · rw [if_neg (fun e => o (of_decide_eq_true e)), iS_sF (t := fun q => decide (tOn B q d)) (decide_eq_false o), nI_1]) (k := 0) (by omega)
  have e' : l_Bn_presentBefore_5 102 (nI p) (nI d) (iS (fun q => decide (q < 0) && decide (tOn B q d))) (nI 0) (hp c X) = l_Bn_presentBefore_5 102 (nI p) (nI d) (iS (fun q => decide (q < p) && decide (tOn B q d))) (nI p) (hp c X) := e
  have e0 : iS (fun q => decide (q < 0) && decide (tOn B q d)) = 0 := by
    rw [iS_0]
    exact iS_cong (fun i _ => by rw [decide_eq_false (Nat.not_lt_zero i), Bool.false_and])
  rw [e0] at e'
  rw [e_Bn_presentBefore, show l_Bn_presentBefore_5 102 (nI p) (nI d) 0 0 (hp c X) = l_Bn_presentBefore_5 102 (nI p) (nI d) 0 (nI 0) (hp c X) from rfl, e', e_Bn_presentBefore_5, if_pos ((nI_leI (by omega) (by omega)).mpr (by omega))]
def tkP (pr : Nat → Bool) (s : Nat) : Nat → Nat → Bool
  | 0, _ => false
  | k + 1, r => tkP pr s k r || (pr k && decide (r = dec8 s k))
theorem M_rowsTaken {s : Nat} (hs : s < 4096) (pr : Nat → Bool) (h : ixH) : ix_M mBn_rowsTaken [.int (nI s), .int (iS pr)] h = some ([.int (iS (tkP pr s 4))], h) := by
  refine x_Bn_rowsTaken ?_
  have e := lp_f (fun k (x : Int32) => l_Bn_rowsTaken_4 (nI s) (iS pr) x (nI k) h) (fun k => iS (tkP pr s k)) (N := 4) (fun k hk => by
    show l_Bn_rowsTaken_4 (nI s) (iS pr) (iS (tkP pr s k)) (nI k) h = l_Bn_rowsTaken_4 (nI s) (iS pr) (iS (fun r => tkP pr s k r || (pr k && decide (r = dec8 s k)))) (nI (k + 1)) h
    have hl := dec8_lt s k
    have e1 : (((ix_ishr (iS pr) (nI k)) &&& 1) = 1) ↔ pr k = true := by
      rw [sh1_1 _ (by omega), b_iS pr (by omega), decide_eq_true (by omega), Bool.true_and]
    rw [e_Bn_rowsTaken_4, if_neg (lit_nle (x := 4) (a := 4) (k := k) rfl hk (by omega))]
    cases hk2 : pr k with
    | true =>
      rw [if_neg (fun e => e (e1.mpr hk2)), kI_of (M_rowIn hs hk h), iS_add (by omega), nI_1]
      congr 1
    | false =>
      rw [if_pos (fun e => by have := e1.mp e; rw [hk2] at this; cases this), nI_1]
      congr 1
      exact iS_cong (fun i _ => by rw [Bool.false_and, Bool.or_false])) (k := 0) (by omega)
  have e' : l_Bn_rowsTaken_4 (nI s) (iS pr) (iS (fun _ => false)) (nI 0) h = l_Bn_rowsTaken_4 (nI s) (iS pr) (iS (tkP pr s 4)) (nI 4) h := e
  rw [← iS_0] at e'
  rw [e_Bn_rowsTaken, show l_Bn_rowsTaken_4 (nI s) (iS pr) 0 0 h = l_Bn_rowsTaken_4 (nI s) (iS pr) 0 (nI 0) h from rfl, e', e_Bn_rowsTaken_4, if_pos (by decide)]
theorem tkP_iff {pr : Nat → Bool} {s r : Nat} : ∀ k, tkP pr s k r = true ↔ ∃ q, q < k ∧ pr q = true ∧ dec8 s q = r
  | 0 => ⟨fun e => (by cases e), fun ⟨q, hq, _⟩ => absurd hq (Nat.not_lt_zero q)⟩
  | k + 1 => by
    show (tkP pr s k r || (pr k && decide (r = dec8 s k))) = true ↔ _
    rw [Bool.or_eq_true, tkP_iff k, Bool.and_eq_true, decide_eq_true_iff]
    constructor
    · rintro (⟨q, h1, h2, h3⟩ | ⟨h2, h3⟩)
      · exact ⟨q, by omega, h2, h3⟩
      · exact ⟨k, by omega, h2, h3.symm⟩
    · rintro ⟨q, h1, h2, h3⟩
      by_cases e : q = k
      · subst e; exact .inr ⟨h2, h3.symm⟩
      · exact .inl ⟨q, by omega, h2, h3⟩
theorem tkP_tTk {B : bT} {d s p r : Nat} (hp4 : p ≤ 4) : tkP (fun q => decide (q < p) && decide (tOn B q d)) s 4 r = tTk B d (dec8 s) r p := by
  rw [Bool.eq_iff_iff, tkP_iff, tTk_iff]
  constructor
  · rintro ⟨q, _, h2, h3⟩
    rw [Bool.and_eq_true, decide_eq_true_iff, decide_eq_true_iff] at h2
    exact ⟨q, h2.1, h2.2, h3⟩
  · rintro ⟨q, h1, h2, h3⟩
    exact ⟨q, by omega, by rw [Bool.and_eq_true, decide_eq_true_iff, decide_eq_true_iff]; exact ⟨h1, h2⟩, h3⟩
theorem M_rowsAllowed {c : ixK} {a b : Nat} (h : cBn c a b) {X : ixX} {B : bT} (hb : bOK B) (hG : cG 4 X B) (hX : bnOK X B (bpr B).length) {p d : Nat} (pn : p < (bpr B).length) (hd : d < 31) : ix_M mBn_rowsAllowed [.ref 102, .ref 5, .int (nI p), .int (nI d)] (hp c X) = some ([.int (iS (tAb B p d))], hp c X) := by
  have h4 := hb.2.2.2.1
  have hs := hb.1
  have h64 := bS_64 hs
  obtain ⟨_, w8, _, t8⟩ := hs
  refine x_Bn_rowsAllowed (rc_102 h X) ?_
  have e := lp_f (fun k (x : Int32) => l_Bn_rowsAllowed_6 102 5 (nI p) (nI d) x (nI k) (hp c X)) (fun k => iS (fun r => decide (r < k) && tAb B p d r)) (N := bh B) (fun k hk => by
    show l_Bn_rowsAllowed_6 102 5 (nI p) (nI d) (iS (fun r => decide (r < k) && tAb B p d r)) (nI k) (hp c X) = l_Bn_rowsAllowed_6 102 5 (nI p) (nI d) (iS (fun r => decide (r < k + 1) && tAb B p d r)) (nI (k + 1)) (hp c X)
    rw [e_Bn_rowsAllowed_6, bO (g5_1 c X), G_h hG, if_neg (fun e => by have := (nI_leI (by omega) (by omega)).mp e; omega)]
    have out : ∀ x6 : Int32, ¬ tIn B d k → l_Bn_rowsAllowed_40 102 5 (nI p) (nI d) (iS (fun r => decide (r < k) && tAb B p d r)) (nI k) x6 false (hp c X) = l_Bn_rowsAllowed_6 102 5 (nI p) (nI d) (iS (fun r => decide (r < k + 1) && tAb B p d r)) (nI (k + 1)) (hp c X) := fun x6 hn => by
      rw [e_Bn_rowsAllowed_40, if_neg (by decide), iS_sF (t := tAb B p d) (by unfold tAb; rw [decide_eq_false hn, Bool.false_and]), nI_1]
    by_cases a1 : k ≤ d
    · rw [nI_sub a1, if_neg (nI_pos (by omega)), bO (g5_0 c X), G_w hG]
      by_cases a2 : d - k < bw B
      · have hin : tIn B d k := ⟨a1, a2, hk⟩
        have hcl := cl_lt hin
        rw [if_neg (fun e => by have := (nI_leI (by omega) (by omega)).mp e; omega), e_Bn_rowsAllowed_40, if_pos rfl, bO (gb_0 h X), bO (r103 h (by omega)), (hX p pn).2.2, bO (g5_0 c X), G_w hG, nI_mul, nI_add, show k * bw B + (d - k) = cl B d k from rfl, kZ_of (M_holds _ (by omega) _)]
        have et : tAb B p d k = (decide (0 < fw B (pst B p) (cl B d k)) && decide (0 < fw B (cl B d k) (pen B p))) := by
          unfold tAb
          rw [decide_eq_true hin, Bool.true_and]
        cases hq : tAb B p d k with
        | true =>
          rw [if_pos (et.symm.trans hq), iS_sT (t := tAb B p d) (by omega) hq, nI_1]
        | false =>
          rw [if_neg (fun e => by rw [et.trans e] at hq; cases hq), iS_sF (t := tAb B p d) hq, nI_1]
      · rw [if_pos ((nI_leI (by omega) (by omega)).mpr (by omega))]
        exact out _ (fun e => a2 e.2.1)
    · rw [if_pos (nI_subneg (by omega) (by omega))]
      exact out _ (fun e => a1 e.1)) (k := 0) (by omega)
  have e' : l_Bn_rowsAllowed_6 102 5 (nI p) (nI d) (iS (fun r => decide (r < 0) && tAb B p d r)) (nI 0) (hp c X) = l_Bn_rowsAllowed_6 102 5 (nI p) (nI d) (iS (fun r => decide (r < bh B) && tAb B p d r)) (nI (bh B)) (hp c X) := e
  have e0 : iS (fun r => decide (r < 0) && tAb B p d r) = 0 := by
    rw [iS_0]
    exact iS_cong (fun i _ => by rw [decide_eq_false (Nat.not_lt_zero i), Bool.false_and])
  have e1 : iS (fun r => decide (r < bh B) && tAb B p d r) = iS (tAb B p d) := iS_cong (fun i _ => by
    cases hq : tAb B p d i with
    | false => rw [Bool.and_false]
    | true => rw [decide_eq_true (tAb_iff.mp hq).1.2.2]; rfl)
  rw [e0, e1] at e'
  rw [e_Bn_rowsAllowed, show l_Bn_rowsAllowed_6 102 5 (nI p) (nI d) 0 0 (hp c X) = l_Bn_rowsAllowed_6 102 5 (nI p) (nI d) 0 (nI 0) (hp c X) from rfl, e', e_Bn_rowsAllowed_6, bO (g5_1 c X), G_h hG, if_pos ((nI_leI (by omega) (by omega)).mpr (by omega))]
