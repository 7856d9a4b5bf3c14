/-! TUPLES: the class's states, eights; tallies -/
theorem b_7 : ∀ i, i < 32 → bt 7 i = decide (i < 3) := by decide +kernel
theorem b_4095 : ∀ i, i < 32 → bt 4095 i = decide (i < 12) := by decide +kernel
theorem p8_2 (q : Nat) : 8 ^ q = 2 ^ (3 * q) := (Nat.pow_mul 2 3 q).symm
theorem dg8_bit (x q i : Nat) : (x / 8 ^ q % 8).testBit i = (decide (i < 3) && x.testBit (3 * q + i)) := by
  rw [p8_2, show (8 : Nat) = 2 ^ 3 from rfl, Nat.testBit_mod_two_pow, Nat.testBit_div_two_pow, Nat.add_comm i]
def wr8 (s p r : Nat) : Nat := sNk (fun i => if 3 * p ≤ i ∧ i < 3 * p + 3 then r.testBit (i - 3 * p) else s.testBit i) 12
theorem wr8_lt (s p r : Nat) : wr8 s p r < 4096 := sNk_lt _ 12
theorem wr8_dg {s p r q : Nat} (hr : r < 8) (hp : p < 4) (hq : q < 4) : wr8 s p r / 8 ^ q % 8 = if q = p then r else s / 8 ^ q % 8 := by
  apply Nat.eq_of_testBit_eq
  intro i
  rw [dg8_bit]
  by_cases h3 : i < 3
  · unfold wr8
    rw [sNk_bit, decide_eq_true h3, decide_eq_true (by omega), Bool.true_and, Bool.true_and]
    by_cases e : q = p
    · rw [if_pos e, if_pos (by omega), e, Nat.add_sub_cancel_left]
    · rw [if_neg e, if_neg (by omega), dg8_bit, decide_eq_true h3, Bool.true_and]
  · rw [decide_eq_false h3, Bool.false_and]
    by_cases e : q = p
    · rw [if_pos e]
      have : (2 : Nat) ^ 3 ≤ 2 ^ i := Nat.pow_le_pow_right (by decide) (by omega)
      exact (Nat.testBit_lt_two_pow (by omega)).symm
    · rw [if_neg e, dg8_bit, decide_eq_false h3, Bool.false_and]
def dec8 (s : Nat) : Nat → Nat := fun q => s / 8 ^ q % 8
theorem dec8_lt (s q : Nat) : dec8 s q < 8 := Nat.mod_lt _ (by decide)
theorem i3 (p : Nat) : (3 : Int32) * nI p = nI (3 * p) := nI_mul 3 p
theorem tb12 {s i : Nat} (h : s < 4096) (hi : 12 ≤ i) : s.testBit i = false := by
  have : (2 : Nat) ^ 12 ≤ 2 ^ i := Nat.pow_le_pow_right (by decide) hi
  exact Nat.testBit_lt_two_pow (by omega)
theorem M_rowIn {s p : Nat} (hs : s < 4096) (hp : p < 4) (h : ixH) : ix_M mBn_rowIn [.int (nI s), .int (nI p)] h = some ([.int (nI (dec8 s p))], h) := by
  refine x_Bn_rowIn ?_
  rw [e_Bn_rowIn, i3]
  have e : (ix_ishr (nI s) (nI (3 * p))) &&& 7 = nI (dec8 s p) := by
    apply b_ext
    intro i hi
    unfold ix_ishr dec8
    rw [b_and, b_sshr (3 * p) (by omega) _ hi, b_7 i hi, bt_nI (s / 8 ^ p % 8) i, dg8_bit, decide_eq_true hi, Bool.true_and]
    by_cases h3 : i < 3
    · rw [decide_eq_true h3, Bool.and_true, Bool.true_and, if_pos (by omega), bt_nI, decide_eq_true (by omega), Bool.true_and]
    · rw [decide_eq_false h3, Bool.and_false, Bool.false_and]
  rw [e]
theorem M_withRow {s p r : Nat} (hs : s < 4096) (hp : p < 4) (hr : r < 8) (h : ixH) : ix_M mBn_withRow [.int (nI s), .int (nI p), .int (nI r)] h = some ([.int (nI (wr8 s p r))], h) := by
  refine x_Bn_withRow ?_
  rw [e_Bn_withRow, i3]
  have e : (nI s &&& ((ix_ishl 7 (nI (3 * p))) ^^^ (-1))) ||| (ix_ishl (nI r) (nI (3 * p))) = nI (wr8 s p r) := by
    apply b_ext
    intro i hi
    unfold ix_ishl wr8
    rw [b_or, b_and, b_xor, b_m1 i hi, b_shl (3 * p) (by omega) _ hi, b_shl (3 * p) (by omega) _ hi, bt_nI, bt_nI, bt_nI, sNk_bit, decide_eq_true hi, Bool.true_and, Bool.true_and, decide_eq_true (show i - 3 * p < 32 by omega), Bool.true_and, b_7 (i - 3 * p) (by omega), Bool.xor_true]
    by_cases a : 3 * p ≤ i
    · rw [decide_eq_true a, Bool.true_and, Bool.true_and]
      by_cases b : i < 3 * p + 3
      · rw [if_pos ⟨a, b⟩, decide_eq_true (show i - 3 * p < 3 by omega), decide_eq_true (show i < 12 by omega), Bool.not_true, Bool.and_false, Bool.false_or, Bool.true_and]
      · have : (2 : Nat) ^ 3 ≤ 2 ^ (i - 3 * p) := Nat.pow_le_pow_right (by decide) (by omega)
        rw [if_neg (fun e => b e.2), decide_eq_false (show ¬ i - 3 * p < 3 by omega), Bool.not_false, Bool.and_true, Nat.testBit_lt_two_pow (x := r) (i := i - 3 * p) (by omega), Bool.or_false]
        by_cases c : i < 12
        · rw [decide_eq_true c, Bool.true_and]
        · rw [decide_eq_false c, Bool.false_and, tb12 hs (by omega)]
    · rw [decide_eq_false a, Bool.false_and, Bool.false_and, Bool.not_false, Bool.and_true, Bool.or_false, if_neg (fun e => a e.1), decide_eq_true (show i < 12 by omega), Bool.true_and]
  rw [e]
/-! rows of the heap that the bundle lies in -/
def cBn (c : ixK) (a b : Nat) : Prop := c.1 = 10 ∧ ((c.2.2.2 = 1 ∧ a = 106 ∧ b = 109) ∨ (c.2.2.2 = 2 ∧ a = 109 ∧ b = 106))
def isT (c : ixK) (t : Nat) : Prop := c.1 = 10 ∧ (c.2.2.2 = 1 ∨ c.2.2.2 = 2) ∧ (t = 106 ∨ t = 109)
theorem cBn_a {c : ixK} {a b : Nat} (h : cBn c a b) : isT c a := ⟨h.1, h.2.elim (fun q => .inl q.1) (fun q => .inr q.1), h.2.elim (fun q => .inl q.2.1) (fun q => .inr q.2.1)⟩
theorem cBn_b {c : ixK} {a b : Nat} (h : cBn c a b) : isT c b := ⟨h.1, h.2.elim (fun q => .inl q.1) (fun q => .inr q.1), h.2.elim (fun q => .inr q.2.2) (fun q => .inl q.2.2)⟩
theorem cBn_ne {c : ixK} {a b : Nat} (h : cBn c a b) : (a = 106 ∧ b = 109) ∨ (a = 109 ∧ b = 106) := h.2.elim (fun q => .inl q.2) (fun q => .inr q.2)
set_option maxRecDepth 4000 in
theorem sh_t0 {c : ixK} {t : Nat} (h : isT c t) : sp_sh c t = (20, 0, [(2, t + 1), (2, t + 2), (0, 0)]) := by
  obtain ⟨_, h2, h3⟩ := h
  rcases h3 with rfl | rfl
  · show (sp_T c.2.2.2).getD 103 (3, 8, []) = _
    rcases h2 with e | e <;> rw [e] <;> rfl
  · show (sp_T c.2.2.2).getD 106 (3, 8, []) = _
    rcases h2 with e | e <;> rw [e] <;> rfl
set_option maxRecDepth 4000 in
theorem sh_t1 {c : ixK} {t : Nat} (h : isT c t) : sp_sh c (t + 1) = (1, 4096, []) := by
  obtain ⟨_, h2, h3⟩ := h
  rcases h3 with rfl | rfl
  · show (sp_T c.2.2.2).getD 104 (3, 8, []) = _
    rcases h2 with e | e <;> rw [e] <;> rfl
  · show (sp_T c.2.2.2).getD 107 (3, 8, []) = _
    rcases h2 with e | e <;> rw [e] <;> rfl
set_option maxRecDepth 4000 in
theorem sh_t2 {c : ixK} {t : Nat} (h : isT c t) : sp_sh c (t + 2) = (0, 4096, []) := by
  obtain ⟨_, h2, h3⟩ := h
  rcases h3 with rfl | rfl
  · show (sp_T c.2.2.2).getD 105 (3, 8, []) = _
    rcases h2 with e | e <;> rw [e] <;> rfl
  · show (sp_T c.2.2.2).getD 108 (3, 8, []) = _
    rcases h2 with e | e <;> rw [e] <;> rfl
section TLY
variable {c : ixK} {t : Nat} (h : isT c t)
theorem isT_lt (h : isT c t) : 106 ≤ t ∧ t + 2 < c.1 + 102 := by
  obtain ⟨h1, _, h3⟩ := h
  omega
theorem rc_t (h : isT c t) (X : ixX) : ix_rc (hp c X) t = some 10 := hp_rc (by have := isT_lt h; omega) (by have := isT_lt h; omega) (sh_t0 h)
theorem gt_0 (h : isT c t) (X : ixX) : ix_gr (hp c X) t 10 0 = some (t + 1) := hp_gr (by have := isT_lt h; omega) (by have := isT_lt h; omega) (sh_t0 h) rfl
theorem gt_1 (h : isT c t) (X : ixX) : ix_gr (hp c X) t 10 1 = some (t + 2) := hp_gr (by have := isT_lt h; omega) (by have := isT_lt h; omega) (sh_t0 h) rfl
theorem gt_2 (h : isT c t) (X : ixX) : ix_gi (hp c X) t 10 2 = some (X.1 t 2) := hp_gi (by have := isT_lt h; omega) (by have := isT_lt h; omega) (sh_t0 h) rfl
theorem pt_2 (h : isT c t) (X : ixX) (x : Int32) : ix_pf (hp c X) t 10 2 (.int x) = some (hp c (aI X t (upd (X.1 t) 2 x))) := hp_pI (by have := isT_lt h; omega) (by have := isT_lt h; omega) (sh_t0 h) (by show 2 < 3; omega) rfl
theorem rt_1 (h : isT c t) {X : ixX} {i : Nat} (hi : i < 4096) : ix_al (hp c X) (t + 1) (nI i) = some (X.2 (t + 1) i) := hp_al (by have := isT_lt h; omega) (sh_t1 h) hi (by decide)
theorem st_1 (h : isT c t) {X : ixX} {i : Nat} {x : Int64} (hi : i < 4096) : ix_sl (hp c X) (t + 1) (nI i) x = some (hp c (aJ X (t + 1) (vp_updL (X.2 (t + 1)) i x))) := hp_sl (by have := isT_lt h; omega) (by have := isT_lt h; omega) (sh_t1 h) hi (by decide)
theorem rt_2 (h : isT c t) {X : ixX} {i : Nat} (hi : i < 4096) : ix_ai (hp c X) (t + 2) (nI i) = some (X.1 (t + 2) i) := hp_ai (by have := isT_lt h; omega) (sh_t2 h) hi (by decide)
theorem st_2 (h : isT c t) {X : ixX} {i : Nat} {x : Int32} (hi : i < 4096) : ix_si (hp c X) (t + 2) (nI i) x = some (hp c (aI X (t + 2) (upd (X.1 (t + 2)) i x))) := hp_si (by have := isT_lt h; omega) (by have := isT_lt h; omega) (sh_t2 h) hi (by decide)
end TLY
/-! what a tally holds -/
def tly (t : Nat) (X : ixX) (W : Nat → Nat) (m : Nat) (L : Nat → Nat) : Prop := X.1 t 2 = nI m ∧ m ≤ 4096 ∧ (∀ s, s < 4096 → X.2 (t + 1) s = lN (W s)) ∧ (∀ i, i < m → X.1 (t + 2) i = nI (L i) ∧ L i < 4096 ∧ 0 < W (L i)) ∧ (∀ i j, i < j → j < m → L i ≠ L j) ∧ ∀ s, 0 < W s → s < 4096 ∧ ∃ i, i < m ∧ L i = s
theorem tly_OK {t : Nat} {X : ixX} {W : Nat → Nat} {m : Nat} {L : Nat → Nat} (h : tly t X W m L) : tOK t X := by
  obtain ⟨h1, h2, h3, h4, h5, h6⟩ := h
  refine ⟨m, h2, h1, fun i hi => ⟨L i, (h4 i hi).2.1, (h4 i hi).1⟩, fun s hs hn => ?_⟩
  rw [h3 s hs] at hn
  obtain ⟨_, i, hi, e⟩ := h6 s (by
    rcases Nat.eq_zero_or_pos (W s) with z | z
    · rw [z] at hn; exact absurd rfl hn
    · exact z)
  exact ⟨i, hi, by rw [← e]; exact (h4 i hi).1⟩
theorem tly_cong {t : Nat} {X Y : ixX} {W : Nat → Nat} {m : Nat} {L : Nat → Nat} (h1 : Y.1 t = X.1 t) (h2 : Y.1 (t + 2) = X.1 (t + 2)) (h3 : Y.2 (t + 1) = X.2 (t + 1)) (h : tly t X W m L) : tly t Y W m L := by
  unfold tly
  rw [h1, h2, h3]
  exact h
theorem a4095 {s : Nat} (hs : s < 4096) : nI s &&& 4095 = nI s := by
  apply b_ext
  intro i hi
  rw [b_and, b_4095 i hi, bt_nI]
  by_cases h : i < 12
  · rw [decide_eq_true h, Bool.and_true]
  · rw [decide_eq_false h, Bool.and_false, tb12 hs (by omega), Bool.and_false]
theorem M_rowsAt {c : ixK} {t : Nat} (h : isT c t) {X : ixX} {n i s : Nat} (h1 : X.1 t 2 = nI n) (h2 : n ≤ 4096) (hi : i < n) (h3 : X.1 (t + 2) i = nI s) (hs : s < 4096) : ix_M mTa_rowsAt [.ref t, .int (nI i)] (hp c X) = some ([.int (nI s)], hp c X) := by
  refine x_Ta_rowsAt (rc_t h X) ?_
  rw [e_Ta_rowsAt, if_neg (nI_pos (by omega)), bO (gt_2 h X), h1, if_neg (fun e => by have := (nI_leI (by omega) (by omega)).mp e; omega), if_neg (lit_nle (x := 4096) (a := 4096) (k := i) rfl (by omega) (by omega)), bO (gt_1 h X), bO (rt_2 h (by omega)), h3, a4095 hs]
theorem M_waysAt {c : ixK} {t : Nat} (h : isT c t) {X : ixX} {W : Nat → Nat} {m : Nat} {L : Nat → Nat} (hT : tly t X W m L) {i : Nat} (hi : i < m) : ix_M mTa_waysAt [.ref t, .int (nI i)] (hp c X) = some ([.long (lN (W (L i)))], hp c X) := by
  obtain ⟨h1, h2, h3, h4, _, _⟩ := hT
  refine x_Ta_waysAt (rc_t h X) ?_
  rw [e_Ta_waysAt, bO (gt_0 h X), kI_of (M_rowsAt h h1 h2 hi (h4 i hi).1 (h4 i hi).2.1), bO (rt_1 h (h4 i hi).2.1), h3 _ (h4 i hi).2.1]
theorem M_tempty {c : ixK} {t : Nat} (h : isT c t) {X : ixX} (hT : tOK t X) : ∃ Y, ix_M mTa_empty [.ref t] (hp c X) = some ([], hp c Y) ∧ tly t Y (fun _ => 0) 0 (fun _ => 0) ∧ fRm t (t + 3) X Y := by
  obtain ⟨n, h1, h2, h3, h4⟩ := hT
  obtain ⟨g, e, hg⟩ := lp_up (fun k (g : Nat → Int64) => l_Ta_empty_2 t (nI k) (hp c (aJ X (t + 1) g))) (fun k g => ∀ s, s < 4096 → ¬ g s = 0 → ∃ i, k ≤ i ∧ i < n ∧ X.1 (t + 2) i = nI s) (N := n) (fun k g hk hg => by
    obtain ⟨s, hs, es⟩ := h3 k hk
    refine ⟨vp_updL g s 0, ?_, fun s2 hs2 hn => ?_⟩
    · show l_Ta_empty_2 t (nI k) (hp c (aJ X (t + 1) g)) = l_Ta_empty_2 t (nI (k + 1)) (hp c (aJ X (t + 1) _))
      rw [e_Ta_empty_2, bO (gt_2 h _), show (aJ X (t + 1) g).1 t 2 = nI n from h2, if_neg (fun e => by have := (nI_leI (by omega) (by omega)).mp e; omega), bO (gt_0 h _), kI_of (M_rowsAt h (X := aJ X (t + 1) g) h2 h1 hk es hs), bO (st_1 h hs), aJ_1, aJ_aJ, nI_1]
    · by_cases e : s2 = s
      · rw [e, updL_1] at hn; exact absurd rfl hn
      · rw [updL_n _ _ e] at hn
        obtain ⟨i, i1, i2, i3⟩ := hg s2 hs2 hn
        by_cases ei : i = k
        · rw [ei, es] at i3
          exact absurd ((nI_eq (by omega) (by omega)).mp i3).symm e
        · exact ⟨i, by omega, i2, i3⟩) (k := 0) (s := X.2 (t + 1)) (by omega) (fun s hs hn => by
      obtain ⟨i, i1, i2⟩ := h4 s hs hn
      exact ⟨i, by omega, i1, i2⟩)
  have e' : l_Ta_empty_2 t (nI 0) (hp c X) = l_Ta_empty_2 t (nI n) (hp c (aJ X (t + 1) g)) := by
    have q : l_Ta_empty_2 t (nI 0) (hp c (aJ X (t + 1) (X.2 (t + 1)))) = l_Ta_empty_2 t (nI n) (hp c (aJ X (t + 1) g)) := e
    rw [aJ_self] at q
    exact q
  refine ⟨aI (aJ X (t + 1) g) t (upd (X.1 t) 2 0), x_Ta_empty (rc_t h X) ?_, ⟨by rw [aI_1, upd_1]; rfl, by omega, fun s hs => ?_, fun i hi => absurd hi (Nat.not_lt_zero i), fun i j _ hj => absurd hj (Nat.not_lt_zero j), fun s hs => absurd hs (Nat.lt_irrefl 0)⟩, fRm_aI (fRm_aJ (fRm_refl _ _ _) (by omega) (by omega)) (by omega) (by omega)⟩
  · rw [e_Ta_empty, show (0 : Int32) = nI 0 from rfl, e', e_Ta_empty_2, bO (gt_2 h _), show (aJ X (t + 1) g).1 t 2 = nI n from h2, if_pos ((nI_leI (by omega) (by omega)).mpr (by omega)), bO (pt_2 h _ _)]
    rfl
  · show (aJ X (t + 1) g).2 (t + 1) s = lN 0
    rw [aJ_1]
    by_cases z : g s = 0
    · exact z
    · obtain ⟨i, i1, i2, _⟩ := hg s hs z
      omega
def bumpW (W : Nat → Nat) (s v : Nat) : Nat → Nat := fun x => if x = s then W s + v else W x
theorem bumpW_1 (W : Nat → Nat) (s v : Nat) : bumpW W s v s = W s + v := if_pos rfl
theorem bumpW_n (W : Nat → Nat) {s x : Nat} (v : Nat) (h : ¬ x = s) : bumpW W s v x = W x := if_neg h
theorem M_tadd {c : ixK} {t : Nat} (h : isT c t) {X : ixX} {W : Nat → Nat} {m : Nat} {L : Nat → Nat} (hT : tly t X W m L) {s v : Nat} (hs : s < 4096) (hv : 0 < v) (hW : W s < 2 ^ 64) : ∃ Y m' L', ix_M mTa_add [.ref t, .int (nI s), .long (lN v)] (hp c X) = some ([], hp c Y) ∧ tly t Y (bumpW W s v) m' L' ∧ fRm t (t + 3) X Y := by
  obtain ⟨h1, h2, h3, h4, h5, h6⟩ := hT
  have s4 : nI s < (4096 : Int32) := (nI_ltI (b := 4096) (by omega) (by omega)).mpr hs
  rcases Nat.eq_zero_or_pos (W s) with z | z
  · have hnl : ∀ i, i < m → L i ≠ s := fun i hi e => by
      have := (h4 i hi).2.2
      rw [e] at this
      omega
    have hm : m < 4096 := by
      have := fb_holes 4096 (m + 1) (fun i => if i = m then s else L i) (fun i hi => by
        show (if i = m then s else L i) < 4096
        by_cases e : i = m
        · rw [if_pos e]; exact hs
        · rw [if_neg e]; exact (h4 i (by omega)).2.1) (fun i j hij hj => by
        show (if i = m then s else L i) ≠ (if j = m then s else L j)
        rw [if_neg (by omega)]
        by_cases e : j = m
        · rw [if_pos e]; exact hnl i (by omega)
        · rw [if_neg e]; exact h5 i j hij (by omega))
      omega
    obtain ⟨X1, hX1⟩ : ∃ X1, X1 = aI (aI X (t + 2) (upd (X.1 (t + 2)) m (nI s))) t (upd (X.1 t) 2 (nI (m + 1))) := ⟨_, rfl⟩
    have e2 : X1.2 (t + 1) = X.2 (t + 1) := by rw [hX1]; rfl
    refine ⟨aJ X1 (t + 1) (vp_updL (X.2 (t + 1)) s (lN v)), m + 1, fun i => if i = m then s else L i, x_Ta_add (rc_t h X) ?_, ⟨?_, by omega, fun x hx => ?_, fun i hi => ?_, fun i j hij hj => ?_, fun x hx => ?_⟩, ?_⟩
    · rw [e_Ta_add, if_neg (nI_pos (by omega)), if_pos s4, bO (gt_0 h X), bO (rt_1 h hs), h3 s hs, z, if_pos (show lN 0 = 0 from rfl), bO (gt_2 h X), h1, if_neg (nI_pos (by omega)), bO (gt_2 h X), h1, if_neg (lit_nle (x := 4096) (a := 4096) (k := m) rfl hm (by omega)), bO (gt_1 h X), bO (gt_2 h X), h1, bO (st_2 h hm), bO (gt_2 h _), aI_n _ _ (show ¬ t = t + 2 by omega), h1, nI_1, bO (pt_2 h _ _), aI_n _ _ (show ¬ t = t + 2 by omega), ← hX1, bO (gt_0 h X1), bO (rt_1 h hs), e2, h3 s hs, z, lN_add, Nat.zero_add, bO (st_1 h hs), e2]
    · show X1.1 t 2 = _
      rw [hX1, aI_1, upd_1]
    · rw [aJ_1]
      by_cases e : x = s
      · rw [e, updL_1, bumpW_1, z, Nat.zero_add]
      · rw [updL_n _ _ e, bumpW_n _ _ e]; exact h3 x hx
    · have e3 : (aJ X1 (t + 1) (vp_updL (X.2 (t + 1)) s (lN v))).1 (t + 2) = upd (X.1 (t + 2)) m (nI s) := by
        show X1.1 (t + 2) = _
        rw [hX1, aI_n _ _ (by omega), aI_1]
      rw [e3]
      show upd (X.1 (t + 2)) m (nI s) i = nI (if i = m then s else L i) ∧ (if i = m then s else L i) < 4096 ∧ 0 < bumpW W s v (if i = m then s else L i)
      by_cases e : i = m
      · rw [if_pos e, e, upd_1, bumpW_1]; exact ⟨rfl, hs, by omega⟩
      · rw [if_neg e, upd_n _ _ e, bumpW_n _ _ (hnl i (by omega))]; exact h4 i (by omega)
    · show (if i = m then s else L i) ≠ (if j = m then s else L j)
      rw [if_neg (by omega)]
      by_cases e : j = m
      · rw [if_pos e]; exact hnl i (by omega)
      · rw [if_neg e]; exact h5 i j hij (by omega)
    · by_cases e : x = s
      · rw [e]; exact ⟨hs, m, by omega, if_pos rfl⟩
      · rw [bumpW_n _ _ e] at hx
        obtain ⟨q1, i, q2, q3⟩ := h6 x hx
        exact ⟨q1, i, by omega, by show (if i = m then s else L i) = x; rw [if_neg (by omega)]; exact q3⟩
    · rw [hX1]; exact fRm_aJ (fRm_aI (fRm_aI (fRm_refl _ _ _) (by omega) (by omega)) (by omega) (by omega)) (by omega) (by omega)
  · refine ⟨aJ X (t + 1) (vp_updL (X.2 (t + 1)) s (lN (W s + v))), m, L, x_Ta_add (rc_t h X) ?_, ⟨h1, h2, fun x hx => ?_, fun i hi => ?_, h5, fun x hx => ?_⟩, fRm_aJ (fRm_refl _ _ _) (by omega) (by omega)⟩
    · rw [e_Ta_add, if_neg (nI_pos (by omega)), if_pos s4, bO (gt_0 h X), bO (rt_1 h hs), h3 s hs, if_neg (fun e => by have := (lN_eq0 hW).mp e; omega), bO (gt_0 h X), bO (rt_1 h hs), h3 s hs, lN_add, bO (st_1 h hs)]
    · rw [aJ_1]
      by_cases e : x = s
      · rw [e, updL_1, bumpW_1]
      · rw [updL_n _ _ e, bumpW_n _ _ e]; exact h3 x hx
    · refine ⟨(h4 i hi).1, (h4 i hi).2.1, ?_⟩
      by_cases e : L i = s
      · rw [e, bumpW_1]; omega
      · rw [bumpW_n _ _ e]; exact (h4 i hi).2.2
    · by_cases e : x = s
      · rw [e]; exact h6 s z
      · rw [bumpW_n _ _ e] at hx; exact h6 x hx
/-- a sum over all that are listed -/
theorem sm_enum {N : Nat} : ∀ (m : Nat) (L F : Nat → Nat), (∀ i, i < m → L i < N) → (∀ i j, i < j → j < m → L i ≠ L j) → (∀ s, s < N → 0 < F s → ∃ i, i < m ∧ L i = s) → fb_sm (fun i => F (L i)) m = fb_sm F N
  | 0, L, F, _, _, h3 => by
    have z : ∀ n, n ≤ N → fb_sm F n = 0 := fun n => by
      induction n with
      | zero => intro _; rfl
      | succ n ih =>
        intro hn
        rw [fb_sm_succ, ih (by omega)]
        rcases Nat.eq_zero_or_pos (F n) with q | q
        · rw [q]
        · obtain ⟨i, hi, _⟩ := h3 n (by omega) q
          exact absurd hi (Nat.not_lt_zero i)
    exact (z N (Nat.le_refl _)).symm
  | m + 1, L, F, h1, h2, h3 => by
    have e1 := fb_sm_upd F 0 (h1 m (by omega))
    have e2 := sm_enum m L (fun s => if s = L m then 0 else F s) (fun i hi => h1 i (by omega)) (fun i j hij hj => h2 i j hij (by omega)) (fun s hs hp2 => by
      have hp3 : 0 < (if s = L m then 0 else F s) := hp2
      by_cases e : s = L m
      · rw [if_pos e] at hp3; exact absurd hp3 (Nat.lt_irrefl 0)
      · rw [if_neg e] at hp3
        obtain ⟨i, hi, ei⟩ := h3 s hs hp3
        by_cases e5 : i = m
        · rw [e5] at ei; exact absurd ei.symm e
        · exact ⟨i, by omega, ei⟩)
    have e3 : fb_sm (fun i => (fun s => if s = L m then 0 else F s) (L i)) m = fb_sm (fun i => F (L i)) m := fb_sm_cong (fun i hi => if_neg (h2 i m (by omega) (by omega)))
    rw [fb_sm_succ]
    rw [e3] at e2
    have e1' : fb_sm (fun s => if s = L m then 0 else F s) N + F (L m) = fb_sm F N + 0 := e1
    omega
theorem tly_sum {t : Nat} {X : ixX} {W : Nat → Nat} {m : Nat} {L : Nat → Nat} (h : tly t X W m L) (f : Nat → Nat) {N : Nat} (hN : N = 4096) : fb_sm (fun i => W (L i) * f (L i)) m = fb_sm (fun s => W s * f s) N := sm_enum m L (fun s => W s * f s) (fun i hi => by rw [hN]; exact (h.2.2.2.1 i hi).2.1) h.2.2.2.2.1 (fun s _ hp2 => (h.2.2.2.2.2 s (Nat.pos_of_mul_pos_right hp2)).2)
theorem M_ttotal {c : ixK} {t : Nat} (h : isT c t) {X : ixX} {W : Nat → Nat} {m : Nat} {L : Nat → Nat} (hT : tly t X W m L) {N : Nat} (hN : N = 4096) : ix_M mTa_total [.ref t] (hp c X) = some ([.long (lN (fb_sm W N))], hp c X) := by
  have h1 := hT.1
  have h2 := hT.2.1
  refine x_Ta_total (rc_t h X) ?_
  have e := lp_f (fun k (x : Int64) => l_Ta_total_4 t x (nI k) (hp c X)) (fun k => lN (fb_sm (fun i => W (L i)) k)) (N := m) (fun k hk => by
    show l_Ta_total_4 t (lN (fb_sm (fun i => W (L i)) k)) (nI k) (hp c X) = l_Ta_total_4 t (lN (fb_sm (fun i => W (L i)) k + W (L k))) (nI (k + 1)) (hp c X)
    rw [e_Ta_total_4, bO (gt_2 h X), h1, if_neg (fun e => by have := (nI_leI (by omega) (by omega)).mp e; omega), kL_of (M_waysAt h hT hk), lN_add, nI_1]) (k := 0) (by omega)
  have e' : l_Ta_total_4 t (lN 0) (nI 0) (hp c X) = l_Ta_total_4 t (lN (fb_sm (fun i => W (L i)) m)) (nI m) (hp c X) := e
  have e2 := tly_sum hT (fun _ => 1) hN
  rw [sm_mul, Nat.mul_one, sm_mul, Nat.mul_one] at e2
  rw [e_Ta_total, show (0 : Int32) = nI 0 from rfl, show (0 : Int64) = lN 0 from rfl, e', e_Ta_total_4, bO (gt_2 h X), h1, if_pos ((nI_leI (by omega) (by omega)).mpr (by omega)), e2]
