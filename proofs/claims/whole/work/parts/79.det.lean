/-! DETERMINANT -/
def pcN (S : Nat) : Nat := S % 2 + S / 2 % 2 + S / 4 % 2 + S / 8 % 2
theorem pcN_eq : ∀ S, S < 16 → pcB S = pcN S := by decide +kernel
theorem dS_2 : ∀ S, S < 16 → ∀ k, k < 4 → S.testBit k = true → nI S ^^^ ix_ishl 1 (nI k) = nI (S - 2 ^ k) ∧ 2 ^ k ≤ S := by decide +kernel
theorem dS_3 : ∀ S, S < 16 → ∀ k, k < 4 → ix_ishr (nI S) (nI k + 1) = nI (S / 2 ^ (k + 1)) ∧ S / 2 ^ (k + 1) < 16 := by decide +kernel
theorem dS_4 : ∀ S, S < 16 → ((nI (pcN S) &&& 1) = 1 ↔ pcN S % 2 = 1) := by decide +kernel
theorem dS_5 : ∀ S, S < 16 → 0 < S → nI (pcN S) - 1 = nI (pcN S - 1) ∧ pcN S - 1 < 4 := by decide +kernel
def mst (A m : Nat → Int64) (S r k : Nat) (v : Int64) : Int64 := if S.testBit k = true then (if pcN (S / 2 ^ (k + 1)) % 2 = 1 then v + -(A (4 * r + k) * m (S - 2 ^ k)) else v + A (4 * r + k) * m (S - 2 ^ k)) else v
def mnf (A m : Nat → Int64) (S : Nat) : Int64 := mst A m S (pcN S - 1) 3 (mst A m S (pcN S - 1) 2 (mst A m S (pcN S - 1) 1 (mst A m S (pcN S - 1) 0 0)))
theorem mst_cong {A m m' : Nat → Int64} {S : Nat} (hS : S < 16) (h : ∀ j, j < S → m j = m' j) (r : Nat) {k : Nat} (hk : k < 4) (v : Int64) : mst A m S r k v = mst A m' S r k v := by
  unfold mst
  by_cases q : S.testBit k = true
  · have h2 := (dS_2 S hS k hk q).2
    have h3 : 0 < 2 ^ k := Nat.two_pow_pos k
    rw [if_pos q, if_pos q, h (S - 2 ^ k) (by omega)]
  · rw [if_neg q, if_neg q]
theorem mnf_cong {A m m' : Nat → Int64} {S : Nat} (hS : S < 16) (h : ∀ j, j < S → m j = m' j) : mnf A m S = mnf A m' S := by
  unfold mnf
  rw [mst_cong hS h _ (show 0 < 4 by omega), mst_cong hS h _ (show 1 < 4 by omega), mst_cong hS h _ (show 2 < 4 by omega), mst_cong hS h _ (show 3 < 4 by omega)]
theorem i4ij (i j : Nat) : ((4 : Int32) * nI i) + nI j = nI (4 * i + j) := by
  rw [show (4 : Int32) = nI 4 from rfl, nI_mul, nI_add]
theorem L_minor {c : ixK} {X : ixX} {S r k : Nat} (hS : S < 16) (hr : r < 4) (hk : k < 4) (v : Int64) : l_De_minor_12 59 (nI S) (nI r) v (nI k) (hp c X) = l_De_minor_12 59 (nI S) (nI r) (mst (X.2 61) (X.2 62) S r k v) (nI (k + 1)) (hp c X) := by
  have hbt : bt (nI S) k = S.testBit k := by rw [bt_nI, decide_eq_true (show k < 32 by omega), Bool.true_and]
  unfold mst
  rw [e_De_minor_12, if_neg (lit_nle (x := 4) (a := 4) (k := k) rfl hk (by omega))]
  rcases bt_cases (nI S) (k := k) (by omega) with ⟨q, q1, q2⟩ | ⟨q, q1, q2⟩
  · rw [hbt] at q
    have h2 := dS_2 S hS k hk q
    have h3 := dS_3 S hS k hk
    rw [if_pos q2, bO (g59_1 c _), i4ij, bO (r61 (by omega)), bO (g59_2 c _), h2.1, bO (r62 (show S - 2 ^ k < 16 from Nat.lt_of_le_of_lt (Nat.sub_le _ _) hS)), h3.1, kI_of (M_JIbc h3.2 _), pcN_eq _ h3.2, if_pos q]
    by_cases hp1 : pcN (S / 2 ^ (k + 1)) % 2 = 1
    · rw [if_neg (fun n => n ((dS_4 _ h3.2).mpr hp1)), e_De_minor_75, if_pos rfl, if_pos hp1, nI_1 k]
    · rw [if_pos (fun n => hp1 ((dS_4 _ h3.2).mp n)), e_De_minor_75, if_neg (by decide), if_neg hp1, nI_1 k]
  · rw [hbt] at q
    rw [if_neg (fun n => n q2), if_neg (by rw [q]; decide), nI_1 k]
theorem M_minor {c : ixK} {X : ixX} {S : Nat} (hS : S < 16) (h0 : 0 < S) : ix_M mDe_minor [.ref 59, .int (nI S)] (hp c X) = some ([.long (mnf (X.2 61) (X.2 62) S)], hp c X) := by
  have h5 := dS_5 S hS h0
  refine x_De_minor (rc_59 c X) ?_
  rw [e_De_minor, kI_of (M_JIbc hS _), pcN_eq S hS, h5.1, show (0 : Int32) = nI 0 from rfl, L_minor hS h5.2 (by omega), L_minor hS h5.2 (by omega), L_minor hS h5.2 (by omega), L_minor hS h5.2 (by omega), e_De_minor_12, if_pos (show (4 : Int32) ≤ nI (0 + 1 + 1 + 1 + 1) by decide)]
  rfl
def mM (B : bT) (i j : Nat) : Int64 := lN (fw B ((bpr B).getD i (0, 0)).1 ((bpr B).getD j (0, 0)).2)
theorem dS_6 : ∀ n, n < 5 → ix_ishl 1 (nI n) - 1 = nI (2 ^ n - 1) ∧ 2 ^ n ≤ 16 ∧ 1 ≤ 2 ^ n := by decide +kernel
theorem dS_7 : ∀ n, n < 5 → ix_mx 0 (ix_mn (nI n) 4) = nI n := by decide +kernel
theorem C_signed {c : ixK} {X : ixX} {B : bT} (hb : bOK B) (h : cBd 4 X B) : ∃ Y A m, ix_M mDe_signedTally [.ref 59, .ref 4] (hp c X) = some ([.long (m (2 ^ (bpr B).length - 1))], hp c Y) ∧ fRm 59 75 X Y ∧ (∀ a b, a < (bpr B).length → b < (bpr B).length → A (4 * a + b) = mM B a b) ∧ m 0 = 1 ∧ ∀ S, 1 ≤ S → S < 2 ^ (bpr B).length → m S = mnf A m S := by
  have hs := hb.1
  have h64 := bS_64 hs
  have hn := hb.2.2.2.1
  have hpp := hb.2.2.2.2.1
  obtain ⟨n, en⟩ : ∃ n, n = (bpr B).length := ⟨_, rfl⟩
  rw [← en] at hn hpp ⊢
  have cB : ∀ Y, fRm 59 75 X Y → cBd 4 Y B := fun Y q => cBd_cong (fun a h1 h2 => q a (by omega)) h
  -- the rows
  obtain ⟨Y1, e1, f1, m1⟩ := lp_up (fun i (Y : ixX) => l_De_signedTally_15 59 4 (nI n) (nI i) (hp c Y)) (fun i Y => fRm 59 75 X Y ∧ ∀ a b, a < i → b < n → Y.2 61 (4 * a + b) = mM B a b) (N := n) (fun i Y hi ⟨q1, q2⟩ => by
    have hc := cB Y q1
    have hst := (hpp i hi).1
    have hP := (hc.2.1.2 i (by rw [← en]; exact hi)).1
    have hP' : Y.1 19 i = nI ((bpr B).getD i (0, 0)).1 := hP
    obtain ⟨g, g1, g2⟩ := M_dspread (c := c) hs hc.1 hst
    obtain ⟨Z, z1, z2, z3, z4⟩ := lp_up (fun j (Z : ixX) => l_De_signedTally_37 59 4 (nI n) (nI i) (nI j) (hp c Z)) (fun j Z => fRm 59 75 X Z ∧ Z.2 60 = g ∧ ∀ a b, (a < i ∧ b < n) ∨ (a = i ∧ b < j) → Z.2 61 (4 * a + b) = mM B a b) (N := n) (fun j Z hj ⟨r1, r2, r3⟩ => by
      have hcz := cB Z r1
      have hen := (hpp j hj).2
      have hQ : Z.1 20 j = nI ((bpr B).getD j (0, 0)).2 := (hcz.2.1.2 j (by rw [← en]; exact hj)).2
      refine ⟨aJ Z 61 (vp_updL (Z.2 61) (4 * i + j) (mM B i j)), ?_, fRm_aJ r1 (by omega) (by omega), ?_, fun a b hab => ?_⟩
      · show l_De_signedTally_37 59 4 (nI n) (nI i) (nI j) (hp c Z) = _
        rw [e_De_signedTally_37, if_neg (by rw [nI_leI (by omega) (by omega)]; omega), bO (g59_1 c _), bO (g4_3 c _), bO (r20 (by omega)), hQ, kL_of (M_waysTo (by omega)), r2, g2 _ hen, i4ij, bO (s61 (by omega)), nI_1 j]
        rfl
      · rw [aJ_n _ _ (by decide)]; exact r2
      · rw [aJ_1]
        by_cases q : 4 * a + b = 4 * i + j
        · have ea : a = i := by omega
          have eb : b = j := by omega
          rw [ea, eb, updL_1]
        · rw [updL_n _ _ q]
          exact r3 a b (by omega)) (k := 0) (s := aJ Y 60 g) (by omega) ⟨fRm_aJ q1 (by omega) (by omega), aJ_1 _ _ _, fun a b hab => by
        rw [aJ_n _ _ (by decide)]
        exact q2 a b (by omega) (by omega)⟩
    have z1' : l_De_signedTally_37 59 4 (nI n) (nI i) 0 (hp c (aJ Y 60 g)) = l_De_signedTally_37 59 4 (nI n) (nI i) (nI n) (hp c Z) := z1
    refine ⟨Z, ?_, z2, fun a b ha hb2 => z4 a b (by omega)⟩
    show l_De_signedTally_15 59 4 (nI n) (nI i) (hp c Y) = _
    rw [e_De_signedTally_15, if_neg (by rw [nI_leI (by omega) (by omega)]; omega), bO (g4_0 c _), bO (g4_2 c _), bO (r19 (by omega)), hP', kV_of g1, z1', e_De_signedTally_37, if_pos (by rw [nI_leI (by omega) (by omega)]; omega), nI_1 i]) (k := 0) (s := X) (by omega) ⟨fRm_refl _ _ _, fun a b ha => absurd ha (Nat.not_lt_zero a)⟩
  have e1' : l_De_signedTally_15 59 4 (nI n) 0 (hp c X) = l_De_signedTally_15 59 4 (nI n) (nI n) (hp c Y1) := e1
  have h6 := dS_6 n (by omega)
  -- the minors
  obtain ⟨Y2, e2, f2, k1, k2, k3⟩ := lp_up (fun k (Y : ixX) => l_De_signedTally_93 59 (nI (2 ^ n - 1)) (nI (k + 1)) (hp c Y)) (fun k Y => fRm 59 75 X Y ∧ Y.2 61 = Y1.2 61 ∧ Y.2 62 0 = 1 ∧ ∀ S, 1 ≤ S → S < k + 1 → Y.2 62 S = mnf (Y1.2 61) (Y.2 62) S) (N := 2 ^ n - 1) (fun k Y hk ⟨q1, q2, q3, q4⟩ => by
    have hcg : ∀ S, S < k + 2 → mnf (Y1.2 61) (Y.2 62) S = mnf (Y1.2 61) (vp_updL (Y.2 62) (k + 1) (mnf (Y1.2 61) (Y.2 62) (k + 1))) S := fun S hS => mnf_cong (by omega) (fun j hj => by rw [updL_n _ _ (by omega)])
    refine ⟨aJ Y 62 (vp_updL (Y.2 62) (k + 1) (mnf (Y1.2 61) (Y.2 62) (k + 1))), ?_, fRm_aJ q1 (by omega) (by omega), ?_, ?_, fun S h1 h2 => ?_⟩
    · show l_De_signedTally_93 59 (nI (2 ^ n - 1)) (nI (k + 1)) (hp c Y) = _
      rw [e_De_signedTally_93, if_neg (by rw [nI_ltI (by omega) (by omega)]; omega), bO (g59_2 c _), kL_of (M_minor (by omega) (by omega)), bO (s62 (by omega)), q2, nI_1 (k + 1)]
    · rw [aJ_n _ _ (by decide)]; exact q2
    · rw [aJ_1, updL_n _ _ (by omega)]; exact q3
    · rw [aJ_1, ← hcg S (by omega)]
      by_cases q : S = k + 1
      · rw [q, updL_1]
      · rw [updL_n _ _ q]
        exact q4 S h1 (by omega)) (k := 0) (s := aJ Y1 62 (vp_updL (Y1.2 62) 0 1)) (by omega) ⟨fRm_aJ f1 (by omega) (by omega), aJ_n _ _ (by decide), by rw [aJ_1, updL_1], fun S h1 h2 => by omega⟩
  have e2' : l_De_signedTally_93 59 (nI (2 ^ n - 1)) 1 (hp c (aJ Y1 62 (vp_updL (Y1.2 62) 0 1))) = l_De_signedTally_93 59 (nI (2 ^ n - 1)) (nI (2 ^ n - 1 + 1)) (hp c Y2) := e2
  have hp4 : X.1 4 4 = nI n := by rw [en]; exact h.2.1.1
  refine ⟨Y2, Y1.2 61, Y2.2 62, x_De_signedTally (rc_59 c X) ?_, f2, m1, k2, fun S h1 h2 => k3 S h1 (by omega)⟩
  have s620 : ix_sl (hp c Y1) 62 0 1 = some (hp c (aJ Y1 62 (vp_updL (Y1.2 62) 0 1))) := s62 (i := 0) (by omega)
  rw [e_De_signedTally, bO (g4_4 c _), hp4, dS_7 n (by omega), e1', e_De_signedTally_15, if_pos (by rw [nI_leI (by omega) (by omega)]; omega), bO (g59_2 c _), bO s620, h6.1, e2', e_De_signedTally_93, if_pos (by rw [nI_ltI (by omega) (by omega)]; omega), bO (g59_2 c _), bO (r62 (by omega))]
/-! the reference -/
def okC (k : Nat) : Bool := !(decide (k % 4 = k / 4 % 4) || decide (k % 4 = k / 16 % 4) || decide (k % 4 = k / 64) || decide (k / 4 % 4 = k / 16 % 4) || decide (k / 4 % 4 = k / 64) || decide (k / 16 % 4 = k / 64))
def dst (R : Nat → Int64) (k : Nat) (v : Int64) : Int64 := if (decide (k / 4 % 4 < k % 4) ^^ (decide (k / 16 % 4 < k % 4) ^^ (decide (k / 64 < k % 4) ^^ (decide (k / 16 % 4 < k / 4 % 4) ^^ (decide (k / 64 < k / 4 % 4) ^^ decide (k / 64 < k / 16 % 4)))))) = true then v + -(((R (k % 4) * R (4 + k / 4 % 4)) * R (8 + k / 16 % 4)) * R (12 + k / 64)) else v + ((R (k % 4) * R (4 + k / 4 % 4)) * R (8 + k / 16 % 4)) * R (12 + k / 64)
def dtS (R : Nat → Int64) : Nat → Int64
  | 0 => 0
  | k + 1 => if okC k = true then dst R k (dtS R k) else dtS R k
theorem dtS_list (R : Nat → Int64) : ∀ k, dtS R k = ((List.range k).filter okC).foldl (fun v k => dst R k v) 0
  | 0 => rfl
  | k + 1 => by
    rw [List.range_succ, List.filter_append, List.foldl_append, ← dtS_list R k]
    show (if okC k = true then dst R k (dtS R k) else dtS R k) = _
    cases h : okC k with
    | true =>
      rw [if_pos rfl]
      have : List.filter okC [k] = [k] := by simp [h]
      rw [this]
      rfl
    | false =>
      rw [if_neg (by decide)]
      have : List.filter okC [k] = [] := by simp [h]
      rw [this]
      rfl
theorem dtC : (List.range 256).filter okC = [27, 30, 39, 45, 54, 57, 75, 78, 99, 108, 114, 120, 135, 141, 147, 156, 177, 180, 198, 201, 210, 216, 225, 228] := by decide +kernel
theorem dt24 (R : Nat → Int64) : dtS R 256 = ((((((((((((((((((((((((0 + ((R 3 * R 6) * R 9) * R 12) + -(((R 2 * R 7) * R 9) * R 12)) + -(((R 3 * R 5) * R 10) * R 12)) + ((R 1 * R 7) * R 10) * R 12) + ((R 2 * R 5) * R 11) * R 12) + -(((R 1 * R 6) * R 11) * R 12)) + -(((R 3 * R 6) * R 8) * R 13)) + ((R 2 * R 7) * R 8) * R 13) + ((R 3 * R 4) * R 10) * R 13) + -(((R 0 * R 7) * R 10) * R 13)) + -(((R 2 * R 4) * R 11) * R 13)) + ((R 0 * R 6) * R 11) * R 13) + ((R 3 * R 5) * R 8) * R 14) + -(((R 1 * R 7) * R 8) * R 14)) + -(((R 3 * R 4) * R 9) * R 14)) + ((R 0 * R 7) * R 9) * R 14) + ((R 1 * R 4) * R 11) * R 14) + -(((R 0 * R 5) * R 11) * R 14)) + -(((R 2 * R 5) * R 8) * R 15)) + ((R 1 * R 6) * R 8) * R 15) + ((R 2 * R 4) * R 9) * R 15) + -(((R 0 * R 6) * R 9) * R 15)) + -(((R 1 * R 4) * R 10) * R 15)) + ((R 0 * R 5) * R 10) * R 15) := by
  rw [dtS_list, dtC]
  rfl
theorem det0 (A R m : Nat → Int64) (h0 : m 0 = 1) (hm : ∀ S, 1 ≤ S → S < 1 → m S = mnf A m S) (r0 : R 0 = 1) (r1 : R 1 = 0) (r2 : R 2 = 0) (r3 : R 3 = 0) (r4 : R 4 = 0) (r5 : R 5 = 1) (r6 : R 6 = 0) (r7 : R 7 = 0) (r8 : R 8 = 0) (r9 : R 9 = 0) (r10 : R 10 = 1) (r11 : R 11 = 0) (r12 : R 12 = 0) (r13 : R 13 = 0) (r14 : R 14 = 0) (r15 : R 15 = 1) : m 0 = dtS R 256 := by
  rw [dt24, h0, r0, r1, r2, r3, r4, r5, r6, r7, r8, r9, r10, r11, r12, r13, r14, r15]
  grind
theorem det1 (A R m : Nat → Int64) (h0 : m 0 = 1) (hm : ∀ S, 1 ≤ S → S < 2 → m S = mnf A m S) (r0 : R 0 = A 0) (r1 : R 1 = 0) (r2 : R 2 = 0) (r3 : R 3 = 0) (r4 : R 4 = 0) (r5 : R 5 = 1) (r6 : R 6 = 0) (r7 : R 7 = 0) (r8 : R 8 = 0) (r9 : R 9 = 0) (r10 : R 10 = 1) (r11 : R 11 = 0) (r12 : R 12 = 0) (r13 : R 13 = 0) (r14 : R 14 = 0) (r15 : R 15 = 1) : m 1 = dtS R 256 := by
  have e1 : m 1 = (0 + A 0 * m 0) := hm 1 (by omega) (by omega)
  rw [dt24, e1, h0, r0, r1, r2, r3, r4, r5, r6, r7, r8, r9, r10, r11, r12, r13, r14, r15]
  grind
theorem det2 (A R m : Nat → Int64) (h0 : m 0 = 1) (hm : ∀ S, 1 ≤ S → S < 4 → m S = mnf A m S) (r0 : R 0 = A 0) (r1 : R 1 = A 1) (r2 : R 2 = 0) (r3 : R 3 = 0) (r4 : R 4 = A 4) (r5 : R 5 = A 5) (r6 : R 6 = 0) (r7 : R 7 = 0) (r8 : R 8 = 0) (r9 : R 9 = 0) (r10 : R 10 = 1) (r11 : R 11 = 0) (r12 : R 12 = 0) (r13 : R 13 = 0) (r14 : R 14 = 0) (r15 : R 15 = 1) : m 3 = dtS R 256 := by
  have e3 : m 3 = ((0 + -(A 4 * m 2)) + A 5 * m 1) := hm 3 (by omega) (by omega)
  have e2 : m 2 = (0 + A 1 * m 0) := hm 2 (by omega) (by omega)
  have e1 : m 1 = (0 + A 0 * m 0) := hm 1 (by omega) (by omega)
  rw [dt24, e3, e2, e1, h0, r0, r1, r2, r3, r4, r5, r6, r7, r8, r9, r10, r11, r12, r13, r14, r15]
  grind
theorem det3 (A R m : Nat → Int64) (h0 : m 0 = 1) (hm : ∀ S, 1 ≤ S → S < 8 → m S = mnf A m S) (r0 : R 0 = A 0) (r1 : R 1 = A 1) (r2 : R 2 = A 2) (r3 : R 3 = 0) (r4 : R 4 = A 4) (r5 : R 5 = A 5) (r6 : R 6 = A 6) (r7 : R 7 = 0) (r8 : R 8 = A 8) (r9 : R 9 = A 9) (r10 : R 10 = A 10) (r11 : R 11 = 0) (r12 : R 12 = 0) (r13 : R 13 = 0) (r14 : R 14 = 0) (r15 : R 15 = 1) : m 7 = dtS R 256 := by
  have e7 : m 7 = (((0 + A 8 * m 6) + -(A 9 * m 5)) + A 10 * m 3) := hm 7 (by omega) (by omega)
  have e6 : m 6 = ((0 + -(A 5 * m 4)) + A 6 * m 2) := hm 6 (by omega) (by omega)
  have e5 : m 5 = ((0 + -(A 4 * m 4)) + A 6 * m 1) := hm 5 (by omega) (by omega)
  have e3 : m 3 = ((0 + -(A 4 * m 2)) + A 5 * m 1) := hm 3 (by omega) (by omega)
  have e4 : m 4 = (0 + A 2 * m 0) := hm 4 (by omega) (by omega)
  have e2 : m 2 = (0 + A 1 * m 0) := hm 2 (by omega) (by omega)
  have e1 : m 1 = (0 + A 0 * m 0) := hm 1 (by omega) (by omega)
  rw [dt24, e7, e6, e5, e3, e4, e2, e1, h0, r0, r1, r2, r3, r4, r5, r6, r7, r8, r9, r10, r11, r12, r13, r14, r15]
  grind
theorem det4 (A R m : Nat → Int64) (h0 : m 0 = 1) (hm : ∀ S, 1 ≤ S → S < 16 → m S = mnf A m S) (r0 : R 0 = A 0) (r1 : R 1 = A 1) (r2 : R 2 = A 2) (r3 : R 3 = A 3) (r4 : R 4 = A 4) (r5 : R 5 = A 5) (r6 : R 6 = A 6) (r7 : R 7 = A 7) (r8 : R 8 = A 8) (r9 : R 9 = A 9) (r10 : R 10 = A 10) (r11 : R 11 = A 11) (r12 : R 12 = A 12) (r13 : R 13 = A 13) (r14 : R 14 = A 14) (r15 : R 15 = A 15) : m 15 = dtS R 256 := by
  have e15 : m 15 = ((((0 + -(A 12 * m 14)) + A 13 * m 13) + -(A 14 * m 11)) + A 15 * m 7) := hm 15 (by omega) (by omega)
  have e14 : m 14 = (((0 + A 9 * m 12) + -(A 10 * m 10)) + A 11 * m 6) := hm 14 (by omega) (by omega)
  have e13 : m 13 = (((0 + A 8 * m 12) + -(A 10 * m 9)) + A 11 * m 5) := hm 13 (by omega) (by omega)
  have e11 : m 11 = (((0 + A 8 * m 10) + -(A 9 * m 9)) + A 11 * m 3) := hm 11 (by omega) (by omega)
  have e7 : m 7 = (((0 + A 8 * m 6) + -(A 9 * m 5)) + A 10 * m 3) := hm 7 (by omega) (by omega)
  have e12 : m 12 = ((0 + -(A 6 * m 8)) + A 7 * m 4) := hm 12 (by omega) (by omega)
  have e10 : m 10 = ((0 + -(A 5 * m 8)) + A 7 * m 2) := hm 10 (by omega) (by omega)
  have e9 : m 9 = ((0 + -(A 4 * m 8)) + A 7 * m 1) := hm 9 (by omega) (by omega)
  have e6 : m 6 = ((0 + -(A 5 * m 4)) + A 6 * m 2) := hm 6 (by omega) (by omega)
  have e5 : m 5 = ((0 + -(A 4 * m 4)) + A 6 * m 1) := hm 5 (by omega) (by omega)
  have e3 : m 3 = ((0 + -(A 4 * m 2)) + A 5 * m 1) := hm 3 (by omega) (by omega)
  have e8 : m 8 = (0 + A 3 * m 0) := hm 8 (by omega) (by omega)
  have e4 : m 4 = (0 + A 2 * m 0) := hm 4 (by omega) (by omega)
  have e2 : m 2 = (0 + A 1 * m 0) := hm 2 (by omega) (by omega)
  have e1 : m 1 = (0 + A 0 * m 0) := hm 1 (by omega) (by omega)
  rw [dt24, e15, e14, e13, e11, e7, e12, e10, e9, e6, e5, e3, e8, e4, e2, e1, h0, r0, r1, r2, r3, r4, r5, r6, r7, r8, r9, r10, r11, r12, r13, r14, r15]
  grind
