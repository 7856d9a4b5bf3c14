/-! WALK: shortest free routes -/
def wkB (B : bT) (a : Nat) : Nat → Nat → Prop
  | 0, x => x = a ∧ bop B a = true
  | k + 1, x => ∃ y, wkB B a k y ∧ adjB B y x = true ∧ bop B x = true
theorem wk_op {B : bT} {a : Nat} : ∀ k x, wkB B a k x → bop B x = true
  | 0, x, h => by rw [h.1]; exact h.2
  | k + 1, x, h => by
    obtain ⟨y, _, _, h3⟩ := h
    exact h3
theorem wk_start {B : bT} {a : Nat} : ∀ k x, wkB B a k x → bop B a = true
  | 0, x, h => h.2
  | k + 1, x, h => by
    obtain ⟨y, h1, _, _⟩ := h
    exact wk_start k y h1
theorem wk_cons {B : bT} {a b : Nat} (ha : bop B a = true) (hab : adjB B a b = true) : ∀ k x, wkB B b k x → wkB B a (k + 1) x
  | 0, x, h => ⟨a, ⟨rfl, ha⟩, by rw [h.1]; exact hab, by rw [h.1]; exact h.2⟩
  | k + 1, x, h => by
    obtain ⟨y, h1, h2, h3⟩ := h
    exact ⟨y, wk_cons ha hab k y h1, h2, h3⟩
theorem wk_sym {B : bT} {a : Nat} : ∀ k x, wkB B a k x → wkB B x k a
  | 0, x, h => ⟨h.1.symm, by rw [h.1]; exact h.2⟩
  | k + 1, x, h => by
    obtain ⟨y, h1, h2, h3⟩ := h
    exact wk_cons h3 (adjB_sym h2) k a (wk_sym k y h1)
def isDB (B : bT) (a x k : Nat) : Prop := wkB B a k x ∧ ∀ j, j < k → ¬ wkB B a j x
theorem isD_sym {B : bT} {a x k : Nat} (h : isDB B a x k) : isDB B x a k := ⟨wk_sym k x h.1, fun j hj q => h.2 j hj (wk_sym j a q)⟩
theorem isD_one {B : bT} {a x k k' : Nat} (h : isDB B a x k) (h' : isDB B a x k') : k = k' := by
  rcases Nat.lt_trichotomy k k' with q | q | q
  · exact absurd h.1 (h'.2 k q)
  · exact q
  · exact absurd h'.1 (h.2 k' q)
theorem isD_prev {B : bT} {a x k : Nat} (h : isDB B a x (k + 1)) : ∃ y, isDB B a y k ∧ adjB B y x = true ∧ bop B x = true := by
  obtain ⟨y, h1, h2, h3⟩ := h.1
  exact ⟨y, ⟨h1, fun j hj q => h.2 (j + 1) (by omega) ⟨y, q, h2, h3⟩⟩, h2, h3⟩
theorem isD_all {B : bT} {a : Nat} : ∀ k x, isDB B a x k → ∀ j, j ≤ k → ∃ y, isDB B a y j
  | 0, x, h, j, hj => ⟨x, by rw [show j = 0 by omega]; exact h⟩
  | k + 1, x, h, j, hj => by
    rcases Nat.lt_or_ge j (k + 1) with q | q
    · obtain ⟨y, h1, _⟩ := isD_prev h
      exact isD_all k y h1 j (by omega)
    · exact ⟨x, by rw [show j = k + 1 by omega]; exact h⟩
theorem isD_lt {B : bT} (hs : bS B) {a x k : Nat} (h : isDB B a x k) : k < 64 := by
  have h64 := bS_64 hs
  have h1 : ∀ j, ∃ y, j ≤ k → isDB B a y j := fun j => by
    by_cases q : j ≤ k
    · obtain ⟨y, hy⟩ := isD_all k x h j q
      exact ⟨y, fun _ => hy⟩
    · exact ⟨0, fun w => absurd w q⟩
  have h2 := fb_holes 64 (k + 1) (fun j => Classical.choose (h1 j)) (fun i hi => by
    have := bop_lt (wk_op _ _ (Classical.choose_spec (h1 i) (by omega)).1)
    show Classical.choose (h1 i) < 64
    omega) (fun i j hij hj e => by
    have a1 := Classical.choose_spec (h1 i) (by omega)
    have a2 := Classical.choose_spec (h1 j) (by omega)
    have e' : Classical.choose (h1 i) = Classical.choose (h1 j) := e
    rw [e'] at a1
    have := isD_one a1 a2
    omega)
  omega
theorem isD_ex {B : bT} {a x : Nat} : ∀ n k, k < n → wkB B a k x → ∃ j, isDB B a x j
  | 0, k, h, _ => absurd h (Nat.not_lt_zero k)
  | n + 1, k, h, hw => by
    by_cases q : ∃ j, j < k ∧ wkB B a j x
    · obtain ⟨j, h1, h2⟩ := q
      exact isD_ex n j (by omega) h2
    · exact ⟨k, hw, fun j hj w => q ⟨j, hj, w⟩⟩
/-- the layers, and what they hold together -/
def lyW (B : bT) (t : Nat) : Nat → (Nat → Bool) × (Nat → Bool)
  | 0 => (fun x => decide (x = t) && bop B x, fun x => decide (x = t) && bop B x)
  | k + 1 => (fun x => (sar B (lyW B t k).1 x && bop B x) && !(lyW B t k).2 x, fun x => (lyW B t k).2 x || ((sar B (lyW B t k).1 x && bop B x) && !(lyW B t k).2 x))
theorem lyW_spec {B : bT} (hs : bS B) (t : Nat) : ∀ k x, ((lyW B t k).1 x = true ↔ isDB B t x k) ∧ ((lyW B t k).2 x = true ↔ ∃ j, j ≤ k ∧ wkB B t j x)
  | 0, x => by
    have e : (decide (x = t) && bop B x) = true ↔ wkB B t 0 x := by
      rw [Bool.and_eq_true, decide_eq_true_eq]
      constructor
      · rintro ⟨h1, h2⟩
        exact ⟨h1, by rw [← h1]; exact h2⟩
      · rintro ⟨h1, h2⟩
        exact ⟨h1, by rw [h1]; exact h2⟩
    refine ⟨?_, ?_⟩
    · show (decide (x = t) && bop B x) = true ↔ _
      rw [e]
      exact ⟨fun h => ⟨h, fun j hj => absurd hj (Nat.not_lt_zero j)⟩, fun h => h.1⟩
    · show (decide (x = t) && bop B x) = true ↔ _
      rw [e]
      constructor
      · intro h; exact ⟨0, Nat.le_refl 0, h⟩
      · rintro ⟨j, hj, h⟩
        rw [show j = 0 by omega] at h
        exact h
  | k + 1, x => by
    have i1 : ∀ y, (lyW B t k).1 y = true ↔ isDB B t y k := fun y => (lyW_spec hs t k y).1
    have i2 : ∀ y, (lyW B t k).2 y = true ↔ ∃ j, j ≤ k ∧ wkB B t j y := fun y => (lyW_spec hs t k y).2
    have hlt : ∀ y, (lyW B t k).1 y = true → y < bn B := fun y hy => bop_lt (wk_op _ _ ((i1 y).mp hy).1)
    have e : ((sar B (lyW B t k).1 x && bop B x) && !(lyW B t k).2 x) = true ↔ isDB B t x (k + 1) := by
      rw [Bool.and_eq_true, Bool.and_eq_true, sar_iff hs hlt, Bool.not_eq_true']
      constructor
      · rintro ⟨⟨⟨_, y, _, h1, h2⟩, h3⟩, h4⟩
        refine ⟨⟨y, ((i1 y).mp h1).1, h2, h3⟩, fun j hj q => ?_⟩
        have := (i2 x).mpr ⟨j, by omega, q⟩
        rw [h4] at this; cases this
      · intro h
        obtain ⟨y, h1, h2, h3⟩ := isD_prev h
        refine ⟨⟨⟨bop_lt h3, y, bop_lt (wk_op _ _ h1.1), (i1 y).mpr h1, h2⟩, h3⟩, ?_⟩
        cases q : (lyW B t k).2 x with
        | false => rfl
        | true =>
          obtain ⟨j, hj, w⟩ := (i2 x).mp q
          exact absurd w (h.2 j (by omega))
    refine ⟨e, ?_⟩
    show ((lyW B t k).2 x || ((sar B (lyW B t k).1 x && bop B x) && !(lyW B t k).2 x)) = true ↔ _
    rw [Bool.or_eq_true, e, i2]
    constructor
    · rintro (⟨j, hj, w⟩ | h)
      · exact ⟨j, by omega, w⟩
      · exact ⟨k + 1, Nat.le_refl _, h.1⟩
    · rintro ⟨j, hj, w⟩
      by_cases q : ∃ j, j ≤ k ∧ wkB B t j x
      · exact .inl q
      · refine .inr ⟨?_, fun i hi w2 => q ⟨i, by omega, w2⟩⟩
        rcases Nat.lt_or_ge j (k + 1) with r | r
        · exact absurd ⟨j, by omega, w⟩ q
        · rw [show k + 1 = j by omega]; exact w
theorem ly_lt {B : bT} (hs : bS B) {t k x : Nat} (h : (lyW B t k).1 x = true) : x < bn B := bop_lt (wk_op _ _ ((lyW_spec hs t k x).1.mp h).1)
theorem C_measure {c : ixK} {X : ixX} {B : bT} (hs : bS B) (hG : cG 4 X B) {f t : Nat} (hf : f < bn B) (ht : t < bn B) : ∃ r g, ix_M mWk_measure [.ref 63, .ref 5, .int (nI f), .int (nI t)] (hp c X) = some ([.int r], hp c (aJ X 64 g)) ∧ ((∃ k, k < 64 ∧ r = nI k ∧ isDB B t f k ∧ ∀ j, j ≤ k → g j = LSt (lyW B t j).1) ∨ (r = -6 ∧ ∀ k, ¬ wkB B t k f)) := by
  have h64 := bS_64 hs
  have hG' : ∀ g, cG 4 (aJ X 64 g) B := fun g => cG_cong rfl rfl rfl rfl hG
  have nowalk : ∀ k, (∀ j, j < k → (lyW B t j).1 f = false) → (∀ x, x < 64 → (lyW B t k).1 x = false) → ∀ i, ¬ wkB B t i f := by
    intro k h1 h2 i hw
    obtain ⟨j, hj⟩ := isD_ex (i + 1) i (by omega) hw
    rcases Nat.lt_or_ge j k with q | q
    · have := h1 j q
      rw [(lyW_spec hs t j f).1.mpr hj] at this; cases this
    · obtain ⟨y, hy⟩ := isD_all j f hj k q
      have h3 := (lyW_spec hs t k y).1.mpr hy
      have := h2 y (by have := ly_lt hs h3; omega)
      rw [h3] at this; cases this
  have key := lp_out (fun k (g : Nat → Int64) => l_Wk_measure_22 63 5 (nI f) (LSt (bop B)) (LSt (lyW B t k).1) (LSt (lyW B t k).2) (nI k) (hp c (aJ X 64 g))) (fun k g => (∀ j, j < k → g j = LSt (lyW B t j).1) ∧ ∀ j, j < k → (lyW B t j).1 f = false) (fun R => ∃ r g, R = some ([.int r], hp c (aJ X 64 g)) ∧ ((∃ k, k < 64 ∧ r = nI k ∧ isDB B t f k ∧ ∀ j, j ≤ k → g j = LSt (lyW B t j).1) ∨ (r = -6 ∧ ∀ k, ¬ wkB B t k f))) (N := 64) (fun k g hk ⟨q1, q2⟩ => by
    show (∃ g' : Nat → Int64, l_Wk_measure_22 63 5 (nI f) (LSt (bop B)) (LSt (lyW B t k).1) (LSt (lyW B t k).2) (nI k) (hp c (aJ X 64 g)) = l_Wk_measure_22 63 5 (nI f) (LSt (bop B)) (LSt (lyW B t (k + 1)).1) (LSt (lyW B t (k + 1)).2) (nI (k + 1)) (hp c (aJ X 64 g')) ∧ _) ∨ (∃ r g', l_Wk_measure_22 63 5 (nI f) (LSt (bop B)) (LSt (lyW B t k).1) (LSt (lyW B t k).2) (nI k) (hp c (aJ X 64 g)) = some ([.int r], hp c (aJ X 64 g')) ∧ _)
    rw [e_Wk_measure_22, if_neg (lit_nle (x := 64) (a := 64) (k := k) rfl hk (by omega))]
    by_cases hz : LSt (lyW B t k).1 = 0
    · rw [if_pos hz]
      exact .inr ⟨_, g, rfl, .inr ⟨rfl, nowalk k q2 (LS_zero.mp hz)⟩⟩
    · rw [if_neg hz, bO (g63_0 c _), bO (s64 hk), aJ_1, aJ_aJ, kZ_of (M_holds _ (by omega) _)]
      have q1' : ∀ j, j < k + 1 → vp_updL g k (LSt (lyW B t k).1) j = LSt (lyW B t j).1 := fun j hj => by
        rcases Nat.lt_or_ge j k with r | r
        · rw [updL_n _ _ (by omega)]; exact q1 j r
        · rw [show j = k by omega, updL_1]
      cases hh : (lyW B t k).1 f with
      | true =>
        rw [if_pos rfl]
        exact .inr ⟨_, _, rfl, .inl ⟨k, hk, rfl, (lyW_spec hs t k f).1.mp hh, fun j hj => q1' j (by omega)⟩⟩
      | false =>
        rw [if_neg (by decide), kL_of (M_around hs (hG' _) (fun x hx => ly_lt hs hx)), LS_and, LS_not, LS_and, LS_or, nI_1]
        refine .inl ⟨_, rfl, q1', fun j hj => ?_⟩
        rcases Nat.lt_or_ge j k with r | r
        · exact q2 j r
        · rw [show j = k by omega]; exact hh) (k := 0) (s := X.2 64) (by omega) ⟨fun j hj => absurd hj (Nat.not_lt_zero j), fun j hj => absurd hj (Nat.not_lt_zero j)⟩
  have st : ix_D mWk_measure 0 [some (.ref 63), some (.ref 5), some (.int (nI f)), some (.int (nI t)), none, none, none, none, none, none, none] [] (hp c X) = l_Wk_measure_22 63 5 (nI f) (LSt (bop B)) (LSt (lyW B t 0).1) (LSt (lyW B t 0).2) (nI 0) (hp c (aJ X 64 (X.2 64))) := by
    rw [e_Wk_measure, kL_of (M_gopen hG), kL_of (M_bit (by omega) _), LS_and, aJ_self]
    rfl
  rcases key with ⟨g, e, q1, q2⟩ | ⟨r, g, e, q⟩
  · refine ⟨-6, g, x_Wk_measure (rc_63 c X) ?_, .inr ⟨rfl, fun i hw => ?_⟩⟩
    · rw [st]
      refine Eq.trans e ?_
      show l_Wk_measure_22 63 5 (nI f) (LSt (bop B)) (LSt (lyW B t 64).1) (LSt (lyW B t 64).2) (nI 64) (hp c (aJ X 64 g)) = _
      rw [e_Wk_measure_22, if_pos (show (64 : Int32) ≤ nI 64 by decide)]
    · obtain ⟨j, hj⟩ := isD_ex (i + 1) i (by omega) hw
      have := q2 j (isD_lt hs hj)
      rw [(lyW_spec hs t j f).1.mpr hj] at this; cases this
  · exact ⟨r, g, x_Wk_measure (rc_63 c X) (by rw [st]; exact e), q⟩
/-- the walk: each step to the lowest nearer cell -/
def PRl (B : bT) (t n x : Nat) : Nat → Nat → Prop
  | 0, y => y = x
  | j + 1, y => ∃ z, PRl B t n x j z ∧ (adjB B z y = true ∧ isDB B t y (n - (j + 1))) ∧ ∀ w, w < y → ¬ (adjB B z w = true ∧ isDB B t w (n - (j + 1)))
theorem PRl_one {B : bT} {t n x : Nat} : ∀ j y y', PRl B t n x j y → PRl B t n x j y' → y = y'
  | 0, y, y', h, h' => h.trans h'.symm
  | j + 1, y, y', h, h' => by
    obtain ⟨z, h1, h2, h3⟩ := h
    obtain ⟨z', h1', h2', h3'⟩ := h'
    have e := PRl_one j z z' h1 h1'
    subst e
    rcases Nat.lt_trichotomy y y' with q | q | q
    · exact absurd h2 (h3' y q)
    · exact q
    · exact absurd h2' (h3 y' q)
theorem C_follow {c : ixK} {X : ixX} {B : bT} (hs : bS B) (hG : cG 4 X B) {f t n i : Nat} (hn : n < 64) (hi : i ≤ n) (hD : isDB B t f n) (hg : ∀ j, j ≤ n → X.2 64 j = LSt (lyW B t j).1) : ∃ y, ix_M mWk_follow [.ref 63, .ref 5, .int (nI f), .int (nI n), .int (nI i)] (hp c X) = some ([.int (nI y)], hp c X) ∧ PRl B t n f i y := by
  have h64 := bS_64 hs
  have hz : ∀ j, j < n → zI ((n : Int) - 1 - (j : Int)) = nI (n - 1 - j) := fun j hj => by
    rw [nI_z]
    congr 1
    omega
  obtain ⟨y, e, h1, h2⟩ := lp_up (fun j z => l_Wk_follow_20 63 5 (nI n) (nI i) (LSt (fun x => decide (x = z))) (zI ((n : Int) - 1 - (j : Int))) (hp c X)) (fun j z => PRl B t n f j z ∧ isDB B t z (n - j)) (N := i) (fun j z hj ⟨q1, q2⟩ => by
    show ∃ z' : Nat, l_Wk_follow_20 63 5 (nI n) (nI i) (LSt (fun x => decide (x = z))) (zI ((n : Int) - 1 - (j : Int))) (hp c X) = l_Wk_follow_20 63 5 (nI n) (nI i) (LSt (fun x => decide (x = z'))) (zI ((n : Int) - 1 - ((j + 1 : Nat) : Int))) (hp c X) ∧ _
    have hz1 : z < bn B := bop_lt (wk_op _ _ q2.1)
    have hEs : ∀ x, decide (x = z) = true → x < bn B := fun x hx => by rw [of_decide_eq_true hx]; exact hz1
    have hq : ∀ y, (sar B (fun x => decide (x = z)) y && (lyW B t (n - 1 - j)).1 y) = true ↔ (adjB B z y = true ∧ isDB B t y (n - (j + 1))) := by
      intro y
      rw [Bool.and_eq_true, sar_iff hs hEs, (lyW_spec hs t _ y).1, show n - 1 - j = n - (j + 1) by omega]
      constructor
      · rintro ⟨⟨_, w, _, w1, w2⟩, w3⟩
        rw [of_decide_eq_true w1] at w2
        exact ⟨w2, w3⟩
      · rintro ⟨w1, w2⟩
        exact ⟨⟨bop_lt (wk_op _ _ w2.1), z, hz1, decide_eq_true rfl, w1⟩, w2⟩
    have q2' : isDB B t z (n - (j + 1) + 1) := by rw [show n - (j + 1) + 1 = n - j by omega]; exact q2
    obtain ⟨y0, d1, d2, _⟩ := isD_prev q2'
    have hne : ¬ LSt (fun y => sar B (fun x => decide (x = z)) y && (lyW B t (n - 1 - j)).1 y) = 0 := fun h0 => by
      have hy0 : y0 < bn B := bop_lt (wk_op _ _ d1.1)
      have := LS_zero.mp h0 y0 (by omega)
      rw [(hq y0).mpr ⟨adjB_sym d2, d1⟩] at this; cases this
    obtain ⟨k, hk, hk1, hk2⟩ := LS_least hne
    have hk1' := (hq k).mp hk1
    have ez : nI (n - 1 - j) + (-1) = zI ((n : Int) - 1 - ((j + 1 : Nat) : Int)) := by
      rw [nI_z, show (-1 : Int32) = zI (-1) from rfl, zI_add]
      exact congrArg zI (by omega)
    refine ⟨k, ?_, ⟨z, q1, hk1', fun w hw q => ?_⟩, hk1'.2⟩
    · rw [e_Wk_follow_20, hz j (by omega), if_neg (nI_pos (by omega)), nI_sub hi, if_neg (by rw [nI_ltI (by omega) (by omega)]; omega), kL_of (M_around hs hG hEs), bO (g63_0 c _), bO (r64 (by omega)), hg _ (by omega), LS_and, LS_low hk hk1 hk2, ez]
    · have := hk2 w hw
      rw [(hq w).mpr q] at this; cases this) (k := 0) (s := f) (by omega) ⟨rfl, hD⟩
  have hy : y < bn B := bop_lt (wk_op _ _ h2.1)
  have hlow : ix_M mRP_lowest [.long (LSt (fun x => decide (x = y)))] (hp c X) = some ([.int (nI y)], hp c X) := M_lowest (by omega) (decide_eq_true rfl) (fun j hj => decide_eq_false (by omega)) _
  refine ⟨y, x_Wk_follow (rc_63 c X) ?_, h1⟩
  have e' : l_Wk_follow_20 63 5 (nI n) (nI i) (LSt (fun x => decide (x = f))) (zI ((n : Int) - 1 - ((0 : Nat) : Int))) (hp c X) = l_Wk_follow_20 63 5 (nI n) (nI i) (LSt (fun x => decide (x = y))) (zI ((n : Int) - 1 - (i : Int))) (hp c X) := e
  have hf : f < bn B := bop_lt (wk_op _ _ hD.1)
  have e0 : nI n - 1 = zI ((n : Int) - 1 - ((0 : Nat) : Int)) := by
    rw [nI_z, show (1 : Int32) = zI 1 from rfl, zI_sub]
    congr 1
    omega
  rw [e_Wk_follow, kL_of (M_bit (by omega) _), mn_64 (by omega), e0, e', e_Wk_follow_20]
  by_cases q : n = i
  · rw [if_pos (by rw [show (0 : Int32) = zI 0 from rfl, zI_lt (by omega) (by omega) (by omega) (by omega)]; omega), kI_of hlow]
  · rw [hz i (by omega), if_neg (nI_pos (by omega)), nI_sub hi, if_pos (by rw [nI_ltI (by omega) (by omega)]; omega), kI_of hlow]
/-! the reference -/
def farOK (B : bT) (t : Nat) (A : Nat → Int32) : Prop := ∀ x, x < bn B → (∃ k, k < 64 ∧ A x = nI k ∧ isDB B t x k) ∨ (A x = -6 ∧ ∀ k, ¬ wkB B t k x)
def bfI (B : bT) (a : Nat) (X : ixX) (p : Nat) (qs : List Nat) (D : Nat → Nat) (Y : ixX) : Prop := eX [83, 84] X Y ∧ qs.Nodup ∧ (∀ x, x ∈ qs → x < bn B ∧ wkB B a (D x) x) ∧ (∀ x, x < bn B → Y.1 83 x = if x ∈ qs then nI (D x) else -6) ∧ (∀ i, i < qs.length → Y.1 84 i = nI (qs.getD i 0)) ∧ (∀ i j, i ≤ j → j < qs.length → D (qs.getD i 0) ≤ D (qs.getD j 0)) ∧ (∀ i, i < qs.length → D (qs.getD i 0) ≤ i) ∧ (a ∈ qs ∧ D a = 0) ∧ (∀ j, j < qs.length → p < qs.length → D (qs.getD j 0) ≤ D (qs.getD p 0) + 1) ∧ (∀ i, i < p → i < qs.length → ∀ y, adjB B (qs.getD i 0) y = true → bop B y = true → y ∈ qs ∧ D y ≤ D (qs.getD i 0) + 1)
theorem bf_add {B : bT} {a : Nat} {X : ixX} {p : Nat} {qs : List Nat} {D : Nat → Nat} {Y : ixX} (h : bfI B a X p qs D Y) (hp1 : p < qs.length) {y : Nat} (hy : y < bn B) (hyq : ¬ y ∈ qs) (hadj : adjB B (qs.getD p 0) y = true) (hop : bop B y = true) : bfI B a X p (qs ++ [y]) (fun x => if x = y then D (qs.getD p 0) + 1 else D x) (aI (aI Y 83 (upd (Y.1 83) y (nI (D (qs.getD p 0) + 1)))) 84 (upd (Y.1 84) qs.length (nI y))) := by
  obtain ⟨h1, h2, h3, h4, h5, h6, h7, h8, h9, h10⟩ := h
  have hln : (qs ++ [y]).length = qs.length + 1 := by rw [List.length_append]; rfl
  have gl : ∀ i, i < qs.length → (qs ++ [y]).getD i 0 = qs.getD i 0 := fun i hi => gd_app_l qs [y] i hi
  have gr : (qs ++ [y]).getD qs.length 0 = y := gd_app_r qs [y] 0
  have dn : ∀ x, x ∈ qs → (if x = y then D (qs.getD p 0) + 1 else D x) = D x := fun x hx => if_neg (fun e => hyq (by rw [← e]; exact hx))
  have dq : ∀ i, i < qs.length → (if qs.getD i 0 = y then D (qs.getD p 0) + 1 else D (qs.getD i 0)) = D (qs.getD i 0) := fun i hi => dn _ (gd_mem qs i hi)
  refine ⟨eX_aI (eX_aI h1 (by decide)) (by decide), nd_app h2 hyq, fun x hx => ?_, fun x hx => ?_, fun i hi => ?_, fun i j hij hj => ?_, fun i hi => ?_, ⟨List.mem_append.mpr (.inl h8.1), ?_⟩, fun j hj _ => ?_, fun i hi hi2 z hz1 hz2 => ?_⟩
  · rcases List.mem_append.mp hx with r | r
    · refine ⟨(h3 x r).1, ?_⟩
      show wkB B a (if x = y then D (qs.getD p 0) + 1 else D x) x
      rw [dn x r]
      exact (h3 x r).2
    · have ex := List.mem_singleton.mp r
      rw [ex]
      refine ⟨hy, ?_⟩
      show wkB B a (if y = y then D (qs.getD p 0) + 1 else D y) y
      rw [if_pos rfl]
      exact ⟨_, (h3 _ (gd_mem qs p hp1)).2, hadj, hop⟩
  · show (aI (aI Y 83 _) 84 _).1 83 x = if x ∈ qs ++ [y] then nI (if x = y then D (qs.getD p 0) + 1 else D x) else -6
    rw [aI_n _ _ (by decide), aI_1]
    by_cases e : x = y
    · rw [e, upd_1, if_pos (List.mem_append.mpr (.inr (List.mem_singleton.mpr rfl))), if_pos rfl]
    · rw [upd_n _ _ e, h4 x hx, if_neg e]
      by_cases m : x ∈ qs
      · rw [if_pos m, if_pos (List.mem_append.mpr (.inl m))]
      · rw [if_neg m, if_neg (fun q => by
          rcases List.mem_append.mp q with r | r
          · exact m r
          · exact e (List.mem_singleton.mp r))]
  · rw [aI_1]
    rw [hln] at hi
    rcases Nat.lt_or_ge i qs.length with r | r
    · rw [upd_n _ _ (by omega), gl i r]; exact h5 i r
    · rw [show i = qs.length by omega, upd_1, gr]
  · show (if (qs ++ [y]).getD i 0 = y then D (qs.getD p 0) + 1 else D ((qs ++ [y]).getD i 0)) ≤ (if (qs ++ [y]).getD j 0 = y then D (qs.getD p 0) + 1 else D ((qs ++ [y]).getD j 0))
    rw [hln] at hj
    rcases Nat.lt_or_ge j qs.length with r | r
    · rw [gl j r, gl i (by omega), dq i (by omega), dq j r]; exact h6 i j hij r
    · rw [show j = qs.length by omega, gr, if_pos rfl]
      rcases Nat.lt_or_ge i qs.length with r2 | r2
      · rw [gl i r2, dq i r2]; exact h9 i r2 hp1
      · rw [show i = qs.length by omega, gr, if_pos rfl]; exact Nat.le_refl _
  · show (if (qs ++ [y]).getD i 0 = y then D (qs.getD p 0) + 1 else D ((qs ++ [y]).getD i 0)) ≤ i
    rw [hln] at hi
    rcases Nat.lt_or_ge i qs.length with r | r
    · rw [gl i r, dq i r]; exact h7 i r
    · rw [show i = qs.length by omega, gr, if_pos rfl]
      have := h7 p hp1
      omega
  · show (if a = y then D (qs.getD p 0) + 1 else D a) = 0
    rw [dn a h8.1]; exact h8.2
  · show (if (qs ++ [y]).getD j 0 = y then D (qs.getD p 0) + 1 else D ((qs ++ [y]).getD j 0)) ≤ (if (qs ++ [y]).getD p 0 = y then D (qs.getD p 0) + 1 else D ((qs ++ [y]).getD p 0)) + 1
    rw [hln] at hj
    rw [gl p hp1, dq p hp1]
    rcases Nat.lt_or_ge j qs.length with r | r
    · rw [gl j r, dq j r]; exact h9 j r hp1
    · rw [show j = qs.length by omega, gr, if_pos rfl]; exact Nat.le_refl _
  · show z ∈ qs ++ [y] ∧ (if z = y then D (qs.getD p 0) + 1 else D z) ≤ (if (qs ++ [y]).getD i 0 = y then D (qs.getD p 0) + 1 else D ((qs ++ [y]).getD i 0)) + 1
    rw [gl i (by omega)] at hz1 ⊢
    have := h10 i hi (by omega) z hz1 hz2
    rw [dn z this.1, dq i (by omega)]
    exact ⟨List.mem_append.mpr (.inl this.1), this.2⟩
theorem bf_fin {B : bT} {a : Nat} {X : ixX} {qs : List Nat} {D : Nat → Nat} {Y : ixX} (h : bfI B a X qs.length qs D Y) (hb : bn B ≤ 64) : farOK B a (Y.1 83) := by
  obtain ⟨h1, h2, h3, h4, h5, h6, h7, h8, h9, h10⟩ := h
  have hlen := nd_len h2 (fun x hx => (h3 x hx).1)
  have all : ∀ k x, wkB B a k x → x ∈ qs ∧ D x ≤ k := by
    intro k
    induction k with
    | zero =>
      intro x hx
      rw [hx.1]
      exact ⟨h8.1, by rw [h8.2]; exact Nat.le_refl 0⟩
    | succ k ih =>
      rintro x ⟨y, w1, w2, w3⟩
      obtain ⟨m, hm⟩ := ih y w1
      obtain ⟨i, hi, e⟩ := mem_gd qs y m
      rw [← e] at w2 hm
      have := h10 i hi hi x w2 w3
      exact ⟨this.1, by omega⟩
  intro x hx
  rw [h4 x hx]
  by_cases m : x ∈ qs
  · rw [if_pos m]
    obtain ⟨i, hi, e⟩ := mem_gd qs x m
    have := h7 i hi
    rw [e] at this
    exact .inl ⟨D x, by omega, rfl, (h3 x m).2, fun j hj w => by have := (all j x w).2; omega⟩
  · rw [if_neg m]
    exact .inr ⟨rfl, fun k w => m (all k x w).1⟩
theorem L_far {c : ixK} {X : ixX} {B : bT} (hs : bS B) (hA : rBd (X.1 76) B) {a : Nat} : ∀ (n p : Nat) (qs : List Nat) (D : Nat → Nat) (Y : ixX), p + n = 65 → p ≤ qs.length → bfI B a X p qs D Y → ∃ Z, l_Mo_layFar_53 75 (nI qs.length) (nI p) (hp c Y) = some ([], hp c Z) ∧ eX [83, 84] X Z ∧ farOK B a (Z.1 83) := by
  have h64 := bS_64 hs
  intro n
  induction n with
  | zero =>
    intro p qs D Y hn hp1 h
    have := nd_len h.2.1 (fun x hx => (h.2.2.1 x hx).1)
    omega
  | succ n ih =>
    intro p qs D Y hn hp1 h
    have hlen := nd_len h.2.1 (fun x hx => (h.2.2.1 x hx).1)
    rcases Nat.lt_or_ge p qs.length with q | q
    · have hin := lp_up (fun d (z : List Nat × (Nat → Nat) × ixX) => l_Mo_layFar_61 75 (nI z.1.length) (nI p) (nI d) (hp c z.2.2)) (fun d z => bfI B a X p z.1 z.2.1 z.2.2 ∧ p < z.1.length ∧ z.1.getD p 0 = qs.getD p 0 ∧ ∀ d', d' < d → ∀ y, nb B (qs.getD p 0) d' = some y → bop B y = true → y ∈ z.1 ∧ z.2.1 y ≤ z.2.1 (qs.getD p 0) + 1) (N := 4) (fun d z hd hz => by
        obtain ⟨us, E, W⟩ := z
        obtain ⟨b1, b2, b3, b4⟩ := hz
        obtain ⟨x, hx⟩ : ∃ x, x = qs.getD p 0 := ⟨_, rfl⟩
        rw [← hx] at b3 b4
        have b3' : us.getD p 0 = x := b3
        have hA' : rBd (W.1 76) B := by rw [b1.1.2 76 (by decide)]; exact hA
        have hul := nd_len b1.2.1 (fun x hx => (b1.2.2.1 x hx).1)
        have hxm : x ∈ us := by rw [← b3']; exact gd_mem us p b2
        have hxb := (b1.2.2.1 x hxm).1
        have h84 : W.1 84 p = nI x := by rw [b1.2.2.2.2.1 p b2]; exact congrArg nI b3'
        show ∃ z' : List Nat × (Nat → Nat) × ixX, l_Mo_layFar_61 75 (nI us.length) (nI p) (nI d) (hp c W) = l_Mo_layFar_61 75 (nI z'.1.length) (nI p) (nI (d + 1)) (hp c z'.2.2) ∧ _
        rw [e_Mo_layFar_61, if_neg (lit_nle (x := 4) (a := 4) (k := d) rfl hd (by omega)), bO (g75_8 c _), bO (r84 (show p < 128 by omega)), h84, kI_of (M_beside hs hA' hxb hd), nI_1 d]
        have same : (∀ y, nb B x d = some y → bop B y = true → y ∈ us ∧ E y ≤ E x + 1) → ∃ z' : List Nat × (Nat → Nat) × ixX, l_Mo_layFar_61 75 (nI us.length) (nI p) (nI (d + 1)) (hp c W) = l_Mo_layFar_61 75 (nI z'.1.length) (nI p) (nI (d + 1)) (hp c z'.2.2) ∧ bfI B a X p z'.1 z'.2.1 z'.2.2 ∧ p < z'.1.length ∧ z'.1.getD p 0 = qs.getD p 0 ∧ ∀ d', d' < d + 1 → ∀ y, nb B (qs.getD p 0) d' = some y → bop B y = true → y ∈ z'.1 ∧ z'.2.1 y ≤ z'.2.1 (qs.getD p 0) + 1 := fun hh => ⟨(us, E, W), rfl, b1, b2, by rw [← hx]; exact b3, fun d' hd' y hy1 hy2 => by
          rw [← hx] at hy1 ⊢
          rcases Nat.lt_or_ge d' d with r | r
          · exact b4 d' r y hy1 hy2
          · rw [show d' = d by omega] at hy1
            exact hh y hy1 hy2⟩
        cases hnb : nb B x d with
        | none =>
          rw [if_pos (show oI none < 0 by decide)]
          exact same (fun y hy => by rw [hnb] at hy; cases hy)
        | some y =>
          have hyb := nb_lt hs hxb hnb
          have hadj : adjB B x y = true := (nb_iff hs hxb hyb).mpr ⟨d, hd, hnb⟩
          rw [if_neg (show ¬ oI (some y) < 0 from nI_pos (by omega))]
          show ∃ z' : List Nat × (Nat → Nat) × ixX, ((ix_M mMo_isOpen [.ref 75, .int (nI y)] (hp c W)).bind _) = _ ∧ _
          rw [kZ_of (M_misOpen hs hA' hyb)]
          cases ho : bop B y with
          | false =>
            rw [if_neg (by decide)]
            exact same (fun w hw hw2 => by
              rw [hnb] at hw
              rw [← Option.some.inj hw, ho] at hw2; cases hw2)
          | true =>
            rw [if_pos rfl, bO (g75_7 c _)]
            show ∃ z' : List Nat × (Nat → Nat) × ixX, ((ix_ai (hp c W) 83 (nI y)).bind _) = _ ∧ _
            rw [bO (r83 (show y < 64 by omega)), b1.2.2.2.1 y hyb]
            by_cases m : y ∈ us
            · obtain ⟨i, hi, ei⟩ := mem_gd us y m
              have hDi := b1.2.2.2.2.2.2.1 i hi
              rw [ei] at hDi
              have hDi' : E y ≤ i := hDi
              rw [if_pos m, if_pos (nI_pos' (show E y < 2147483648 by have hul' : us.length ≤ bn B := hul; omega))]
              refine same (fun w hw _ => ?_)
              rw [hnb] at hw
              rw [← Option.some.inj hw]
              refine ⟨m, ?_⟩
              have := b1.2.2.2.2.2.2.2.2.1 i hi b2
              rw [ei, b3'] at this
              exact this
            · have hnd := nd_app b1.2.1 m
              have hl1 := nd_len hnd (n := bn B) (fun z hz => by
                rcases List.mem_append.mp hz with r | r
                · exact (b1.2.2.1 z r).1
                · rw [List.mem_singleton.mp r]; exact hyb)
              rw [List.length_append] at hl1
              have hl2 : us.length + 1 ≤ bn B := hl1
              have hax := bf_add b1 b2 hyb m (by rw [b3']; exact hadj) ho
              rw [b3'] at hax
              rw [if_neg m, if_neg (by decide), bO (g75_7 c _), bO (g75_7 c _), bO (g75_8 c _), bO (r84 (show p < 128 by omega)), h84, bO (r83 (show x < 64 by omega)), b1.2.2.2.1 x hxb, if_pos hxm, nI_1 (E x)]
              refine ⟨(us ++ [y], fun z => if z = y then E x + 1 else E z, aI (aI W 83 (upd (W.1 83) y (nI (E x + 1)))) 84 (upd (W.1 84) us.length (nI y))), ?_, hax, ?_, ?_, fun d' hd' w hw1 hw2 => ?_⟩
              · show ((ix_si (hp c W) 83 (nI y) (nI (E x + 1))).bind _) = _
                rw [bO (s83 (show y < 64 by omega)), bO (g75_8 c _)]
                show ((ix_si (hp c (aI W 83 (upd (W.1 83) y (nI (E x + 1))))) 84 (nI us.length) (nI y)).bind _) = _
                rw [bO (s84 (show us.length < 128 by omega)), nI_1 us.length, aI_n _ _ (by decide)]
                show _ = l_Mo_layFar_61 75 (nI (us ++ [y]).length) (nI p) (nI (d + 1)) (hp c (aI (aI W 83 (upd (W.1 83) y (nI (E x + 1)))) 84 (upd (W.1 84) us.length (nI y))))
                rw [List.length_append]
                rfl
              · show p < (us ++ [y]).length
                rw [List.length_append]
                exact Nat.lt_of_lt_of_le b2 (Nat.le_add_right _ _)
              · show (us ++ [y]).getD p 0 = qs.getD p 0
                rw [gd_app_l us [y] p b2, ← hx]; exact b3'
              · show w ∈ us ++ [y] ∧ (if w = y then E x + 1 else E w) ≤ (if qs.getD p 0 = y then E x + 1 else E (qs.getD p 0)) + 1
                rw [← hx] at hw1 ⊢
                rw [if_neg (show ¬ x = y from fun e => m (by rw [← e]; exact hxm))]
                rcases Nat.lt_or_ge d' d with r | r
                · have := b4 d' r w hw1 hw2
                  refine ⟨List.mem_append.mpr (.inl this.1), ?_⟩
                  rw [if_neg (show ¬ w = y from fun e => m (by rw [← e]; exact this.1))]
                  exact this.2
                · rw [show d' = d by omega, hnb] at hw1
                  rw [← Option.some.inj hw1, if_pos rfl]
                  exact ⟨List.mem_append.mpr (.inr (List.mem_singleton.mpr rfl)), Nat.le_refl _⟩) (k := 0) (s := (qs, D, Y)) (by omega) ⟨h, q, rfl, fun d' hd' => absurd hd' (Nat.not_lt_zero d')⟩
      obtain ⟨⟨us, E, W⟩, e, b1, b2, b3, b4⟩ := hin
      have e' : l_Mo_layFar_61 75 (nI qs.length) (nI p) 0 (hp c Y) = l_Mo_layFar_61 75 (nI us.length) (nI p) (nI 4) (hp c W) := e
      have b2' : p < us.length := b2
      have b3' : us.getD p 0 = qs.getD p 0 := b3
      obtain ⟨c1, c2, c3, c4, c5, c6, c7, c8, c9, c10⟩ := b1
      have b1' : bfI B a X (p + 1) us E W := ⟨c1, c2, c3, c4, c5, c6, c7, c8, fun j hj hp2 => by
        have g1 := c9 j hj b2'
        have g2 := c6 p (p + 1) (by omega) hp2
        have g1' : E (us.getD j 0) ≤ E (us.getD p 0) + 1 := g1
        have g2' : E (us.getD p 0) ≤ E (us.getD (p + 1) 0) := g2
        show E (us.getD j 0) ≤ E (us.getD (p + 1) 0) + 1
        omega, fun i hi hi2 y hy1 hy2 => by
        rcases Nat.lt_or_ge i p with r | r
        · exact c10 i r hi2 y hy1 hy2
        · have ei : i = p := by omega
          rw [ei, b3'] at hy1 ⊢
          have hyb : y < bn B := bop_lt hy2
          have hxb : qs.getD p 0 < bn B := (h.2.2.1 _ (gd_mem qs p q)).1
          obtain ⟨d, hd, hnb⟩ := (nb_iff hs hxb hyb).mp hy1
          exact b4 d hd y hnb hy2⟩
      obtain ⟨Z, f1, f2, f3⟩ := ih (p + 1) us E W (by omega) (by omega) b1'
      have hul := nd_len c2 (fun x hx => (c3 x hx).1)
      refine ⟨Z, ?_, f2, f3⟩
      rw [e_Mo_layFar_53, if_neg (by rw [nI_leI (by omega) (by omega)]; omega), e', e_Mo_layFar_61, if_pos (show (4 : Int32) ≤ nI 4 by decide), nI_1 p, f1]
    · have ep : p = qs.length := by omega
      refine ⟨Y, ?_, h.1, ?_⟩
      · rw [e_Mo_layFar_53, if_pos (by rw [nI_leI (by omega) (by omega)]; omega)]
      · rw [ep] at h
        exact bf_fin h h64
theorem M_layFar {c : ixK} {X : ixX} {B : bT} (hs : bS B) (hA : rBd (X.1 76) B) {a : Nat} (ha : a < bn B) : ∃ Y, ix_M mMo_layFar [.ref 75, .int (nI a)] (hp c X) = some ([], hp c Y) ∧ eX [83, 84] X Y ∧ farOK B a (Y.1 83) := by
  have h64 := bS_64 hs
  obtain ⟨Y, e, h1, h2⟩ := lp_up (fun k (Y : ixX) => l_Mo_layFar_2 75 (nI a) (nI k) (hp c Y)) (fun k Y => eX [83, 84] X Y ∧ ∀ x, x < k → Y.1 83 x = -6) (N := bn B) (fun k Y hk ⟨q1, q2⟩ => by
    have hA' : rBd (Y.1 76) B := by rw [q1.2 76 (by decide)]; exact hA
    refine ⟨aI Y 83 (upd (Y.1 83) k (-6)), ?_, eX_aI q1 (by decide), fun x hx => ?_⟩
    · show l_Mo_layFar_2 75 (nI a) (nI k) (hp c Y) = _
      rw [e_Mo_layFar_2, kI_of (M_mcells hA'), if_neg (by rw [nI_leI (by omega) (by omega)]; omega), bO (g75_7 c _), bO (s83 (by omega)), nI_1 k]
    · rw [aI_1]
      rcases Nat.lt_or_ge x k with r | r
      · rw [upd_n _ _ (by omega)]; exact q2 x r
      · rw [show x = k by omega, upd_1]) (k := 0) (s := X) (by omega) ⟨eX_refl _ _, fun x hx => absurd hx (Nat.not_lt_zero x)⟩
  have e' : l_Mo_layFar_2 75 (nI a) 0 (hp c X) = l_Mo_layFar_2 75 (nI a) (nI (bn B)) (hp c Y) := e
  have hA' : rBd (Y.1 76) B := by rw [h1.2 76 (by decide)]; exact hA
  cases ho : bop B a with
  | false =>
    refine ⟨Y, x_Mo_layFar (rc_75 c X) ?_, h1, fun x hx => .inr ⟨h2 x hx, fun k w => ?_⟩⟩
    · rw [e_Mo_layFar, e', e_Mo_layFar_2, kI_of (M_mcells hA'), if_pos (by rw [nI_leI (by omega) (by omega)]; omega), kZ_of (M_misOpen hs hA' ha), ho, if_neg (by decide), e_Mo_layFar_53, if_pos (by decide)]
    · have := wk_start k x w
      rw [ho] at this; cases this
  | true =>
    obtain ⟨W, hW⟩ : ∃ W, W = aI (aI Y 83 (upd (Y.1 83) a 0)) 84 (upd (Y.1 84) 0 (nI a)) := ⟨_, rfl⟩
    have hI : bfI B a X 0 [a] (fun _ => 0) W := by
      refine ⟨?_, ?_, fun x hx => ?_, fun x hx => ?_, fun i hi => ?_, fun _ _ _ _ => Nat.le_refl 0, fun i _ => Nat.zero_le i, ⟨List.mem_singleton.mpr rfl, rfl⟩, fun _ _ _ => Nat.zero_le _, fun i hi => absurd hi (Nat.not_lt_zero i)⟩
      · rw [hW]; exact eX_aI (eX_aI h1 (by decide)) (by decide)
      · exact gd_nd _ (fun i j hij hj => by
          have hj' : j < 1 := hj
          omega)
      · rw [List.mem_singleton.mp hx]
        exact ⟨ha, rfl, ho⟩
      · rw [hW, aI_n _ _ (by decide), aI_1]
        by_cases q : x = a
        · rw [q, upd_1, if_pos (List.mem_singleton.mpr rfl)]; rfl
        · rw [upd_n _ _ q, h2 x hx, if_neg (fun m => q (List.mem_singleton.mp m))]
      · have hi' : i < 1 := hi
        rw [show i = 0 by omega, hW, aI_1, upd_1]
        rfl
    obtain ⟨Z, f1, f2, f3⟩ := L_far (c := c) hs hA 65 0 [a] (fun _ => 0) W (by omega) (Nat.zero_le _) hI
    refine ⟨Z, x_Mo_layFar (rc_75 c X) ?_, f2, f3⟩
    have f1' : l_Mo_layFar_53 75 (0 + 1) 0 (hp c W) = some ([], hp c Z) := f1
    rw [e_Mo_layFar, e', e_Mo_layFar_2, kI_of (M_mcells hA'), if_pos (by rw [nI_leI (by omega) (by omega)]; omega), kZ_of (M_misOpen hs hA' ha), ho, if_pos rfl, bO (g75_7 c _), bO (s83 (by omega)), bO (g75_8 c _)]
    show ((ix_si (hp c (aI Y 83 (upd (Y.1 83) a 0))) 84 (nI 0) (nI a)).bind _) = _
    rw [bO (s84 (show 0 < 128 by omega)), aI_n _ _ (by decide), ← hW]
    exact f1'
theorem far_k {B : bT} {t : Nat} {A : Nat → Int32} (h : farOK B t A) {x k : Nat} (hx : x < bn B) (hk : isDB B t x k) : A x = nI k := by
  rcases h x hx with ⟨j, _, e, hj⟩ | ⟨_, h2⟩
  · rw [e, isD_one hj hk]
  · exact absurd hk.1 (h2 k)
theorem far_n {B : bT} {t : Nat} {A : Nat → Int32} (h : farOK B t A) {x : Nat} (hx : x < bn B) (hk : ∀ k, ¬ wkB B t k x) : A x = -6 := by
  rcases h x hx with ⟨j, _, e, hj⟩ | ⟨h1, _⟩
  · exact absurd hj.1 (hk j)
  · exact h1
theorem rS_far {X Y : ixX} (h : eX [83, 84] X Y) : rS X Y := rS_eX h (fun a ha => by simp at ha; omega) (by rw [h.2 75 (by decide)])
theorem K_steps {c : ixK} {X : ixX} {S : sT} (h : invK c X S) (x1 x2 : Int32) : okI mRP_steps mMo_steps [.int x1, .int x2] c X := by
  obtain ⟨hs, hG, hA, hb⟩ := invK_G h
  have h64 := bS_64 hs
  rcases i_cases x1 (n := bn S.1) (by omega) with ⟨f, hf, rfl⟩ | hx
  · rcases i_cases x2 (n := bn S.1) (by omega) with ⟨t, ht, rfl⟩ | hy
    · obtain ⟨r, g, e1, h1⟩ := C_measure (c := c) hs hG hf ht
      obtain ⟨Y, e2, h2, h3⟩ := M_layFar (c := c) (X := aJ X 64 g) hs hA hf
      have hr : Y.1 83 t = r := by
        rcases h1 with ⟨k, _, q1, q2, _⟩ | ⟨q1, q2⟩
        · rw [q1]; exact far_k h3 ht (isD_sym q2)
        · rw [q1]; exact far_n h3 ht (fun k w => q2 k (wk_sym k t w))
      refine ok_q h (r := r) (X' := aJ X 64 g) (x_RP_steps (rc_3 c X) ?_) (fRm_aJ (fRm_refl _ _ _) (by omega) (by omega)) (X'' := Y) (x_Mo_steps (rc_75 c _) ?_) (rS_far h2)
      · rw [e_RP_steps, bO (g3_0 c _), bO (g4_0 c _), kZ_of (M_has_t hs hG hf), if_pos rfl, bO (g3_0 c _), bO (g4_0 c _), kZ_of (M_has_t hs hG ht), if_pos rfl, bO (g3_5 c _), bO (g3_0 c _), bO (g4_0 c _), kI_of e1]
      · rw [e_Mo_steps, kZ_of (M_isCell_t (X := aJ X 64 g) hs hA hf), if_pos rfl, kZ_of (M_isCell_t (X := aJ X 64 g) hs hA ht), if_pos rfl, kV_of e2, bO (g75_7 c _), bO (r83 (by omega)), hr]
    · exact ok_0 h (r := -1) (x_RP_steps (rc_3 c X) (by rw [e_RP_steps, bO (g3_0 c _), bO (g4_0 c _), kZ_of (M_has_t hs hG hf), if_pos rfl, bO (g3_0 c _), bO (g4_0 c _), kZ_of (M_has_f hG hy), if_neg (by decide)])) (x_Mo_steps (rc_75 c X) (by rw [e_Mo_steps, kZ_of (M_isCell_t hs hA hf), if_pos rfl, kZ_of (M_isCell_f hs hA hy), if_neg (by decide)]))
  · exact ok_0 h (r := -1) (x_RP_steps (rc_3 c X) (by rw [e_RP_steps, bO (g3_0 c _), bO (g4_0 c _), kZ_of (M_has_f hG hx), if_neg (by decide)])) (x_Mo_steps (rc_75 c X) (by rw [e_Mo_steps, kZ_of (M_isCell_f hs hA hx), if_neg (by decide)]))
theorem nb_mono {B : bT} (hs : bS B) {x d d' e y : Nat} (hx : x < bn B) (hd : d < d') (hd' : d' < 4) (h : nb B x d = some e) (h' : nb B x d' = some y) : e < y := by
  have hw := bS_w hs
  have hw2 := hs.1
  have f0 : nb B x 0 = if bw B ≤ x then some (x - bw B) else none := rfl
  have f1 : nb B x 1 = if x % bw B = 0 then none else some (x - 1) := rfl
  have f2 : nb B x 2 = if (x + 1) % bw B = 0 then none else some (x + 1) := rfl
  have f3 : nb B x 3 = if x + bw B < bn B then some (x + bw B) else none := rfl
  have g0 : ∀ z, nb B x 0 = some z → z + bw B = x := fun z hz => by
    rw [f0] at hz
    by_cases q : bw B ≤ x
    · rw [if_pos q] at hz; have := Option.some.inj hz; omega
    · rw [if_neg q] at hz; cases hz
  have g1 : ∀ z, nb B x 1 = some z → z + 1 = x := fun z hz => by
    rw [f1] at hz
    by_cases q : x % bw B = 0
    · rw [if_pos q] at hz; cases hz
    · rw [if_neg q] at hz
      have h0 : ¬ x = 0 := fun e => q (by rw [e]; exact Nat.zero_mod _)
      have := Option.some.inj hz; omega
  have g2 : ∀ z, nb B x 2 = some z → z = x + 1 := fun z hz => by
    rw [f2] at hz
    by_cases q : (x + 1) % bw B = 0
    · rw [if_pos q] at hz; cases hz
    · rw [if_neg q] at hz; exact (Option.some.inj hz).symm
  have g3 : ∀ z, nb B x 3 = some z → z = x + bw B := fun z hz => by
    rw [f3] at hz
    by_cases q : x + bw B < bn B
    · rw [if_pos q] at hz; exact (Option.some.inj hz).symm
    · rw [if_neg q] at hz; cases hz
  rcases (show (d = 0 ∧ d' = 1) ∨ (d = 0 ∧ d' = 2) ∨ (d = 0 ∧ d' = 3) ∨ (d = 1 ∧ d' = 2) ∨ (d = 1 ∧ d' = 3) ∨ (d = 2 ∧ d' = 3) by omega) with ⟨rfl, rfl⟩ | ⟨rfl, rfl⟩ | ⟨rfl, rfl⟩ | ⟨rfl, rfl⟩ | ⟨rfl, rfl⟩ | ⟨rfl, rfl⟩
  · have a1 := g0 e h; have a2 := g1 y h'; omega
  · have a1 := g0 e h; have a2 := g2 y h'; omega
  · have a1 := g0 e h; have a2 := g3 y h'; omega
  · have a1 := g1 e h; have a2 := g2 y h'; omega
  · have a1 := g1 e h; have a2 := g3 y h'; omega
  · have a1 := g2 e h; have a2 := g3 y h'; omega
theorem R_shortest {c : ixK} {X : ixX} {B : bT} (hs : bS B) (hA : rBd (X.1 76) B) {f t n i : Nat} (hn : n < 64) (hi : i ≤ n) (hD : isDB B t f n) (hf : farOK B t (X.1 83)) : ∃ y, l_Mo_shortest_55 75 (nI i) (nI f) 0 (hp c X) = some ([.int (nI y)], hp c X) ∧ PRl B t n f i y := by
  have h64 := bS_64 hs
  obtain ⟨y, e, h1, h2⟩ := lp_up (fun j z => l_Mo_shortest_55 75 (nI i) (nI z) (nI j) (hp c X)) (fun j z => PRl B t n f j z ∧ isDB B t z (n - j)) (N := i) (fun j z hj ⟨q1, q2⟩ => by
    show ∃ z' : Nat, l_Mo_shortest_55 75 (nI i) (nI z) (nI j) (hp c X) = l_Mo_shortest_55 75 (nI i) (nI z') (nI (j + 1)) (hp c X) ∧ _
    have hz1 : z < bn B := bop_lt (wk_op _ _ q2.1)
    have hzf : X.1 83 z = nI (n - (j + 1) + 1) := by rw [show n - (j + 1) + 1 = n - j by omega]; exact far_k hf hz1 q2
    have q2' : isDB B t z (n - (j + 1) + 1) := by rw [show n - (j + 1) + 1 = n - j by omega]; exact q2
    obtain ⟨y0, d1, d2, _⟩ := isD_prev q2'
    have hne : ¬ LSt (fun y => adjB B z y && (lyW B t (n - (j + 1))).1 y) = 0 := fun h0 => by
      have hy0 : y0 < bn B := bop_lt (wk_op _ _ d1.1)
      have := LS_zero.mp h0 y0 (by omega)
      rw [adjB_sym d2, (lyW_spec hs t _ y0).1.mpr d1] at this; cases this
    obtain ⟨y, hy, hy1, hy2⟩ := LS_least hne
    rw [Bool.and_eq_true, (lyW_spec hs t _ y).1] at hy1
    have hyb : y < bn B := bop_lt (wk_op _ _ hy1.2.1)
    have hmin : ∀ w, w < y → ¬ (adjB B z w = true ∧ isDB B t w (n - (j + 1))) := fun w hw q => by
      have := hy2 w hw
      rw [q.1, (lyW_spec hs t _ w).1.mpr q.2] at this; cases this
    obtain ⟨d0, hd0, hnb0⟩ := (nb_iff hs hz1 hyb).mp hy1.1
    have hyf : X.1 83 y = nI (n - (j + 1)) := far_k hf hyb hy1.2
    have hsub : nI (n - (j + 1) + 1) - 1 = nI (n - (j + 1)) := nI_sub (b := 1) (a := n - (j + 1) + 1) (by omega)
    have hin := lp_f (fun d (_ : Unit) => l_Mo_shortest_64 75 (nI i) (nI z) (nI j) (nI d) (hp c X)) (fun _ => ()) (N := d0) (fun d hd => by
      show l_Mo_shortest_64 75 (nI i) (nI z) (nI j) (nI d) (hp c X) = l_Mo_shortest_64 75 (nI i) (nI z) (nI j) (nI (d + 1)) (hp c X)
      rw [e_Mo_shortest_64, kI_of (M_beside hs hA hz1 (show d < 4 by omega)), nI_1 d]
      cases hnb : nb B z d with
      | none => rw [if_pos (show oI none < 0 by decide)]
      | some w =>
        have hwb := nb_lt hs hz1 hnb
        have hwy := nb_mono hs hz1 hd hd0 hnb hnb0
        have hadj : adjB B z w = true := (nb_iff hs hz1 hwb).mpr ⟨d, by omega, hnb⟩
        have hbe := M_beside (c := c) (X := X) hs hA hz1 (show d < 4 by omega)
        rw [hnb] at hbe
        rw [if_neg (show ¬ oI (some w) < 0 from nI_pos (by omega)), bO (g75_7 c _), kI_of hbe]
        show ((ix_ai (hp c X) 83 (nI w)).bind _) = _
        rw [bO (r83 (show w < 64 by omega)), bO (g75_7 c _), bO (r83 (show z < 64 by omega)), hzf, hsub, if_neg]
        rcases hf w hwb with ⟨k, k1, k2, k3⟩ | ⟨k1, k2⟩
        · rw [k2, nI_eq (by omega) (by omega)]
          intro ek
          rw [ek] at k3
          exact hmin w hwy ⟨hadj, k3⟩
        · rw [k1]
          intro ek
          have := nI_pos (n := n - (j + 1)) (by omega)
          rw [← ek] at this
          exact this (by decide)) (k := 0) (by omega)
    have hin' : l_Mo_shortest_64 75 (nI i) (nI z) (nI j) 0 (hp c X) = l_Mo_shortest_64 75 (nI i) (nI z) (nI j) (nI d0) (hp c X) := hin
    have hbe := M_beside (c := c) (X := X) hs hA hz1 hd0
    rw [hnb0] at hbe
    refine ⟨y, ?_, ⟨z, q1, hy1, hmin⟩, hy1.2⟩
    rw [e_Mo_shortest_55, if_neg (by rw [nI_leI (by omega) (by omega)]; omega), hin', e_Mo_shortest_64, kI_of hbe, if_neg (show ¬ oI (some y) < 0 from nI_pos (by omega)), bO (g75_7 c _), kI_of hbe]
    show ((ix_ai (hp c X) 83 (nI y)).bind _) = _
    rw [bO (r83 (show y < 64 by omega)), bO (g75_7 c _), bO (r83 (show z < 64 by omega)), hzf, hsub, hyf, if_pos rfl, kI_of hbe, nI_1 j]
    rfl) (k := 0) (s := f) (by omega) ⟨rfl, hD⟩
  have e' : l_Mo_shortest_55 75 (nI i) (nI f) 0 (hp c X) = l_Mo_shortest_55 75 (nI i) (nI y) (nI i) (hp c X) := e
  refine ⟨y, ?_, h1⟩
  rw [e', e_Mo_shortest_55, if_pos (by rw [nI_leI (by omega) (by omega)]; omega)]
theorem K_shortest {c : ixK} {X : ixX} {S : sT} (h : invK c X S) (x1 x2 x3 : Int32) : okI mRP_shortest mMo_shortest [.int x1, .int x2, .int x3] c X := by
  obtain ⟨hs, hG, hA, hb⟩ := invK_G h
  have h64 := bS_64 hs
  rcases i_cases x1 (n := bn S.1) (by omega) with ⟨f, hf, rfl⟩ | hx
  · rcases i_cases x2 (n := bn S.1) (by omega) with ⟨t, ht, rfl⟩ | hy
    · obtain ⟨r, g, e1, h1⟩ := C_measure (c := c) hs hG hf ht
      obtain ⟨Y, e2, h2, h3⟩ := M_layFar (c := c) (X := aJ X 64 g) hs hA ht
      have hfr : fRm 59 75 X (aJ X 64 g) := fRm_aJ (fRm_refl _ _ _) (by omega) (by omega)
      have hG2 : cG 4 (aJ X 64 g) S.1 := cG_cong rfl rfl rfl rfl hG
      have hA2 : rBd (Y.1 76) S.1 := by rw [h2.2 76 (by decide)]; exact hA
      have cst : ∀ R, (if r = (-6) then some ([Value.int (-6)], hp c (aJ X 64 g)) else if x3 < 0 then some ([Value.int (-6)], hp c (aJ X 64 g)) else if x3 ≤ r then (ix_gr (hp c (aJ X 64 g)) 3 0 5).bind fun v14 => (ix_gr (hp c (aJ X 64 g)) 3 0 0).bind fun v15 => (ix_gr (hp c (aJ X 64 g)) v15 1 0).bind fun v16 => (ix_M mWk_follow [.ref v14, .ref v16, .int (nI f), .int r, .int x3] (hp c (aJ X 64 g))).bind fun r => ix_kI r fun v18 h17 => some ([.int v18], h17) else some ([Value.int (-6)], hp c (aJ X 64 g))) = R → ix_D mRP_shortest 0 [some (.ref 3), some (.int (nI f)), some (.int (nI t)), some (.int x3), none] [] (hp c X) = R := fun R hR => by
        rw [e_RP_shortest, bO (g3_0 c _), bO (g4_0 c _), kZ_of (M_has_t hs hG hf), if_pos rfl, bO (g3_0 c _), bO (g4_0 c _), kZ_of (M_has_t hs hG ht), if_pos rfl, bO (g3_5 c _), bO (g3_0 c _), bO (g4_0 c _), kI_of e1]
        exact hR
      have rst : ∀ R, (if Y.1 83 f < 0 then some ([Value.int (-6)], hp c Y) else (ix_M mMo_in [.int x3, .int 0, .int (Y.1 83 f)] (hp c Y)).bind fun r => ix_kZ r fun v11 h10 => if v11 = true then l_Mo_shortest_55 75 x3 (nI f) 0 h10 else some ([.int (-6)], h10)) = R → ix_D mMo_shortest 0 [some (.ref 75), some (.int (nI f)), some (.int (nI t)), some (.int x3), none, none, none] [] (hp c (aJ X 64 g)) = R := fun R hR => by
        rw [e_Mo_shortest, kZ_of (M_isCell_t (X := aJ X 64 g) hs hA hf), if_pos rfl, kZ_of (M_isCell_t (X := aJ X 64 g) hs hA ht), if_pos rfl, kV_of e2, bO (g75_7 c _), bO (r83 (by omega)), bO (g75_7 c _), bO (r83 (by omega))]
        exact hR
      have fin : ∀ v : Int32, ix_D mRP_shortest 0 [some (.ref 3), some (.int (nI f)), some (.int (nI t)), some (.int x3), none] [] (hp c X) = some ([.int v], hp c (aJ X 64 g)) → ix_D mMo_shortest 0 [some (.ref 75), some (.int (nI f)), some (.int (nI t)), some (.int x3), none, none, none] [] (hp c (aJ X 64 g)) = some ([.int v], hp c Y) → okI mRP_shortest mMo_shortest [.int (nI f), .int (nI t), .int x3] c X := fun v a1 a2 => ok_q h (r := v) (x_RP_shortest (rc_3 c X) a1) hfr (x_Mo_shortest (rc_75 c _) a2) (rS_far h2)
      rcases h1 with ⟨k, hk, q1, q2, q3⟩ | ⟨q1, q2⟩
      · have hYf : Y.1 83 f = nI k := far_k h3 hf q2
        have hk0 : ¬ nI k < 0 := nI_pos (by omega)
        have hk6 : ¬ nI k = -6 := fun q => by
          rw [q] at hk0
          exact hk0 (by decide)
        rw [q1] at cst
        rw [hYf] at rst
        by_cases g0 : x3 < 0
        · exact fin (-6) (cst _ (by rw [if_neg hk6, if_pos g0])) (rst _ (by rw [if_neg hk0, kZ_of (M_in_f (.inl g0) _), if_neg (by decide)]))
        · obtain ⟨i, hi, rfl⟩ := nI_of g0
          by_cases g1 : i ≤ k
          · have n1 : nI i ≤ nI k := by rw [nI_leI (by omega) (by omega)]; exact g1
            have n2 : ¬ nI k < nI i := by rw [nI_ltI (by omega) (by omega)]; omega
            obtain ⟨y, f1, f2⟩ := C_follow (c := c) (X := aJ X 64 g) hs hG2 hk g1 q2 (fun j hj => by rw [aJ_1]; exact q3 j hj)
            obtain ⟨y', f3, f4⟩ := R_shortest (c := c) hs hA2 hk g1 q2 h3
            have ey := PRl_one i y' y f4 f2
            rw [ey] at f3
            exact fin (nI y) (cst _ (by rw [if_neg hk6, if_neg g0, if_pos n1, bO (g3_5 c _), bO (g3_0 c _), bO (g4_0 c _), kI_of f1])) (rst _ (by rw [if_neg hk0, kZ_of (M_in_t g0 n2 _), if_pos rfl, f3]))
          · have n1 : ¬ nI i ≤ nI k := by rw [nI_leI (by omega) (by omega)]; exact g1
            have n2 : nI k < nI i := by rw [nI_ltI (by omega) (by omega)]; omega
            exact fin (-6) (cst _ (by rw [if_neg hk6, if_neg g0, if_neg n1])) (rst _ (by rw [if_neg hk0, kZ_of (M_in_f (.inr n2) _), if_neg (by decide)]))
      · have hYf : Y.1 83 f = -6 := far_n h3 hf q2
        exact fin (-6) (cst _ (by rw [if_pos q1])) (rst _ (by rw [hYf, if_pos (by decide)]))
    · exact ok_0 h (r := -1) (x_RP_shortest (rc_3 c X) (by rw [e_RP_shortest, bO (g3_0 c _), bO (g4_0 c _), kZ_of (M_has_t hs hG hf), if_pos rfl, bO (g3_0 c _), bO (g4_0 c _), kZ_of (M_has_f hG hy), if_neg (by decide)])) (x_Mo_shortest (rc_75 c X) (by rw [e_Mo_shortest, kZ_of (M_isCell_t hs hA hf), if_pos rfl, kZ_of (M_isCell_f hs hA hy), if_neg (by decide)]))
  · exact ok_0 h (r := -1) (x_RP_shortest (rc_3 c X) (by rw [e_RP_shortest, bO (g3_0 c _), bO (g4_0 c _), kZ_of (M_has_f hG hx), if_neg (by decide)])) (x_Mo_shortest (rc_75 c X) (by rw [e_Mo_shortest, kZ_of (M_isCell_f hs hA hx), if_neg (by decide)]))
