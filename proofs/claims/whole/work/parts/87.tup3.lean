/-! TUPLES: the reference's methods -/
theorem x76_p {c : ixK} {X : ixX} : ix_ai (hp c X) 76 386 = some (X.1 76 386) := r76 (i := 386) (by omega)
theorem d_sh1 : ∀ n, n < 5 → ix_ishl 1 (nI n) = nI (2 ^ n) := by decide +kernel
theorem n9_lt {p : Nat} (pn : p < 4) : 9 ^ p < 1000 := by
  rcases (show p = 0 ∨ p = 1 ∨ p = 2 ∨ p = 3 by omega) with rfl | rfl | rfl | rfl <;> decide
theorem M_unit {p : Nat} (pn : p < 4) (h : ixH) : ix_M mMo_unit [.int (nI p)] h = some ([.int (nI (9 ^ p))], h) := by
  refine x_Mo_unit ?_
  rw [e_Mo_unit]
  rcases (show p = 0 ∨ p = 1 ∨ p = 2 ∨ p = 3 by omega) with rfl | rfl | rfl | rfl
  · rw [if_neg (by decide)]; rfl
  · rw [if_pos (by decide), if_neg (by decide)]; rfl
  · rw [if_pos (by decide), if_pos (by decide), if_neg (by decide)]; rfl
  · rw [if_pos (by decide), if_pos (by decide), if_pos (by decide)]; rfl
theorem M_placeIn {s p : Nat} (pn : p < 4) (hs : s < 2147483648) (h : ixH) : ix_M mMo_placeIn [.int (nI s), .int (nI p)] h = some ([.int (nI (s / 9 ^ p % 9))], h) := by
  have h9 := n9_lt pn
  have h0 := n9_pos p
  have h1 : s / 9 ^ p ≤ s := Nat.div_le_self _ _
  refine x_Mo_placeIn ?_
  rw [e_Mo_placeIn, kI_of (M_unit pn h), if_neg (nI_ne0 h0 (by omega)), if_neg (by decide), nI_div (by omega) (by omega), show (9 : Int32) = nI 9 from rfl, nI_rem (by omega) (by omega)]
theorem M_tst {c : ixK} {X : ixX} {B : bT} (hb : bOK B) (hA : rBd (X.1 76) B) {p : Nat} (pn : p < (bpr B).length) : ix_M mMo_start [.ref 75, .int (nI p)] (hp c X) = some ([.int (nI (pst B p))], hp c X) := by
  have h4 := hb.2.2.2.1
  refine x_Mo_start (rc_75 c X) ?_
  rw [e_Mo_start, bO (g75_0 c _), bO (x76 (i387 p) (by omega)), (A_pp hA pn).1]
  rfl
theorem M_ten {c : ixK} {X : ixX} {B : bT} (hb : bOK B) (hA : rBd (X.1 76) B) {p : Nat} (pn : p < (bpr B).length) : ix_M mMo_end [.ref 75, .int (nI p)] (hp c X) = some ([.int (nI (pen B p))], hp c X) := by
  have h4 := hb.2.2.2.1
  refine x_Mo_end (rc_75 c X) ?_
  rw [e_Mo_end, bO (g75_0 c _), bO (x76 (i388 p) (by omega)), (A_pp hA pn).2]
  rfl
theorem M_mdiag {c : ixK} {X : ixX} {B : bT} (hs : bS B) (hA : rBd (X.1 76) B) {k : Nat} (hk : k < bn B) : ix_M mMo_diagonal [.ref 75, .int (nI k)] (hp c X) = some ([.int (nI (dgB B k))], hp c X) := by
  refine x_Mo_diagonal (rc_75 c X) ?_
  rw [e_Mo_diagonal, kI_of (M_mx hs hA hk), kI_of (M_my hs hA hk), nI_add]
  rfl
theorem M_mayBe {c : ixK} {X : ixX} {B : bT} (hb : bOK B) (hA : rBd (X.1 76) B) {p x d : Nat} (pn : p < (bpr B).length) (hx : x < 32) (hd : d < 32) : ix_M mMo_mayBe [.ref 75, .int (nI p), .int (nI x), .int (nI d)] (hp c X) = some ([.int (ix_bi (decide (tMb B p x d)))], hp c X) := by
  have hs := hb.1
  have h8 := hs.2.1
  have h9 := hs.2.2.2
  have h64 := bS_64 hs
  have hw := bS_w hs
  have hh : 0 < bh B := by have := hs.2.2.1; omega
  have he := (pen_D hb pn).2.1
  have hdg := dgB_le hs he
  have T : tMb B p x d → some ([Value.int (ix_bi true)], hp c X) = some ([Value.int (ix_bi (decide (tMb B p x d)))], hp c X) := fun h => by rw [decide_eq_true h]
  have F : ¬ tMb B p x d → some ([Value.int (ix_bi false)], hp c X) = some ([Value.int (ix_bi (decide (tMb B p x d)))], hp c X) := fun h => by rw [decide_eq_false h]
  refine x_Mo_mayBe (rc_75 c X) ?_
  rw [e_Mo_mayBe, bO (g75_0 c _), bO x76_0, A_w hA]
  by_cases a1 : x < bw B
  · rw [kZ_of (M_in0_t a1 (by omega) _), if_pos rfl, bO (g75_0 c _), bO x76_1, A_h hA]
    by_cases a2 : x ≤ d
    · rw [nI_sub a2]
      by_cases a3 : d - x < bh B
      · have hc : (d - x) * bw B + x < bn B := bn_of a1 a3
        rw [kZ_of (M_in0_t a3 (by omega) _), if_pos rfl, bO (g75_0 c _), bO x76_0, A_w hA, nI_mul, nI_add, kZ_of (M_misOpen hs hA hc)]
        by_cases ho : bop B ((d - x) * bw B + x) = true
        · rw [if_pos ho, kI_of (M_ten hb hA pn), kI_of (M_mdiag hs hA he)]
          by_cases a4 : d < dgB B (pen B p)
          · rw [if_pos ((nI_ltI (by omega) (by omega)).mpr a4)]
            exact T ⟨a1, a2, a3, ho, .inl a4⟩
          · rw [if_neg (fun e => a4 ((nI_ltI (by omega) (by omega)).mp e)), kI_of (M_ten hb hA pn)]
            by_cases a5 : (d - x) * bw B + x = pen B p
            · rw [if_neg (fun e => e (by rw [a5]))]
              exact T ⟨a1, a2, a3, ho, .inr a5⟩
            · rw [if_pos (fun e => a5 ((nI_eq (by omega) (by omega)).mp e))]
              exact F (fun h => h.2.2.2.2.elim a4 a5)
        · rw [if_neg ho]
          exact F (fun h => ho h.2.2.2.1)
      · rw [kZ_of (M_in0_f hh (by omega) (.inr ((nI_leI (by omega) (by omega)).mpr (by omega))) _), if_neg (by decide)]
        exact F (fun h => a3 h.2.2.1)
    · rw [kZ_of (M_in0_f hh (by omega) (.inl (nI_subneg (by omega) (by omega))) _), if_neg (by decide)]
      exact F (fun h => a2 h.2.1)
  · rw [kZ_of (M_in0_f hw (by omega) (.inr ((nI_leI (by omega) (by omega)).mpr (by omega))) _), if_neg (by decide)]
    exact F (fun h => a1 h.1)
theorem M_goesTo {c : ixK} {X : ixX} {B : bT} (hb : bOK B) (hA : rBd (X.1 76) B) {p d pl b : Nat} (pn : p < (bpr B).length) (hd : d < 31) (hpl : pl < 9) (hb2 : b < 2) (h1 : ¬ d = dgB B (pst B p) → tOn B p d → 1 ≤ pl) : ix_M mMo_goesTo [.ref 75, .int (nI p), .int (nI pl), .int (nI d), .int (nI b)] (hp c X) = some ([.int (oI (tGo B p d pl b))], hp c X) := by
  have hs := hb.1
  obtain ⟨q1, q2, _, _⟩ := pen_D hb pn
  have g1 := dgB_le hs q1
  have g2 := dgB_le hs q2
  have h64 := bS_64 hs
  have h8 := hs.2.1
  have hxm := Nat.mod_lt (pst B p) (bS_w hs)
  have b0 : b = 0 → nI b = 0 := fun e => by rw [e]; rfl
  have b1 : ¬ b = 0 → ¬ nI b = 0 := fun e => nI_ne0 (by omega) (by omega)
  refine x_Mo_goesTo (rc_75 c X) ?_
  rw [e_Mo_goesTo, kI_of (M_tst hb hA pn), kI_of (M_mdiag hs hA q1)]
  unfold tGo
  by_cases a : d = dgB B (pst B p)
  · rw [if_neg (fun e => e (by rw [← a])), if_pos a]
    by_cases z : b = 0
    · rw [if_neg (fun e => e (b0 z)), kI_of (M_tst hb hA pn), kI_of (M_mx hs hA q1), kZ_of (M_mayBe hb hA pn (by omega) (by omega))]
      by_cases m : tMb B p (pst B p % bw B) d
      · rw [decide_eq_true m, if_pos rfl, kI_of (M_tst hb hA pn), kI_of (M_mx hs hA q1), if_pos ⟨z, m⟩, nI_1]; rfl
      · rw [decide_eq_false m, if_neg (by decide), if_neg (fun e => m e.2)]; rfl
    · rw [if_pos (b1 z), if_neg (fun e => z e.1)]; rfl
  · rw [if_pos (fun e => a ((nI_eq (by omega) (by omega)).mp e)), if_neg a, kI_of (M_tst hb hA pn), kI_of (M_mdiag hs hA q1)]
    by_cases a2 : d < dgB B (pst B p)
    · rw [if_pos ((nI_ltI (by omega) (by omega)).mpr a2), if_pos (show d < dgB B (pst B p) ∨ dgB B (pen B p) < d from .inl a2)]
      by_cases z : b = 0
      · rw [if_neg (fun e => e (b0 z)), if_pos z]; rfl
      · rw [if_pos (b1 z), if_neg z]; rfl
    · rw [if_neg (fun e => a2 ((nI_ltI (by omega) (by omega)).mp e)), kI_of (M_ten hb hA pn), kI_of (M_mdiag hs hA q2)]
      by_cases a3 : d ≤ dgB B (pen B p)
      · have hp1 := h1 a ⟨by omega, a3⟩
        rw [if_pos ((nI_leI (by omega) (by omega)).mpr a3), if_neg (show ¬ (d < dgB B (pst B p) ∨ dgB B (pen B p) < d) by omega), show nI pl - 1 = nI (pl - 1) from nI_sub (b := 1) hp1, nI_add, kZ_of (M_mayBe hb hA pn (by omega) (by omega))]
        by_cases m : tMb B p (pl - 1 + b) d
        · rw [decide_eq_true m, if_pos rfl, if_pos m, nI_add]; rfl
        · rw [decide_eq_false m, if_neg (by decide), if_neg m]; rfl
      · rw [if_neg (fun e => a3 ((nI_leI (by omega) (by omega)).mp e)), if_pos (show d < dgB B (pst B p) ∨ dgB B (pen B p) < d from .inr (by omega))]
        by_cases z : b = 0
        · rw [if_neg (fun e => e (b0 z)), if_pos z]; rfl
        · rw [if_pos (b1 z), if_neg z]; rfl
theorem shN (j : Nat) {p : Nat} (pn : p < 32) : (ix_ishr (nI j) (nI p)) &&& 1 = nI (j / 2 ^ p % 2) := by
  rw [sh1 _ pn, bt_nI, decide_eq_true pn, Bool.true_and, Nat.testBit_eq_decide_div_mod_eq]
  by_cases e : j / 2 ^ p % 2 = 1
  · rw [decide_eq_true e, e]; rfl
  · rw [decide_eq_false e, show j / 2 ^ p % 2 = 0 by omega]; rfl
theorem iS_or0 (p q : Nat → Bool) (h : ∀ i, i < 16 → q i = p i) : iS p ||| 0 = iS q := iS_of (fun i hi => by
  rw [b_or, b_iS p hi, b_0, Bool.or_false]
  by_cases h1 : i < 16
  · rw [h i h1]
  · rw [decide_eq_false h1, Bool.false_and, Bool.false_and])
theorem L_next {c : ixK} {X : ixX} {B : bT} (hb : bOK B) (hA : rBd (X.1 76) B) {d s j : Nat} (hd : d < 31) (hs6 : s < 6561) (hv : vl9 B d s) : ∀ k p acc tk, p + k = (bpr B).length → acc < 9 ^ p → l_Mo_nextState_9 75 (nI s) (nI d) (nI j) (nI acc) (iS tk) (nI p) (hp c X) = some ([.int (oI (nxL B d s k p acc tk (j / 2 ^ p)))], hp c X) := by
  have h4 := hb.2.2.2.1
  intro k
  induction k with
  | zero =>
    intro p acc tk hpk ha
    rw [e_Mo_nextState_9, bO (g75_0 c _), bO x76_p, A_p hA, if_pos ((nI_leI (by omega) (by omega)).mpr (by omega))]
    rfl
  | succ k ih =>
    intro p acc tk hpk ha
    have hpn : p < (bpr B).length := by omega
    have h9 := n9_lt (p := p) (by omega)
    have hb2 : j / 2 ^ p % 2 < 2 := Nat.mod_lt _ (by omega)
    have hpl : s / 9 ^ p % 9 < 9 := Nat.mod_lt _ (by omega)
    have h1 : ¬ d = dgB B (pst B p) → tOn B p d → 1 ≤ s / 9 ^ p % 9 := fun a o => (hv p hpn (by have := o.1; omega) o.2).1
    rw [nxL_s, e_Mo_nextState_9, bO (g75_0 c _), bO x76_p, A_p hA, if_neg (fun e => by have := (nI_leI (by omega) (by omega)).mp e; omega), kI_of (M_placeIn (by omega) (by omega) _), shN j (by omega), kI_of (M_goesTo hb hA hpn hd hpl hb2 h1)]
    cases hg : tGo B p d (s / 9 ^ p % 9) (j / 2 ^ p % 2) with
    | none => rw [if_pos (show oI none < 0 by decide)]; rfl
    | some to =>
      have hto := (tGo_lt hb.1 h1 hg).1
      obtain ⟨a1, _, _⟩ := n9_add (t := to) ha hto
      have hj : j / 2 ^ p / 2 = j / 2 ^ (p + 1) := by rw [Nat.div_div_eq_div_mul, ← Nat.pow_succ]
      rw [Option.bind_some, show oI (some to) = nI to from rfl, if_neg (nI_pos (by omega)), hj]
      by_cases z : to = 0
      · rw [if_pos (show nI to ≤ 0 by rw [z]; decide), e_Mo_nextState_67, if_pos (show nI to ≤ 0 by rw [z]; decide), kI_of (M_unit (by omega) _), nI_mul, nI_add, nI_1, if_neg (fun e => by have := e.1; omega), iS_or0 tk (fun x => tk x || (decide (0 < to) && decide (x = to))) (fun i _ => by rw [z, decide_eq_false (Nat.lt_irrefl 0), Bool.false_and, Bool.or_false])]
        exact ih (p + 1) _ _ (by omega) a1
      · have e1 : (((ix_ishr (iS tk) (nI to)) &&& 1) = 1) ↔ tk to = true := by
          rw [sh1_1 _ (by omega), b_iS tk (by omega), decide_eq_true (by omega), Bool.true_and]
        rw [if_neg (nI_nle (by omega) (by omega))]
        by_cases t : tk to = true
        · rw [if_neg (fun e => e (e1.mpr t)), if_pos ⟨by omega, t⟩]; rfl
        · rw [if_pos (fun e => t (e1.mp e)), if_neg (fun e => t e.2), e_Mo_nextState_67, if_neg (nI_nle (by omega) (by omega)), kI_of (M_unit (by omega) _), nI_mul, nI_add, nI_1, iS_add (by omega), iS_cong (p := fun i => tk i || decide (i = to)) (q := fun x => tk x || (decide (0 < to) && decide (x = to))) (fun i _ => by rw [decide_eq_true (show 0 < to by omega), Bool.true_and])]
          exact ih (p + 1) _ _ (by omega) a1
def nxS (B : bT) (d s j : Nat) : Option Nat := nxL B d s (bpr B).length 0 0 (fun _ => false) j
theorem M_nextState {c : ixK} {X : ixX} {B : bT} (hb : bOK B) (hA : rBd (X.1 76) B) {d s : Nat} (hd : d < 31) (hs6 : s < 6561) (hv : vl9 B d s) (j : Nat) : ix_M mMo_nextState [.ref 75, .int (nI s), .int (nI d), .int (nI j)] (hp c X) = some ([.int (oI (nxS B d s j))], hp c X) := by
  refine x_Mo_nextState (rc_75 c X) ?_
  have e := L_next (c := c) (j := j) hb hA hd hs6 hv (bpr B).length 0 0 (fun _ => false) (by omega) (by decide)
  rw [Nat.pow_zero, Nat.div_one] at e
  rw [e_Mo_nextState]
  exact e
theorem nxS_ok {B : bT} (hb : bOK B) {d s j t : Nat} (hv : vl9 B d s) (h : nxS B d s j = some t) : t < 6561 ∧ vl9 B (d + 1) t := by
  have h4 := hb.2.2.2.1
  obtain ⟨h1, h2, h3⟩ := nxL_ok hb.1 hv (bpr B).length 0 0 _ j t (by omega) (by decide) h
  refine ⟨?_, fun q hq a b => h3 q (Nat.zero_le _) (by omega) ⟨by omega, by omega⟩⟩
  have : (9 : Nat) ^ (0 + (bpr B).length) ≤ 9 ^ 4 := Nat.pow_le_pow_right (by decide) (by omega)
  have e4 : (9 : Nat) ^ 4 = 6561 := by decide
  omega
def nxF (B : bT) (d : Nat) (f : Nat → Nat) (s k : Nat) : Nat := fb_sm (fun j => (nxS B d s j).elim 0 f) k
theorem nxF_le (B : bT) (d s k : Nat) : nxF B d (fun _ => 1) s k ≤ k := by
  have := fb_sm_bound (f := fun j => (nxS B d s j).elim 0 (fun _ => 1)) (c := 1) (n := k) (fun j _ => by
    cases nxS B d s j with
    | none => exact Nat.zero_le _
    | some t => exact Nat.le_refl _)
  rw [Nat.mul_one] at this
  exact this
theorem nxF_ph {B : bT} (hs : bS B) (hc : ∀ q, q < (bpr B).length → dgB B (pst B q) ≤ dgB B (pen B q)) {d s : Nat} (hv : vl9 B d s) (m : Nat) : nxF B d (fun t => tPh B m (d + 1) (dec9 (d + 1) t)) s (2 ^ (bpr B).length) = tPh B (m + 1) d (dec9 d s) := by
  rw [tPh_s]
  exact nx_sum hs hc hv (tPh_f m d) (bpr B).length 0 0 (fun _ => false) (dec9 d s) (by omega) ⟨by decide, fun q hq => absurd hq (Nat.not_lt_zero q), fun x => ⟨fun e => (by cases e), fun ⟨q, hq, _⟩ => absurd hq (Nat.not_lt_zero q)⟩, fun q _ _ _ _ => rfl⟩
/-- one place gets more -/
theorem sm_bump (V f : Nat → Nat) {t N : Nat} (w : Nat) (ht : t < N) : fb_sm (fun x => (if x = t then V t + w else V x) * f x) N = fb_sm (fun x => V x * f x) N + w * f t := by
  have h := fb_sm_upd (fun x => V x * f x) ((V t + w) * f t) ht
  have e : fb_sm (fun x => (if x = t then V t + w else V x) * f x) N = fb_sm (fun k => if k = t then (V t + w) * f t else V k * f k) N := fb_sm_cong (fun k _ => by
    by_cases q : k = t
    · rw [if_pos q, if_pos q, q]
    · rw [if_neg q, if_neg q])
  rw [e]
  have e2 : (V t + w) * f t = V t * f t + w * f t := Nat.add_mul _ _ _
  have h' : fb_sm (fun k => if k = t then (V t + w) * f t else V k * f k) N + V t * f t = fb_sm (fun x => V x * f x) N + (V t + w) * f t := h
  omega
theorem lN_le63 {n : Nat} (h : n < 2 ^ 63) : lN n ≤ 0 ↔ n = 0 := by
  rw [Int64.le_iff_toInt_le]
  have e : (lN n).toInt = (n : Int) := Int64.toInt_ofNat_of_lt h
  rw [e]
  show (n : Int) ≤ 0 ↔ n = 0
  omega
def tCf (B : bT) : Nat → Bool
  | 0 => true
  | k + 1 => tCf B k && decide (dgB B (pst B k) ≤ dgB B (pen B k))
theorem tCf_iff {B : bT} : ∀ k, tCf B k = true ↔ ∀ q, q < k → dgB B (pst B q) ≤ dgB B (pen B q)
  | 0 => ⟨fun _ q hq => absurd hq (Nat.not_lt_zero q), fun _ => rfl⟩
  | k + 1 => by
    show (tCf B k && decide (dgB B (pst B k) ≤ dgB B (pen B k))) = true ↔ _
    rw [Bool.and_eq_true, tCf_iff k, decide_eq_true_iff]
    constructor
    · rintro ⟨h1, h2⟩ q hq
      by_cases e : q = k
      · rw [e]; exact h2
      · exact h1 q (by omega)
    · exact fun h => ⟨fun q hq => h q (by omega), h k (by omega)⟩
theorem M_canFall {c : ixK} {X : ixX} {B : bT} (hb : bOK B) (hA : rBd (X.1 76) B) : ix_M mMo_canFall [.ref 75] (hp c X) = some ([.int (ix_bi (tCf B (bpr B).length))], hp c X) := by
  have h4 := hb.2.2.2.1
  refine x_Mo_canFall (rc_75 c X) ?_
  have e := lp_f (fun k (b : Bool) => l_Mo_canFall_4 75 b (nI k) (hp c X)) (fun k => tCf B k) (N := (bpr B).length) (fun k hk => by
    show l_Mo_canFall_4 75 (tCf B k) (nI k) (hp c X) = l_Mo_canFall_4 75 (tCf B k && decide (dgB B (pst B k) ≤ dgB B (pen B k))) (nI (k + 1)) (hp c X)
    obtain ⟨q1, q2, _, _⟩ := pen_D hb hk
    have g1 := dgB_le hb.1 q1
    have g2 := dgB_le hb.1 q2
    rw [e_Mo_canFall_4, bO (g75_0 c _), bO x76_p, A_p hA, if_neg (fun e => by have := (nI_leI (by omega) (by omega)).mp e; omega)]
    cases tCf B k with
    | false => rw [if_neg (by decide), nI_1, Bool.false_and]
    | true =>
      rw [if_pos rfl, kI_of (M_tst hb hA hk), kI_of (M_mdiag hb.1 hA q1), kI_of (M_ten hb hA hk), kI_of (M_mdiag hb.1 hA q2), nI_1, Bool.true_and]
      by_cases a : dgB B (pst B k) ≤ dgB B (pen B k)
      · rw [if_neg (fun e => by have := (nI_ltI (by omega) (by omega)).mp e; omega), decide_eq_true a]
      · rw [if_pos ((nI_ltI (by omega) (by omega)).mpr (by omega)), decide_eq_false a]) (k := 0) (by omega)
  have e' : l_Mo_canFall_4 75 true (nI 0) (hp c X) = l_Mo_canFall_4 75 (tCf B (bpr B).length) (nI (bpr B).length) (hp c X) := e
  rw [e_Mo_canFall, show (0 : Int32) = nI 0 from rfl, e', e_Mo_canFall_4, bO (g75_0 c _), bO x76_p, A_p hA, if_pos ((nI_leI (by omega) (by omega)).mpr (by omega))]
