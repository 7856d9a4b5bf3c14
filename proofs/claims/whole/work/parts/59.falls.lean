/-! FALLS: how many falling routes go from a cell to each one -/
def dpT {α : Type} (φ : (Nat → α) → Nat → α) (z : α) : Nat → Nat → α
  | 0 => fun _ => z
  | k + 1 => fun c => if c = k then φ (dpT φ z k) k else dpT φ z k c
theorem dpT_1 {α : Type} (φ : (Nat → α) → Nat → α) (z : α) (k : Nat) : dpT φ z (k + 1) k = φ (dpT φ z k) k := if_pos rfl
theorem dpT_lt {α : Type} (φ : (Nat → α) → Nat → α) (z : α) : ∀ k c, c < k → dpT φ z k c = dpT φ z (c + 1) c
  | 0, c, h => absurd h (Nat.not_lt_zero c)
  | k + 1, c, h => by
    by_cases e : c = k
    · rw [e]
    · have : dpT φ z (k + 1) c = dpT φ z k c := if_neg e
      rw [this, dpT_lt φ z k c (by omega)]
def fwF (B : bT) (x : Nat) (g : Nat → Nat) (c : Nat) : Nat := if bop B c = true then ((if c = x then 1 else 0) + (if c % bw B = 0 then 0 else g (c - 1))) + (if bw B ≤ c then g (c - bw B) else 0) else 0
def fw (B : bT) (x c : Nat) : Nat := dpT (fwF B x) 0 (c + 1) c
theorem fw_eq {B : bT} (hw : 0 < bw B) (x c : Nat) : fw B x c = if bop B c = true then ((if c = x then 1 else 0) + (if c % bw B = 0 then 0 else fw B x (c - 1))) + (if bw B ≤ c then fw B x (c - bw B) else 0) else 0 := by
  show dpT (fwF B x) 0 (c + 1) c = _
  rw [dpT_1]
  show (if bop B c = true then _ else 0) = _
  by_cases ho : bop B c = true
  · rw [if_pos ho, if_pos ho]
    congr 1
    · congr 1
      by_cases h0 : c % bw B = 0
      · rw [if_pos h0, if_pos h0]
      · have hc : ¬ c = 0 := fun e => h0 (by rw [e]; exact Nat.zero_mod _)
        rw [if_neg h0, if_neg h0, dpT_lt (fwF B x) 0 c (c - 1) (by omega)]
        rfl
    · by_cases h1 : bw B ≤ c
      · rw [if_pos h1, if_pos h1, dpT_lt (fwF B x) 0 c (c - bw B) (by omega)]
        rfl
      · rw [if_neg h1, if_neg h1]
  · rw [if_neg ho, if_neg ho]
theorem fw_lt {B : bT} (hw : 0 < bw B) (x : Nat) : ∀ c, c < x → fw B x c = 0 := by
  intro c
  induction c using Nat.strongRecOn with
  | _ c ih =>
    intro hc
    rw [fw_eq hw]
    by_cases ho : bop B c = true
    · rw [if_pos ho, if_neg (by omega)]
      have e1 : (if c % bw B = 0 then 0 else fw B x (c - 1)) = 0 := by
        by_cases h0 : c % bw B = 0
        · rw [if_pos h0]
        · have hc : ¬ c = 0 := fun e => h0 (by rw [e]; exact Nat.zero_mod _)
          rw [if_neg h0]
          exact ih (c - 1) (by omega) (by omega)
      have e2 : (if bw B ≤ c then fw B x (c - bw B) else 0) = 0 := by
        by_cases h1 : bw B ≤ c
        · rw [if_pos h1]
          exact ih (c - bw B) (by omega) (by omega)
        · rw [if_neg h1]
      rw [e1, e2]
    · rw [if_neg ho]
theorem fw_self {B : bT} (hw : 0 < bw B) (x : Nat) : fw B x x = if bop B x = true then 1 else 0 := by
  rw [fw_eq hw]
  by_cases ho : bop B x = true
  · rw [if_pos ho, if_pos ho, if_pos rfl]
    have e1 : (if x % bw B = 0 then 0 else fw B x (x - 1)) = 0 := by
      by_cases h0 : x % bw B = 0
      · rw [if_pos h0]
      · have hc : ¬ x = 0 := fun e => h0 (by rw [e]; exact Nat.zero_mod _)
        rw [if_neg h0]
        exact fw_lt hw x _ (by omega)
    have e2 : (if bw B ≤ x then fw B x (x - bw B) else 0) = 0 := by
      by_cases h1 : bw B ≤ x
      · rw [if_pos h1]
        exact fw_lt hw x _ (by omega)
      · rw [if_neg h1]
    rw [e1, e2]
  · rw [if_neg ho, if_neg ho]
/-- the diagonal of a cell -/
def dgB (B : bT) (c : Nat) : Nat := c % bw B + c / bw B
theorem dg_left {B : bT} {c : Nat} (hw : 0 < bw B) (h : ¬ c % bw B = 0) : (c - 1) % bw B = c % bw B - 1 ∧ (c - 1) / bw B = c / bw B := by
  have h1 := Nat.mod_lt c hw
  have e : c - 1 = (c % bw B - 1) + bw B * (c / bw B) := by
    have := Nat.mod_add_div c (bw B)
    omega
  constructor
  · rw [e, Nat.add_mul_mod_self_left, Nat.mod_eq_of_lt (by omega)]
  · rw [e, Nat.add_mul_div_left _ _ hw, Nat.div_eq_of_lt (by omega), Nat.zero_add]
theorem dg_up {B : bT} {c : Nat} (hw : 0 < bw B) (h : bw B ≤ c) : (c - bw B) % bw B = c % bw B ∧ (c - bw B) / bw B + 1 = c / bw B := by
  have e : c = (c - bw B) + bw B := by omega
  constructor
  · have := Nat.add_mod_right (c - bw B) (bw B)
    rw [← e] at this
    exact this.symm
  · have := Nat.add_div_right (c - bw B) hw
    rw [← e] at this
    exact this.symm
theorem dgB_left {B : bT} {c : Nat} (hw : 0 < bw B) (h : ¬ c % bw B = 0) : dgB B (c - 1) + 1 = dgB B c := by
  have := dg_left hw h
  unfold dgB
  rw [this.1, this.2]
  omega
theorem dgB_up {B : bT} {c : Nat} (hw : 0 < bw B) (h : bw B ≤ c) : dgB B (c - bw B) + 1 = dgB B c := by
  have := dg_up hw h
  unfold dgB
  rw [this.1]
  omega
theorem fw_le {B : bT} (hw : 0 < bw B) (x : Nat) : ∀ c, fw B x c ≤ 2 ^ dgB B c := by
  intro c
  induction c using Nat.strongRecOn with
  | _ c ih =>
    have hp2 : 0 < 2 ^ dgB B c := Nat.two_pow_pos _
    rcases Nat.lt_trichotomy c x with q | q | q
    · rw [fw_lt hw x c q]
      exact Nat.zero_le _
    · rw [q, fw_self hw]
      rw [q] at hp2
      split <;> omega
    · rw [fw_eq hw]
      by_cases ho : bop B c = true
      · rw [if_pos ho, if_neg (by omega), Nat.zero_add]
        by_cases h0 : c % bw B = 0
        · rw [if_pos h0, Nat.zero_add]
          by_cases h1 : bw B ≤ c
          · rw [if_pos h1]
            have := ih (c - bw B) (by omega)
            have e := dgB_up hw h1
            rw [← e, Nat.pow_succ]
            omega
          · rw [if_neg h1]; omega
        · have hc : ¬ c = 0 := fun e => h0 (by rw [e]; exact Nat.zero_mod _)
          rw [if_neg h0]
          have i1 := ih (c - 1) (by omega)
          have e1 := dgB_left hw h0
          by_cases h1 : bw B ≤ c
          · rw [if_pos h1]
            have i2 := ih (c - bw B) (by omega)
            have e2 := dgB_up hw h1
            have e3 : dgB B (c - bw B) = dgB B (c - 1) := by omega
            rw [e3] at i2
            rw [← e1, Nat.pow_succ]
            omega
          · rw [if_neg h1, ← e1, Nat.pow_succ]
            omega
      · rw [if_neg ho]
        omega
theorem dgB_le {B : bT} (hs : bS B) {c : Nat} (hc : c < bn B) : dgB B c ≤ 14 := by
  have h1 := Nat.mod_lt c (bS_w hs)
  have h2 := bn_div hc
  have h3 := hs.2.1
  have h4 := hs.2.2.2
  unfold dgB
  omega
theorem fw_small {B : bT} (hs : bS B) (x : Nat) {c : Nat} (hc : c < bn B) : fw B x c < 32768 := by
  have h1 := fw_le (bS_w hs) x c
  have h2 : 2 ^ dgB B c ≤ 2 ^ 14 := Nat.pow_le_pow_right (by decide) (dgB_le hs hc)
  have h3 : (2 : Nat) ^ 14 = 16384 := by decide
  omega
theorem lN_pos {n : Nat} (h : n < 32768) : lN n ≤ 0 ↔ n = 0 := by
  have := lN_le (a := n) (b := 0) (by omega) (by omega)
  rw [show (0 : Int64) = lN 0 from rfl, this]
  omega
theorem nI_subneg {a b : Nat} (h : a < b) (hb : b < 2147483648) : nI a - nI b < 0 := by
  rw [nI_z, nI_z, zI_sub]
  show zI _ < zI 0
  rw [zI_lt (by omega) (by omega) (by omega) (by omega)]
  omega
theorem mn_64 {n : Nat} (h : n ≤ 64) : ix_mn (nI n) 64 = nI n := by
  unfold ix_mn
  have h1 : ¬ (64 : Int32) < nI n := by
    show ¬ nI 64 < nI n
    rw [nI_ltI (by omega) (by omega)]
    omega
  rw [if_neg h1]
/-! the class -/
theorem M_waysTo {c : ixK} {X : ixX} {k : Nat} (hk : k < 64) : ix_M mDe_waysTo [.ref 59, .int (nI k)] (hp c X) = some ([.long (X.2 60 k)], hp c X) := by
  refine x_De_waysTo (rc_59 c X) ?_
  rw [e_De_waysTo, if_neg (nI_pos (by omega)), if_neg (lit_nle (x := 64) (a := 64) (k := k) rfl hk (by omega)), bO (g59_0 c X), bO (r60 hk)]
theorem M_waysTo_0 {c : ixK} {X : ixX} {x : Int32} (hx : x < 0) : ix_M mDe_waysTo [.ref 59, .int x] (hp c X) = some ([.long 0], hp c X) := by
  refine x_De_waysTo (rc_59 c X) ?_
  rw [e_De_waysTo, if_pos hx]
theorem M_dspread {c : ixK} {X : ixX} {B : bT} (hs : bS B) (h : cG 4 X B) {x : Nat} (hx : x < bn B) : ∃ g, ix_M mDe_spread [.ref 59, .ref 5, .int (nI x)] (hp c X) = some ([], hp c (aJ X 60 g)) ∧ ∀ k, k < bn B → g k = lN (fw B x k) := by
  have h64 := bS_64 hs
  have hw := bS_w hs
  have h8 := hs.2.1
  have hG : ∀ g, cG 4 (aJ X 60 g) B := fun g => cG_cong rfl rfl rfl rfl h
  obtain ⟨g, e, hg⟩ := lp_up (fun k (g : Nat → Int64) => l_De_spread_19 59 5 (nI x) (nI (bn B)) (LSt (bop B)) (nI k) (hp c (aJ X 60 g))) (fun k g => ∀ j, j < k → g j = lN (fw B x j)) (N := bn B) (fun k g hk hg => by
    refine ⟨vp_updL g k (lN (fw B x k)), ?_, ?_⟩
    · show l_De_spread_19 59 5 (nI x) (nI (bn B)) (LSt (bop B)) (nI k) (hp c (aJ X 60 g)) = l_De_spread_19 59 5 (nI x) (nI (bn B)) (LSt (bop B)) (nI (k + 1)) (hp c (aJ X 60 _))
      have hup : ∀ s : Nat, (bop B k = true → s = (if k = x then 1 else 0) + (if k % bw B = 0 then 0 else fw B x (k - 1))) → l_De_spread_63 59 5 (nI x) (nI (bn B)) (LSt (bop B)) (nI k) (lN s) (hp c (aJ X 60 g)) = l_De_spread_19 59 5 (nI x) (nI (bn B)) (LSt (bop B)) (nI (k + 1)) (hp c (aJ X 60 (vp_updL g k (lN (fw B x k))))) := by
        intro s hsum
        have ew : ∃ u, (ix_M mDe_waysTo [.ref 59, .int (nI k - nI (bw B))] (hp c (aJ X 60 g))) = some ([.long (lN u)], hp c (aJ X 60 g)) ∧ u = (if bw B ≤ k then fw B x (k - bw B) else 0) := by
          by_cases h1 : bw B ≤ k
          · refine ⟨fw B x (k - bw B), ?_, by rw [if_pos h1]⟩
            rw [nI_sub h1, M_waysTo (by omega), aJ_1, hg (k - bw B) (by omega)]
          · exact ⟨0, M_waysTo_0 (nI_subneg (by omega) (by omega)), by rw [if_neg h1]⟩
        obtain ⟨u, eu, hu⟩ := ew
        rw [e_De_spread_63, bO (g5_0 c _), G_w (hG g), kL_of eu, bO (g59_0 c _), kZ_of (M_holds _ (by omega) _), nI_1]
        cases ho : bop B k with
        | true =>
          rw [if_pos rfl, bO (s60 (by omega)), aJ_1, aJ_aJ, lN_add, fw_eq hw x k, if_pos ho, hsum ho, hu]
        | false =>
          rw [if_neg (by decide), bO (s60 (by omega)), aJ_1, aJ_aJ, fw_eq hw x k, if_neg (by rw [ho]; decide)]
          rfl
      have hleft : ∀ s0 : Nat, (s0 = if k = x then 1 else 0) → (ix_M mRP_holds [.long (LSt (fun c => decide (c < bn B) && !decide (c % bw B = 0))), .int (nI k)] (hp c (aJ X 60 g))).bind (fun r => ix_kZ r fun v3 h2 => if v3 = true then (ix_M mDe_waysTo [.ref 59, .int (nI k - 1)] h2).bind fun r => ix_kL r fun v5 h4 => l_De_spread_63 59 5 (nI x) (nI (bn B)) (LSt (bop B)) (nI k) (lN s0 + v5) h4 else l_De_spread_63 59 5 (nI x) (nI (bn B)) (LSt (bop B)) (nI k) (lN s0) h2) = l_De_spread_19 59 5 (nI x) (nI (bn B)) (LSt (bop B)) (nI (k + 1)) (hp c (aJ X 60 (vp_updL g k (lN (fw B x k))))) := by
        intro s0 hs0
        rw [kZ_of (M_holds _ (by omega) _), decide_eq_true hk]
        by_cases h0 : k % bw B = 0
        · rw [decide_eq_true h0, if_neg (by decide)]
          exact hup s0 (fun _ => by rw [hs0, if_pos h0, Nat.add_zero])
        · have hk0 : ¬ k = 0 := fun e => h0 (by rw [e]; exact Nat.zero_mod _)
          rw [decide_eq_false h0, if_pos (by decide), show nI k - 1 = nI (k - 1) from nI_sub (b := 1) (by omega), kL_of (M_waysTo (by omega)), aJ_1, hg (k - 1) (by omega), lN_add]
          exact hup _ (fun _ => by rw [hs0, if_neg h0])
      rw [e_De_spread_19, if_neg (by rw [nI_leI (by omega) (by omega)]; omega)]
      by_cases ex : k = x
      · rw [if_neg (by rw [ex]; simp), bO (g5_3 c _), G_f (hG g)]
        exact hleft 1 (by rw [if_pos ex])
      · rw [if_pos (by rw [nI_eq (by omega) (by omega)]; exact ex), bO (g5_3 c _), G_f (hG g)]
        exact hleft 0 (by rw [if_neg ex])
    · intro j hj
      by_cases ej : j = k
      · rw [ej, updL_1]
      · rw [updL_n _ _ ej]; exact hg j (by omega)) (k := 0) (s := X.2 60) (by omega) (fun j hj => absurd hj (Nat.not_lt_zero j))
  have e' : l_De_spread_19 59 5 (nI x) (nI (bn B)) (LSt (bop B)) (nI 0) (hp c (aJ X 60 (X.2 60))) = l_De_spread_19 59 5 (nI x) (nI (bn B)) (LSt (bop B)) (nI (bn B)) (hp c (aJ X 60 g)) := e
  rw [aJ_self] at e'
  refine ⟨g, x_De_spread (rc_59 c X) ?_, hg⟩
  rw [e_De_spread, kI_of (M_gsize h), kL_of (M_gopen h), mn_64 h64, show (0 : Int32) = nI 0 from rfl, e', e_De_spread_19, if_pos (by rw [nI_leI (by omega) (by omega)]; omega)]
/-! the reference -/
theorem M_layFalls {c : ixK} {X : ixX} {B : bT} (hs : bS B) (h : rBd (X.1 76) B) {x : Nat} (hx : x < bn B) : ∃ g, ix_M mMo_layFalls [.ref 75, .int (nI x)] (hp c X) = some ([], hp c (aJ X 79 g)) ∧ ∀ k, k < bn B → g k = lN (fw B x k) := by
  have h64 := bS_64 hs
  have hw := bS_w hs
  have h8 := hs.2.1
  have hA : ∀ g, rBd ((aJ X 79 g).1 76) B := fun g => h
  obtain ⟨g1, e1, hg1⟩ := lp_up (fun k (g : Nat → Int64) => l_Mo_layFalls_2 75 (nI x) (nI k) (hp c (aJ X 79 g))) (fun k g => ∀ j, j < k → g j = 0) (N := bn B) (fun k g hk hg => by
    refine ⟨vp_updL g k 0, ?_, ?_⟩
    · show l_Mo_layFalls_2 75 (nI x) (nI k) (hp c (aJ X 79 g)) = l_Mo_layFalls_2 75 (nI x) (nI (k + 1)) (hp c (aJ X 79 _))
      rw [e_Mo_layFalls_2, kI_of (M_mcells (hA g)), if_neg (by rw [nI_leI (by omega) (by omega)]; omega), bO (g75_3 c _), bO (s79 (by omega)), aJ_1, aJ_aJ, nI_1]
    · intro j hj
      by_cases ej : j = k
      · rw [ej, updL_1]
      · rw [updL_n _ _ ej]; exact hg j (by omega)) (k := 0) (s := X.2 79) (by omega) (fun j hj => absurd hj (Nat.not_lt_zero j))
  have e1' : l_Mo_layFalls_2 75 (nI x) (nI 0) (hp c (aJ X 79 (X.2 79))) = l_Mo_layFalls_2 75 (nI x) (nI (bn B)) (hp c (aJ X 79 g1)) := e1
  rw [aJ_self] at e1'
  have e2 : l_Mo_layFalls_2 75 (nI x) (nI (bn B)) (hp c (aJ X 79 g1)) = l_Mo_layFalls_46 75 (nI (x + 1)) (hp c (aJ X 79 (vp_updL g1 x (lN (fw B x x))))) := by
    rw [e_Mo_layFalls_2, kI_of (M_mcells (hA g1)), if_pos (by rw [nI_leI (by omega) (by omega)]; omega), bO (g75_3 c _), kZ_of (M_misOpen hs (hA g1) hx), fw_self hw, nI_1]
    cases ho : bop B x with
    | true => rw [if_pos rfl, bO (s79 (by omega)), aJ_1, aJ_aJ]; rfl
    | false => rw [if_neg (by decide), bO (s79 (by omega)), aJ_1, aJ_aJ]; rfl
  obtain ⟨g, e3, hg, _⟩ := lp_up (fun k (g : Nat → Int64) => l_Mo_layFalls_46 75 (nI k) (hp c (aJ X 79 g))) (fun k g => (∀ j, j < k → g j = lN (fw B x j)) ∧ x < k ∧ ∀ j, k ≤ j → j < bn B → g j = 0) (N := bn B) (fun k g hk hg => by
    obtain ⟨hg, hxk, hz⟩ := hg
    refine ⟨vp_updL g k (lN (fw B x k)), ?_, ?_, by omega, ?_⟩
    · show l_Mo_layFalls_46 75 (nI k) (hp c (aJ X 79 g)) = l_Mo_layFalls_46 75 (nI (k + 1)) (hp c (aJ X 79 _))
      rw [e_Mo_layFalls_46, kI_of (M_mcells (hA g)), if_neg (by rw [nI_leI (by omega) (by omega)]; omega), kZ_of (M_misOpen hs (hA g) hk)]
      have hfw := fw_eq hw x k
      cases ho : bop B k with
      | false =>
        rw [ho, if_neg (by decide)] at hfw
        have : vp_updL g k (lN (fw B x k)) = g := by
          funext j
          by_cases ej : j = k
          · rw [ej, updL_1, hz k (by omega) hk, hfw]; rfl
          · rw [updL_n _ _ ej]
        rw [if_neg (by decide), this, nI_1]
      | true =>
        rw [ho, if_pos rfl, if_neg (by omega), Nat.zero_add] at hfw
        have h87 : ∀ s : Nat, s = (if k % bw B = 0 then 0 else fw B x (k - 1)) → l_Mo_layFalls_87 75 (nI k) 79 (nI k) (lN s) (hp c (aJ X 79 g)) = l_Mo_layFalls_46 75 (nI (k + 1)) (hp c (aJ X 79 (vp_updL g k (lN (fw B x k))))) := by
          intro s hs1
          rw [e_Mo_layFalls_87, kI_of (M_my hs (hA g) hk), nI_1]
          by_cases h1 : bw B ≤ k
          · have q2 : 0 < k / bw B := Nat.div_pos h1 hw
            have q3 := bn_div hk
            have h9 := hs.2.2.2
            rw [if_neg (nI_nle q2 (by omega)), bO (g75_3 c _), bO (g75_0 c _), bO x76_0, A_w (hA g), nI_sub h1, bO (r79 (by omega)), aJ_1, hg (k - bw B) (by omega), lN_add, bO (s79 (by omega)), aJ_1, aJ_aJ, hfw, if_pos h1, hs1]
          · have q2 : k / bw B = 0 := Nat.div_eq_of_lt (by omega)
            rw [q2, if_pos (by decide), show (0 : Int64) = lN 0 from rfl, lN_add, bO (s79 (by omega)), aJ_1, aJ_aJ, hfw, if_neg h1, hs1]
        have hxm := Nat.mod_lt k hw
        rw [if_pos rfl, bO (g75_3 c _), kI_of (M_mx hs (hA g) hk)]
        by_cases h0 : k % bw B = 0
        · rw [h0, if_pos (by decide)]
          exact h87 0 (by rw [if_pos h0])
        · rw [if_neg (nI_nle (by omega) (by omega)), bO (g75_3 c _), show nI k - 1 = nI (k - 1) from nI_sub (b := 1) (by omega), bO (r79 (by omega)), aJ_1, hg (k - 1) (by omega)]
          exact h87 _ (by rw [if_neg h0])
    · intro j hj
      by_cases ej : j = k
      · rw [ej, updL_1]
      · rw [updL_n _ _ ej]; exact hg j (by omega)
    · intro j hj1 hj2
      rw [updL_n _ _ (by omega)]
      exact hz j (by omega) hj2) (k := x + 1) (s := vp_updL g1 x (lN (fw B x x))) (by omega) ⟨fun j hj => by
      by_cases ej : j = x
      · rw [ej, updL_1]
      · rw [updL_n _ _ ej, hg1 j (by omega), fw_lt hw x j (by omega)]; rfl, by omega, fun j hj1 hj2 => by
      rw [updL_n _ _ (by omega)]
      exact hg1 j hj2⟩
  have e3' : l_Mo_layFalls_46 75 (nI (x + 1)) (hp c (aJ X 79 (vp_updL g1 x (lN (fw B x x))))) = l_Mo_layFalls_46 75 (nI (bn B)) (hp c (aJ X 79 g)) := e3
  refine ⟨g, x_Mo_layFalls (rc_75 c X) ?_, hg⟩
  rw [e_Mo_layFalls, show (0 : Int32) = nI 0 from rfl, e1', e2, e3', e_Mo_layFalls_46, kI_of (M_mcells (hA g)), if_pos (by rw [nI_leI (by omega) (by omega)]; omega)]
