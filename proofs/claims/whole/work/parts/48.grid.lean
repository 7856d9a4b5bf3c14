/-! GRID: the class's grid at 5 -/
theorem G_w {X : ixX} {B : bT} (h : cG 4 X B) : X.1 5 0 = nI (bw B) := h.1
theorem G_h {X : ixX} {B : bT} (h : cG 4 X B) : X.1 5 1 = nI (bh B) := h.2.1
theorem G_c {X : ixX} {B : bT} (h : cG 4 X B) : X.2 5 2 = LSt (fun c => decide (c < bn B)) := h.2.2.1
theorem G_f {X : ixX} {B : bT} (h : cG 4 X B) : X.2 5 3 = LSt (fun c => decide (c < bn B) && !decide (c % bw B = 0)) := h.2.2.2.1
theorem G_l {X : ixX} {B : bT} (h : cG 4 X B) : X.2 5 4 = LSt (fun c => decide (c < bn B) && !decide ((c + 1) % bw B = 0)) := h.2.2.2.2.1
theorem G_x {X : ixX} {B : bT} (h : cG 4 X B) : X.2 5 5 = LSt (bwl B) := h.2.2.2.2.2.1
theorem G_r {X : ixX} {B : bT} (h : cG 4 X B) {r : Nat} (h1 : 1 ≤ r) (h2 : r < 4) : X.2 6 r = LSt (fun c => decide (brl B c = r)) := h.2.2.2.2.2.2.1 r h1 h2
theorem G_i {X : ixX} {B : bT} (h : cG 4 X B) {l : Nat} (h2 : l < 4) : X.2 7 l = LSt (bwi B l) := h.2.2.2.2.2.2.2 l h2
theorem M_gopen {c : ixK} {X : ixX} {B : bT} (h : cG 4 X B) : ix_M mGr_open [.ref 5] (hp c X) = some ([.long (LSt (bop B))], hp c X) := by
  refine x_Gr_open (rc_5 c X) ?_
  rw [e_Gr_open, bO (g5_2 c X), bO (g5_5 c X), G_c h, G_x h, LS_not, LS_and]
  rfl
theorem M_gsize {c : ixK} {X : ixX} {B : bT} (h : cG 4 X B) : ix_M mGr_size [.ref 5] (hp c X) = some ([.int (nI (bn B))], hp c X) := by
  refine x_Gr_size (rc_5 c X) ?_
  rw [e_Gr_size, bO (g5_0 c X), bO (g5_1 c X), G_w h, G_h h, nI_mul]
  rfl
theorem M_has_t {c : ixK} {X : ixX} {B : bT} (hs : bS B) (h : cG 4 X B) {k : Nat} (hk : k < bn B) : ix_M mGr_has [.ref 5, .int (nI k)] (hp c X) = some ([.int (ix_bi true)], hp c X) := by
  refine x_Gr_has (rc_5 c X) ?_
  have h64 := bS_64 hs
  have e : nI (bw B * bh B) = nI (bn B) := rfl
  rw [e_Gr_has, if_neg (nI_pos (by omega)), bO (g5_0 c X), bO (g5_1 c X), G_w h, G_h h, nI_mul, e, if_neg]
  rw [nI_leI (by omega) (by omega)]
  omega
theorem M_has_f {c : ixK} {X : ixX} {B : bT} (h : cG 4 X B) {x : Int32} (hx : x < 0 ∨ nI (bn B) ≤ x) : ix_M mGr_has [.ref 5, .int x] (hp c X) = some ([.int (ix_bi false)], hp c X) := by
  refine x_Gr_has (rc_5 c X) ?_
  rw [e_Gr_has]
  by_cases h0 : x < 0
  · rw [if_pos h0]
  · have e : nI (bw B * bh B) = nI (bn B) := rfl
    rw [if_neg h0, bO (g5_0 c X), bO (g5_1 c X), G_w h, G_h h, nI_mul, e, if_pos (hx.resolve_left h0)]
theorem M_rowOf {c : ixK} {X : ixX} {B : bT} (hs : bS B) (h : cG 4 X B) {k : Nat} (hk : k < bn B) : ix_M mGr_rowOf [.ref 5, .int (nI k)] (hp c X) = some ([.int (nI (k / bw B))], hp c X) := by
  refine x_Gr_rowOf (rc_5 c X) ?_
  have h64 := bS_64 hs
  have hw := bS_w hs
  have h8 := hs.2.1
  rw [e_Gr_rowOf, bO (g5_0 c X), G_w h, if_neg (nI_nle hw (by omega)), bO (g5_0 c X), G_w h, if_neg (nI_ne0 hw (by omega)), nI_div (by omega) (by omega)]
theorem M_diagonalOf {c : ixK} {X : ixX} {B : bT} (hs : bS B) (h : cG 4 X B) {k : Nat} (hk : k < bn B) : ix_M mGr_diagonalOf [.ref 5, .int (nI k)] (hp c X) = some ([.int (nI (k % bw B + k / bw B))], hp c X) := by
  refine x_Gr_diagonalOf (rc_5 c X) ?_
  rw [e_Gr_diagonalOf, kI_of (M_rowOf hs h hk), bO (g5_0 c X), G_w h, nI_mul, nI_sub (Nat.div_mul_le_self _ _), nI_add]
  have e : k - k / bw B * bw B = k % bw B := by
    have := Nat.div_add_mod' k (bw B)
    omega
  rw [e]
/-- open cells with a role -/
def bro (B : bT) (r : Nat) : Nat → Bool := fun c => decide (brl B c = r) && bop B c
theorem M_openWith {c : ixK} {X : ixX} {B : bT} (h : cG 4 X B) {r : Nat} (h1 : 1 ≤ r) (h2 : r < 4) : ix_M mGr_openWith [.ref 5, .int (nI r)] (hp c X) = some ([.long (LSt (bro B r))], hp c X) := by
  refine x_Gr_openWith (rc_5 c X) ?_
  have e4 : ¬ (4 : Int32) ≤ nI r := by
    show ¬ nI 4 ≤ nI r
    rw [nI_leI (by omega) (by omega)]
    omega
  rw [e_Gr_openWith, if_neg (nI_pos (by omega)), if_neg e4, bO (g5_6 c X), bO (r6 h2), kL_of (M_gopen h), G_r h h1 h2, LS_and]
  rfl
/-- the cells right of and below those of a set; those left of and above them -/
def sfl (B : bT) (p : Nat → Bool) : Nat → Bool := fun c => decide (c < bn B) && ((!decide (c % bw B = 0) && p (c - 1)) || (decide (bw B ≤ c) && p (c - bw B)))
def srs (B : bT) (p : Nat → Bool) : Nat → Bool := fun c => (!decide ((c + 1) % bw B = 0) && p (c + 1)) || p (c + bw B)
def sar (B : bT) (p : Nat → Bool) : Nat → Bool := fun c => sfl B p c || srs B p c
theorem M_fall {c : ixK} {X : ixX} {B : bT} (hs : bS B) (h : cG 4 X B) (p : Nat → Bool) : ix_M mGr_fall [.ref 5, .long (LSt p)] (hp c X) = some ([.long (LSt (sfl B p))], hp c X) := by
  refine x_Gr_fall (rc_5 c X) ?_
  have h64 := bS_64 hs
  have hw := bS_w hs
  have h8 := hs.2.1
  have e : ix_shl (LSt p &&& LSt (fun c => decide (c < bn B) && !decide ((c + 1) % bw B = 0))) 1 ||| ix_shl (LSt p) (nI (bw B)) &&& LSt (fun c => decide (c < bn B)) = LSt (sfl B p) := by
    rw [show (1 : Int32) = nI 1 from rfl, LS_and, LS_shl _ (by omega), LS_shl _ (by omega), LS_and, LS_or]
    refine LS_cong (fun i hi => ?_)
    unfold sfl
    by_cases h0 : i = 0
    · subst h0
      have : ¬ bw B ≤ 0 := by omega
      simp [this]
    · have e : i - 1 + 1 = i := by omega
      have e1 : decide (1 ≤ i) = true := decide_eq_true (by omega)
      rw [e, e1]
      by_cases h1 : i % bw B = 0
      · rw [decide_eq_true h1]
        cases p (i - 1) <;> cases p (i - bw B) <;> cases decide (i < bn B) <;> cases decide (bw B ≤ i) <;> cases decide (i - 1 < bn B) <;> rfl
      · have e2 : decide (i - 1 < bn B) = decide (i < bn B) := decide_eq_decide.mpr ⟨fun q => bn_row h1 q, fun q => by omega⟩
        rw [decide_eq_false h1, e2]
        cases p (i - 1) <;> cases p (i - bw B) <;> cases decide (i < bn B) <;> cases decide (bw B ≤ i) <;> rfl
  rw [e_Gr_fall, bO (g5_4 c X), bO (g5_0 c X), bO (g5_2 c X), G_w h, G_l h, G_c h, e]
theorem M_rise {c : ixK} {X : ixX} {B : bT} (hs : bS B) (h : cG 4 X B) {p : Nat → Bool} (hp0 : ∀ c, p c = true → c < bn B) : ix_M mGr_rise [.ref 5, .long (LSt p)] (hp c X) = some ([.long (LSt (srs B p))], hp c X) := by
  refine x_Gr_rise (rc_5 c X) ?_
  have h64 := bS_64 hs
  have hw := bS_w hs
  have h8 := hs.2.1
  have e : ix_ush (LSt p &&& LSt (fun c => decide (c < bn B) && !decide (c % bw B = 0))) 1 ||| ix_ush (LSt p) (nI (bw B)) = LSt (srs B p) := by
    rw [show (1 : Int32) = nI 1 from rfl, LS_and, LS_ush _ (by omega), LS_ush _ (by omega), LS_or]
    refine LS_cong (fun i hi => ?_)
    unfold srs
    have a1 : (decide (i + 1 < 64) && (p (i + 1) && (decide (i + 1 < bn B) && !decide ((i + 1) % bw B = 0)))) = (!decide ((i + 1) % bw B = 0) && p (i + 1)) := by
      cases q : p (i + 1) with
      | false => simp
      | true =>
        have q2 := hp0 _ q
        rw [decide_eq_true (show i + 1 < 64 by omega), decide_eq_true q2]
        cases decide ((i + 1) % bw B = 0) <;> rfl
    have a2 : (decide (i + bw B < 64) && p (i + bw B)) = p (i + bw B) := by
      cases q : p (i + bw B) with
      | false => simp
      | true =>
        have q2 := hp0 _ q
        rw [decide_eq_true (show i + bw B < 64 by omega)]
        rfl
    rw [a1, a2]
  rw [e_Gr_rise, bO (g5_3 c X), bO (g5_0 c X), G_w h, G_f h, e]
theorem M_around {c : ixK} {X : ixX} {B : bT} (hs : bS B) (h : cG 4 X B) {p : Nat → Bool} (hp0 : ∀ c, p c = true → c < bn B) : ix_M mGr_around [.ref 5, .long (LSt p)] (hp c X) = some ([.long (LSt (sar B p))], hp c X) := by
  refine x_Gr_around (rc_5 c X) ?_
  rw [e_Gr_around, kL_of (M_fall hs h p), kL_of (M_rise hs h hp0), LS_or]
  rfl
theorem sfl_lt {B : bT} {p : Nat → Bool} {c : Nat} (h : sfl B p c = true) : c < bn B := by
  unfold sfl at h
  simp only [Bool.and_eq_true, decide_eq_true_eq] at h
  exact h.1
theorem srs_lt {B : bT} {p : Nat → Bool} {c : Nat} (hp0 : ∀ c, p c = true → c < bn B) (h : srs B p c = true) : c < bn B := by
  unfold srs at h
  simp only [Bool.and_eq_true, Bool.or_eq_true] at h
  rcases h with h | h
  · have := hp0 _ h.2; omega
  · have := hp0 _ h; omega
theorem sar_lt {B : bT} {p : Nat → Bool} {c : Nat} (hp0 : ∀ c, p c = true → c < bn B) (h : sar B p c = true) : c < bn B := by
  unfold sar at h
  simp only [Bool.or_eq_true] at h
  rcases h with h | h
  · exact sfl_lt h
  · exact srs_lt hp0 h
/-- spreading over open cells: one step, many -/
def sgr (B : bT) (b : Bool) (p : Nat → Bool) : Nat → Bool := fun c => p c || ((if b = true then srs B p c else sfl B p c) && bop B c)
def sit (B : bT) (b : Bool) (p : Nat → Bool) : Nat → Nat → Bool
  | 0 => p
  | k + 1 => sgr B b (sit B b p k)
theorem sit_lt {B : bT} {b : Bool} {p : Nat → Bool} (hp0 : ∀ c, p c = true → c < bn B) : ∀ k c, sit B b p k c = true → c < bn B
  | 0, c, h => hp0 c h
  | k + 1, c, h => by
    unfold sit sgr at h
    simp only [Bool.or_eq_true, Bool.and_eq_true] at h
    rcases h with h | h
    · exact sit_lt hp0 k c h
    · exact bop_lt h.2
def bon (B : bT) (x : Nat) : Nat → Bool := fun c => decide (c = x) && bop B c
theorem bon_lt {B : bT} {x c : Nat} (h : bon B x c = true) : c < bn B := by
  unfold bon at h
  simp only [Bool.and_eq_true] at h
  exact bop_lt h.2
theorem M_spread {c : ixK} {X : ixX} {B : bT} (hs : bS B) (h : cG 4 X B) (b : Bool) {x : Nat} (hx : x < 64) : ix_M mGr_spread [.ref 5, .int (nI x), .int (ix_bi b)] (hp c X) = some ([.long (LSt (sit B b (bon B x) 16))], hp c X) := by
  refine x_Gr_spread (rc_5 c X) ?_
  rw [e_Gr_spread, kL_of (M_gopen h), kL_of (M_bit hx _), LS_and]
  have e := lp_f (fun k s => l_Gr_spread_16 5 b (LSt (bop B)) s (nI k) (hp c X)) (fun k => LSt (sit B b (bon B x) k)) (N := 16) (fun k hk => by
    show l_Gr_spread_16 5 b (LSt (bop B)) (LSt (sit B b (bon B x) k)) (nI k) (hp c X) = l_Gr_spread_16 5 b (LSt (bop B)) (LSt (sit B b (bon B x) (k + 1))) (nI (k + 1)) (hp c X)
    have e16 : ¬ (16 : Int32) ≤ nI k := by
      show ¬ nI 16 ≤ nI k
      rw [nI_leI (by omega) (by omega)]
      omega
    rw [e_Gr_spread_16, if_neg e16]
    have hl := sit_lt (b := b) (fun c hc => bon_lt (B := B) (x := x) hc) k
    cases b with
    | true =>
      rw [if_pos rfl, kL_of (M_rise hs h hl), LS_and, LS_or, nI_1]
      rfl
    | false =>
      rw [if_neg (by decide), kL_of (M_fall hs h _), LS_and, LS_or, nI_1]
      rfl) (k := 0) (by omega)
  have e2 : l_Gr_spread_16 5 b (LSt (bop B)) (LSt (sit B b (bon B x) 0)) (nI 0) (hp c X) = l_Gr_spread_16 5 b (LSt (bop B)) (LSt (sit B b (bon B x) 16)) (nI 16) (hp c X) := e
  have e3 : LSt (fun i => decide (i = x) && bop B i) = LSt (sit B b (bon B x) 0) := rfl
  rw [e3, show (0 : Int32) = nI 0 from rfl, e2, e_Gr_spread_16, if_pos (show (16 : Int32) ≤ nI 16 by decide)]
theorem M_behind {c : ixK} {X : ixX} {B : bT} (hs : bS B) (h : cG 4 X B) {x : Nat} (hx : x < 64) : ix_M mGr_behind [.ref 5, .int (nI x)] (hp c X) = some ([.long (LSt (sit B false (bon B x) 16))], hp c X) := by
  refine x_Gr_behind (rc_5 c X) ?_
  rw [e_Gr_behind, show (0 : Int32) = ix_bi false from rfl, kL_of (M_spread hs h false hx)]
theorem M_ahead {c : ixK} {X : ixX} {B : bT} (hs : bS B) (h : cG 4 X B) {x : Nat} (hx : x < 64) : ix_M mGr_ahead [.ref 5, .int (nI x)] (hp c X) = some ([.long (LSt (sit B true (bon B x) 16))], hp c X) := by
  refine x_Gr_ahead (rc_5 c X) ?_
  rw [e_Gr_ahead, show (1 : Int32) = ix_bi true from rfl, kL_of (M_spread hs h true hx)]
theorem M_groleOf {c : ixK} {X : ixX} {B : bT} (h : cG 4 X B) (hr : ∀ c, brl B c < 4) {x : Nat} (hx : x < 64) : ix_M mGr_roleOf [.ref 5, .int (nI x)] (hp c X) = some ([.int (nI (brl B x))], hp c X) := by
  refine x_Gr_roleOf (rc_5 c X) ?_
  have st : ∀ k, 1 ≤ k → k < 4 → l_Gr_roleOf_2 5 (nI x) (nI k) (hp c X) = if brl B x = k then some ([.int (nI k)], hp c X) else l_Gr_roleOf_2 5 (nI x) (nI (k + 1)) (hp c X) := by
    intro k h1 h2
    have e4 : ¬ (4 : Int32) ≤ nI k := by
      show ¬ nI 4 ≤ nI k
      rw [nI_leI (by omega) (by omega)]
      omega
    rw [e_Gr_roleOf_2, if_neg e4, bO (g5_6 c X), bO (r6 h2), G_r h h1 h2, kZ_of (M_holds _ hx _), nI_1]
    by_cases e : brl B x = k
    · rw [if_pos (decide_eq_true e), if_pos e]
    · rw [if_neg (by simp [e]), if_neg e]
  rw [e_Gr_roleOf, show (1 : Int32) = nI 1 from rfl, st 1 (by omega) (by omega), st 2 (by omega) (by omega), st 3 (by omega) (by omega), e_Gr_roleOf_2, if_pos (show (4 : Int32) ≤ nI (3 + 1) by decide)]
  have := hr x
  by_cases e1 : brl B x = 1
  · rw [if_pos e1, e1]
  · rw [if_neg e1]
    by_cases e2 : brl B x = 2
    · rw [if_pos e2, e2]
    · rw [if_neg e2]
      by_cases e3 : brl B x = 3
      · rw [if_pos e3, e3]
      · rw [if_neg e3, show brl B x = 0 by omega]
        rfl
theorem M_give {c : ixK} {X : ixX} {q : Nat → Nat → Bool} (h : ∀ r, 1 ≤ r → r < 4 → X.2 6 r = LSt (q r)) {x n : Nat} (hx : x < 64) (hn : n < 4) : ∃ g, ix_M mGr_give [.ref 5, .int (nI x), .int (nI n)] (hp c X) = some ([], hp c (aJ X 6 g)) ∧ ∀ r, 1 ≤ r → r < 4 → g r = LSt (fun c => if c = x then decide (r = n) else q r c) := by
  have st : ∀ k (g : Nat → Int64), 1 ≤ k → k < 4 → ∃ g', l_Gr_give_2 5 (nI x) (nI n) (nI k) (hp c (aJ X 6 g)) = l_Gr_give_2 5 (nI x) (nI n) (nI (k + 1)) (hp c (aJ X 6 g')) ∧ (∀ p, g k = LSt p → g' k = LSt (fun c => if c = x then decide (k = n) else p c)) ∧ ∀ r, ¬ r = k → g' r = g r := by
    intro k g h1 h2
    have e4 : ¬ (4 : Int32) ≤ nI k := by
      show ¬ nI 4 ≤ nI k
      rw [nI_leI (by omega) (by omega)]
      omega
    rw [e_Gr_give_2, if_neg e4, bO (g5_6 c _), bO (r6 h2), kL_of (M_bit hx _), bO (s6_ h2), aJ_1, aJ_aJ, LS_not]
    by_cases e : k = n
    · rw [if_neg (by simp [e]), bO (g5_6 c _), bO (r6 h2), kL_of (M_bit hx _), bO (s6_ h2), aJ_1, aJ_aJ, updL_1, nI_1]
      refine ⟨_, rfl, ?_, ?_⟩
      · intro p hp1
        rw [updL_1, hp1, LS_and, LS_or]
        refine LS_cong (fun i hi => ?_)
        by_cases hi2 : i = x
        · simp [hi2, e]
        · simp [hi2]
      · intro r hr
        rw [updL_n _ _ hr, updL_n _ _ hr]
    · rw [if_pos (by rw [nI_eq (by omega) (by omega)]; exact e), nI_1]
      refine ⟨_, rfl, ?_, ?_⟩
      · intro p hp1
        rw [updL_1, hp1, LS_and]
        refine LS_cong (fun i hi => ?_)
        by_cases hi2 : i = x
        · simp [hi2, e]
        · simp [hi2]
      · intro r hr
        rw [updL_n _ _ hr]
  obtain ⟨g1, a1, b1, d1⟩ := st 1 (X.2 6) (by omega) (by omega)
  obtain ⟨g2, a2, b2, d2⟩ := st 2 g1 (by omega) (by omega)
  obtain ⟨g3, a3, b3, d3⟩ := st 3 g2 (by omega) (by omega)
  refine ⟨g3, x_Gr_give (rc_5 c X) ?_, ?_⟩
  · rw [aJ_self] at a1
    rw [e_Gr_give, show (1 : Int32) = nI 1 from rfl, a1, a2, a3, e_Gr_give_2, if_pos (show (4 : Int32) ≤ nI (3 + 1) by decide)]
  · intro r h1 h2
    rcases (show r = 1 ∨ r = 2 ∨ r = 3 by omega) with rfl | rfl | rfl
    · rw [d3 1 (by omega), d2 1 (by omega)]; exact b1 _ (h 1 (by omega) (by omega))
    · rw [d3 2 (by omega)]; exact b2 _ ((d1 2 (by omega)).trans (h 2 (by omega) (by omega)))
    · exact b3 _ ((d2 3 (by omega)).trans ((d1 3 (by omega)).trans (h 3 (by omega) (by omega))))
theorem M_leversOf {c : ixK} {X : ixX} {B : bT} (h : cG 4 X B) {x : Nat} (hx : x < 64) : ix_M mGr_leversOf [.ref 5, .int (nI x)] (hp c X) = some ([.int (iS (fun l => decide (l < 4) && bwi B l x))], hp c X) := by
  refine x_Gr_leversOf (rc_5 c X) ?_
  have e := lp_f (fun k s => l_Gr_leversOf_4 5 (nI x) s (nI k) (hp c X)) (fun k => iS (fun l => decide (l < k) && bwi B l x)) (N := 4) (fun k hk => by
    show l_Gr_leversOf_4 5 (nI x) (iS (fun l => decide (l < k) && bwi B l x)) (nI k) (hp c X) = l_Gr_leversOf_4 5 (nI x) (iS (fun l => decide (l < k + 1) && bwi B l x)) (nI (k + 1)) (hp c X)
    have e4 : ¬ (4 : Int32) ≤ nI k := by
      show ¬ nI 4 ≤ nI k
      rw [nI_leI (by omega) (by omega)]
      omega
    rw [e_Gr_leversOf_4, if_neg e4, bO (g5_7 c X), bO (r7 hk), G_i h hk, kZ_of (M_holds _ hx _), nI_1]
    cases q : bwi B k x with
    | true =>
      rw [if_pos rfl, iS_add (by omega)]
      congr 1
      refine iS_cong (fun i hi => ?_)
      by_cases hi2 : i = k
      · subst hi2; simp [q]
      · have : (i < k + 1) ↔ (i < k) := by omega
        simp [hi2, this]
    | false =>
      rw [if_neg (by decide)]
      congr 1
      refine iS_cong (fun i hi => ?_)
      by_cases hi2 : i = k
      · subst hi2; simp [q]
      · have : (i < k + 1) ↔ (i < k) := by omega
        simp [this]) (k := 0) (by omega)
  have e2 : l_Gr_leversOf_4 5 (nI x) (iS (fun l => decide (l < 0) && bwi B l x)) (nI 0) (hp c X) = l_Gr_leversOf_4 5 (nI x) (iS (fun l => decide (l < 4) && bwi B l x)) (nI 4) (hp c X) := e
  have e3 : (0 : Int32) = iS (fun l => decide (l < 0) && bwi B l x) := by
    rw [iS_0]
    exact iS_cong (fun i hi => by simp)
  rw [e_Gr_leversOf]
  have e5 : l_Gr_leversOf_4 5 (nI x) 0 0 (hp c X) = l_Gr_leversOf_4 5 (nI x) (iS (fun l => decide (l < 0) && bwi B l x)) (nI 0) (hp c X) := by rw [← e3]; rfl
  rw [e5, e2, e_Gr_leversOf_4, if_pos (show (4 : Int32) ≤ nI 4 by decide)]
/-- walls after turning the levers below k that are in m -/
def twl (B : bT) (m : Int32) : Nat → Nat → Bool
  | 0 => bwl B
  | k + 1 => fun c => if bt m k = true then twl B m k c ^^ bwi B k c else twl B m k c
theorem M_wallsTurned {c : ixK} {X : ixX} {B : bT} (h : cG 4 X B) (m : Int32) : ix_M mGr_wallsTurned [.ref 5, .int m] (hp c X) = some ([.long (LSt (twl B m 4))], hp c X) := by
  refine x_Gr_wallsTurned (rc_5 c X) ?_
  have e := lp_f (fun k s => l_Gr_wallsTurned_8 5 m s (nI k) (hp c X)) (fun k => LSt (twl B m k)) (N := 4) (fun k hk => by
    show l_Gr_wallsTurned_8 5 m (LSt (twl B m k)) (nI k) (hp c X) = l_Gr_wallsTurned_8 5 m (LSt (twl B m (k + 1))) (nI (k + 1)) (hp c X)
    have e4 : ¬ (4 : Int32) ≤ nI k := by
      show ¬ nI 4 ≤ nI k
      rw [nI_leI (by omega) (by omega)]
      omega
    rw [e_Gr_wallsTurned_8, if_neg e4]
    have hb := sh1_1 m (show k < 32 by omega)
    cases q : bt m k with
    | true =>
      rw [if_neg (fun n => n (hb.mpr q)), bO (g5_7 c X), bO (r7 hk), G_i h hk, LS_xor, nI_1]
      congr 1
      exact LS_cong (fun i hi => by show _ = (if bt m k = true then _ else _); rw [q, if_pos rfl])
    | false =>
      rw [if_pos (fun n => by rw [hb.mp n] at q; cases q), nI_1]
      congr 1
      exact LS_cong (fun i hi => by show _ = (if bt m k = true then _ else _); rw [q, if_neg (by decide)])) (k := 0) (by omega)
  have e2 : l_Gr_wallsTurned_8 5 m (LSt (bwl B)) 0 (hp c X) = l_Gr_wallsTurned_8 5 m (LSt (twl B m 4)) (nI 4) (hp c X) := e
  rw [e_Gr_wallsTurned, bO (g5_5 c X), G_x h, e2, e_Gr_wallsTurned_8, if_pos (show (4 : Int32) ≤ nI 4 by decide)]
