/-! REFERENCE: its row of numbers -/
theorem x76 {c : ixK} {X : ixX} {x : Int32} {i : Nat} (hx : x = nI i) (hi : i < 720) : ix_ai (hp c X) 76 x = some (X.1 76 i) := by subst hx; exact r76 hi
theorem y76 {c : ixK} {X : ixX} {x v : Int32} {i : Nat} (hx : x = nI i) (hi : i < 720) : ix_si (hp c X) 76 x v = some (hp c (aI X 76 (upd (X.1 76) i v))) := by subst hx; exact s76 hi
theorem x76_0 {c : ixK} {X : ixX} : ix_ai (hp c X) 76 0 = some (X.1 76 0) := r76 (i := 0) (by omega)
theorem x76_1 {c : ixK} {X : ixX} : ix_ai (hp c X) 76 1 = some (X.1 76 1) := r76 (i := 1) (by omega)
theorem jx2 (c : Nat) : (2 : Int32) + nI c = nI (2 + c) := nI_add 2 c
theorem i66 (c : Nat) : (66 : Int32) + nI c = nI (66 + c) := nI_add 66 c
theorem i130 (l : Nat) : (130 : Int32) + (64 * nI l) = nI (130 + 64 * l) := by
  rw [show (64 : Int32) * nI l = nI (64 * l) from nI_mul 64 l]
  exact nI_add 130 _
theorem i130c (l c : Nat) : ((130 : Int32) + (64 * nI l)) + nI c = nI (130 + 64 * l + c) := by rw [i130, nI_add]
theorem i387 (i : Nat) : (387 : Int32) + (2 * nI i) = nI (387 + 2 * i) := by
  rw [show (2 : Int32) * nI i = nI (2 * i) from nI_mul 2 i]
  exact nI_add 387 _
theorem i388 (i : Nat) : ((387 : Int32) + (2 * nI i)) + 1 = nI (387 + 2 * i + 1) := by rw [i387, nI_1]
theorem i395 (s : Nat) : (395 : Int32) + (65 * nI s) = nI (395 + 65 * s) := by
  rw [show (65 : Int32) * nI s = nI (65 * s) from nI_mul 65 s]
  exact nI_add 395 _
theorem i396 (s : Nat) : ((395 : Int32) + (65 * nI s)) + 1 = nI (395 + 65 * s + 1) := by rw [i395, nI_1]
theorem i396k (s k : Nat) : (((395 : Int32) + (65 * nI s)) + 1) + nI k = nI (395 + 65 * s + 1 + k) := by rw [i396, nI_add]
theorem bi_nI (b : Bool) : ix_bi b = nI (if b = true then 1 else 0) := by cases b <;> rfl
theorem nI_m1 {k : Nat} (hk : 0 < k) : nI k + (-1) = nI (k - 1) := by
  obtain ⟨j, rfl⟩ : ∃ j, k = j + 1 := ⟨k - 1, by omega⟩
  have e : nI (j + 1) + (-1) = nI (j + 1) - 1 := (Int32.sub_eq_add_neg (nI (j + 1)) 1).symm
  rw [e]
  exact nI_pred j
theorem M_in_t {x lo hi : Int32} (h1 : ¬ x < lo) (h2 : ¬ hi < x) (h : ixH) : ix_M mMo_in [.int x, .int lo, .int hi] h = some ([.int (ix_bi true)], h) := x_Mo_in (by rw [e_Mo_in, if_neg h1, if_neg h2])
theorem M_in_f {x lo hi : Int32} (h0 : x < lo ∨ hi < x) (h : ixH) : ix_M mMo_in [.int x, .int lo, .int hi] h = some ([.int (ix_bi false)], h) := by
  refine x_Mo_in ?_
  rw [e_Mo_in]
  by_cases h1 : x < lo
  · rw [if_pos h1]
  · rw [if_neg h1, if_pos (h0.resolve_left h1)]
/-- between 0 and n - 1, or not -/
theorem M_in0_t {k n : Nat} (hk : k < n) (hn : n < 2147483648) (h : ixH) : ix_M mMo_in [.int (nI k), .int 0, .int (nI n - 1)] h = some ([.int (ix_bi true)], h) := by
  refine M_in_t (nI_pos (by omega)) ?_ h
  rw [show nI n - 1 = nI (n - 1) from nI_sub (b := 1) (by omega), nI_ltI (by omega) (by omega)]
  omega
theorem M_in0_f {x : Int32} {n : Nat} (h0 : 0 < n) (hn : n < 2147483648) (hx : x < 0 ∨ nI n ≤ x) (h : ixH) : ix_M mMo_in [.int x, .int 0, .int (nI n - 1)] h = some ([.int (ix_bi false)], h) := by
  refine M_in_f ?_ h
  by_cases h1 : x < 0
  · exact .inl h1
  · refine .inr ?_
    obtain ⟨j, hj, rfl⟩ := nI_of h1
    have h2 := (nI_leI (by omega) hj).mp (hx.resolve_left h1)
    rw [show nI n - 1 = nI (n - 1) from nI_sub (b := 1) (by omega), nI_ltI (by omega) (by omega)]
    omega
theorem A_w {A : Nat → Int32} {B : bT} (h : rBd A B) : A 0 = nI (bw B) := h.1
theorem A_h {A : Nat → Int32} {B : bT} (h : rBd A B) : A 1 = nI (bh B) := h.2.1
theorem A_x {A : Nat → Int32} {B : bT} (h : rBd A B) {c : Nat} (hc : c < bn B) : A (2 + c) = ix_bi (bwl B c) := h.2.2.1 c hc
theorem A_r {A : Nat → Int32} {B : bT} (h : rBd A B) {c : Nat} (hc : c < bn B) : A (66 + c) = nI (brl B c) := h.2.2.2.1 c hc
theorem A_i {A : Nat → Int32} {B : bT} (h : rBd A B) {l c : Nat} (hl : l < 4) (hc : c < bn B) : A (130 + 64 * l + c) = ix_bi (bwi B l c) := h.2.2.2.2.1 l hl c hc
theorem A_p {A : Nat → Int32} {B : bT} (h : rBd A B) : A 386 = nI (bpr B).length := h.2.2.2.2.2.1
theorem A_pp {A : Nat → Int32} {B : bT} (h : rBd A B) {i : Nat} (hi : i < (bpr B).length) : A (387 + 2 * i) = nI ((bpr B).getD i (0, 0)).1 ∧ A (387 + 2 * i + 1) = nI ((bpr B).getD i (0, 0)).2 := h.2.2.2.2.2.2.1 i hi
theorem A_t {A : Nat → Int32} {B : bT} (h : rBd A B) {s : Nat} (hs : s < 5) : A (395 + 65 * s) = nI (brt B s).length := (h.2.2.2.2.2.2.2 s hs).1
theorem A_tk {A : Nat → Int32} {B : bT} (h : rBd A B) {s k : Nat} (hs : s < 5) (hk : k < (brt B s).length) : A (395 + 65 * s + 1 + k) = nI ((brt B s).getD k 0) := (h.2.2.2.2.2.2.2 s hs).2 k hk
theorem M_mcells {c : ixK} {X : ixX} {B : bT} (h : rBd (X.1 76) B) : ix_M mMo_cells [.ref 75] (hp c X) = some ([.int (nI (bn B))], hp c X) := by
  refine x_Mo_cells (rc_75 c X) ?_
  rw [e_Mo_cells, bO (g75_0 c X), bO x76_0, bO (g75_0 c X), bO x76_1, A_w h, A_h h, nI_mul]
  rfl
theorem M_isCell_t {c : ixK} {X : ixX} {B : bT} (hs : bS B) (h : rBd (X.1 76) B) {k : Nat} (hk : k < bn B) : ix_M mMo_isCell [.ref 75, .int (nI k)] (hp c X) = some ([.int (ix_bi true)], hp c X) := by
  have h64 := bS_64 hs
  refine x_Mo_isCell (rc_75 c X) ?_
  rw [e_Mo_isCell, kI_of (M_mcells h), kZ_of (M_in0_t hk (by omega) _)]
theorem M_isCell_f {c : ixK} {X : ixX} {B : bT} (hs : bS B) (h : rBd (X.1 76) B) {x : Int32} (hx : x < 0 ∨ nI (bn B) ≤ x) : ix_M mMo_isCell [.ref 75, .int x] (hp c X) = some ([.int (ix_bi false)], hp c X) := by
  have h64 := bS_64 hs
  have h4 := bS_4 hs
  refine x_Mo_isCell (rc_75 c X) ?_
  rw [e_Mo_isCell, kI_of (M_mcells h), kZ_of (M_in0_f (by omega) (by omega) hx _)]
theorem M_misOpen {c : ixK} {X : ixX} {B : bT} (hs : bS B) (h : rBd (X.1 76) B) {k : Nat} (hk : k < bn B) : ix_M mMo_isOpen [.ref 75, .int (nI k)] (hp c X) = some ([.int (ix_bi (bop B k))], hp c X) := by
  have h64 := bS_64 hs
  refine x_Mo_isOpen (rc_75 c X) ?_
  rw [e_Mo_isOpen, bO (g75_0 c X), bO (x76 (jx2 k) (by omega)), A_x h hk]
  unfold bop
  rw [decide_eq_true hk]
  cases bwl B k with
  | true => rw [if_pos (by decide)]; rfl
  | false => rw [if_neg (by decide)]; rfl
theorem M_mhas {c : ixK} {X : ixX} {B : bT} (hs : bS B) (hr : ∀ c, brl B c < 4) (h : rBd (X.1 76) B) {k r : Nat} (hk : k < bn B) (h4 : r < 4) : ix_M mMo_has [.ref 75, .int (nI k), .int (nI r)] (hp c X) = some ([.int (ix_bi (bro B r k))], hp c X) := by
  have h64 := bS_64 hs
  refine x_Mo_has (rc_75 c X) ?_
  rw [e_Mo_has, kZ_of (M_misOpen hs h hk)]
  unfold bro
  cases q : bop B k with
  | true =>
    rw [if_pos rfl, bO (g75_0 c X), bO (x76 (i66 k) (by omega)), A_r h hk]
    have := hr k
    by_cases e : brl B k = r
    · rw [if_neg (by rw [e]; simp), decide_eq_true e]; rfl
    · rw [if_pos (by rw [nI_eq (by omega) (by omega)]; exact e), decide_eq_false e]; rfl
  | false =>
    rw [if_neg (by decide), Bool.and_false]
theorem M_mx {c : ixK} {X : ixX} {B : bT} (hs : bS B) (h : rBd (X.1 76) B) {k : Nat} (hk : k < bn B) : ix_M mMo_x [.ref 75, .int (nI k)] (hp c X) = some ([.int (nI (k % bw B))], hp c X) := by
  have h64 := bS_64 hs
  have hw := bS_w hs
  have h8 := hs.2.1
  refine x_Mo_x (rc_75 c X) ?_
  rw [e_Mo_x, bO (g75_0 c X), bO x76_0, A_w h, if_neg (nI_ne0 hw (by omega)), nI_rem (by omega) (by omega)]
theorem M_my {c : ixK} {X : ixX} {B : bT} (hs : bS B) (h : rBd (X.1 76) B) {k : Nat} (hk : k < bn B) : ix_M mMo_y [.ref 75, .int (nI k)] (hp c X) = some ([.int (nI (k / bw B))], hp c X) := by
  have h64 := bS_64 hs
  have hw := bS_w hs
  have h8 := hs.2.1
  refine x_Mo_y (rc_75 c X) ?_
  rw [e_Mo_y, bO (g75_0 c X), bO x76_0, A_w h, if_neg (nI_ne0 hw (by omega)), nI_div (by omega) (by omega)]
/-- the adjacent cell above, left, right, below -/
def nb (B : bT) (c : Nat) : Nat → Option Nat
  | 0 => if bw B ≤ c then some (c - bw B) else none
  | 1 => if c % bw B = 0 then none else some (c - 1)
  | 2 => if (c + 1) % bw B = 0 then none else some (c + 1)
  | _ => if c + bw B < bn B then some (c + bw B) else none
def oI : Option Nat → Int32
  | none => -6
  | some k => nI k
theorem L_beside {c : ixK} {X : ixX} {B : bT} (hs : bS B) (h : rBd (X.1 76) B) {x y : Nat} (hx : x < bw B) (hy : y < bh B) {s0 s1 : Int32} (e : s0 + s1 = nI y) : l_Mo_beside_49 75 (nI x) s0 s1 (hp c X) = some ([.int (nI (y * bw B + x))], hp c X) := by
  have h8 := hs.2.1
  have h9 := hs.2.2.2
  rw [e_Mo_beside_49, bO (g75_0 c X), bO x76_0, A_w h, kZ_of (M_in0_t hx (by omega) _), if_pos rfl, bO (g75_0 c X), bO x76_1, A_h h, e, kZ_of (M_in0_t hy (by omega) _), if_pos rfl, bO (g75_0 c X), bO x76_0, A_w h, nI_mul, nI_add]
theorem L_beside_x {c : ixK} {X : ixX} {B : bT} (hs : bS B) (h : rBd (X.1 76) B) {x : Int32} (hx : x < 0 ∨ nI (bw B) ≤ x) (s0 s1 : Int32) : l_Mo_beside_49 75 x s0 s1 (hp c X) = some ([.int (-6)], hp c X) := by
  have h8 := hs.2.1
  have hw := bS_w hs
  rw [e_Mo_beside_49, bO (g75_0 c X), bO x76_0, A_w h, kZ_of (M_in0_f hw (by omega) hx _), if_neg (by decide)]
theorem L_beside_y {c : ixK} {X : ixX} {B : bT} (hs : bS B) (h : rBd (X.1 76) B) {x : Nat} (hx : x < bw B) {s0 s1 : Int32} (hy : s0 + s1 < 0 ∨ nI (bh B) ≤ s0 + s1) : l_Mo_beside_49 75 (nI x) s0 s1 (hp c X) = some ([.int (-6)], hp c X) := by
  have h8 := hs.2.1
  have h9 := hs.2.2.2
  have h10 := hs.2.2.1
  rw [e_Mo_beside_49, bO (g75_0 c X), bO x76_0, A_w h, kZ_of (M_in0_t hx (by omega) _), if_pos rfl, bO (g75_0 c X), bO x76_1, A_h h, kZ_of (M_in0_f (by omega) (by omega) hy _), if_neg (by decide)]
theorem M_beside {c : ixK} {X : ixX} {B : bT} (hs : bS B) (h : rBd (X.1 76) B) {k d : Nat} (hk : k < bn B) (hd : d < 4) : ix_M mMo_beside [.ref 75, .int (nI k), .int (nI d)] (hp c X) = some ([.int (oI (nb B k d))], hp c X) := by
  have h8 := hs.2.1
  have h9 := hs.2.2.2
  have hw := bS_w hs
  have h64 := bS_64 hs
  have hx : k % bw B < bw B := Nat.mod_lt _ hw
  have hy : k / bw B < bh B := bn_div hk
  have hdm := Nat.div_add_mod' k (bw B)
  refine x_Mo_beside (rc_75 c X) ?_
  rw [e_Mo_beside, kI_of (M_mx hs h hk)]
  rcases (show d = 0 ∨ d = 1 ∨ d = 2 ∨ d = 3 by omega) with rfl | rfl | rfl | rfl
  · rw [if_pos (by decide), if_pos (by decide), e_Mo_beside_24, kI_of (M_my hs h hk), if_neg (by decide), show nI (k % bw B) + 0 = nI (k % bw B) from nI_add _ 0]
    show _ = some ([Value.int (oI (if bw B ≤ k then some (k - bw B) else none))], hp c X)
    by_cases q : bw B ≤ k
    · have q2 : 0 < k / bw B := Nat.div_pos q hw
      rw [L_beside hs h hx (show k / bw B - 1 < bh B by omega) (nI_m1 q2), if_pos q]
      have e : (k / bw B - 1) * bw B + k % bw B = k - bw B := by
        have q3 : 1 * bw B ≤ k / bw B * bw B := Nat.mul_le_mul_right (bw B) q2
        rw [Nat.sub_mul, Nat.one_mul]
        omega
      rw [e]
      rfl
    · have q2 : k / bw B = 0 := Nat.div_eq_of_lt (by omega)
      rw [L_beside_y hs h hx (.inl (by rw [q2]; decide)), if_neg q]
      rfl
  · rw [if_neg (by decide), e_Mo_beside_24, kI_of (M_my hs h hk), if_pos (by decide), if_pos (by decide)]
    show _ = some ([Value.int (oI (if k % bw B = 0 then none else some (k - 1)))], hp c X)
    by_cases q : k % bw B = 0
    · rw [L_beside_x hs h (.inl (by rw [q]; decide)), if_pos q]
      rfl
    · rw [nI_m1 (by omega), L_beside (s0 := nI (k / bw B)) (s1 := 0) hs h (show k % bw B - 1 < bw B by omega) hy (nI_add (k / bw B) 0), if_neg q]
      have e : k / bw B * bw B + (k % bw B - 1) = k - 1 := by omega
      rw [e]
      rfl
  · rw [if_pos (by decide), if_neg (by decide), e_Mo_beside_24, kI_of (M_my hs h hk), if_pos (by decide), if_pos (by decide), nI_1]
    show _ = some ([Value.int (oI (if (k + 1) % bw B = 0 then none else some (k + 1)))], hp c X)
    by_cases q : (k + 1) % bw B = 0
    · have q2 := (md_succ hw).mp q
      rw [L_beside_x hs h (.inr (by rw [nI_leI (by omega) (by omega)]; omega)), if_pos q]
      rfl
    · have q2 : ¬ k % bw B = bw B - 1 := fun e => q ((md_succ hw).mpr e)
      rw [L_beside (s0 := nI (k / bw B)) (s1 := 0) hs h (show k % bw B + 1 < bw B by omega) hy (nI_add (k / bw B) 0), if_neg q]
      have e : k / bw B * bw B + (k % bw B + 1) = k + 1 := by omega
      rw [e]
      rfl
  · rw [if_pos (by decide), if_pos (by decide), e_Mo_beside_24, kI_of (M_my hs h hk), if_pos (by decide), if_neg (by decide), show nI (k % bw B) + 0 = nI (k % bw B) from nI_add _ 0]
    show _ = some ([Value.int (oI (if k + bw B < bn B then some (k + bw B) else none))], hp c X)
    have e : (k / bw B + 1) * bw B + k % bw B = k + bw B := by
      rw [Nat.add_mul, Nat.one_mul]
      omega
    by_cases q : k / bw B + 1 < bh B
    · have q2 := bn_of hx q
      rw [L_beside hs h hx q (nI_1 _), e, if_pos (by omega)]
      rfl
    · have q2 : ¬ k + bw B < bn B := by
        intro q3
        have q4 := bn_div q3
        rw [Nat.add_div_right _ hw] at q4
        omega
      rw [L_beside_y hs h hx (.inr (by rw [nI_1, nI_leI (by omega) (by omega)]; omega)), if_neg q2]
      rfl
theorem nb_lt {B : bT} (hs : bS B) {c d e : Nat} (hc : c < bn B) (h : nb B c d = some e) : e < bn B := by
  have hw := bS_w hs
  match d, h with
  | 0, h =>
    have h' : (if bw B ≤ c then some (c - bw B) else none) = some e := h
    by_cases q : bw B ≤ c
    · rw [if_pos q] at h'
      cases h'
      omega
    · rw [if_neg q] at h'
      cases h'
  | 1, h =>
    have h' : (if c % bw B = 0 then none else some (c - 1)) = some e := h
    by_cases q : c % bw B = 0
    · rw [if_pos q] at h'
      cases h'
    · rw [if_neg q] at h'
      cases h'
      omega
  | 2, h =>
    have h' : (if (c + 1) % bw B = 0 then none else some (c + 1)) = some e := h
    by_cases q : (c + 1) % bw B = 0
    · rw [if_pos q] at h'
      cases h'
    · rw [if_neg q] at h'
      cases h'
      exact bn_row q (by omega)
  | d + 3, h =>
    have h' : (if c + bw B < bn B then some (c + bw B) else none) = some e := h
    by_cases q : c + bw B < bn B
    · rw [if_pos q] at h'
      cases h'
      exact q
    · rw [if_neg q] at h'
      cases h'
theorem oI_neg : (-6 : Int32) < 0 := by decide
/-- whether the cell beside is open -/
def nbo (B : bT) (c d : Nat) : Bool := match nb B c d with
  | none => false
  | some e => bop B e
theorem M_isOpenBeside {c : ixK} {X : ixX} {B : bT} (hs : bS B) (h : rBd (X.1 76) B) {k d : Nat} (hk : k < bn B) (hd : d < 4) : ix_M mMo_isOpenBeside [.ref 75, .int (nI k), .int (nI d)] (hp c X) = some ([.int (ix_bi (nbo B k d))], hp c X) := by
  have h64 := bS_64 hs
  refine x_Mo_isOpenBeside (rc_75 c X) ?_
  rw [e_Mo_isOpenBeside, kI_of (M_beside hs h hk hd)]
  unfold nbo
  cases q : nb B k d with
  | none => exact if_pos oI_neg
  | some e =>
    have he := nb_lt hs hk q
    show (if nI e < 0 then _ else _) = some ([Value.int (ix_bi (bop B e))], hp c X)
    rw [if_neg (nI_pos (by omega)), show oI (some e) = nI e from rfl, kZ_of (M_misOpen hs h he)]
    cases bop B e with
    | true => exact if_pos rfl
    | false => exact if_neg (by decide)
/-- counting loops -/
theorem ct_step (p : Nat → Bool) (k : Nat) : nI (fb_ct p k) + ix_bi (p k) = nI (fb_ct p (k + 1)) := by rw [bi_nI, nI_add, fb_ct_succ]
theorem M_walls {c : ixK} {X : ixX} {B : bT} (hs : bS B) (h : rBd (X.1 76) B) : ix_M mMo_walls [.ref 75] (hp c X) = some ([.int (nI (fb_ct (bwl B) (bn B)))], hp c X) := by
  have h64 := bS_64 hs
  refine x_Mo_walls (rc_75 c X) ?_
  have e := lp_f (fun k s => l_Mo_walls_4 75 s (nI k) (hp c X)) (fun k => nI (fb_ct (bwl B) k)) (N := bn B) (fun k hk => by
    show l_Mo_walls_4 75 (nI (fb_ct (bwl B) k)) (nI k) (hp c X) = l_Mo_walls_4 75 (nI (fb_ct (bwl B) (k + 1))) (nI (k + 1)) (hp c X)
    rw [e_Mo_walls_4, kI_of (M_mcells h), if_neg (by rw [nI_leI (by omega) (by omega)]; omega), bO (g75_0 c X), bO (x76 (jx2 k) (by omega)), A_x h hk, ct_step, nI_1]) (k := 0) (by omega)
  have e2 : l_Mo_walls_4 75 0 0 (hp c X) = l_Mo_walls_4 75 (nI (fb_ct (bwl B) (bn B))) (nI (bn B)) (hp c X) := e
  rw [e_Mo_walls, e2, e_Mo_walls_4, kI_of (M_mcells h), if_pos (by rw [nI_leI (by omega) (by omega)]; omega)]
/-- a set below n counted to 64 -/
theorem ct_64 {p : Nat → Bool} {n : Nat} (hn : n ≤ 64) (h : ∀ c, n ≤ c → p c = false) : fb_ct p 64 = fb_ct p n := by
  have e := fb_ct_split p n (64 - n)
  rw [show n + (64 - n) = 64 by omega] at e
  rw [e, fb_ct_zero.mpr (fun k hk => h (n + k) (by omega)), Nat.add_zero]
theorem M_mlength {c : ixK} {X : ixX} {B : bT} (h : rBd (X.1 76) B) {s : Nat} (hs : s < 5) : ix_M mMo_length [.ref 75, .int (nI s)] (hp c X) = some ([.int (nI (brt B s).length)], hp c X) := by
  refine x_Mo_length (rc_75 c X) ?_
  rw [e_Mo_length, bO (g75_0 c X), bO (x76 (i395 s) (by omega)), A_t h hs]
theorem M_mcellOf {c : ixK} {X : ixX} {B : bT} (h : rBd (X.1 76) B) {s k : Nat} (hs : s < 5) (hk : k < (brt B s).length) (hl : (brt B s).length ≤ 64) : ix_M mMo_cellOf [.ref 75, .int (nI s), .int (nI k)] (hp c X) = some ([.int (nI ((brt B s).getD k 0))], hp c X) := by
  refine x_Mo_cellOf (rc_75 c X) ?_
  rw [e_Mo_cellOf, bO (g75_0 c X), bO (x76 (i396k s k) (by omega)), A_tk h hs hk]
theorem bOK_len {B : bT} (h : bOK B) (s : Nat) : (brt B s).length ≤ 64 := Nat.le_trans (nd_len (h.2.2.2.2.2 s).1 (h.2.2.2.2.2 s).2) (bS_64 h.1)
theorem bOK_64 {B : bT} (h : bOK B) {s c : Nat} (hc : c ∈ brt B s) : c < 64 := Nat.lt_of_lt_of_le ((h.2.2.2.2.2 s).2 c hc) (bS_64 h.1)
theorem L_mindexOf {c : ixK} {X : ixX} {B : bT} (hb : bOK B) (h : rBd (X.1 76) B) {s x k : Nat} (hs : s < 5) (hx : x < 64) (hk : k < (brt B s).length) : l_Mo_indexOf_2 75 (nI s) (nI x) (nI k) (hp c X) = if (brt B s).getD k 0 = x then some ([.int (nI k)], hp c X) else l_Mo_indexOf_2 75 (nI s) (nI x) (nI (k + 1)) (hp c X) := by
  have hl := bOK_len hb s
  have h64 := bOK_64 hb (gd_mem (brt B s) k hk)
  rw [e_Mo_indexOf_2, kI_of (M_mlength h hs), if_neg (by rw [nI_leI (by omega) (by omega)]; omega), kI_of (M_mcellOf h hs hk hl), nI_1]
  by_cases e : (brt B s).getD k 0 = x
  · rw [if_neg (by rw [e]; simp), if_pos e]
  · rw [if_pos (by rw [nI_eq (by omega) (by omega)]; exact e), if_neg e]
theorem M_mindexOf_t {c : ixK} {X : ixX} {B : bT} (hb : bOK B) (h : rBd (X.1 76) B) {s x i : Nat} (hs : s < 5) (hx : x < 64) (hi : i < (brt B s).length) (he : (brt B s).getD i 0 = x) : ix_M mMo_indexOf [.ref 75, .int (nI s), .int (nI x)] (hp c X) = some ([.int (nI i)], hp c X) := by
  refine x_Mo_indexOf (rc_75 c X) ?_
  have e := lp_f (fun k (_ : Unit) => l_Mo_indexOf_2 75 (nI s) (nI x) (nI k) (hp c X)) (fun _ => ()) (N := i) (fun k hk => by
    show l_Mo_indexOf_2 75 (nI s) (nI x) (nI k) (hp c X) = l_Mo_indexOf_2 75 (nI s) (nI x) (nI (k + 1)) (hp c X)
    rw [L_mindexOf hb h hs hx (show k < (brt B s).length by omega), if_neg (fun q => nd_gd _ (hb.2.2.2.2.2 s).1 k i hk hi (q.trans he.symm))]) (k := 0) (by omega)
  have e2 : l_Mo_indexOf_2 75 (nI s) (nI x) 0 (hp c X) = l_Mo_indexOf_2 75 (nI s) (nI x) (nI i) (hp c X) := e
  rw [e_Mo_indexOf, e2, L_mindexOf hb h hs hx hi, if_pos he]
theorem M_mindexOf_f {c : ixK} {X : ixX} {B : bT} (hb : bOK B) (h : rBd (X.1 76) B) {s x : Nat} (hs : s < 5) (hx : x < 64) (hn : ¬ x ∈ brt B s) : ix_M mMo_indexOf [.ref 75, .int (nI s), .int (nI x)] (hp c X) = some ([.int (-6)], hp c X) := by
  have hl := bOK_len hb s
  refine x_Mo_indexOf (rc_75 c X) ?_
  have e := lp_f (fun k (_ : Unit) => l_Mo_indexOf_2 75 (nI s) (nI x) (nI k) (hp c X)) (fun _ => ()) (N := (brt B s).length) (fun k hk => by
    show l_Mo_indexOf_2 75 (nI s) (nI x) (nI k) (hp c X) = l_Mo_indexOf_2 75 (nI s) (nI x) (nI (k + 1)) (hp c X)
    rw [L_mindexOf hb h hs hx hk, if_neg (fun q => hn (by rw [← q]; exact gd_mem _ k hk))]) (k := 0) (by omega)
  have e2 : l_Mo_indexOf_2 75 (nI s) (nI x) 0 (hp c X) = l_Mo_indexOf_2 75 (nI s) (nI x) (nI (brt B s).length) (hp c X) := e
  rw [e_Mo_indexOf, e2, e_Mo_indexOf_2, kI_of (M_mlength h hs), if_pos (by rw [nI_leI (by omega) (by omega)]; omega)]
