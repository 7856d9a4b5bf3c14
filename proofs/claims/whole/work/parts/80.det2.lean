/-! DETERMINANT: the reference -/
theorem M_mstart {c : ixK} {X : ixX} {B : bT} (h : rBd (X.1 76) B) (hp4 : (bpr B).length ≤ 4) {i : Nat} (hi : i < (bpr B).length) : ix_M mMo_start [.ref 75, .int (nI i)] (hp c X) = some ([.int (nI ((bpr B).getD i (0, 0)).1)], hp c X) := by
  refine x_Mo_start (rc_75 c X) ?_
  rw [e_Mo_start, bO (g75_0 c _), bO (x76 (i387 i) (by omega)), (A_pp h hi).1]
theorem M_mend {c : ixK} {X : ixX} {B : bT} (h : rBd (X.1 76) B) (hp4 : (bpr B).length ≤ 4) {i : Nat} (hi : i < (bpr B).length) : ix_M mMo_end [.ref 75, .int (nI i)] (hp c X) = some ([.int (nI ((bpr B).getD i (0, 0)).2)], hp c X) := by
  refine x_Mo_end (rc_75 c X) ?_
  rw [e_Mo_end, bO (g75_0 c _), bO (x76 (i388 i) (by omega)), (A_pp h hi).2]
theorem dC_1 : ∀ k, k < 256 → (nI k &&& 3) = nI (k % 4) ∧ ((ix_ishr (nI k) 2) &&& 3) = nI (k / 4 % 4) ∧ ((ix_ishr (nI k) 4) &&& 3) = nI (k / 16 % 4) ∧ ix_ishr (nI k) 6 = nI (k / 64) := by decide +kernel
theorem dC_2 : ∀ b1 b2 b3 b4 b5 b6 : Bool, ¬ (ix_rem ((((((ix_bi b1) + (ix_bi b2)) + ix_bi b3) + ix_bi b4) + ix_bi b5) + ix_bi b6) 2) = 0 ↔ (b1 ^^ (b2 ^^ (b3 ^^ (b4 ^^ (b5 ^^ b6))))) = true := by decide +kernel
theorem L_270 {c : ixK} {X : ixX} {k : Nat} (hk : k < 256) {p q r s : Nat} (h1 : p < 4) (h2 : q < 4) (h3 : r < 4) (h4 : s < 4) (v : Int64) (b1 b2 b3 b4 b5 b6 : Bool) : l_Mo_determinant_270 75 v (nI k) (nI p) (nI q) (nI r) (nI s) (((((ix_bi b1) + (ix_bi b2)) + ix_bi b3) + ix_bi b4) + ix_bi b5) b6 (hp c X) = l_Mo_determinant_115 75 (if (b1 ^^ (b2 ^^ (b3 ^^ (b4 ^^ (b5 ^^ b6))))) = true then v + -(((X.2 82 p * X.2 82 (4 + q)) * X.2 82 (8 + r)) * X.2 82 (12 + s)) else v + ((X.2 82 p * X.2 82 (4 + q)) * X.2 82 (8 + r)) * X.2 82 (12 + s)) (nI (k + 1)) (hp c X) := by
  rw [e_Mo_determinant_270, bO (g75_6 c _), bO (r82 (by omega)), bO (g75_6 c _), show (4 : Int32) + nI q = nI (4 + q) from nI_add 4 q, bO (r82 (by omega)), bO (g75_6 c _), show (8 : Int32) + nI r = nI (8 + r) from nI_add 8 r, bO (r82 (by omega)), bO (g75_6 c _), show (12 : Int32) + nI s = nI (12 + s) from nI_add 12 s, bO (r82 (by omega)), if_neg (by decide), nI_1 k]
  by_cases w : (b1 ^^ (b2 ^^ (b3 ^^ (b4 ^^ (b5 ^^ b6))))) = true
  · rw [if_pos ((dC_2 b1 b2 b3 b4 b5 b6).mpr w), if_pos w]
  · rw [if_neg (fun n => w ((dC_2 b1 b2 b3 b4 b5 b6).mp n)), if_neg w]
theorem L_244 {c : ixK} {X : ixX} {k : Nat} (hk : k < 256) {p q r s : Nat} (h1 : p < 4) (h2 : q < 4) (h3 : r < 4) (h4 : s < 4) (v : Int64) (b1 b2 b3 b4 : Bool) : l_Mo_determinant_244 75 v (nI k) (nI p) (nI q) (nI r) (nI s) (((ix_bi b1) + (ix_bi b2)) + ix_bi b3) b4 (hp c X) = l_Mo_determinant_270 75 v (nI k) (nI p) (nI q) (nI r) (nI s) (((((ix_bi b1) + (ix_bi b2)) + ix_bi b3) + ix_bi b4) + ix_bi (decide (s < q))) (decide (s < r)) (hp c X) := by
  rw [e_Mo_determinant_244]
  by_cases w1 : s < q
  · rw [if_neg (by rw [nI_leI (by omega) (by omega)]; omega), decide_eq_true w1]
    by_cases w2 : s < r
    · rw [if_neg (by rw [nI_leI (by omega) (by omega)]; omega), decide_eq_true w2]; rfl
    · rw [if_pos (by rw [nI_leI (by omega) (by omega)]; omega), decide_eq_false w2]; rfl
  · rw [if_pos (by rw [nI_leI (by omega) (by omega)]; omega), decide_eq_false w1]
    by_cases w2 : s < r
    · rw [if_neg (by rw [nI_leI (by omega) (by omega)]; omega), decide_eq_true w2]; rfl
    · rw [if_pos (by rw [nI_leI (by omega) (by omega)]; omega), decide_eq_false w2]; rfl
theorem L_218 {c : ixK} {X : ixX} {k : Nat} (hk : k < 256) {p q r s : Nat} (h1 : p < 4) (h2 : q < 4) (h3 : r < 4) (h4 : s < 4) (v : Int64) (b1 b2 : Bool) : l_Mo_determinant_218 75 v (nI k) (nI p) (nI q) (nI r) (nI s) b1 b2 (hp c X) = l_Mo_determinant_244 75 v (nI k) (nI p) (nI q) (nI r) (nI s) (((ix_bi b1) + (ix_bi b2)) + ix_bi (decide (s < p))) (decide (r < q)) (hp c X) := by
  rw [e_Mo_determinant_218]
  by_cases w1 : s < p
  · rw [if_neg (by rw [nI_leI (by omega) (by omega)]; omega), decide_eq_true w1]
    by_cases w2 : r < q
    · rw [if_neg (by rw [nI_leI (by omega) (by omega)]; omega), decide_eq_true w2]; rfl
    · rw [if_pos (by rw [nI_leI (by omega) (by omega)]; omega), decide_eq_false w2]; rfl
  · rw [if_pos (by rw [nI_leI (by omega) (by omega)]; omega), decide_eq_false w1]
    by_cases w2 : r < q
    · rw [if_neg (by rw [nI_leI (by omega) (by omega)]; omega), decide_eq_true w2]; rfl
    · rw [if_pos (by rw [nI_leI (by omega) (by omega)]; omega), decide_eq_false w2]; rfl
theorem L_115 {c : ixK} {X : ixX} {k : Nat} (hk : k < 256) (v : Int64) : l_Mo_determinant_115 75 v (nI k) (hp c X) = l_Mo_determinant_115 75 (if okC k = true then dst (X.2 82) k v else v) (nI (k + 1)) (hp c X) := by
  obtain ⟨d1, d2, d3, d4⟩ := dC_1 k hk
  have l1 : k % 4 < 4 := Nat.mod_lt _ (by omega)
  have l2 : k / 4 % 4 < 4 := Nat.mod_lt _ (by omega)
  have l3 : k / 16 % 4 < 4 := Nat.mod_lt _ (by omega)
  have l4 : k / 64 < 4 := by omega
  unfold okC dst
  generalize k % 4 = p at *
  generalize k / 4 % 4 = q at *
  generalize k / 16 % 4 = r at *
  generalize k / 64 = s at *
  have nq : ∀ {x y : Nat}, x < 4 → y < 4 → (nI x = nI y ↔ x = y) := fun hx hy => nI_eq (by omega) (by omega)
  rw [e_Mo_determinant_115, if_neg (lit_nle (x := 256) (a := 256) (k := k) rfl hk (by omega)), d1, d2, d3, d4, nI_1 k]
  by_cases e1 : p = q
  · rw [if_pos ((nq l1 l2).mpr e1), decide_eq_true e1]; rfl
  rw [if_neg (fun n => e1 ((nq l1 l2).mp n)), decide_eq_false e1]
  by_cases e2 : p = r
  · rw [if_pos ((nq l1 l3).mpr e2), decide_eq_true e2]; rfl
  rw [if_neg (fun n => e2 ((nq l1 l3).mp n)), decide_eq_false e2]
  by_cases e3 : p = s
  · rw [if_pos ((nq l1 l4).mpr e3), decide_eq_true e3]; rfl
  rw [if_neg (fun n => e3 ((nq l1 l4).mp n)), decide_eq_false e3]
  by_cases e4 : q = r
  · rw [if_pos ((nq l2 l3).mpr e4), decide_eq_true e4]; rfl
  rw [if_neg (fun n => e4 ((nq l2 l3).mp n)), decide_eq_false e4]
  by_cases e5 : q = s
  · rw [if_pos ((nq l2 l4).mpr e5), decide_eq_true e5]; rfl
  rw [if_neg (fun n => e5 ((nq l2 l4).mp n)), decide_eq_false e5]
  by_cases e6 : r = s
  · rw [if_pos ((nq l3 l4).mpr e6), decide_eq_true e6]; rfl
  rw [if_neg (fun n => e6 ((nq l3 l4).mp n)), decide_eq_false e6, if_pos (show (!(false || false || false || false || false || false)) = true from rfl)]
  have fin : ∀ b1 b2 : Bool, l_Mo_determinant_218 75 v (nI k) (nI p) (nI q) (nI r) (nI s) b1 b2 (hp c X) = l_Mo_determinant_115 75 (if (b1 ^^ (b2 ^^ (decide (s < p) ^^ (decide (r < q) ^^ (decide (s < q) ^^ decide (s < r)))))) = true then v + -(((X.2 82 p * X.2 82 (4 + q)) * X.2 82 (8 + r)) * X.2 82 (12 + s)) else v + ((X.2 82 p * X.2 82 (4 + q)) * X.2 82 (8 + r)) * X.2 82 (12 + s)) (nI (k + 1)) (hp c X) := fun b1 b2 => by
    rw [L_218 hk l1 l2 l3 l4, L_244 hk l1 l2 l3 l4, L_270 hk l1 l2 l3 l4]
  rw [fin, fin, fin, fin]
  by_cases w1 : q < p
  · rw [if_neg (by rw [nI_leI (by omega) (by omega)]; omega), decide_eq_true w1]
    by_cases w2 : r < p
    · rw [if_neg (by rw [nI_leI (by omega) (by omega)]; omega), decide_eq_true w2]
    · rw [if_pos (by rw [nI_leI (by omega) (by omega)]; omega), decide_eq_false w2]
  · rw [if_pos (by rw [nI_leI (by omega) (by omega)]; omega), decide_eq_false w1]
    by_cases w2 : r < p
    · rw [if_neg (by rw [nI_leI (by omega) (by omega)]; omega), decide_eq_true w2]
    · rw [if_pos (by rw [nI_leI (by omega) (by omega)]; omega), decide_eq_false w2]
theorem L_115all {c : ixK} {X : ixX} : l_Mo_determinant_115 75 0 0 (hp c X) = some ([.long (dtS (X.2 82) 256)], hp c X) := by
  have e := lp_f (fun k v => l_Mo_determinant_115 75 v (nI k) (hp c X)) (fun k => dtS (X.2 82) k) (N := 256) (fun k hk => L_115 hk _) (k := 0) (by omega)
  have e' : l_Mo_determinant_115 75 0 0 (hp c X) = l_Mo_determinant_115 75 (dtS (X.2 82) 256) (nI 256) (hp c X) := e
  rw [e', e_Mo_determinant_115, if_pos (show (256 : Int32) ≤ nI 256 by decide)]
theorem R_det {c : ixK} {X : ixX} {B : bT} (hb : bOK B) (h : rBd (X.1 76) B) : ∃ Y, ix_M mMo_determinant [.ref 75] (hp c X) = some ([.long (dtS (Y.2 82) 256)], hp c Y) ∧ rS X Y ∧ ∀ a b, a < 4 → b < 4 → Y.2 82 (4 * a + b) = if a < (bpr B).length ∧ b < (bpr B).length then mM B a b else if a = b then 1 else 0 := by
  have hs := hb.1
  have h64 := bS_64 hs
  have hn := hb.2.2.2.1
  have hpp := hb.2.2.2.2.1
  obtain ⟨n, en⟩ : ∃ n, n = (bpr B).length := ⟨_, rfl⟩
  have z76 : ∀ Y, rS X Y → rBd (Y.1 76) B := fun Y q => by rw [rS_76 q]; exact h
  -- the unit matrix
  obtain ⟨Y1, e1, f1, m1⟩ := lp_up (fun i (Y : ixX) => l_Mo_determinant_11 75 (nI n) (nI i) (hp c Y)) (fun i Y => rS X Y ∧ ∀ a b, a < i → b < 4 → Y.2 82 (4 * a + b) = if a = b then 1 else 0) (N := 4) (fun i Y hi ⟨q1, q2⟩ => by
    obtain ⟨Z, z1, z2, z3⟩ := lp_up (fun j (Z : ixX) => l_Mo_determinant_18 75 (nI n) (nI i) (nI j) (hp c Z)) (fun j Z => rS X Z ∧ ∀ a b, (a < i ∧ b < 4) ∨ (a = i ∧ b < j) → Z.2 82 (4 * a + b) = if a = b then 1 else 0) (N := 4) (fun j Z hj ⟨r1, r2⟩ => by
      refine ⟨aJ Z 82 (vp_updL (Z.2 82) (4 * i + j) (if i = j then 1 else 0)), ?_, rS_aJ r1 (by omega) (by omega), fun a b hab => ?_⟩
      · show l_Mo_determinant_18 75 (nI n) (nI i) (nI j) (hp c Z) = _
        rw [e_Mo_determinant_18, if_neg (lit_nle (x := 4) (a := 4) (k := j) rfl hj (by omega)), bO (g75_6 c _), i4ij, nI_1 j]
        by_cases q : i = j
        · rw [if_neg (fun w => w (by rw [q])), bO (s82 (by omega)), if_pos q]
        · rw [if_pos (by rw [nI_eq (by omega) (by omega)]; exact q), bO (s82 (by omega)), if_neg q]
      · rw [aJ_1]
        by_cases q : 4 * a + b = 4 * i + j
        · have ea : a = i := by omega
          have eb : b = j := by omega
          rw [ea, eb, updL_1]
        · rw [updL_n _ _ q]
          exact r2 a b (by omega)) (k := 0) (s := Y) (by omega) ⟨q1, fun a b hab => q2 a b (by omega) (by omega)⟩
    have z1' : l_Mo_determinant_18 75 (nI n) (nI i) 0 (hp c Y) = l_Mo_determinant_18 75 (nI n) (nI i) (nI 4) (hp c Z) := z1
    refine ⟨Z, ?_, z2, fun a b ha hb2 => z3 a b (by omega)⟩
    show l_Mo_determinant_11 75 (nI n) (nI i) (hp c Y) = _
    rw [e_Mo_determinant_11, if_neg (lit_nle (x := 4) (a := 4) (k := i) rfl hi (by omega)), z1', e_Mo_determinant_18, if_pos (show (4 : Int32) ≤ nI 4 by decide), nI_1 i]) (k := 0) (s := X) (by omega) ⟨rS_refl _, fun a b ha => absurd ha (Nat.not_lt_zero a)⟩
  have e1' : l_Mo_determinant_11 75 (nI n) 0 (hp c X) = l_Mo_determinant_11 75 (nI n) (nI 4) (hp c Y1) := e1
  -- the ways
  obtain ⟨Y2, e2, f2, m2⟩ := lp_up (fun i (Y : ixX) => l_Mo_determinant_57 75 (nI n) (nI i) (hp c Y)) (fun i Y => rS X Y ∧ ∀ a b, a < 4 → b < 4 → Y.2 82 (4 * a + b) = if a < i ∧ b < n then mM B a b else if a = b then 1 else 0) (N := n) (fun i Y hi ⟨q1, q2⟩ => by
    have hst := (hpp i (by omega)).1
    obtain ⟨g, g1, g2⟩ := M_layFalls (c := c) hs (z76 Y q1) hst
    obtain ⟨Z, z1, z2, z3, z4⟩ := lp_up (fun j (Z : ixX) => l_Mo_determinant_73 75 (nI n) (nI i) (nI j) (hp c Z)) (fun j Z => rS X Z ∧ Z.2 79 = g ∧ ∀ a b, a < 4 → b < 4 → Z.2 82 (4 * a + b) = if (a < i ∧ b < n) ∨ (a = i ∧ b < j) then mM B a b else if a = b then 1 else 0) (N := n) (fun j Z hj ⟨r1, r2, r3⟩ => by
      have hen := (hpp j (by omega)).2
      refine ⟨aJ Z 82 (vp_updL (Z.2 82) (4 * i + j) (mM B i j)), ?_, rS_aJ r1 (by omega) (by omega), ?_, fun a b ha hb2 => ?_⟩
      · show l_Mo_determinant_73 75 (nI n) (nI i) (nI j) (hp c Z) = _
        rw [e_Mo_determinant_73, if_neg (by rw [nI_leI (by omega) (by omega)]; omega), bO (g75_6 c _), bO (g75_3 c _), kI_of (M_mend (z76 Z r1) hn (by omega)), bO (r79 (by omega)), r2, g2 _ hen, i4ij, bO (s82 (by omega)), nI_1 j]
        rfl
      · rw [aJ_n _ _ (by decide)]; exact r2
      · rw [aJ_1]
        by_cases q : 4 * a + b = 4 * i + j
        · have ea : a = i := by omega
          have eb : b = j := by omega
          rw [ea, eb, updL_1, if_pos (by omega)]
        · rw [updL_n _ _ q, r3 a b ha hb2]
          by_cases w : (a < i ∧ b < n) ∨ (a = i ∧ b < j)
          · rw [if_pos w, if_pos (by omega)]
          · rw [if_neg w, if_neg (c := (a < i ∧ b < n) ∨ (a = i ∧ b < j + 1)) (by omega)]) (k := 0) (s := aJ Y 79 g) (by omega) ⟨rS_aJ q1 (by omega) (by omega), aJ_1 _ _ _, fun a b ha hb2 => by
        rw [aJ_n _ _ (by decide), q2 a b ha hb2]
        by_cases w : a < i ∧ b < n
        · rw [if_pos w, if_pos (by omega)]
        · rw [if_neg w, if_neg (c := (a < i ∧ b < n) ∨ (a = i ∧ b < 0)) (by omega)]⟩
    have z1' : l_Mo_determinant_73 75 (nI n) (nI i) 0 (hp c (aJ Y 79 g)) = l_Mo_determinant_73 75 (nI n) (nI i) (nI n) (hp c Z) := z1
    refine ⟨Z, ?_, z2, fun a b ha hb2 => ?_⟩
    · show l_Mo_determinant_57 75 (nI n) (nI i) (hp c Y) = _
      rw [e_Mo_determinant_57, if_neg (by rw [nI_leI (by omega) (by omega)]; omega), kI_of (M_mstart (z76 Y q1) hn (by omega)), kV_of g1, z1', e_Mo_determinant_73, if_pos (by rw [nI_leI (by omega) (by omega)]; omega), nI_1 i]
    · rw [z4 a b ha hb2]
      by_cases w : (a < i ∧ b < n) ∨ (a = i ∧ b < n)
      · rw [if_pos w, if_pos (by omega)]
      · rw [if_neg w, if_neg (c := a < i + 1 ∧ b < n) (by omega)]) (k := 0) (s := Y1) (by omega) ⟨f1, fun a b ha hb2 => by rw [m1 a b ha hb2, if_neg (c := a < 0 ∧ b < n) (by omega)]⟩
  have e2' : l_Mo_determinant_57 75 (nI n) 0 (hp c Y1) = l_Mo_determinant_57 75 (nI n) (nI n) (hp c Y2) := e2
  have r386 : ix_ai (hp c X) 76 386 = some (nI n) := by
    have := r76 (c := c) (X := X) (i := 386) (by omega)
    rw [A_p h, ← en] at this
    exact this
  rw [← en]
  refine ⟨Y2, x_Mo_determinant (rc_75 c X) ?_, f2, m2⟩
  rw [e_Mo_determinant, bO (g75_0 c _), bO r386, e1', e_Mo_determinant_11, if_pos (show (4 : Int32) ≤ nI 4 by decide), e2', e_Mo_determinant_57, if_pos (by rw [nI_leI (by omega) (by omega)]; omega), L_115all]
theorem det_all {n : Nat} (hn : n ≤ 4) {A R m : Nat → Int64} {M : Nat → Nat → Int64} (h0 : m 0 = 1) (hm : ∀ S, 1 ≤ S → S < 2 ^ n → m S = mnf A m S) (hA : ∀ a b, a < n → b < n → A (4 * a + b) = M a b) (hR : ∀ a b, a < 4 → b < 4 → R (4 * a + b) = if a < n ∧ b < n then M a b else if a = b then 1 else 0) : m (2 ^ n - 1) = dtS R 256 := by
  have t : ∀ a b, a < 4 → b < 4 → a < n → b < n → R (4 * a + b) = A (4 * a + b) := fun a b h1 h2 h3 h4 => by rw [hR a b h1 h2, if_pos ⟨h3, h4⟩, hA a b h3 h4]
  have o : ∀ a, a < 4 → n ≤ a → R (4 * a + a) = 1 := fun a h1 h2 => by rw [hR a a h1 h1, if_neg (by omega), if_pos rfl]
  have z : ∀ a b, a < 4 → b < 4 → ¬ a = b → (n ≤ a ∨ n ≤ b) → R (4 * a + b) = 0 := fun a b h1 h2 h3 h4 => by rw [hR a b h1 h2, if_neg (by omega), if_neg h3]
  rcases (show n = 0 ∨ n = 1 ∨ n = 2 ∨ n = 3 ∨ n = 4 by omega) with rfl | rfl | rfl | rfl | rfl
  · exact det0 A R m h0 hm (o 0 (by omega) (by omega)) (z 0 1 (by omega) (by omega) (by omega) (by omega)) (z 0 2 (by omega) (by omega) (by omega) (by omega)) (z 0 3 (by omega) (by omega) (by omega) (by omega)) (z 1 0 (by omega) (by omega) (by omega) (by omega)) (o 1 (by omega) (by omega)) (z 1 2 (by omega) (by omega) (by omega) (by omega)) (z 1 3 (by omega) (by omega) (by omega) (by omega)) (z 2 0 (by omega) (by omega) (by omega) (by omega)) (z 2 1 (by omega) (by omega) (by omega) (by omega)) (o 2 (by omega) (by omega)) (z 2 3 (by omega) (by omega) (by omega) (by omega)) (z 3 0 (by omega) (by omega) (by omega) (by omega)) (z 3 1 (by omega) (by omega) (by omega) (by omega)) (z 3 2 (by omega) (by omega) (by omega) (by omega)) (o 3 (by omega) (by omega))
  · exact det1 A R m h0 hm (t 0 0 (by omega) (by omega) (by omega) (by omega)) (z 0 1 (by omega) (by omega) (by omega) (by omega)) (z 0 2 (by omega) (by omega) (by omega) (by omega)) (z 0 3 (by omega) (by omega) (by omega) (by omega)) (z 1 0 (by omega) (by omega) (by omega) (by omega)) (o 1 (by omega) (by omega)) (z 1 2 (by omega) (by omega) (by omega) (by omega)) (z 1 3 (by omega) (by omega) (by omega) (by omega)) (z 2 0 (by omega) (by omega) (by omega) (by omega)) (z 2 1 (by omega) (by omega) (by omega) (by omega)) (o 2 (by omega) (by omega)) (z 2 3 (by omega) (by omega) (by omega) (by omega)) (z 3 0 (by omega) (by omega) (by omega) (by omega)) (z 3 1 (by omega) (by omega) (by omega) (by omega)) (z 3 2 (by omega) (by omega) (by omega) (by omega)) (o 3 (by omega) (by omega))
  · exact det2 A R m h0 hm (t 0 0 (by omega) (by omega) (by omega) (by omega)) (t 0 1 (by omega) (by omega) (by omega) (by omega)) (z 0 2 (by omega) (by omega) (by omega) (by omega)) (z 0 3 (by omega) (by omega) (by omega) (by omega)) (t 1 0 (by omega) (by omega) (by omega) (by omega)) (t 1 1 (by omega) (by omega) (by omega) (by omega)) (z 1 2 (by omega) (by omega) (by omega) (by omega)) (z 1 3 (by omega) (by omega) (by omega) (by omega)) (z 2 0 (by omega) (by omega) (by omega) (by omega)) (z 2 1 (by omega) (by omega) (by omega) (by omega)) (o 2 (by omega) (by omega)) (z 2 3 (by omega) (by omega) (by omega) (by omega)) (z 3 0 (by omega) (by omega) (by omega) (by omega)) (z 3 1 (by omega) (by omega) (by omega) (by omega)) (z 3 2 (by omega) (by omega) (by omega) (by omega)) (o 3 (by omega) (by omega))
  · exact det3 A R m h0 hm (t 0 0 (by omega) (by omega) (by omega) (by omega)) (t 0 1 (by omega) (by omega) (by omega) (by omega)) (t 0 2 (by omega) (by omega) (by omega) (by omega)) (z 0 3 (by omega) (by omega) (by omega) (by omega)) (t 1 0 (by omega) (by omega) (by omega) (by omega)) (t 1 1 (by omega) (by omega) (by omega) (by omega)) (t 1 2 (by omega) (by omega) (by omega) (by omega)) (z 1 3 (by omega) (by omega) (by omega) (by omega)) (t 2 0 (by omega) (by omega) (by omega) (by omega)) (t 2 1 (by omega) (by omega) (by omega) (by omega)) (t 2 2 (by omega) (by omega) (by omega) (by omega)) (z 2 3 (by omega) (by omega) (by omega) (by omega)) (z 3 0 (by omega) (by omega) (by omega) (by omega)) (z 3 1 (by omega) (by omega) (by omega) (by omega)) (z 3 2 (by omega) (by omega) (by omega) (by omega)) (o 3 (by omega) (by omega))
  · exact det4 A R m h0 hm (t 0 0 (by omega) (by omega) (by omega) (by omega)) (t 0 1 (by omega) (by omega) (by omega) (by omega)) (t 0 2 (by omega) (by omega) (by omega) (by omega)) (t 0 3 (by omega) (by omega) (by omega) (by omega)) (t 1 0 (by omega) (by omega) (by omega) (by omega)) (t 1 1 (by omega) (by omega) (by omega) (by omega)) (t 1 2 (by omega) (by omega) (by omega) (by omega)) (t 1 3 (by omega) (by omega) (by omega) (by omega)) (t 2 0 (by omega) (by omega) (by omega) (by omega)) (t 2 1 (by omega) (by omega) (by omega) (by omega)) (t 2 2 (by omega) (by omega) (by omega) (by omega)) (t 2 3 (by omega) (by omega) (by omega) (by omega)) (t 3 0 (by omega) (by omega) (by omega) (by omega)) (t 3 1 (by omega) (by omega) (by omega) (by omega)) (t 3 2 (by omega) (by omega) (by omega) (by omega)) (t 3 3 (by omega) (by omega) (by omega) (by omega))
theorem K_determinant {c : ixK} {X : ixX} {S : sT} (h : invK c X S) : okL mRP_determinant mMo_determinant [] c X := by
  obtain ⟨hs, hG, hA, hb⟩ := invK_G h
  obtain ⟨Y, A, m, e1, f1, a1, a2, a3⟩ := C_signed (c := c) hb h.2.1.1
  have hr' : rI Y S := rI_q f1 (by omega) h.2.2
  obtain ⟨Z, e2, f2, b1⟩ := R_det (c := c) hb hr'.1
  rw [← det_all hb.2.2.2.1 a2 a3 a1 b1] at e2
  exact okL_q h (x_RP_determinant (rc_3 c X) (by rw [e_RP_determinant, bO (g3_4 c _), bO (g3_0 c _), kL_of e1])) f1 e2 f2
