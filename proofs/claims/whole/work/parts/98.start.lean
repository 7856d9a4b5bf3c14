/-! THE START: the first board, the heap of known shape -/
set_option maxRecDepth 8000 in
def cRPg (fs : List Value) : List ixC := [.inr (0, [.ref 4, .ref 21, .ref 56, .ref 57, .ref 59, .ref 63, .ref 65, .ref 67, .ref 73, .null]), .inr (1, [.ref 5, .ref 8, .ref 19, .ref 20, .int 0]), .inr (2, fs), .inl (1, 4, .inr (.inl fun _ => 0)), .inl (1, 4, .inr (.inl fun _ => 0)), .inl (4, 5, .inr (.inr (.inr (.inr (fun i => (([(2, 9), (2, 11), (2, 13), (2, 15), (2, 17)] : List (Nat × Nat))[i]?).map fun x => x.2))))), .inr (3, [.ref 10, .int 0, .long 0]), .inl (0, 64, .inl fun _ => 0), .inr (3, [.ref 12, .int 0, .long 0]), .inl (0, 64, .inl fun _ => 0), .inr (3, [.ref 14, .int 0, .long 0]), .inl (0, 64, .inl fun _ => 0), .inr (3, [.ref 16, .int 0, .long 0]), .inl (0, 64, .inl fun _ => 0), .inr (3, [.ref 18, .int 0, .long 0]), .inl (0, 64, .inl fun _ => 0), .inl (0, 4, .inl fun _ => 0), .inl (0, 4, .inl fun _ => 0), .inl (5, 2, .inr (.inr (.inr (.inr (fun i => (([(2, 22), (2, 39)] : List (Nat × Nat))[i]?).map fun x => x.2))))), .inr (1, [.ref 23, .ref 26, .ref 37, .ref 38, .int 0]), .inr (2, [.int 0, .int 0, .long 0, .long 0, .long 0, .long 0, .ref 24, .ref 25]), .inl (1, 4, .inr (.inl fun _ => 0)), .inl (1, 4, .inr (.inl fun _ => 0)), .inl (4, 5, .inr (.inr (.inr (.inr (fun i => (([(2, 27), (2, 29), (2, 31), (2, 33), (2, 35)] : List (Nat × Nat))[i]?).map fun x => x.2))))), .inr (3, [.ref 28, .int 0, .long 0]), .inl (0, 64, .inl fun _ => 0), .inr (3, [.ref 30, .int 0, .long 0]), .inl (0, 64, .inl fun _ => 0), .inr (3, [.ref 32, .int 0, .long 0]), .inl (0, 64, .inl fun _ => 0), .inr (3, [.ref 34, .int 0, .long 0]), .inl (0, 64, .inl fun _ => 0), .inr (3, [.ref 36, .int 0, .long 0]), .inl (0, 64, .inl fun _ => 0), .inl (0, 4, .inl fun _ => 0), .inl (0, 4, .inl fun _ => 0), .inr (1, [.ref 40, .ref 43, .ref 54, .ref 55, .int 0]), .inr (2, [.int 0, .int 0, .long 0, .long 0, .long 0, .long 0, .ref 41, .ref 42]), .inl (1, 4, .inr (.inl fun _ => 0)), .inl (1, 4, .inr (.inl fun _ => 0)), .inl (4, 5, .inr (.inr (.inr (.inr (fun i => (([(2, 44), (2, 46), (2, 48), (2, 50), (2, 52)] : List (Nat × Nat))[i]?).map fun x => x.2))))), .inr (3, [.ref 45, .int 0, .long 0]), .inl (0, 64, .inl fun _ => 0), .inr (3, [.ref 47, .int 0, .long 0]), .inl (0, 64, .inl fun _ => 0), .inr (3, [.ref 49, .int 0, .long 0]), .inl (0, 64, .inl fun _ => 0), .inr (3, [.ref 51, .int 0, .long 0]), .inl (0, 64, .inl fun _ => 0), .inr (3, [.ref 53, .int 0, .long 0]), .inl (0, 64, .inl fun _ => 0), .inl (0, 4, .inl fun _ => 0), .inl (0, 4, .inl fun _ => 0), .inl (2, 2, .inl fun _ => 0), .inr (4, [.ref 58, .int 0]), .inl (0, 80, .inl fun _ => 0), .inr (5, [.ref 60, .ref 61, .ref 62]), .inl (1, 64, .inr (.inl fun _ => 0)), .inl (1, 16, .inr (.inl fun _ => 0)), .inl (1, 16, .inr (.inl fun _ => 0)), .inr (6, [.ref 64]), .inl (1, 64, .inr (.inl fun _ => 0)), .inr (7, [.ref 66, .long 0, .long 0, .long 0, .long 0, .long 0, .long 0, .long 0, .long 0, .long 0, .long 0]), .inl (1, 64, .inr (.inl fun _ => 0)), .inr (8, [.ref 68, .ref 69, .ref 70, .ref 71, .ref 72, .long 0, .long 0]), .inl (1, 64, .inr (.inl fun _ => 0)), .inl (0, 64, .inl fun _ => 0), .inl (0, 64, .inl fun _ => 0), .inl (0, 64, .inl fun _ => 0), .inl (0, 64, .inl fun _ => 0), .inr (3, [.ref 74, .int 0, .long 0]), .inl (0, 64, .inl fun _ => 0)]
def gF (m a b w : Int64) : List Value := [.int 6, .int 6, .long m, .long a, .long b, .long w, .ref 6, .ref 7]
set_option maxRecDepth 8000 in
theorem cRP_g : cRPL 3 = cRPg [.int 0, .int 0, .long 0, .long 0, .long 0, .long 0, .ref 6, .ref 7] := rfl
theorem set_same {α : Type} : ∀ {l : List α} {i : Nat} {v : α}, l[i]? = some v → l.set i v = l
  | [], i, v, h => by cases h
  | a :: l, 0, v, h => by
    have e : a = v := Option.some.inj h
    rw [e]
    rfl
  | a :: l, i + 1, v, h => by
    have e : l[i]? = some v := h
    show a :: l.set i v = a :: l
    rw [set_same e]
theorem hq_pf0 {L : Nat} {xs : Nat → Int32} {s : Nat} {l : List ixC} {i ci k : Nat} {fs : List Value} {v : Value} (h : l[i]? = some (.inr (ci, fs))) (hk : fs[k]? = some v) : ix_pf (hq L xs s l) (i + 3) ci k v = some (hq L xs s l) := by
  rw [hq_pf v h (lt_get hk), set_same hk, set_same h]
theorem hq_gi {L : Nat} {xs : Nat → Int32} {s : Nat} {l : List ixC} {i ci k : Nat} {fs : List Value} {x : Int32} (h : l[i]? = some (.inr (ci, fs))) (hk : fs[k]? = some (.int x)) : ix_gi (hq L xs s l) (i + 3) ci k = some x := by
  unfold ix_gi
  rw [hq_ob h, Option.bind_some, hk]
theorem hq_gl {L : Nat} {xs : Nat → Int32} {s : Nat} {l : List ixC} {i ci k : Nat} {fs : List Value} {x : Int64} (h : l[i]? = some (.inr (ci, fs))) (hk : fs[k]? = some (.long x)) : ix_gl (hq L xs s l) (i + 3) ci k = some x := by
  unfold ix_gl
  rw [hq_ob h, Option.bind_some, hk]
theorem hq_gr {L : Nat} {xs : Nat → Int32} {s : Nat} {l : List ixC} {i ci k : Nat} {fs : List Value} {x : Nat} (h : l[i]? = some (.inr (ci, fs))) (hk : fs[k]? = some (.ref x)) : ix_gr (hq L xs s l) (i + 3) ci k = some x := by
  unfold ix_gr
  rw [hq_ob h, Option.bind_some, hk]
theorem upL_0 (k : Nat) : vp_updL (fun _ => 0) k 0 = fun _ => 0 := by
  funext j
  unfold vp_updL
  split <;> rfl
theorem hq_sl0 {L : Nat} {xs : Nat → Int32} {s n : Nat} {l : List ixC} {i : Nat} {x : Int32} (h : l[i]? = some (.inl (1, n, .inr (.inl fun _ => 0)))) (hi : ix_in x n = true) : ix_sl (hq L xs s l) (i + 3) x 0 = some (hq L xs s l) := by
  unfold ix_sl
  rw [if_pos (by omega), hq_ar h, Option.bind_some]
  show (if ix_in x n then some (ix_up (hq L xs s l) (i + 3) (.inl (1, n, .inr (.inl (vp_updL (fun _ => 0) x.toNatClampNeg 0))))) else none) = _
  rw [if_pos hi, upL_0, hq_up L xs s (lt_get h), set_same h]
theorem hq_aq {L : Nat} {xs : Nat → Int32} {s n t r : Nat} {l : List ixC} {i : Nat} {x : Int32} {f : Nat → Option Nat} (h : l[i]? = some (.inl (t, n, .inr (.inr (.inr (.inr f)))))) (hi : ix_in x n = true) (hr : f x.toNatClampNeg = some r) : ix_aq (hq L xs s l) t (i + 3) x = some r := by
  unfold ix_aq
  rw [if_pos (by omega), hq_ar h, Option.bind_some]
  show (if ix_in x n then f x.toNatClampNeg else none) = _
  rw [if_pos hi, hr]
theorem hq_keep {L : Nat} {xs : Nat → Int32} {s : Nat} {l : List ixC} {i q : Nat} (h : l[i]? = some (.inr (3, [.ref q, .int 0, .long 0]))) : ix_M mRt_keep [.ref (i + 3), .int 0] (hq L xs s l) = some ([], hq L xs s l) := by
  have hr : ix_rc (hq L xs s l) (i + 3) = some 3 := hq_rc h
  have e0 : ix_M mRt_firstCells [.ref (i + 3), .int 0] (hq L xs s l) = some ([.long 0], hq L xs s l) := x_Rt_firstCells hr (by rw [e_Rt_firstCells, e_Rt_firstCells_5, if_pos (by decide)])
  refine x_Rt_keep hr ?_
  rw [e_Rt_keep, kL_of e0, bO (hq_pf0 h (k := 2) rfl), bO (hq_pf0 h (k := 1) rfl)]
/-! the grid -/
set_option maxRecDepth 8000 in
theorem gg_at (fs : List Value) : (cRPg fs)[2]? = some (.inr (2, fs)) := rfl
set_option maxRecDepth 8000 in
theorem gg_set (fs gs : List Value) : (cRPg fs).set 2 (.inr (2, gs)) = cRPg gs := rfl
set_option maxRecDepth 8000 in
theorem gg_6 (fs : List Value) : (cRPg fs)[3]? = some (.inl (1, 4, .inr (.inl fun _ => 0))) := rfl
set_option maxRecDepth 8000 in
theorem gg_7 (fs : List Value) : (cRPg fs)[4]? = some (.inl (1, 4, .inr (.inl fun _ => 0))) := rfl
set_option maxRecDepth 8000 in
theorem gg_8 (fs : List Value) : (cRPg fs)[5]? = some (.inl (4, 5, .inr (.inr (.inr (.inr fun i => (([(2, 9), (2, 11), (2, 13), (2, 15), (2, 17)] : List (Nat × Nat))[i]?).map fun x => x.2))))) := rfl
set_option maxRecDepth 8000 in
theorem gg_4 (fs : List Value) : (cRPg fs)[1]? = some (.inr (1, [.ref 5, .ref 8, .ref 19, .ref 20, .int 0])) := rfl
set_option maxRecDepth 8000 in
theorem gg_r0 (fs : List Value) : (cRPg fs)[6]? = some (.inr (3, [.ref 10, .int 0, .long 0])) := rfl
set_option maxRecDepth 8000 in
theorem gg_r1 (fs : List Value) : (cRPg fs)[8]? = some (.inr (3, [.ref 12, .int 0, .long 0])) := rfl
set_option maxRecDepth 8000 in
theorem gg_r2 (fs : List Value) : (cRPg fs)[10]? = some (.inr (3, [.ref 14, .int 0, .long 0])) := rfl
set_option maxRecDepth 8000 in
theorem gg_r3 (fs : List Value) : (cRPg fs)[12]? = some (.inr (3, [.ref 16, .int 0, .long 0])) := rfl
set_option maxRecDepth 8000 in
theorem gg_r4 (fs : List Value) : (cRPg fs)[14]? = some (.inr (3, [.ref 18, .int 0, .long 0])) := rfl
theorem gg_p {L : Nat} {xs : Nat → Int32} {s k : Nat} {fs gs : List Value} {v : Value} (hk : k < fs.length) (hg : fs.set k v = gs) : ix_pf (hq L xs s (cRPg fs)) 5 2 k v = some (hq L xs s (cRPg gs)) := by
  have e := hq_pf (L := L) (xs := xs) (s := s) (k := k) v (gg_at fs) hk
  rw [hg, gg_set] at e
  exact e
theorem gg_i {L : Nat} {xs : Nat → Int32} {s k : Nat} {fs : List Value} {x : Int32} (hk : fs[k]? = some (.int x)) : ix_gi (hq L xs s (cRPg fs)) 5 2 k = some x := hq_gi (gg_at fs) hk
theorem gg_l {L : Nat} {xs : Nat → Int32} {s k : Nat} {fs : List Value} {x : Int64} (hk : fs[k]? = some (.long x)) : ix_gl (hq L xs s (cRPg fs)) 5 2 k = some x := hq_gl (gg_at fs) hk
theorem gg_f {L : Nat} {xs : Nat → Int32} {s k x : Nat} {fs : List Value} (hk : fs[k]? = some (.ref x)) : ix_gr (hq L xs s (cRPg fs)) 5 2 k = some x := hq_gr (gg_at fs) hk
theorem gs_20 {L : Nat} {xs : Nat → Int32} {s : Nat} {m a b w x3 y3 : Int64} {x5 y5 : Int32} (h : ¬ (6 : Int32) ≤ x5) (e3 : x3 ||| ix_shl 1 (x5 * 6) = y3) (e5 : x5 + 1 = y5) : l_Gr_shape_20 5 x3 x5 (hq L xs s (cRPg (gF m a b w))) = l_Gr_shape_20 5 y3 y5 (hq L xs s (cRPg (gF m a b w))) := by
  rw [e_Gr_shape_20, bO (gg_i (k := 1) (x := 6) rfl), if_neg h, bO (gg_i (k := 0) (x := 6) rfl), kL_of (x_RP_bit (e_RP_bit _ _)), e3, e5]
theorem gs_51 {L : Nat} {xs : Nat → Int32} {s : Nat} {m n a b w x3 : Int64} {x5 y5 : Int32} (h : ¬ (6 : Int32) ≤ x5) (en : m ||| ix_shl x3 x5 = n) (e5 : x5 + 1 = y5) : l_Gr_shape_51 5 x3 x5 (hq L xs s (cRPg (gF m a b w))) = l_Gr_shape_51 5 x3 y5 (hq L xs s (cRPg (gF n a b w))) := by
  rw [e_Gr_shape_51, bO (gg_i (k := 0) (x := 6) rfl), if_neg h, bO (gg_l (k := 2) (x := m) rfl), en, bO (gg_p (k := 2) (gs := gF n a b w) (Nat.le_of_ble_eq_true rfl) rfl), e5]
theorem gs_122 {L : Nat} {xs : Nat → Int32} {s : Nat} {m a b w : Int64} {x5 y5 : Int32} (h : ¬ (4 : Int32) ≤ x5) (hi : ix_in x5 4 = true) (e5 : x5 + 1 = y5) : l_Gr_shape_122 5 x5 (hq L xs s (cRPg (gF m a b w))) = l_Gr_shape_122 5 y5 (hq L xs s (cRPg (gF m a b w))) := by
  have e : ix_sl (hq L xs s (cRPg (gF m a b w))) 6 x5 0 = some (hq L xs s (cRPg (gF m a b w))) := hq_sl0 (gg_6 _) hi
  rw [e_Gr_shape_122, if_neg h, bO (gg_f (k := 6) (x := 6) rfl), bO e, e5]
theorem gs_145 {L : Nat} {xs : Nat → Int32} {s : Nat} {m a b w : Int64} {x5 y5 : Int32} (h : ¬ (4 : Int32) ≤ x5) (hi : ix_in x5 4 = true) (e5 : x5 + 1 = y5) : l_Gr_shape_145 5 x5 (hq L xs s (cRPg (gF m a b w))) = l_Gr_shape_145 5 y5 (hq L xs s (cRPg (gF m a b w))) := by
  have e : ix_sl (hq L xs s (cRPg (gF m a b w))) 7 x5 0 = some (hq L xs s (cRPg (gF m a b w))) := hq_sl0 (gg_7 _) hi
  rw [e_Gr_shape_145, if_neg h, bO (gg_f (k := 7) (x := 7) rfl), bO e, e5]
theorem gs_all (L : Nat) (xs : Nat → Int32) (s : Nat) : ix_M mGr_shape [.ref 5, .int 6, .int 6] (hq L xs s (cRPg [.int 0, .int 0, .long 0, .long 0, .long 0, .long 0, .ref 6, .ref 7])) = some ([], hq L xs s (cRPg (gF 68719476735 67628691390 33814345695 0))) := by
  refine x_Gr_shape (hq_rc (gg_at _)) ?_
  rw [e_Gr_shape, bO (gg_p (k := 0) (gs := [.int 6, .int 0, .long 0, .long 0, .long 0, .long 0, .ref 6, .ref 7]) (Nat.le_of_ble_eq_true rfl) rfl), bO (gg_p (k := 1) (gs := gF 0 0 0 0) (Nat.le_of_ble_eq_true rfl) rfl), bO (gg_p (k := 2) (gs := gF 0 0 0 0) (Nat.le_of_ble_eq_true rfl) rfl)]
  rw [gs_20 (y3 := 1) (y5 := 1) (by decide) (by decide +kernel) (by decide)]
  rw [gs_20 (y3 := 65) (y5 := 2) (by decide) (by decide +kernel) (by decide)]
  rw [gs_20 (y3 := 4161) (y5 := 3) (by decide) (by decide +kernel) (by decide)]
  rw [gs_20 (y3 := 266305) (y5 := 4) (by decide) (by decide +kernel) (by decide)]
  rw [gs_20 (y3 := 17043521) (y5 := 5) (by decide) (by decide +kernel) (by decide)]
  rw [gs_20 (y3 := 1090785345) (y5 := 6) (by decide) (by decide +kernel) (by decide)]
  rw [e_Gr_shape_20, bO (gg_i (k := 1) (x := 6) rfl), if_pos (by decide)]
  rw [gs_51 (n := 1090785345) (y5 := 1) (by decide) (by decide +kernel) (by decide)]
  rw [gs_51 (n := 3272356035) (y5 := 2) (by decide) (by decide +kernel) (by decide)]
  rw [gs_51 (n := 7635497415) (y5 := 3) (by decide) (by decide +kernel) (by decide)]
  rw [gs_51 (n := 16361780175) (y5 := 4) (by decide) (by decide +kernel) (by decide)]
  rw [gs_51 (n := 33814345695) (y5 := 5) (by decide) (by decide +kernel) (by decide)]
  rw [gs_51 (n := 68719476735) (y5 := 6) (by decide) (by decide +kernel) (by decide)]
  rw [e_Gr_shape_51, bO (gg_i (k := 0) (x := 6) rfl), if_pos (by decide), bO (gg_l (k := 2) (x := 68719476735) rfl), show (68719476735 : Int64) &&& (1090785345 ^^^ -1) = 67628691390 by decide +kernel, bO (gg_p (k := 3) (gs := gF 68719476735 67628691390 0 0) (Nat.le_of_ble_eq_true rfl) rfl), bO (gg_l (k := 2) (x := 68719476735) rfl), bO (gg_i (k := 0) (x := 6) rfl), show (68719476735 : Int64) &&& ((ix_shl 1090785345 (6 - 1)) ^^^ -1) = 33814345695 by decide +kernel, bO (gg_p (k := 4) (gs := gF 68719476735 67628691390 33814345695 0) (Nat.le_of_ble_eq_true rfl) rfl), bO (gg_p (k := 5) (gs := gF 68719476735 67628691390 33814345695 0) (Nat.le_of_ble_eq_true rfl) rfl)]
  rw [gs_122 (y5 := 1) (by decide) (by decide) (by decide), gs_122 (y5 := 2) (by decide) (by decide) (by decide), gs_122 (y5 := 3) (by decide) (by decide) (by decide), gs_122 (y5 := 4) (by decide) (by decide) (by decide), e_Gr_shape_122, if_pos (by decide)]
  rw [gs_145 (y5 := 1) (by decide) (by decide) (by decide), gs_145 (y5 := 2) (by decide) (by decide) (by decide), gs_145 (y5 := 3) (by decide) (by decide) (by decide), gs_145 (y5 := 4) (by decide) (by decide) (by decide), e_Gr_shape_145, if_pos (by decide)]
theorem gb_16 {L : Nat} {xs : Nat → Int32} {s : Nat} {fs : List Value} {x y : Int32} {r q j : Nat} (h : ¬ (5 : Int32) ≤ x) (hi : ix_in x 5 = true) (hr : (([(2, 9), (2, 11), (2, 13), (2, 15), (2, 17)] : List (Nat × Nat))[x.toNatClampNeg]?).map (fun x => x.2) = some r) (hj : j + 3 = r) (ha : (cRPg fs)[j]? = some (.inr (3, [.ref q, .int 0, .long 0]))) (e : x + 1 = y) : l_Bd_begin_16 4 x (hq L xs s (cRPg fs)) = l_Bd_begin_16 4 y (hq L xs s (cRPg fs)) := by
  have e1 : ix_gr (hq L xs s (cRPg fs)) 4 1 1 = some 8 := hq_gr (gg_4 fs) (k := 1) rfl
  have e2 : ix_aq (hq L xs s (cRPg fs)) 4 8 x = some r := hq_aq (gg_8 fs) hi hr
  have e3 : ix_M mRt_keep [.ref r, .int 0] (hq L xs s (cRPg fs)) = some ([], hq L xs s (cRPg fs)) := by
    rw [← hj]
    exact hq_keep ha
  rw [e_Bd_begin_16, if_neg h, bO e1, bO e2, kV_of e3, e]
theorem gb_all (L : Nat) (xs : Nat → Int32) (s : Nat) : ix_M mBd_begin [.ref 4, .int 6, .int 6] (hq L xs s (cRPg [.int 0, .int 0, .long 0, .long 0, .long 0, .long 0, .ref 6, .ref 7])) = some ([], hq L xs s (cRPg (gF 68719476735 67628691390 33814345695 0))) := by
  have e1 : ix_gr (hq L xs s (cRPg [.int 0, .int 0, .long 0, .long 0, .long 0, .long 0, .ref 6, .ref 7])) 4 1 0 = some 5 := hq_gr (gg_4 _) (k := 0) rfl
  have e2 : ix_pf (hq L xs s (cRPg (gF 68719476735 67628691390 33814345695 0))) 4 1 4 (.int 0) = some (hq L xs s (cRPg (gF 68719476735 67628691390 33814345695 0))) := hq_pf0 (gg_4 _) (k := 4) rfl
  refine x_Bd_begin (hq_rc (gg_4 _)) ?_
  rw [e_Bd_begin, bO e1, kV_of (gs_all L xs s), bO e2]
  rw [gb_16 (y := 1) (by decide) (by decide) (r := 9) (by decide) (j := 6) rfl (gg_r0 _) (by decide)]
  rw [gb_16 (y := 2) (by decide) (by decide) (r := 11) (by decide) (j := 8) rfl (gg_r1 _) (by decide)]
  rw [gb_16 (y := 3) (by decide) (by decide) (r := 13) (by decide) (j := 10) rfl (gg_r2 _) (by decide)]
  rw [gb_16 (y := 4) (by decide) (by decide) (r := 15) (by decide) (j := 12) rfl (gg_r3 _) (by decide)]
  rw [gb_16 (y := 5) (by decide) (by decide) (r := 17) (by decide) (j := 14) rfl (gg_r4 _) (by decide)]
  rw [e_Bd_begin_16, if_pos (by decide)]
/-! the heap of known shape -/
def enL (X : ixX) : List (Nat × Nat × List (Nat × Nat)) → Nat → List ixC
  | [], _ => []
  | t :: r, a => sp_en t (X.1 a) (X.2 a) :: enL X r (a + 1)
theorem enL_at (X : ixX) : ∀ (T : List (Nat × Nat × List (Nat × Nat))) (a b : Nat), (enL X T a)[b]? = (T[b]?).map fun t => sp_en t (X.1 (a + b)) (X.2 (a + b))
  | [], a, b => rfl
  | t :: r, a, 0 => rfl
  | t :: r, a, b + 1 => by
    show (enL X r (a + 1))[b]? = (r[b]?).map _
    rw [enL_at X r (a + 1) b, show a + 1 + b = a + (b + 1) by omega]
theorem enL_len (X : ixX) : ∀ (T : List (Nat × Nat × List (Nat × Nat))) (a : Nat), (enL X T a).length = T.length
  | [], a => rfl
  | t :: r, a => by
    show (enL X r (a + 1)).length + 1 = r.length + 1
    rw [enL_len X r (a + 1)]
set_option maxRecDepth 8000 in
theorem sp_T0_len : sp_T0.length = 99 := rfl
theorem hq_hp {L : Nat} {xs : Nat → Int32} {s : Nat} {X : ixX} (h0 : X.1 0 = xs) (h2 : X.1 2 = tbF) (h3 : ∀ a, 102 ≤ a → X.1 a = tbF) : hq L xs s (enL X sp_T0 3) = hp (0, s, L, 0) X := by
  refine Prod.ext ?_ (Prod.ext rfl ?_)
  · show (enL X sp_T0 3).length + 3 = 0 + 102
    rw [enL_len, sp_T0_len]
  · funext b
    match b with
    | 0 =>
      show (.inl (0, L, .inl xs) : ixC) = .inl (0, L, .inl (X.1 0))
      rw [h0]
    | 1 => rfl
    | 2 =>
      show (.inl (3, 8, .inl tbF) : ixC) = .inl (3, 8, .inl (X.1 2))
      rw [h2]
    | b + 3 =>
      show ((enL X sp_T0 3)[b]?).getD by8 = sp_en (sp_T0.getD b (3, 8, [])) (X.1 (b + 3)) (X.2 (b + 3))
      rw [enL_at, List.getD_eq_getElem?_getD, Nat.add_comm 3 b]
      by_cases hb : b < 99
      · rw [List.getElem?_eq_getElem (show b < sp_T0.length by rw [sp_T0_len]; exact hb)]
        rfl
      · rw [List.getElem?_eq_none (show sp_T0.length ≤ b by rw [sp_T0_len]; omega)]
        show (.inl (3, 8, .inl tbF) : ixC) = .inl (3, 8, .inl (X.1 (b + 3)))
        rw [h3 (b + 3) (by omega)]
def x0I (xs : Nat → Int32) (a : Nat) : Nat → Int32 := if a = 0 then xs else if a = 2 then tbF else if a = 5 then (fun _ => 6) else if a < 102 then (fun _ => 0) else tbF
def x0J (a : Nat) : Nat → Int64 := if a = 5 then (fun k => if k = 2 then 68719476735 else if k = 3 then 67628691390 else if k = 4 then 33814345695 else 0) else fun _ => 0
def x0 (xs : Nat → Int32) : ixX := (x0I xs, x0J)
set_option maxRecDepth 16000 in
set_option maxHeartbeats 4000000 in
theorem enL_0 (xs : Nat → Int32) : cRPg (gF 68719476735 67628691390 33814345695 0) ++ cMoL 75 = enL (x0 xs) sp_T0 3 := rfl
theorem x0_hp (L : Nat) (xs : Nat → Int32) (s : Nat) : hq L xs s (cRPg (gF 68719476735 67628691390 33814345695 0) ++ cMoL 75) = hp (0, s, L, 0) (x0 xs) := by
  rw [enL_0 xs]
  exact hq_hp rfl rfl (fun a ha => by
    show x0I xs a = tbF
    unfold x0I
    rw [if_neg (by omega), if_neg (by omega), if_neg (by omega), if_neg (by omega)])
theorem x0_z {xs : Nat → Int32} {a : Nat} (h : a < 102) (h0 : ¬ a = 0) (h2 : ¬ a = 2) (h5 : ¬ a = 5) : (x0 xs).1 a = fun _ => 0 := by
  show x0I xs a = _
  unfold x0I
  rw [if_neg h0, if_neg h2, if_neg h5, if_pos h]
theorem x0_J {xs : Nat → Int32} {a : Nat} (h5 : ¬ a = 5) : (x0 xs).2 a = fun _ => 0 := by
  show x0J a = _
  unfold x0J
  rw [if_neg h5]
theorem x0_5 (xs : Nat → Int32) : (x0 xs).1 5 = fun _ => 6 := rfl
theorem ls_dec {n : Nat} {p : Nat → Bool} (h : (List.range 64).all (fun i => n.testBit i == p i) = true) : lN n = LSt p := LS_of fun i hi => by
  have e := List.all_eq_true.mp h i (List.mem_range.mpr hi)
  exact eq_of_beq e
theorem x0_cG (xs : Nat → Int32) : cG 4 (x0 xs) (newB 6 6) := by
  refine ⟨rfl, rfl, ?_, ?_, ?_, ?_, ?_, ?_⟩
  · show lN 68719476735 = _
    exact ls_dec (by decide +kernel)
  · show lN 67628691390 = _
    exact ls_dec (by decide +kernel)
  · show lN 33814345695 = _
    exact ls_dec (by decide +kernel)
  · show (0 : Int64) = _
    rw [LS_0]
    rfl
  · intro r h1 h2
    rw [x0_J (by omega)]
    show (0 : Int64) = _
    rw [LS_0]
    refine LS_cong (fun i hi => ?_)
    show false = decide (0 = r)
    rw [decide_eq_false (by omega)]
  · intro l h
    rw [x0_J (by omega)]
    show (0 : Int64) = _
    rw [LS_0]
    rfl
theorem x0_cBd (xs : Nat → Int32) : cBd 4 (x0 xs) (newB 6 6) := by
  refine ⟨x0_cG xs, ⟨?_, fun i hi => absurd hi (Nat.not_lt_zero i)⟩, fun s hs => ⟨?_, ?_, fun k hk => absurd hk (Nat.not_lt_zero k)⟩⟩
  · rw [x0_z (by omega) (by omega) (by omega) (by omega)]
    rfl
  · rw [x0_z (by omega) (by omega) (by omega) (by omega)]
    rfl
  · rw [x0_J (by omega)]
    show (0 : Int64) = _
    rw [LS_0]
    exact LS_cong (fun i hi => by
      show false = decide (i ∈ ([] : List Nat))
      rw [decide_eq_false (by intro q; cases q)])
def s0 : sT := (newB 6 6, fun _ => none, [])
theorem x0_inv {L s : Nat} {xs : Nat → Int32} {Y : ixX} (hr : rBd (Y.1 76) (newB 6 6)) (he : eX [76] (x0 xs) Y) : lwI xs L (s + 16407) (0, s, L, 0) Y := by
  have hy : ∀ a, ¬ a = 76 → Y.1 a = (x0 xs).1 a := fun a ha => he.2 a (by
    intro q
    exact ha (List.mem_singleton.mp q))
  have hj : ∀ a, Y.2 a = (x0 xs).2 a := fun a => by rw [he.1]
  have hB := newB_OK (w := 6) (h := 6) (by omega) (by omega) (by omega) (by omega)
  refine ⟨⟨s0, ⟨hB, (fun p B h => by cases h), ⟨(by show 0 ≤ 80; omega), fun i hi => absurd hi (Nat.not_lt_zero i)⟩⟩, ⟨?_, ?_, ?_, ?_, ?_, .inl ⟨rfl, rfl⟩⟩, ⟨hr, ?_, ?_, ?_, ?_⟩⟩, ?_, ?_, rfl, rfl⟩
  · exact cBd_cong (fun a h1 h2 => ⟨hy a (by omega), hj a⟩) (x0_cBd xs)
  · intro p hp _
    rw [hy 56 (by omega), x0_z (by omega) (by omega) (by omega) (by omega)]
  · intro p B hp h
    cases h
  · rw [hy 57 (by omega), x0_z (by omega) (by omega) (by omega) (by omega)]
    rfl
  · intro i hi
    exact absurd hi (Nat.not_lt_zero i)
  · intro p hp _
    rw [hy 78 (by omega), x0_z (by omega) (by omega) (by omega) (by omega)]
  · intro p B hp h
    cases h
  · rw [hy 75 (by omega), x0_z (by omega) (by omega) (by omega) (by omega)]
    rfl
  · intro i hi
    exact absurd hi (Nat.not_lt_zero i)
  · rw [hy 0 (by omega)]
    rfl
  · rw [hy 2 (by omega)]
    rfl
set_option maxRecDepth 8000 in
theorem cRPg_len (fs : List Value) : (cRPg fs).length = 72 := rfl
theorem lw_run {L : Nat} (hL : L ≤ 2048) (xs : Nat → Int32) : ∃ h', ix_D mLaw_law 0 [some (.ref 0), none, none, none] [] (ix_h0 L xs) = some ([.int 1], h') ∧ h'.1 ≤ 112 ∧ h'.2.1 ≤ 22822 + 16407 := by
  have e1 : ix_M mRP_init [.ref 3] (hq L xs 10 ([] ++ [.inr (0, ix_df 0)])) = some ([], hq L xs 1836 (cRPg (gF 68719476735 67628691390 33814345695 0))) := B_RP L xs [] 3 10 rfl _ (by
    rw [cRP_g]
    exact gb_all L xs 1836)
  obtain ⟨Y, e2, hr, he⟩ := M_layGrid (c := (0, 22822, L, 0)) (X := x0 xs) (w := 6) (t := 6) (by omega) (by omega) (by omega) (by omega)
  rw [← x0_hp] at e2
  have e3 : ix_M mMo_init [.ref 75] (hq L xs (1836 + 34) (cRPg (gF 68719476735 67628691390 33814345695 0) ++ [.inr (11, ix_df 11)])) = some ([], hp (0, 22822, L, 0) Y) := B_Mo L xs _ 75 (1836 + 34) (by rw [cRPg_len]) _ e2
  have hI : lwI xs L (22822 + 16407) (0, 22822, L, 0) Y := x0_inv hr he
  obtain ⟨h', e4, h5, h6⟩ := lz9_run hL L 0 _ Y (by omega) (by omega) hI
  refine ⟨h', ?_, h5, h6⟩
  have n1 : (hq L xs 0 []).1 = 3 := rfl
  have n2 : (hq L xs 1836 (cRPg (gF 68719476735 67628691390 33814345695 0))).1 = 75 := by
    show (cRPg (gF 68719476735 67628691390 33814345695 0)).length + 3 = 75
    rw [cRPg_len]
  rw [e_Law_law, hq_0, hq_nw, n1, nN_0, kV_of e1, n2, hq_nw, nN_11, kV_of e3]
  exact e4
