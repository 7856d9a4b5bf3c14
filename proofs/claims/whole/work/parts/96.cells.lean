/-! THE START: cells in a list -/
def by8 : ixC := .inl (3, 8, .inl fun j => ix_byL.getD j 0)
def hq (L : Nat) (xs : Nat → Int32) (s : Nat) (l : List ixC) : ixH := (l.length + 3, s, fun b => match b with
  | 0 => .inl (0, L, .inl xs)
  | 1 => .inr (12, [])
  | 2 => by8
  | b + 3 => (l[b]?).getD by8)
theorem hq_0 (L : Nat) (xs : Nat → Int32) : ix_h0 L xs = hq L xs 0 [] := by
  show (3, 0, _) = (3, 0, _)
  congr 2
  funext b
  match b with
  | 0 => rfl
  | 1 => rfl
  | 2 => rfl
  | b + 3 => rfl
theorem hq_nw (L : Nat) (xs : Nat → Int32) (s : Nat) (l : List ixC) (v : ixC) (k : Nat) : ix_nw (hq L xs s l) v k = hq L xs (s + k) (l ++ [v]) := by
  refine Prod.ext ?_ (Prod.ext rfl ?_)
  · show l.length + 3 + 1 = (l ++ [v]).length + 3
    rw [List.length_append]
    show l.length + 3 + 1 = l.length + 1 + 3
    omega
  · funext b
    match b with
    | 0 =>
      show (if 0 = l.length + 3 then v else .inl (0, L, .inl xs)) = .inl (0, L, .inl xs)
      rw [if_neg (by omega)]
    | 1 =>
      show (if 1 = l.length + 3 then v else .inr (12, [])) = .inr (12, [])
      rw [if_neg (by omega)]
    | 2 =>
      show (if 2 = l.length + 3 then v else by8) = by8
      rw [if_neg (by omega)]
    | b + 3 =>
      show (if b + 3 = l.length + 3 then v else (l[b]?).getD by8) = ((l ++ [v])[b]?).getD by8
      by_cases e : b = l.length
      · rw [if_pos (by omega), e, List.getElem?_append_right (Nat.le_refl _), Nat.sub_self]
        rfl
      · rw [if_neg (by omega)]
        by_cases e2 : b < l.length
        · rw [List.getElem?_append_left e2]
        · rw [List.getElem?_eq_none (by omega), List.getElem?_eq_none (by rw [List.length_append]; show l.length + 1 ≤ b; omega)]
theorem hq_up (L : Nat) (xs : Nat → Int32) (s : Nat) {l : List ixC} {i : Nat} (hi : i < l.length) (v : ixC) : ix_up (hq L xs s l) (i + 3) v = hq L xs s (l.set i v) := by
  refine Prod.ext ?_ (Prod.ext rfl ?_)
  · show l.length + 3 = (l.set i v).length + 3
    rw [List.length_set]
  · funext b
    match b with
    | 0 =>
      show (if 0 = i + 3 then v else .inl (0, L, .inl xs)) = .inl (0, L, .inl xs)
      rw [if_neg (by omega)]
    | 1 =>
      show (if 1 = i + 3 then v else .inr (12, [])) = .inr (12, [])
      rw [if_neg (by omega)]
    | 2 =>
      show (if 2 = i + 3 then v else by8) = by8
      rw [if_neg (by omega)]
    | b + 3 =>
      show (if b + 3 = i + 3 then v else (l[b]?).getD by8) = ((l.set i v)[b]?).getD by8
      by_cases e : b = i
      · rw [if_pos (by omega), e, List.getElem?_set_self hi]
        rfl
      · rw [if_neg (by omega), List.getElem?_set_ne (fun q => e q.symm)]
theorem lt_get {α : Type} {l : List α} {i : Nat} {v : α} (h : l[i]? = some v) : i < l.length := by
  by_cases e : i < l.length
  · exact e
  · rw [List.getElem?_eq_none (by omega)] at h
    cases h
theorem hq_at {L : Nat} {xs : Nat → Int32} {s : Nat} {l : List ixC} {i : Nat} {v : ixC} (h : l[i]? = some v) : (hq L xs s l).2.2 (i + 3) = v := by
  show (l[i]?).getD by8 = v
  rw [h]
  rfl
theorem hq_pf {L : Nat} {xs : Nat → Int32} {s : Nat} {l : List ixC} {i ci k : Nat} {fs : List Value} (v : Value) (h : l[i]? = some (.inr (ci, fs))) (hk : k < fs.length) : ix_pf (hq L xs s l) (i + 3) ci k v = some (hq L xs s (l.set i (.inr (ci, fs.set k v)))) := by
  rw [pf_of (by omega) (by have := lt_get h; show i + 3 < l.length + 3; omega) (hq_at h) hk, hq_up L xs s (lt_get h)]
theorem ap_get {α : Type} (l m : List α) (p : Nat) : (l ++ m)[l.length + p]? = m[p]? := by
  rw [List.getElem?_append_right (by omega)]
  congr 1
  omega
theorem ap_set {α : Type} (v : α) : ∀ (l m : List α) (p : Nat), (l ++ m).set (l.length + p) v = l ++ m.set p v
  | [], m, p => by rw [List.nil_append, List.nil_append, show ([] : List α).length + p = p from Nat.zero_add p]
  | a :: l, m, p => by
    have e := ap_set v l m p
    show (a :: (l ++ m)).set (l.length + 1 + p) v = a :: (l ++ m.set p v)
    rw [show l.length + 1 + p = (l.length + p) + 1 by omega, ← e]
    rfl
/-- a field of the object that is being made -/
theorem sa_p {L : Nat} {xs : Nat → Int32} {s N : Nat} {l m : List ixC} {ci k : Nat} {fs : List Value} {v : Value} {K : ixH → Option (List Value × ixH)} {r : Option (List Value × ixH)} (fs' : List Value) (hn : l.length + 3 = N) (hk : k < fs.length) (hf : fs.set k v = fs') (rest : K (hq L xs s (l ++ (.inr (ci, fs') :: m))) = r) : (ix_pf (hq L xs s (l ++ (.inr (ci, fs) :: m))) N ci k v).bind K = r := by
  have e := hq_pf (L := L) (xs := xs) (s := s) (l := l ++ (.inr (ci, fs) :: m)) (i := l.length + 0) (ci := ci) (k := k) v (ap_get l _ 0) hk
  rw [ap_set, hf, Nat.add_zero, hn] at e
  rw [bO e]
  exact rest
theorem hq_1 {L : Nat} {xs : Nat → Int32} {s N : Nat} {l m : List ixC} (hn : l.length + 3 = N) : (hq L xs s (l ++ m)).1 = N + m.length := by
  show (l ++ m).length + 3 = _
  rw [List.length_append]
  omega
theorem hq_nw2 {L : Nat} {xs : Nat → Int32} {s : Nat} {l m : List ixC} {v : ixC} {k : Nat} : ix_nw (hq L xs s (l ++ m)) v k = hq L xs (s + k) (l ++ (m ++ [v])) := by
  rw [hq_nw, List.append_assoc]
/-- a new cell, kept in a field of the object that is being made -/
theorem sa_n {L : Nat} {xs : Nat → Int32} {s N : Nat} {l m : List ixC} {ci k sz : Nat} {fs : List Value} {c : ixC} {K : ixH → Option (List Value × ixH)} {r : Option (List Value × ixH)} (fs' : List Value) (m' : List ixC) (hn : l.length + 3 = N) (hk : k < fs.length) (hf : fs.set k (.ref (N + (m.length + 1))) = fs') (hm : m ++ [c] = m') (rest : K (hq L xs (s + sz) (l ++ (.inr (ci, fs') :: m'))) = r) : (ix_pf (ix_nw (hq L xs s (l ++ (.inr (ci, fs) :: m))) c sz) N ci k (.ref (hq L xs s (l ++ (.inr (ci, fs) :: m))).1)).bind K = r := by
  rw [hq_nw2, hq_1 hn]
  refine sa_p fs' hn hk hf ?_
  subst hm
  exact rest
/-- a constructor -/
def nwB (L : Nat) (xs : Nat → Int32) (mX ci k : Nat) (cX : Nat → List ixC) : Prop := ∀ (l : List ixC) (N s : Nat), l.length + 3 = N → ix_M mX [.ref N] (hq L xs s (l ++ [.inr (ci, ix_df ci)])) = some ([], hq L xs (s + k) (l ++ cX N))
theorem sa_new {L : Nat} {xs : Nat → Int32} {mX ci k : Nat} {cX : Nat → List ixC} (B : nwB L xs mX ci k cX) {s N n : Nat} {l m : List ixC} {K : ixH → Option (List Value × ixH)} {r : Option (List Value × ixH)} (s' : Nat) (m' : List ixC) (hn : l.length + 3 = N) (hN : N + m.length = n) (hs : s + ix_N ci + k = s') (hm : m ++ cX n = m') (rest : K (hq L xs s' (l ++ m')) = r) : ((ix_M mX [.ref (hq L xs s (l ++ m)).1] (ix_nw (hq L xs s (l ++ m)) (.inr (ci, ix_df ci)) (ix_N ci))).bind fun r => ix_kV r K) = r := by
  have e := B (l ++ m) n (s + ix_N ci) (by rw [List.length_append]; omega)
  rw [List.append_assoc l m (cX n), hm, hs] at e
  rw [hq_nw, hq_1 hn, hN, kV_of e]
  exact rest
theorem hq_rc {L : Nat} {xs : Nat → Int32} {s : Nat} {l : List ixC} {i ci : Nat} {fs : List Value} (h : l[i]? = some (.inr (ci, fs))) : ix_rc (hq L xs s l) (i + 3) = some ci := by
  have := lt_get h
  unfold ix_rc
  rw [if_neg (by omega), if_pos ⟨by omega, by show i + 3 < l.length + 3; omega⟩, hq_at h]
theorem hq_ob {L : Nat} {xs : Nat → Int32} {s : Nat} {l : List ixC} {i ci : Nat} {fs : List Value} (h : l[i]? = some (.inr (ci, fs))) : ix_ob (hq L xs s l) (i + 3) ci = some fs := by
  have := lt_get h
  unfold ix_ob
  rw [if_pos ⟨by omega, by show i + 3 < l.length + 3; omega⟩, hq_at h]
  exact if_pos rfl
theorem hq_ar {L : Nat} {xs : Nat → Int32} {s : Nat} {l : List ixC} {i t : Nat} {a : vp_A} (h : l[i]? = some (.inl (t, a))) : ix_ar (hq L xs s l) (i + 3) t = some a := by
  have := lt_get h
  unfold ix_ar
  rw [if_pos (by show i + 3 < l.length + 3; omega), hq_at h]
  exact if_pos rfl
/-- an object into a row of objects -/
theorem sa_q {L : Nat} {xs : Nat → Int32} {s N t A V p q n cv : Nat} {i : Int32} {l m : List ixC} {f : Nat → Option Nat} {fs : List Value} {K : ixH → Option (List Value × ixH)} {r : Option (List Value × ixH)} (m' : List ixC) (hn : l.length + 3 = N) (ht : (t = 4 ∧ cv = 3) ∨ (t = 5 ∧ cv = 1)) (hA : A = N + p) (hV : V = N + q) (h1 : m[p]? = some (.inl (t, n, .inr (.inr (.inr (.inr f)))))) (h2 : m[q]? = some (.inr (cv, fs))) (hi : ix_in i n = true) (hm : m.set p (.inl (t, n, .inr (.inr (.inr (.inr (va_up f i.toNatClampNeg (some (N + q)))))))) = m') (rest : K (hq L xs s (l ++ m')) = r) : (ix_sq (hq L xs s (l ++ m)) t A i V).bind K = r := by
  have a1 : (l ++ m)[l.length + p]? = some (.inl (t, n, .inr (.inr (.inr (.inr f))))) := by rw [ap_get]; exact h1
  have a2 : (l ++ m)[l.length + q]? = some (.inr (cv, fs)) := by rw [ap_get]; exact h2
  have e : ix_sq (hq L xs s (l ++ m)) t A i V = some (hq L xs s (l ++ m')) := by
    have e1 := hq_ar (L := L) (xs := xs) (s := s) a1
    have e2 := hq_rc (L := L) (xs := xs) (s := s) a2
    rw [show l.length + p + 3 = A by omega] at e1
    rw [show l.length + q + 3 = V by omega] at e2
    have hc : (ix_in i n && decide (3 ≤ V) && (decide (t = 4) && decide (ix_rc (hq L xs s (l ++ m)) V = some 3) || decide (t = 5) && decide (ix_rc (hq L xs s (l ++ m)) V = some 1))) = true := by
      rw [hi, e2, decide_eq_true (show 3 ≤ V by omega)]
      rcases ht with ⟨q1, q2⟩ | ⟨q1, q2⟩
      · rw [q1, q2]; rfl
      · rw [q1, q2]; rfl
    unfold ix_sq
    rw [if_pos (by omega), e1, Option.bind_some]
    refine (if_pos hc).trans ?_
    have u := hq_up L xs s (lt_get a1) (.inl (t, n, .inr (.inr (.inr (.inr (va_up f i.toNatClampNeg (some V)))))))
    rw [show l.length + p + 3 = A by omega, ap_set, hV, hm] at u
    rw [hV]
    exact congrArg some u
  rw [bO e]
  exact rest
theorem sa_e {L : Nat} {xs : Nat → Int32} {s s' : Nat} {l m m' : List ixC} (hs : s = s') (hm : m = m') : some (([] : List Value), hq L xs s (l ++ m)) = some ([], hq L xs s' (l ++ m')) := by rw [hs, hm]
theorem cl_f {f : Nat → Option Nat} {t n : Nat} {g : Nat → Option Nat} (h : ∀ i, f i = g i) : (Sum.inl (t, n, .inr (.inr (.inr (.inr f)))) : ixC) = .inl (t, n, .inr (.inr (.inr (.inr g)))) := by rw [funext h]
def cRt (N : Nat) : List ixC := [.inr (3, [.ref (N + 1), .int 0, .long 0]), .inl (0, 64, .inl fun _ => 0)]
theorem B_Rt (L : Nat) (xs : Nat → Int32) : nwB L xs mRt_init 3 64 cRt := by
  intro l N s hn
  refine x_Rt_init ?_
  rw [e_Rt_init]
  refine sa_n [.ref (N + 1), .int 0, .long 0] [.inl (0, 64, .inl fun _ => 0)] hn (Nat.le_of_ble_eq_true rfl) rfl rfl ?_
  refine sa_p [.ref (N + 1), .int 0, .long 0] hn (Nat.le_of_ble_eq_true rfl) rfl ?_
  refine sa_p [.ref (N + 1), .int 0, .long 0] hn (Nat.le_of_ble_eq_true rfl) rfl ?_
  exact sa_e (by omega) rfl
def cGr (N : Nat) : List ixC := [.inr (2, [.int 0, .int 0, .long 0, .long 0, .long 0, .long 0, .ref (N + 1), .ref (N + 2)]), .inl (1, 4, .inr (.inl fun _ => 0)), .inl (1, 4, .inr (.inl fun _ => 0))]
theorem B_Gr (L : Nat) (xs : Nat → Int32) : nwB L xs mGr_init 2 8 cGr := by
  intro l N s hn
  refine x_Gr_init ?_
  rw [e_Gr_init]
  refine sa_p [.int 0, .int 0, .long 0, .long 0, .long 0, .long 0, .null, .null] hn (Nat.le_of_ble_eq_true rfl) rfl ?_
  refine sa_p [.int 0, .int 0, .long 0, .long 0, .long 0, .long 0, .null, .null] hn (Nat.le_of_ble_eq_true rfl) rfl ?_
  refine sa_p [.int 0, .int 0, .long 0, .long 0, .long 0, .long 0, .null, .null] hn (Nat.le_of_ble_eq_true rfl) rfl ?_
  refine sa_p [.int 0, .int 0, .long 0, .long 0, .long 0, .long 0, .null, .null] hn (Nat.le_of_ble_eq_true rfl) rfl ?_
  refine sa_p [.int 0, .int 0, .long 0, .long 0, .long 0, .long 0, .null, .null] hn (Nat.le_of_ble_eq_true rfl) rfl ?_
  refine sa_p [.int 0, .int 0, .long 0, .long 0, .long 0, .long 0, .null, .null] hn (Nat.le_of_ble_eq_true rfl) rfl ?_
  refine sa_n [.int 0, .int 0, .long 0, .long 0, .long 0, .long 0, .ref (N + 1), .null] [.inl (1, 4, .inr (.inl fun _ => 0))] hn (Nat.le_of_ble_eq_true rfl) rfl rfl ?_
  refine sa_n [.int 0, .int 0, .long 0, .long 0, .long 0, .long 0, .ref (N + 1), .ref (N + 2)] [.inl (1, 4, .inr (.inl fun _ => 0)), .inl (1, 4, .inr (.inl fun _ => 0))] hn (Nat.le_of_ble_eq_true rfl) rfl rfl ?_
  exact sa_e (by omega) rfl
def cPa (N : Nat) : List ixC := [.inr (4, [.ref (N + 1), .int 0]), .inl (0, 80, .inl fun _ => 0)]
theorem B_Pa (L : Nat) (xs : Nat → Int32) : nwB L xs mPa_init 4 80 cPa := by
  intro l N s hn
  refine x_Pa_init ?_
  rw [e_Pa_init]
  refine sa_n [.ref (N + 1), .int 0] [.inl (0, 80, .inl fun _ => 0)] hn (Nat.le_of_ble_eq_true rfl) rfl rfl ?_
  refine sa_p [.ref (N + 1), .int 0] hn (Nat.le_of_ble_eq_true rfl) rfl ?_
  exact sa_e (by omega) rfl
def cDe (N : Nat) : List ixC := [.inr (5, [.ref (N + 1), .ref (N + 2), .ref (N + 3)]), .inl (1, 64, .inr (.inl fun _ => 0)), .inl (1, 16, .inr (.inl fun _ => 0)), .inl (1, 16, .inr (.inl fun _ => 0))]
theorem B_De (L : Nat) (xs : Nat → Int32) : nwB L xs mDe_init 5 96 cDe := by
  intro l N s hn
  refine x_De_init ?_
  rw [e_De_init]
  refine sa_n [.ref (N + 1), .null, .null] [.inl (1, 64, .inr (.inl fun _ => 0))] hn (Nat.le_of_ble_eq_true rfl) rfl rfl ?_
  refine sa_n [.ref (N + 1), .ref (N + 2), .null] [.inl (1, 64, .inr (.inl fun _ => 0)), .inl (1, 16, .inr (.inl fun _ => 0))] hn (Nat.le_of_ble_eq_true rfl) rfl rfl ?_
  refine sa_n [.ref (N + 1), .ref (N + 2), .ref (N + 3)] [.inl (1, 64, .inr (.inl fun _ => 0)), .inl (1, 16, .inr (.inl fun _ => 0)), .inl (1, 16, .inr (.inl fun _ => 0))] hn (Nat.le_of_ble_eq_true rfl) rfl rfl ?_
  exact sa_e (by omega) rfl
def cWk (N : Nat) : List ixC := [.inr (6, [.ref (N + 1)]), .inl (1, 64, .inr (.inl fun _ => 0))]
theorem B_Wk (L : Nat) (xs : Nat → Int32) : nwB L xs mWk_init 6 64 cWk := by
  intro l N s hn
  refine x_Wk_init ?_
  rw [e_Wk_init]
  refine sa_n [.ref (N + 1)] [.inl (1, 64, .inr (.inl fun _ => 0))] hn (Nat.le_of_ble_eq_true rfl) rfl rfl ?_
  exact sa_e (by omega) rfl
def cSm (N : Nat) : List ixC := [.inr (7, [.ref (N + 1), .long 0, .long 0, .long 0, .long 0, .long 0, .long 0, .long 0, .long 0, .long 0, .long 0]), .inl (1, 64, .inr (.inl fun _ => 0))]
theorem B_Sm (L : Nat) (xs : Nat → Int32) : nwB L xs mSm_init 7 64 cSm := by
  intro l N s hn
  refine x_Sm_init ?_
  rw [e_Sm_init]
  refine sa_n [.ref (N + 1), .long 0, .long 0, .long 0, .long 0, .long 0, .long 0, .long 0, .long 0, .long 0, .long 0] [.inl (1, 64, .inr (.inl fun _ => 0))] hn (Nat.le_of_ble_eq_true rfl) rfl rfl ?_
  refine sa_p [.ref (N + 1), .long 0, .long 0, .long 0, .long 0, .long 0, .long 0, .long 0, .long 0, .long 0, .long 0] hn (Nat.le_of_ble_eq_true rfl) rfl ?_
  refine sa_p [.ref (N + 1), .long 0, .long 0, .long 0, .long 0, .long 0, .long 0, .long 0, .long 0, .long 0, .long 0] hn (Nat.le_of_ble_eq_true rfl) rfl ?_
  refine sa_p [.ref (N + 1), .long 0, .long 0, .long 0, .long 0, .long 0, .long 0, .long 0, .long 0, .long 0, .long 0] hn (Nat.le_of_ble_eq_true rfl) rfl ?_
  refine sa_p [.ref (N + 1), .long 0, .long 0, .long 0, .long 0, .long 0, .long 0, .long 0, .long 0, .long 0, .long 0] hn (Nat.le_of_ble_eq_true rfl) rfl ?_
  refine sa_p [.ref (N + 1), .long 0, .long 0, .long 0, .long 0, .long 0, .long 0, .long 0, .long 0, .long 0, .long 0] hn (Nat.le_of_ble_eq_true rfl) rfl ?_
  refine sa_p [.ref (N + 1), .long 0, .long 0, .long 0, .long 0, .long 0, .long 0, .long 0, .long 0, .long 0, .long 0] hn (Nat.le_of_ble_eq_true rfl) rfl ?_
  refine sa_p [.ref (N + 1), .long 0, .long 0, .long 0, .long 0, .long 0, .long 0, .long 0, .long 0, .long 0, .long 0] hn (Nat.le_of_ble_eq_true rfl) rfl ?_
  refine sa_p [.ref (N + 1), .long 0, .long 0, .long 0, .long 0, .long 0, .long 0, .long 0, .long 0, .long 0, .long 0] hn (Nat.le_of_ble_eq_true rfl) rfl ?_
  refine sa_p [.ref (N + 1), .long 0, .long 0, .long 0, .long 0, .long 0, .long 0, .long 0, .long 0, .long 0, .long 0] hn (Nat.le_of_ble_eq_true rfl) rfl ?_
  refine sa_p [.ref (N + 1), .long 0, .long 0, .long 0, .long 0, .long 0, .long 0, .long 0, .long 0, .long 0, .long 0] hn (Nat.le_of_ble_eq_true rfl) rfl ?_
  exact sa_e (by omega) rfl
def cCh (N : Nat) : List ixC := [.inr (8, [.ref (N + 1), .ref (N + 2), .ref (N + 3), .ref (N + 4), .ref (N + 5), .long 0, .long 0]), .inl (1, 64, .inr (.inl fun _ => 0)), .inl (0, 64, .inl fun _ => 0), .inl (0, 64, .inl fun _ => 0), .inl (0, 64, .inl fun _ => 0), .inl (0, 64, .inl fun _ => 0)]
theorem B_Ch (L : Nat) (xs : Nat → Int32) : nwB L xs mCh_init 8 320 cCh := by
  intro l N s hn
  refine x_Ch_init ?_
  rw [e_Ch_init]
  refine sa_n [.ref (N + 1), .null, .null, .null, .null, .long 0, .long 0] [.inl (1, 64, .inr (.inl fun _ => 0))] hn (Nat.le_of_ble_eq_true rfl) rfl rfl ?_
  refine sa_n [.ref (N + 1), .ref (N + 2), .null, .null, .null, .long 0, .long 0] [.inl (1, 64, .inr (.inl fun _ => 0)), .inl (0, 64, .inl fun _ => 0)] hn (Nat.le_of_ble_eq_true rfl) rfl rfl ?_
  refine sa_n [.ref (N + 1), .ref (N + 2), .ref (N + 3), .null, .null, .long 0, .long 0] [.inl (1, 64, .inr (.inl fun _ => 0)), .inl (0, 64, .inl fun _ => 0), .inl (0, 64, .inl fun _ => 0)] hn (Nat.le_of_ble_eq_true rfl) rfl rfl ?_
  refine sa_n [.ref (N + 1), .ref (N + 2), .ref (N + 3), .ref (N + 4), .null, .long 0, .long 0] [.inl (1, 64, .inr (.inl fun _ => 0)), .inl (0, 64, .inl fun _ => 0), .inl (0, 64, .inl fun _ => 0), .inl (0, 64, .inl fun _ => 0)] hn (Nat.le_of_ble_eq_true rfl) rfl rfl ?_
  refine sa_n [.ref (N + 1), .ref (N + 2), .ref (N + 3), .ref (N + 4), .ref (N + 5), .long 0, .long 0] [.inl (1, 64, .inr (.inl fun _ => 0)), .inl (0, 64, .inl fun _ => 0), .inl (0, 64, .inl fun _ => 0), .inl (0, 64, .inl fun _ => 0), .inl (0, 64, .inl fun _ => 0)] hn (Nat.le_of_ble_eq_true rfl) rfl rfl ?_
  refine sa_p [.ref (N + 1), .ref (N + 2), .ref (N + 3), .ref (N + 4), .ref (N + 5), .long 0, .long 0] hn (Nat.le_of_ble_eq_true rfl) rfl ?_
  refine sa_p [.ref (N + 1), .ref (N + 2), .ref (N + 3), .ref (N + 4), .ref (N + 5), .long 0, .long 0] hn (Nat.le_of_ble_eq_true rfl) rfl ?_
  exact sa_e (by omega) rfl
theorem nN_1 : ix_N 1 = 5 := rfl
theorem nN_2 : ix_N 2 = 8 := rfl
theorem nN_3 : ix_N 3 = 3 := rfl
theorem nN_4 : ix_N 4 = 2 := rfl
theorem nN_5 : ix_N 5 = 3 := rfl
theorem nN_6 : ix_N 6 = 1 := rfl
theorem nN_7 : ix_N 7 = 11 := rfl
theorem nN_8 : ix_N 8 = 7 := rfl
theorem nN_0 : ix_N 0 = 10 := rfl
def cBdL (N : Nat) : List ixC := [.inr (1, [.ref (N + 1), .ref (N + 4), .ref (N + 15), .ref (N + 16), .int 0]), .inr (2, [.int 0, .int 0, .long 0, .long 0, .long 0, .long 0, .ref (N + 2), .ref (N + 3)]), .inl (1, 4, .inr (.inl fun _ => 0)), .inl (1, 4, .inr (.inl fun _ => 0)), .inl (4, 5, .inr (.inr (.inr (.inr (fun i => (([(2, N + 5), (2, N + 7), (2, N + 9), (2, N + 11), (2, N + 13)] : List (Nat × Nat))[i]?).map fun x => x.2))))), .inr (3, [.ref (N + 6), .int 0, .long 0]), .inl (0, 64, .inl fun _ => 0), .inr (3, [.ref (N + 8), .int 0, .long 0]), .inl (0, 64, .inl fun _ => 0), .inr (3, [.ref (N + 10), .int 0, .long 0]), .inl (0, 64, .inl fun _ => 0), .inr (3, [.ref (N + 12), .int 0, .long 0]), .inl (0, 64, .inl fun _ => 0), .inr (3, [.ref (N + 14), .int 0, .long 0]), .inl (0, 64, .inl fun _ => 0), .inl (0, 4, .inl fun _ => 0), .inl (0, 4, .inl fun _ => 0)]
theorem rw_5 (a b c d e : Nat) (i : Nat) : va_up (va_up (va_up (va_up (va_up (fun _ => none) 0 (some a)) 1 (some b)) 2 (some c)) 3 (some d)) 4 (some e) i = (([(2, a), (2, b), (2, c), (2, d), (2, e)] : List (Nat × Nat))[i]?).map fun x => x.2 := by
  match i with
  | 0 => rfl
  | 1 => rfl
  | 2 => rfl
  | 3 => rfl
  | 4 => rfl
  | i + 5 => rfl
theorem rw_2 (a b : Nat) (i : Nat) : va_up (va_up (fun _ => none) 0 (some a)) 1 (some b) i = (([(2, a), (2, b)] : List (Nat × Nat))[i]?).map fun x => x.2 := by
  match i with
  | 0 => rfl
  | 1 => rfl
  | i + 2 => rfl
theorem B_Bd (L : Nat) (xs : Nat → Int32) : nwB L xs mBd_init 1 364 cBdL := by
  intro l N s hn
  refine x_Bd_init ?_
  rw [e_Bd_init]
  refine sa_new (B_Gr L xs) (n := N + 1) (s + 16) [.inr (1, [.null, .null, .null, .null, .int 0]), .inr (2, [.int 0, .int 0, .long 0, .long 0, .long 0, .long 0, .ref (N + 2), .ref (N + 3)]), .inl (1, 4, .inr (.inl fun _ => 0)), .inl (1, 4, .inr (.inl fun _ => 0))] hn rfl (by have q := nN_2; omega) rfl ?_
  rw [hq_1 hn]
  refine sa_p [.ref (N + 1), .null, .null, .null, .int 0] hn (Nat.le_of_ble_eq_true rfl) rfl ?_
  rw [hq_nw2]
  refine sa_new (B_Rt L xs) (n := N + 5) (s + 88) [.inr (1, [.ref (N + 1), .null, .null, .null, .int 0]), .inr (2, [.int 0, .int 0, .long 0, .long 0, .long 0, .long 0, .ref (N + 2), .ref (N + 3)]), .inl (1, 4, .inr (.inl fun _ => 0)), .inl (1, 4, .inr (.inl fun _ => 0)), .inl (4, 5, .inr (.inr (.inr (.inr (fun _ => none))))), .inr (3, [.ref (N + 6), .int 0, .long 0]), .inl (0, 64, .inl fun _ => 0)] hn rfl (by have q := nN_3; omega) rfl ?_
  refine sa_q (p := 4) (q := 5) [.inr (1, [.ref (N + 1), .null, .null, .null, .int 0]), .inr (2, [.int 0, .int 0, .long 0, .long 0, .long 0, .long 0, .ref (N + 2), .ref (N + 3)]), .inl (1, 4, .inr (.inl fun _ => 0)), .inl (1, 4, .inr (.inl fun _ => 0)), .inl (4, 5, .inr (.inr (.inr (.inr (va_up (fun _ => none) 0 (some (N + 5))))))), .inr (3, [.ref (N + 6), .int 0, .long 0]), .inl (0, 64, .inl fun _ => 0)] hn (.inl ⟨rfl, rfl⟩) (hq_1 hn) (hq_1 hn) rfl rfl rfl rfl ?_
  refine sa_new (B_Rt L xs) (n := N + 7) (s + 155) [.inr (1, [.ref (N + 1), .null, .null, .null, .int 0]), .inr (2, [.int 0, .int 0, .long 0, .long 0, .long 0, .long 0, .ref (N + 2), .ref (N + 3)]), .inl (1, 4, .inr (.inl fun _ => 0)), .inl (1, 4, .inr (.inl fun _ => 0)), .inl (4, 5, .inr (.inr (.inr (.inr (va_up (fun _ => none) 0 (some (N + 5))))))), .inr (3, [.ref (N + 6), .int 0, .long 0]), .inl (0, 64, .inl fun _ => 0), .inr (3, [.ref (N + 8), .int 0, .long 0]), .inl (0, 64, .inl fun _ => 0)] hn rfl (by have q := nN_3; omega) rfl ?_
  refine sa_q (p := 4) (q := 7) [.inr (1, [.ref (N + 1), .null, .null, .null, .int 0]), .inr (2, [.int 0, .int 0, .long 0, .long 0, .long 0, .long 0, .ref (N + 2), .ref (N + 3)]), .inl (1, 4, .inr (.inl fun _ => 0)), .inl (1, 4, .inr (.inl fun _ => 0)), .inl (4, 5, .inr (.inr (.inr (.inr (va_up (va_up (fun _ => none) 0 (some (N + 5))) 1 (some (N + 7))))))), .inr (3, [.ref (N + 6), .int 0, .long 0]), .inl (0, 64, .inl fun _ => 0), .inr (3, [.ref (N + 8), .int 0, .long 0]), .inl (0, 64, .inl fun _ => 0)] hn (.inl ⟨rfl, rfl⟩) (hq_1 hn) (hq_1 hn) rfl rfl rfl rfl ?_
  refine sa_new (B_Rt L xs) (n := N + 9) (s + 222) [.inr (1, [.ref (N + 1), .null, .null, .null, .int 0]), .inr (2, [.int 0, .int 0, .long 0, .long 0, .long 0, .long 0, .ref (N + 2), .ref (N + 3)]), .inl (1, 4, .inr (.inl fun _ => 0)), .inl (1, 4, .inr (.inl fun _ => 0)), .inl (4, 5, .inr (.inr (.inr (.inr (va_up (va_up (fun _ => none) 0 (some (N + 5))) 1 (some (N + 7))))))), .inr (3, [.ref (N + 6), .int 0, .long 0]), .inl (0, 64, .inl fun _ => 0), .inr (3, [.ref (N + 8), .int 0, .long 0]), .inl (0, 64, .inl fun _ => 0), .inr (3, [.ref (N + 10), .int 0, .long 0]), .inl (0, 64, .inl fun _ => 0)] hn rfl (by have q := nN_3; omega) rfl ?_
  refine sa_q (p := 4) (q := 9) [.inr (1, [.ref (N + 1), .null, .null, .null, .int 0]), .inr (2, [.int 0, .int 0, .long 0, .long 0, .long 0, .long 0, .ref (N + 2), .ref (N + 3)]), .inl (1, 4, .inr (.inl fun _ => 0)), .inl (1, 4, .inr (.inl fun _ => 0)), .inl (4, 5, .inr (.inr (.inr (.inr (va_up (va_up (va_up (fun _ => none) 0 (some (N + 5))) 1 (some (N + 7))) 2 (some (N + 9))))))), .inr (3, [.ref (N + 6), .int 0, .long 0]), .inl (0, 64, .inl fun _ => 0), .inr (3, [.ref (N + 8), .int 0, .long 0]), .inl (0, 64, .inl fun _ => 0), .inr (3, [.ref (N + 10), .int 0, .long 0]), .inl (0, 64, .inl fun _ => 0)] hn (.inl ⟨rfl, rfl⟩) (hq_1 hn) (hq_1 hn) rfl rfl rfl rfl ?_
  refine sa_new (B_Rt L xs) (n := N + 11) (s + 289) [.inr (1, [.ref (N + 1), .null, .null, .null, .int 0]), .inr (2, [.int 0, .int 0, .long 0, .long 0, .long 0, .long 0, .ref (N + 2), .ref (N + 3)]), .inl (1, 4, .inr (.inl fun _ => 0)), .inl (1, 4, .inr (.inl fun _ => 0)), .inl (4, 5, .inr (.inr (.inr (.inr (va_up (va_up (va_up (fun _ => none) 0 (some (N + 5))) 1 (some (N + 7))) 2 (some (N + 9))))))), .inr (3, [.ref (N + 6), .int 0, .long 0]), .inl (0, 64, .inl fun _ => 0), .inr (3, [.ref (N + 8), .int 0, .long 0]), .inl (0, 64, .inl fun _ => 0), .inr (3, [.ref (N + 10), .int 0, .long 0]), .inl (0, 64, .inl fun _ => 0), .inr (3, [.ref (N + 12), .int 0, .long 0]), .inl (0, 64, .inl fun _ => 0)] hn rfl (by have q := nN_3; omega) rfl ?_
  refine sa_q (p := 4) (q := 11) [.inr (1, [.ref (N + 1), .null, .null, .null, .int 0]), .inr (2, [.int 0, .int 0, .long 0, .long 0, .long 0, .long 0, .ref (N + 2), .ref (N + 3)]), .inl (1, 4, .inr (.inl fun _ => 0)), .inl (1, 4, .inr (.inl fun _ => 0)), .inl (4, 5, .inr (.inr (.inr (.inr (va_up (va_up (va_up (va_up (fun _ => none) 0 (some (N + 5))) 1 (some (N + 7))) 2 (some (N + 9))) 3 (some (N + 11))))))), .inr (3, [.ref (N + 6), .int 0, .long 0]), .inl (0, 64, .inl fun _ => 0), .inr (3, [.ref (N + 8), .int 0, .long 0]), .inl (0, 64, .inl fun _ => 0), .inr (3, [.ref (N + 10), .int 0, .long 0]), .inl (0, 64, .inl fun _ => 0), .inr (3, [.ref (N + 12), .int 0, .long 0]), .inl (0, 64, .inl fun _ => 0)] hn (.inl ⟨rfl, rfl⟩) (hq_1 hn) (hq_1 hn) rfl rfl rfl rfl ?_
  refine sa_new (B_Rt L xs) (n := N + 13) (s + 356) [.inr (1, [.ref (N + 1), .null, .null, .null, .int 0]), .inr (2, [.int 0, .int 0, .long 0, .long 0, .long 0, .long 0, .ref (N + 2), .ref (N + 3)]), .inl (1, 4, .inr (.inl fun _ => 0)), .inl (1, 4, .inr (.inl fun _ => 0)), .inl (4, 5, .inr (.inr (.inr (.inr (va_up (va_up (va_up (va_up (fun _ => none) 0 (some (N + 5))) 1 (some (N + 7))) 2 (some (N + 9))) 3 (some (N + 11))))))), .inr (3, [.ref (N + 6), .int 0, .long 0]), .inl (0, 64, .inl fun _ => 0), .inr (3, [.ref (N + 8), .int 0, .long 0]), .inl (0, 64, .inl fun _ => 0), .inr (3, [.ref (N + 10), .int 0, .long 0]), .inl (0, 64, .inl fun _ => 0), .inr (3, [.ref (N + 12), .int 0, .long 0]), .inl (0, 64, .inl fun _ => 0), .inr (3, [.ref (N + 14), .int 0, .long 0]), .inl (0, 64, .inl fun _ => 0)] hn rfl (by have q := nN_3; omega) rfl ?_
  refine sa_q (p := 4) (q := 13) [.inr (1, [.ref (N + 1), .null, .null, .null, .int 0]), .inr (2, [.int 0, .int 0, .long 0, .long 0, .long 0, .long 0, .ref (N + 2), .ref (N + 3)]), .inl (1, 4, .inr (.inl fun _ => 0)), .inl (1, 4, .inr (.inl fun _ => 0)), .inl (4, 5, .inr (.inr (.inr (.inr (va_up (va_up (va_up (va_up (va_up (fun _ => none) 0 (some (N + 5))) 1 (some (N + 7))) 2 (some (N + 9))) 3 (some (N + 11))) 4 (some (N + 13))))))), .inr (3, [.ref (N + 6), .int 0, .long 0]), .inl (0, 64, .inl fun _ => 0), .inr (3, [.ref (N + 8), .int 0, .long 0]), .inl (0, 64, .inl fun _ => 0), .inr (3, [.ref (N + 10), .int 0, .long 0]), .inl (0, 64, .inl fun _ => 0), .inr (3, [.ref (N + 12), .int 0, .long 0]), .inl (0, 64, .inl fun _ => 0), .inr (3, [.ref (N + 14), .int 0, .long 0]), .inl (0, 64, .inl fun _ => 0)] hn (.inl ⟨rfl, rfl⟩) (hq_1 hn) (hq_1 hn) rfl rfl rfl rfl ?_
  rw [hq_1 hn]
  refine sa_p [.ref (N + 1), .ref (N + 4), .null, .null, .int 0] hn (Nat.le_of_ble_eq_true rfl) rfl ?_
  refine sa_n [.ref (N + 1), .ref (N + 4), .ref (N + 15), .null, .int 0] [.inr (2, [.int 0, .int 0, .long 0, .long 0, .long 0, .long 0, .ref (N + 2), .ref (N + 3)]), .inl (1, 4, .inr (.inl fun _ => 0)), .inl (1, 4, .inr (.inl fun _ => 0)), .inl (4, 5, .inr (.inr (.inr (.inr (va_up (va_up (va_up (va_up (va_up (fun _ => none) 0 (some (N + 5))) 1 (some (N + 7))) 2 (some (N + 9))) 3 (some (N + 11))) 4 (some (N + 13))))))), .inr (3, [.ref (N + 6), .int 0, .long 0]), .inl (0, 64, .inl fun _ => 0), .inr (3, [.ref (N + 8), .int 0, .long 0]), .inl (0, 64, .inl fun _ => 0), .inr (3, [.ref (N + 10), .int 0, .long 0]), .inl (0, 64, .inl fun _ => 0), .inr (3, [.ref (N + 12), .int 0, .long 0]), .inl (0, 64, .inl fun _ => 0), .inr (3, [.ref (N + 14), .int 0, .long 0]), .inl (0, 64, .inl fun _ => 0), .inl (0, 4, .inl fun _ => 0)] hn (Nat.le_of_ble_eq_true rfl) rfl rfl ?_
  refine sa_n [.ref (N + 1), .ref (N + 4), .ref (N + 15), .ref (N + 16), .int 0] [.inr (2, [.int 0, .int 0, .long 0, .long 0, .long 0, .long 0, .ref (N + 2), .ref (N + 3)]), .inl (1, 4, .inr (.inl fun _ => 0)), .inl (1, 4, .inr (.inl fun _ => 0)), .inl (4, 5, .inr (.inr (.inr (.inr (va_up (va_up (va_up (va_up (va_up (fun _ => none) 0 (some (N + 5))) 1 (some (N + 7))) 2 (some (N + 9))) 3 (some (N + 11))) 4 (some (N + 13))))))), .inr (3, [.ref (N + 6), .int 0, .long 0]), .inl (0, 64, .inl fun _ => 0), .inr (3, [.ref (N + 8), .int 0, .long 0]), .inl (0, 64, .inl fun _ => 0), .inr (3, [.ref (N + 10), .int 0, .long 0]), .inl (0, 64, .inl fun _ => 0), .inr (3, [.ref (N + 12), .int 0, .long 0]), .inl (0, 64, .inl fun _ => 0), .inr (3, [.ref (N + 14), .int 0, .long 0]), .inl (0, 64, .inl fun _ => 0), .inl (0, 4, .inl fun _ => 0), .inl (0, 4, .inl fun _ => 0)] hn (Nat.le_of_ble_eq_true rfl) rfl rfl ?_
  refine sa_p [.ref (N + 1), .ref (N + 4), .ref (N + 15), .ref (N + 16), .int 0] hn (Nat.le_of_ble_eq_true rfl) rfl ?_
  refine sa_e (by omega) ?_
  unfold cBdL
  rw [cl_f (rw_5 (N + 5) (N + 7) (N + 9) (N + 11) (N + 13))]
