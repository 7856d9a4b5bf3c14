/-! ROUTES: lists, and the class's routes -/
theorem tk_succ : ∀ (l : List Nat) (k : Nat), k < l.length → l.take (k + 1) = l.take k ++ [l.getD k 0]
  | [], k, h => absurd h (Nat.not_lt_zero k)
  | a :: l, 0, _ => rfl
  | a :: l, k + 1, h => by
    show a :: l.take (k + 1) = a :: (l.take k ++ [l.getD k 0])
    rw [tk_succ l k (Nat.lt_of_succ_lt_succ h)]
theorem gd_app_l : ∀ (l x : List Nat) (k : Nat), k < l.length → (l ++ x).getD k 0 = l.getD k 0
  | [], x, k, h => absurd h (Nat.not_lt_zero k)
  | a :: l, x, 0, _ => rfl
  | a :: l, x, k + 1, h => gd_app_l l x k (Nat.lt_of_succ_lt_succ h)
theorem gd_app_r : ∀ (l x : List Nat) (k : Nat), (l ++ x).getD (l.length + k) 0 = x.getD k 0
  | [], x, k => by rw [List.length_nil, Nat.zero_add]; rfl
  | a :: l, x, k => by
    rw [List.length_cons, show l.length + 1 + k = (l.length + k) + 1 by omega]
    exact gd_app_r l x k
theorem gd_take : ∀ (l : List Nat) (m k : Nat), k < m → (l.take m).getD k 0 = l.getD k 0
  | l, 0, k, h => absurd h (Nat.not_lt_zero k)
  | [], m + 1, k, h => rfl
  | a :: l, m + 1, 0, h => rfl
  | a :: l, m + 1, k + 1, h => gd_take l m k (Nat.lt_of_succ_lt_succ h)
theorem gd_drop : ∀ (l : List Nat) (m k : Nat), (l.drop m).getD k 0 = l.getD (m + k) 0
  | l, 0, k => by rw [Nat.zero_add]; rfl
  | [], m + 1, k => rfl
  | a :: l, m + 1, k => by
    rw [show m + 1 + k = (m + k) + 1 by omega]
    exact gd_drop l m k
theorem gd_mem : ∀ (l : List Nat) (k : Nat), k < l.length → l.getD k 0 ∈ l
  | [], k, h => absurd h (Nat.not_lt_zero k)
  | a :: l, 0, _ => List.mem_cons_self
  | a :: l, k + 1, h => List.mem_cons_of_mem a (gd_mem l k (Nat.lt_of_succ_lt_succ h))
theorem mem_gd : ∀ (l : List Nat) (x : Nat), x ∈ l → ∃ k, k < l.length ∧ l.getD k 0 = x
  | [], x, h => by cases h
  | a :: l, x, h => by
    rcases List.mem_cons.mp h with h | h
    · exact ⟨0, Nat.succ_pos _, h.symm⟩
    · obtain ⟨k, h1, h2⟩ := mem_gd l x h
      exact ⟨k + 1, Nat.succ_lt_succ h1, h2⟩
theorem nd_gd : ∀ (l : List Nat), l.Nodup → ∀ i j, i < j → j < l.length → ¬ l.getD i 0 = l.getD j 0
  | [], _, i, j, _, h => absurd h (Nat.not_lt_zero j)
  | a :: l, hn, i, 0, h, _ => absurd h (Nat.not_lt_zero i)
  | a :: l, hn, 0, j + 1, _, h => by
    have h1 : l.getD j 0 ∈ l := gd_mem l j (Nat.lt_of_succ_lt_succ h)
    have h2 := (List.nodup_cons.mp hn).1
    intro e
    have e2 : a = l.getD j 0 := e
    exact h2 (by rw [e2]; exact h1)
  | a :: l, hn, i + 1, j + 1, h, h2 => nd_gd l (List.nodup_cons.mp hn).2 i j (Nat.lt_of_succ_lt_succ h) (Nat.lt_of_succ_lt_succ h2)
theorem gd_nd : ∀ (l : List Nat), (∀ i j, i < j → j < l.length → ¬ l.getD i 0 = l.getD j 0) → l.Nodup
  | [], _ => List.nodup_nil
  | a :: l, h => by
    refine List.nodup_cons.mpr ⟨?_, gd_nd l (fun i j h1 h2 => h (i + 1) (j + 1) (Nat.succ_lt_succ h1) (Nat.succ_lt_succ h2))⟩
    intro hm
    obtain ⟨k, h1, h2⟩ := mem_gd l a hm
    exact h 0 (k + 1) (Nat.succ_pos _) (Nat.succ_lt_succ h1) h2.symm
/-- a list of different numbers below n is no longer than n -/
theorem nd_len {l : List Nat} {n : Nat} (hn : l.Nodup) (h : ∀ c, c ∈ l → c < n) : l.length ≤ n := fb_holes n l.length (fun i => l.getD i 0) (fun i hi => h _ (gd_mem l i hi)) (fun i j h1 h2 => nd_gd l hn i j h1 h2)
/-- all below n -/
def allB (p : Nat → Bool) : Nat → Bool
  | 0 => true
  | n + 1 => allB p n && p n
theorem allB_iff (p : Nat → Bool) : ∀ n, allB p n = true ↔ ∀ k, k < n → p k = true
  | 0 => ⟨fun _ k h => absurd h (Nat.not_lt_zero k), fun _ => rfl⟩
  | n + 1 => by
    unfold allB
    rw [Bool.and_eq_true, allB_iff p n]
    constructor
    · intro h k hk
      rcases Nat.lt_or_ge k n with q | q
      · exact h.1 k q
      · have e : k = n := by omega
        rw [e]; exact h.2
    · intro h
      exact ⟨fun k hk => h k (by omega), h n (by omega)⟩
theorem allB_f {p : Nat → Bool} {k n : Nat} (hk : k < n) (h : p k = false) : allB p n = false := by
  cases q : allB p n with
  | false => rfl
  | true =>
    have := (allB_iff p n).mp q k hk
    rw [h] at this
    cases this
theorem allB_cong {p q : Nat → Bool} : ∀ {n : Nat}, (∀ k, k < n → p k = q k) → allB p n = allB q n
  | 0, _ => rfl
  | n + 1, h => by
    unfold allB
    rw [allB_cong (fun k hk => h k (by omega)), h n (by omega)]
/-! addresses of routes -/
def rtA (r : Nat) : Prop := 3 ≤ r ∧ r + 1 < 102 ∧ ∀ c, sp_sh c r = (13, 0, [(2, r + 1), (0, 0), (1, 0)]) ∧ sp_sh c (r + 1) = (0, 64, [])
theorem rtA_4 {s : Nat} (hs : s < 5) : rtA (9 + 2 * s) := by
  rcases (show s = 0 ∨ s = 1 ∨ s = 2 ∨ s = 3 ∨ s = 4 by omega) with rfl | rfl | rfl | rfl | rfl
  · exact ⟨by omega, by omega, fun c => ⟨sh_9 c, sh_10 c⟩⟩
  · exact ⟨by omega, by omega, fun c => ⟨sh_11 c, sh_12 c⟩⟩
  · exact ⟨by omega, by omega, fun c => ⟨sh_13 c, sh_14 c⟩⟩
  · exact ⟨by omega, by omega, fun c => ⟨sh_15 c, sh_16 c⟩⟩
  · exact ⟨by omega, by omega, fun c => ⟨sh_17 c, sh_18 c⟩⟩
theorem rtA_22 {s : Nat} (hs : s < 5) : rtA (27 + 2 * s) := by
  rcases (show s = 0 ∨ s = 1 ∨ s = 2 ∨ s = 3 ∨ s = 4 by omega) with rfl | rfl | rfl | rfl | rfl
  · exact ⟨by omega, by omega, fun c => ⟨sh_27 c, sh_28 c⟩⟩
  · exact ⟨by omega, by omega, fun c => ⟨sh_29 c, sh_30 c⟩⟩
  · exact ⟨by omega, by omega, fun c => ⟨sh_31 c, sh_32 c⟩⟩
  · exact ⟨by omega, by omega, fun c => ⟨sh_33 c, sh_34 c⟩⟩
  · exact ⟨by omega, by omega, fun c => ⟨sh_35 c, sh_36 c⟩⟩
theorem rtA_39 {s : Nat} (hs : s < 5) : rtA (44 + 2 * s) := by
  rcases (show s = 0 ∨ s = 1 ∨ s = 2 ∨ s = 3 ∨ s = 4 by omega) with rfl | rfl | rfl | rfl | rfl
  · exact ⟨by omega, by omega, fun c => ⟨sh_44 c, sh_45 c⟩⟩
  · exact ⟨by omega, by omega, fun c => ⟨sh_46 c, sh_47 c⟩⟩
  · exact ⟨by omega, by omega, fun c => ⟨sh_48 c, sh_49 c⟩⟩
  · exact ⟨by omega, by omega, fun c => ⟨sh_50 c, sh_51 c⟩⟩
  · exact ⟨by omega, by omega, fun c => ⟨sh_52 c, sh_53 c⟩⟩
theorem rtA_73 : rtA 73 := ⟨by omega, by omega, fun c => ⟨sh_73 c, sh_74 c⟩⟩
theorem rt_rc {r : Nat} (h : rtA r) (c : ixK) (X : ixX) : ix_rc (hp c X) r = some 3 := hp_rc h.1 (by have := h.2.1; omega) (h.2.2 c).1
theorem rt_g0 {r : Nat} (h : rtA r) (c : ixK) (X : ixX) : ix_gr (hp c X) r 3 0 = some (r + 1) := hp_gr h.1 (by have := h.2.1; omega) (h.2.2 c).1 rfl
theorem rt_g1 {r : Nat} (h : rtA r) (c : ixK) (X : ixX) : ix_gi (hp c X) r 3 1 = some (X.1 r 1) := hp_gi h.1 (by have := h.2.1; omega) (h.2.2 c).1 rfl
theorem rt_g2 {r : Nat} (h : rtA r) (c : ixK) (X : ixX) : ix_gl (hp c X) r 3 2 = some (X.2 r 2) := hp_gl h.1 (by have := h.2.1; omega) (h.2.2 c).1 rfl
theorem rt_p1 {r : Nat} (h : rtA r) (c : ixK) (X : ixX) (x : Int32) : ix_pf (hp c X) r 3 1 (.int x) = some (hp c (aI X r (upd (X.1 r) 1 x))) := hp_pI h.1 (by have := h.2.1; omega) (h.2.2 c).1 (Nat.le_of_ble_eq_true rfl) rfl
theorem rt_p2 {r : Nat} (h : rtA r) (c : ixK) (X : ixX) (x : Int64) : ix_pf (hp c X) r 3 2 (.long x) = some (hp c (aJ X r (vp_updL (X.2 r) 2 x))) := hp_pJ h.1 (by have := h.2.1; omega) (h.2.2 c).1 (Nat.le_of_ble_eq_true rfl) rfl
theorem rt_r {r : Nat} (h : rtA r) {c : ixK} {X : ixX} {i : Nat} (hi : i < 64) : ix_ai (hp c X) (r + 1) (nI i) = some (X.1 (r + 1) i) := hp_ai (by have := h.2.1; omega) (h.2.2 c).2 hi (by decide)
theorem rt_s {r : Nat} (h : rtA r) {c : ixK} {X : ixX} {i : Nat} {x : Int32} (hi : i < 64) : ix_si (hp c X) (r + 1) (nI i) x = some (hp c (aI X (r + 1) (upd (X.1 (r + 1)) i x))) := hp_si (by have := h.1; omega) (by have := h.2.1; omega) (h.2.2 c).2 hi (by decide)
/-! copies -/
theorem hp_cpI {c : ixK} {X : ixX} {s d m m2 n : Nat} (h1 : 3 ≤ s) (h2 : 3 ≤ d) (h3 : s < c.1 + 102) (h4 : d < c.1 + 102) (hs : sp_sh c s = (0, m, [])) (hd : sp_sh c d = (0, m2, [])) (hn : n < 2147483648) (l1 : n ≤ m) (l2 : n ≤ m2) : ix_cp (hp c X) s 0 d 0 (nI n) = some (hp c (aI X d (va_cpy (X.1 s) (X.1 d) 0 0 n))) := by
  unfold ix_cp
  rw [if_pos ⟨h1, h2, h3, h4, rfl, rfl, nI_pos (by omega)⟩]
  have e1 : (hp c X).2.2 s = .inl (0, m, .inl (X.1 s)) := by show sp_en (sp_sh c s) _ _ = _; rw [hs]; rfl
  have e2 : (hp c X).2.2 d = .inl (0, m2, .inl (X.1 d)) := by show sp_en (sp_sh c d) _ _ = _; rw [hd]; rfl
  rw [e1, e2]
  show (if (nI n).toNatClampNeg ≤ m ∧ (nI n).toNatClampNeg ≤ m2 then some (ix_up (hp c X) d (.inl (0, m2, .inl (va_cpy (X.1 s) (X.1 d) 0 0 (nI n).toNatClampNeg)))) else none) = _
  rw [nI_clamp (by omega), if_pos ⟨l1, l2⟩]
  congr 1
  exact hp_upI (by rw [hd]; rfl)
theorem hp_cpL {c : ixK} {X : ixX} {s d m m2 n : Nat} (h1 : 3 ≤ s) (h2 : 3 ≤ d) (h3 : s < c.1 + 102) (h4 : d < c.1 + 102) (hs : sp_sh c s = (1, m, [])) (hd : sp_sh c d = (1, m2, [])) (hn : n < 2147483648) (l1 : n ≤ m) (l2 : n ≤ m2) : ix_cp (hp c X) s 0 d 0 (nI n) = some (hp c (aJ X d (va_cpy (X.2 s) (X.2 d) 0 0 n))) := by
  unfold ix_cp
  rw [if_pos ⟨h1, h2, h3, h4, rfl, rfl, nI_pos (by omega)⟩]
  have e1 : (hp c X).2.2 s = .inl (1, m, .inr (.inl (X.2 s))) := by show sp_en (sp_sh c s) _ _ = _; rw [hs]; rfl
  have e2 : (hp c X).2.2 d = .inl (1, m2, .inr (.inl (X.2 d))) := by show sp_en (sp_sh c d) _ _ = _; rw [hd]; rfl
  rw [e1, e2]
  show (if (nI n).toNatClampNeg ≤ m ∧ (nI n).toNatClampNeg ≤ m2 then some (ix_up (hp c X) d (.inl (1, m2, .inr (.inl (va_cpy (X.2 s) (X.2 d) 0 0 (nI n).toNatClampNeg))))) else none) = _
  rw [nI_clamp (by omega), if_pos ⟨l1, l2⟩]
  congr 1
  exact hp_upJ (by rw [hd]; rfl)
theorem cpy_in {α : Type} (f g : Nat → α) {n k : Nat} (h : k < n) : va_cpy f g 0 0 n k = f k := by
  unfold va_cpy
  rw [if_pos ⟨by omega, by omega⟩, show 0 + (k - 0) = k by omega]
/-! the methods -/
theorem M_rat {r : Nat} (hr : rtA r) {c : ixK} {X : ixX} {l : List Nat} (h : cR r X l) (hl : l.length ≤ 64) {k : Nat} (hk : k < l.length) : ix_M mRt_at [.ref r, .int (nI k)] (hp c X) = some ([.int (nI (l.getD k 0))], hp c X) := by
  refine x_Rt_at (rt_rc hr c X) ?_
  have e64 : ¬ (64 : Int32) ≤ nI k := by
    show ¬ nI 64 ≤ nI k
    rw [nI_leI (by omega) (by omega)]
    omega
  rw [e_Rt_at, if_neg (nI_pos (by omega)), bO (rt_g1 hr c X), h.1, if_neg (by rw [nI_leI (by omega) (by omega)]; omega), if_neg e64, bO (rt_g0 hr c X), bO (rt_r hr (by omega)), h.2.2 k hk]
theorem M_rat_out {r : Nat} (hr : rtA r) {c : ixK} {X : ixX} {l : List Nat} (h : cR r X l) {x : Int32} (hx : x < 0 ∨ nI l.length ≤ x) : ix_M mRt_at [.ref r, .int x] (hp c X) = some ([.int (-6)], hp c X) := by
  refine x_Rt_at (rt_rc hr c X) ?_
  rw [e_Rt_at]
  by_cases h0 : x < 0
  · rw [if_pos h0]
  · rw [if_neg h0, bO (rt_g1 hr c X), h.1, if_pos (hx.resolve_left h0)]
theorem M_rlast {r : Nat} (hr : rtA r) {c : ixK} {X : ixX} {l : List Nat} (h : cR r X l) (hl : l.length ≤ 64) (hk : 0 < l.length) : ix_M mRt_last [.ref r] (hp c X) = some ([.int (nI (l.getD (l.length - 1) 0))], hp c X) := by
  refine x_Rt_last (rt_rc hr c X) ?_
  have e : nI l.length - 1 = nI (l.length - 1) := nI_sub (b := 1) (by omega)
  rw [e_Rt_last, bO (rt_g1 hr c X), h.1, e, kI_of (M_rat hr h hl (by omega))]
theorem L_rindexOf {r : Nat} (hr : rtA r) {c : ixK} {X : ixX} {l : List Nat} (h : cR r X l) (hl : l.length ≤ 64) (hm : ∀ c, c ∈ l → c < 64) {x : Nat} (hx : x < 64) {k : Nat} (hk : k < l.length) : l_Rt_indexOf_2 r (nI x) (nI k) (hp c X) = if l.getD k 0 = x then some ([.int (nI k)], hp c X) else l_Rt_indexOf_2 r (nI x) (nI (k + 1)) (hp c X) := by
  have h64 := hm _ (gd_mem l k hk)
  rw [e_Rt_indexOf_2, bO (rt_g1 hr c X), h.1, if_neg (by rw [nI_leI (by omega) (by omega)]; omega), kI_of (M_rat hr h hl hk), nI_1]
  by_cases e : l.getD k 0 = x
  · rw [if_neg (by rw [e]; simp), if_pos e]
  · rw [if_pos (by rw [nI_eq (by omega) (by omega)]; exact e), if_neg e]
theorem M_rindexOf {r : Nat} (hr : rtA r) {c : ixK} {X : ixX} {l : List Nat} (h : cR r X l) (hl : l.length ≤ 64) (hm : ∀ c, c ∈ l → c < 64) {x : Nat} (hx : x < 64) {i : Nat} (hi : i < l.length) (he : l.getD i 0 = x) (hf : ∀ j, j < i → ¬ l.getD j 0 = x) : ix_M mRt_indexOf [.ref r, .int (nI x)] (hp c X) = some ([.int (nI i)], hp c X) := by
  refine x_Rt_indexOf (rt_rc hr c X) ?_
  have e := lp_f (fun k (_ : Unit) => l_Rt_indexOf_2 r (nI x) (nI k) (hp c X)) (fun _ => ()) (N := i) (fun k hk => by
    show l_Rt_indexOf_2 r (nI x) (nI k) (hp c X) = l_Rt_indexOf_2 r (nI x) (nI (k + 1)) (hp c X)
    rw [L_rindexOf hr h hl hm hx (show k < l.length by omega), if_neg (hf k hk)]) (k := 0) (by omega)
  have e2 : l_Rt_indexOf_2 r (nI x) 0 (hp c X) = l_Rt_indexOf_2 r (nI x) (nI i) (hp c X) := e
  rw [e_Rt_indexOf, e2, L_rindexOf hr h hl hm hx hi, if_pos he]
theorem M_rfirst {r : Nat} (hr : rtA r) {c : ixK} {X : ixX} {l : List Nat} (h : cR r X l) (hl : l.length ≤ 64) (hm : ∀ c, c ∈ l → c < 64) {n : Nat} (hn : n ≤ l.length) : ix_M mRt_firstCells [.ref r, .int (nI n)] (hp c X) = some ([.long (LSt (fun x => decide (x ∈ l.take n)))], hp c X) := by
  refine x_Rt_firstCells (rt_rc hr c X) ?_
  have e := lp_f (fun k s => l_Rt_firstCells_5 r (nI n) s (nI k) (hp c X)) (fun k => LSt (fun x => decide (x ∈ l.take k))) (N := n) (fun k hk => by
    show l_Rt_firstCells_5 r (nI n) (LSt (fun x => decide (x ∈ l.take k))) (nI k) (hp c X) = l_Rt_firstCells_5 r (nI n) (LSt (fun x => decide (x ∈ l.take (k + 1)))) (nI (k + 1)) (hp c X)
    rw [e_Rt_firstCells_5, if_neg (by rw [nI_leI (by omega) (by omega)]; omega), kI_of (M_rat hr h hl (show k < l.length by omega)), kL_of (M_bit (hm _ (gd_mem l k (by omega))) _), LS_or, nI_1]
    congr 1
    refine LS_cong (fun i hi => ?_)
    rw [tk_succ l k (by omega), Bool.eq_iff_iff]
    simp only [Bool.or_eq_true, decide_eq_true_eq, List.mem_append, List.mem_singleton]) (k := 0) (by omega)
  have e2 : l_Rt_firstCells_5 r (nI n) (LSt (fun x => decide (x ∈ l.take 0))) (nI 0) (hp c X) = l_Rt_firstCells_5 r (nI n) (LSt (fun x => decide (x ∈ l.take n))) (nI n) (hp c X) := e
  have e3 : (0 : Int64) = LSt (fun x => decide (x ∈ l.take 0)) := by
    rw [LS_0]
    exact LS_cong (fun i hi => by simp)
  rw [e_Rt_firstCells]
  have e4 : l_Rt_firstCells_5 r (nI n) 0 0 (hp c X) = l_Rt_firstCells_5 r (nI n) (LSt (fun x => decide (x ∈ l.take 0))) (nI 0) (hp c X) := by rw [← e3]; rfl
  rw [e4, e2, e_Rt_firstCells_5, if_pos (by rw [nI_leI (by omega) (by omega)]; omega)]
theorem M_rkeep {r : Nat} (hr : rtA r) {c : ixK} {X : ixX} {l : List Nat} (h : cR r X l) (hl : l.length ≤ 64) (hm : ∀ c, c ∈ l → c < 64) {n : Nat} (hn : n ≤ l.length) : ∃ X', ix_M mRt_keep [.ref r, .int (nI n)] (hp c X) = some ([], hp c X') ∧ cR r X' (l.take n) ∧ fRm r (r + 2) X X' := by
  have hlen : (l.take n).length = n := by rw [List.length_take]; omega
  refine ⟨_, x_Rt_keep (rt_rc hr c X) (by rw [e_Rt_keep, kL_of (M_rfirst hr h hl hm hn), bO (rt_p2 hr c X _), bO (rt_p1 hr c _ _)]), ⟨?_, ?_, ?_⟩, ?_⟩
  · rw [aI_1, upd_1, hlen]
  · rw [aI_2, aJ_1, updL_1]
  · intro k hk
    rw [hlen] at hk
    rw [aI_n _ _ (by omega), aJ_2, gd_take l n k hk]
    exact h.2.2 k (by omega)
  · exact fRm_aI (fRm_aJ (fRm_refl _ _ _) (by omega) (by omega)) (by omega) (by omega)
theorem M_rappend {r : Nat} (hr : rtA r) {c : ixK} {X : ixX} {l : List Nat} (h : cR r X l) (hl : l.length < 64) {x : Nat} (hx : x < 64) : ∃ X', ix_M mRt_append [.ref r, .int (nI x)] (hp c X) = some ([], hp c X') ∧ cR r X' (l ++ [x]) ∧ fRm r (r + 2) X X' := by
  have e64 : ¬ (64 : Int32) ≤ nI l.length := by
    show ¬ nI 64 ≤ nI l.length
    rw [nI_leI (by omega) (by omega)]
    omega
  refine ⟨_, x_Rt_append (rt_rc hr c X) (by rw [e_Rt_append, bO (rt_g1 hr c X), h.1, if_neg (nI_pos (by omega)), bO (rt_g1 hr c X), h.1, if_neg e64, bO (rt_g0 hr c X), bO (rt_g1 hr c X), h.1, bO (rt_s hr hl), bO (rt_g1 hr c _), bO (rt_p1 hr c _ _), bO (rt_g2 hr c _), kL_of (M_bit hx _), bO (rt_p2 hr c _ _)]), ⟨?_, ?_, ?_⟩, ?_⟩
  · rw [aJ_2, aI_1, upd_1, aI_n _ _ (by omega), h.1, nI_1, List.length_append]
    rfl
  · rw [aJ_1, updL_1, aI_2, aI_2, h.2.1, LS_or]
    refine LS_cong (fun i hi => ?_)
    rw [Bool.eq_iff_iff]
    simp only [Bool.or_eq_true, decide_eq_true_eq, List.mem_append, List.mem_singleton]
  · intro k hk
    rw [List.length_append] at hk
    have hk2 : k < l.length + 1 := hk
    rw [aJ_2, aI_n _ _ (by omega), aI_1]
    rcases Nat.lt_or_ge k l.length with q | q
    · rw [upd_n _ _ (by omega), gd_app_l l [x] k q]
      exact h.2.2 k q
    · have e : k = l.length := by omega
      rw [e, upd_1]
      exact congrArg nI (gd_app_r l [x] 0).symm
  · exact fRm_aJ (fRm_aI (fRm_aI (fRm_refl _ _ _) (by omega) (by omega)) (by omega) (by omega)) (by omega) (by omega)
theorem M_rappendFrom {r q : Nat} (hr : rtA r) (hq : rtA q) (hd : r + 2 ≤ q ∨ q + 2 ≤ r) {c : ixK} {X : ixX} {l m : List Nat} (h : cR r X l) (h2 : cR q X m) {k : Nat} (hk : k ≤ m.length) (hm64 : m.length ≤ 64) (hl : l.length + (m.length - k) ≤ 64) (hm : ∀ c, c ∈ m → c < 64) : ∃ X', ix_M mRt_appendFrom [.ref r, .ref q, .int (nI k)] (hp c X) = some ([], hp c X') ∧ cR r X' (l ++ m.drop k) ∧ fRm r (r + 2) X X' := by
  have key : ∀ n k X l, k + n = m.length → cR r X l → cR q X m → l.length + n ≤ 64 → ∃ X', l_Rt_appendFrom_2 r q (nI k) (hp c X) = some ([], hp c X') ∧ cR r X' (l ++ m.drop k) ∧ fRm r (r + 2) X X' := by
    intro n
    induction n with
    | zero =>
      intro k X l hk h h2 hl
      refine ⟨X, ?_, ?_, fRm_refl _ _ _⟩
      · rw [e_Rt_appendFrom_2, bO (rt_g1 hq c X), h2.1, if_pos (by rw [nI_leI (by omega) (by omega)]; omega)]
      · rw [List.drop_eq_nil_of_le (by omega), List.append_nil]
        exact h
    | succ n ih =>
      intro k X l hk h h2 hl
      obtain ⟨X1, e1, a1, f1⟩ := M_rappend hr (c := c) h (by omega) (hm _ (gd_mem m k (by omega)))
      have h3 : cR q X1 m := cR_cong (f1 q (by omega)).1 (f1 q (by omega)).2 (f1 (q + 1) (by omega)).1 h2
      obtain ⟨X2, e2, a2, f2⟩ := ih (k + 1) X1 (l ++ [m.getD k 0]) (by omega) a1 h3 (by rw [List.length_append]; show l.length + 1 + n ≤ 64; omega)
      refine ⟨X2, ?_, ?_, fRm_trans f1 f2⟩
      · rw [e_Rt_appendFrom_2, bO (rt_g1 hq c X), h2.1, if_neg (by rw [nI_leI (by omega) (by omega)]; omega), kI_of (M_rat hq h2 hm64 (by omega)), kV_of e1, nI_1, e2]
      · rw [List.append_assoc] at a2
        have e : m.drop k = [m.getD k 0] ++ m.drop (k + 1) := by
          have t := tk_succ m k (by omega)
          have u1 := List.take_append_drop k m
          have u2 := List.take_append_drop (k + 1) m
          rw [t, List.append_assoc] at u2
          exact List.append_cancel_left (u1.trans u2.symm)
        rw [e]
        exact a2
  obtain ⟨X', e, a, f⟩ := key (m.length - k) k X l (by omega) h h2 hl
  exact ⟨X', x_Rt_appendFrom (rt_rc hr c X) (by rw [e_Rt_appendFrom]; exact e), a, f⟩
theorem M_rcopyFrom {r q : Nat} (hr : rtA r) (hq : rtA q) (hd : r + 2 ≤ q ∨ q + 2 ≤ r) {c : ixK} {X : ixX} {m : List Nat} (h2 : cR q X m) (hm64 : m.length ≤ 64) : ∃ X', ix_M mRt_copyFrom [.ref r, .ref q] (hp c X) = some ([], hp c X') ∧ cR r X' m ∧ fRm r (r + 2) X X' := by
  have hr1 := hr.1
  have hr2 := hr.2.1
  have hq1 := hq.1
  have hq2 := hq.2.1
  have ec : ix_cp (hp c X) (q + 1) 0 (r + 1) 0 64 = some (hp c (aI X (r + 1) (va_cpy (X.1 (q + 1)) (X.1 (r + 1)) 0 0 64))) := hp_cpI (n := 64) (by omega) (by omega) (by omega) (by omega) (hq.2.2 c).2 (hr.2.2 c).2 (by omega) (by omega) (by omega)
  refine ⟨_, x_Rt_copyFrom (rt_rc hr c X) (by rw [e_Rt_copyFrom, bO (rt_g0 hq c X), bO (rt_g0 hr c X), bO ec, bO (rt_g1 hq c _), bO (rt_p1 hr c _ _), bO (rt_g2 hq c _), bO (rt_p2 hr c _ _)]), ⟨?_, ?_, ?_⟩, ?_⟩
  · rw [aJ_2, aI_1, upd_1, aI_n _ _ (by omega)]
    exact h2.1
  · rw [aJ_1, updL_1, aI_2, aI_2]
    exact h2.2.1
  · intro k hk
    rw [aJ_2, aI_n _ _ (by omega), aI_1, cpy_in _ _ (by omega)]
    exact h2.2.2 k hk
  · exact fRm_aJ (fRm_aI (fRm_aI (fRm_refl _ _ _) (by omega) (by omega)) (by omega) (by omega)) (by omega) (by omega)
/-- each number of a list is greater than the one before -/
def rsB (l : List Nat) : Nat → Bool := fun k => decide (k = 0) || decide (l.getD (k - 1) 0 < l.getD k 0)
theorem M_ronlyRises {r : Nat} (hr : rtA r) {c : ixK} {X : ixX} {l : List Nat} (h : cR r X l) (hl : l.length ≤ 64) (hn : l.Nodup) (hm : ∀ c, c ∈ l → c < 64) : ix_M mRt_onlyRises [.ref r] (hp c X) = some ([.int (ix_bi (allB (rsB l) l.length))], hp c X) := by
  refine x_Rt_onlyRises (rt_rc hr c X) ?_
  rw [e_Rt_onlyRises]
  rcases Nat.eq_zero_or_pos l.length with z | z
  · rw [e_Rt_onlyRises_2, bO (rt_g1 hr c X), h.1, z, if_pos (by decide)]
    rfl
  have st : ∀ k, 1 ≤ k → k < l.length → l_Rt_onlyRises_2 r (nI k) (hp c X) = if l.getD (k - 1) 0 < l.getD k 0 then l_Rt_onlyRises_2 r (nI (k + 1)) (hp c X) else some ([.int (ix_bi false)], hp c X) := by
    intro k h1 h2
    have e : nI k - 1 = nI (k - 1) := nI_sub (b := 1) (by omega)
    have a1 := hm _ (gd_mem l k h2)
    have a2 := hm _ (gd_mem l (k - 1) (by omega))
    have a3 := nd_gd l hn (k - 1) k (by omega) h2
    rw [e_Rt_onlyRises_2, bO (rt_g1 hr c X), h.1, if_neg (by rw [nI_leI (by omega) (by omega)]; omega), kI_of (M_rat hr h hl h2), e, kI_of (M_rat hr h hl (show k - 1 < l.length by omega)), nI_1]
    by_cases q : l.getD (k - 1) 0 < l.getD k 0
    · rw [if_pos (by rw [nI_leI (by omega) (by omega)]; omega), if_pos q]
    · rw [if_neg (by rw [nI_leI (by omega) (by omega)]; omega), if_neg q]
  rcases lp_out (fun k (_ : Unit) => l_Rt_onlyRises_2 r (nI k) (hp c X)) (fun k _ => 1 ≤ k ∧ allB (rsB l) k = true) (fun R => R = some ([.int (ix_bi false)], hp c X) ∧ allB (rsB l) l.length = false) (N := l.length) (fun k s hk hs => by
    show (∃ s', l_Rt_onlyRises_2 r (nI k) (hp c X) = l_Rt_onlyRises_2 r (nI (k + 1)) (hp c X) ∧ _) ∨ (l_Rt_onlyRises_2 r (nI k) (hp c X) = _ ∧ _)
    rw [st k hs.1 hk]
    by_cases q : l.getD (k - 1) 0 < l.getD k 0
    · rw [if_pos q]
      refine .inl ⟨(), rfl, by omega, ?_⟩
      show (allB (rsB l) k && rsB l k) = true
      rw [hs.2]
      unfold rsB
      rw [decide_eq_true q]
      simp
    · rw [if_neg q]
      refine .inr ⟨rfl, allB_f hk ?_⟩
      unfold rsB
      rw [decide_eq_false q, decide_eq_false (by omega)]
      rfl) (k := 1) (s := ()) (by omega) ⟨by omega, by
        show (true && rsB l 0) = true
        unfold rsB
        rw [decide_eq_true rfl]
        rfl⟩ with ⟨s', e, h1⟩ | ⟨e, h1⟩
  · have e2 : l_Rt_onlyRises_2 r 1 (hp c X) = l_Rt_onlyRises_2 r (nI l.length) (hp c X) := e
    rw [e2, e_Rt_onlyRises_2, bO (rt_g1 hr c X), h.1, if_pos (by rw [nI_leI (by omega) (by omega)]; omega), h1.2]
  · have e2 : l_Rt_onlyRises_2 r 1 (hp c X) = some ([.int (ix_bi false)], hp c X) := e
    rw [e2, h1]
