/-! CALLS: class and reference answer alike, and hold the same afterwards -/
def invK (c : ixK) (X : ixX) (S : sT) : Prop := sOK S ∧ cI c X S ∧ rI X S
def zF (X Y : ixX) : Prop := Y.1 0 = X.1 0 ∧ Y.1 2 = X.1 2
theorem zF_tr {X Y Z : ixX} (h : zF X Y) (h2 : zF Y Z) : zF X Z := ⟨h2.1.trans h.1, h2.2.trans h.2⟩
theorem zF_fr {lo hi : Nat} {X Y : ixX} (h : fRm lo hi X Y) (hl : 3 ≤ lo) : zF X Y := ⟨(h 0 (by omega)).1, (h 2 (by omega)).1⟩
def okI (mc mm : Nat) (as : List Value) (c : ixK) (X : ixX) : Prop := ∃ X' X'' r S', ix_M mc (.ref 3 :: as) (hp c X) = some ([.int r], hp c X') ∧ ix_M mm (.ref 75 :: as) (hp c X') = some ([.int r], hp c X'') ∧ zF X X' ∧ zF X X'' ∧ invK c X'' S'
def okL (mc mm : Nat) (as : List Value) (c : ixK) (X : ixX) : Prop := ∃ X' X'' r S', ix_M mc (.ref 3 :: as) (hp c X) = some ([.long r], hp c X') ∧ ix_M mm (.ref 75 :: as) (hp c X') = some ([.long r], hp c X'') ∧ zF X X' ∧ zF X X'' ∧ invK c X'' S'
theorem rI_q {X X' : ixX} {S : sT} {lo hi : Nat} (f1 : fRm lo hi X X') (hh : hi ≤ 75) (h : rI X S) : rI X' S := rI_c (fun a h1 h2 => f1 a (by omega)) h
theorem ok_q {mc mm : Nat} {as : List Value} {c : ixK} {X X' X'' : ixX} {S : sT} {r : Int32} (h : invK c X S) (e1 : ix_M mc (.ref 3 :: as) (hp c X) = some ([.int r], hp c X')) (f1 : fRm 59 75 X X') (e2 : ix_M mm (.ref 75 :: as) (hp c X') = some ([.int r], hp c X'')) (f2 : rS X' X'') : okI mc mm as c X := ⟨X', X'', r, S, e1, e2, zF_fr f1 (by omega), zF_tr (zF_fr f1 (by omega)) (zF_fr (rS_fr f2) (by omega)), h.1, cI_r (rS_fr f2) (cI_fr f1 (by omega) (by omega) h.2.1), rS_I f2 (rI_q f1 (by omega) h.2.2)⟩
theorem ok_0 {mc mm : Nat} {as : List Value} {c : ixK} {X : ixX} {S : sT} {r : Int32} (h : invK c X S) (e1 : ix_M mc (.ref 3 :: as) (hp c X) = some ([.int r], hp c X)) (e2 : ix_M mm (.ref 75 :: as) (hp c X) = some ([.int r], hp c X)) : okI mc mm as c X := ok_q h e1 (fRm_refl _ _ _) e2 (rS_refl _)
theorem okL_q {mc mm : Nat} {as : List Value} {c : ixK} {X X' X'' : ixX} {S : sT} {r : Int64} (h : invK c X S) (e1 : ix_M mc (.ref 3 :: as) (hp c X) = some ([.long r], hp c X')) (f1 : fRm 59 75 X X') (e2 : ix_M mm (.ref 75 :: as) (hp c X') = some ([.long r], hp c X'')) (f2 : rS X' X'') : okL mc mm as c X := ⟨X', X'', r, S, e1, e2, zF_fr f1 (by omega), zF_tr (zF_fr f1 (by omega)) (zF_fr (rS_fr f2) (by omega)), h.1, cI_r (rS_fr f2) (cI_fr f1 (by omega) (by omega) h.2.1), rS_I f2 (rI_q f1 (by omega) h.2.2)⟩
/-- calls that change what is held -/
theorem ok_s {mc mm : Nat} {as : List Value} {c : ixK} {X X' X'' : ixX} {S S' : sT} {r : Int32} (hS : sOK S') (e1 : ix_M mc (.ref 3 :: as) (hp c X) = some ([.int r], hp c X')) (hc : cI c X' S') (e2 : ix_M mm (.ref 75 :: as) (hp c X') = some ([.int r], hp c X'')) (hf : fRm 75 102 X' X'') (hr : rI X'' S') (hz : zF X X') : okI mc mm as c X := ⟨X', X'', r, S', e1, e2, hz, zF_tr hz (zF_fr hf (by omega)), hS, cI_r hf hc, hr⟩
theorem rng_of {x : Int32} {a b : Nat} (hb : b < 2147483648) (ha : a ≤ b) (h1 : ¬ x < nI a) (h2 : ¬ nI b < x) : ∃ w, a ≤ w ∧ w ≤ b ∧ x = nI w := by
  obtain ⟨z, z1, z2, rfl⟩ := zI_of x
  rw [nI_z, zI_lt z1 z2 (by omega) (by omega)] at h1
  rw [nI_z, zI_lt (by omega) (by omega) z1 z2] at h2
  refine ⟨z.toNat, by omega, by omega, ?_⟩
  rw [nI_z, Int.toNat_of_nonneg (by omega)]
theorem flag_of (x : Int32) : x = 0 ∨ x = 1 ∨ (¬ x = 0 ∧ ¬ x = 1 ∧ (x < 0 ∨ 1 < x)) := by
  by_cases h1 : x < 0
  · exact .inr (.inr ⟨fun e => by rw [e] at h1; exact absurd h1 (by decide), fun e => by rw [e] at h1; exact absurd h1 (by decide), .inl h1⟩)
  · by_cases h2 : 1 < x
    · exact .inr (.inr ⟨fun e => by rw [e] at h2; exact absurd h2 (by decide), fun e => by rw [e] at h2; exact absurd h2 (by decide), .inr h2⟩)
    · obtain ⟨w, _, hw, rfl⟩ := rng_of (a := 0) (b := 1) (by omega) (by omega) h1 h2
      rcases (show w = 0 ∨ w = 1 by omega) with rfl | rfl
      · exact .inl rfl
      · exact .inr (.inl rfl)
theorem M_isSide {x : Int32} (h1 : ¬ x < 2) (h2 : ¬ 8 < x) (h : ixH) : ix_M mRP_isSide [.int x] h = some ([.int (ix_bi true)], h) := x_RP_isSide (by rw [e_RP_isSide, if_neg h1, if_neg h2])
theorem M_isSide_f {x : Int32} (h0 : x < 2 ∨ 8 < x) (h : ixH) : ix_M mRP_isSide [.int x] h = some ([.int (ix_bi false)], h) := by
  refine x_RP_isSide ?_
  rw [e_RP_isSide]
  by_cases h1 : x < 2
  · rw [if_pos h1]
  · rw [if_neg h1, if_pos (h0.resolve_left h1)]
theorem M_isFlag_0 (h : ixH) : ix_M mRP_isFlag [.int 0] h = some ([.int (ix_bi true)], h) := x_RP_isFlag (by rw [e_RP_isFlag, if_pos rfl])
theorem M_isFlag_1 (h : ixH) : ix_M mRP_isFlag [.int 1] h = some ([.int (ix_bi true)], h) := x_RP_isFlag (by rw [e_RP_isFlag, if_neg (by decide), if_neg (by decide)])
theorem M_isFlag_f {x : Int32} (h0 : ¬ x = 0) (h1 : ¬ x = 1) (h : ixH) : ix_M mRP_isFlag [.int x] h = some ([.int (ix_bi false)], h) := x_RP_isFlag (by rw [e_RP_isFlag, if_neg h0, if_pos h1])
theorem M_isLever_t {l : Nat} (hl : l < 4) (h : ixH) : ix_M mRP_isLever [.int (nI l)] h = some ([.int (ix_bi true)], h) := x_RP_isLever (by rw [e_RP_isLever, if_neg (nI_pos (by omega)), if_neg (lit_nle (x := 4) (a := 4) (k := l) rfl hl (by omega))])
theorem M_isLever_f {x : Int32} (hx : x < 0 ∨ nI 4 ≤ x) (h : ixH) : ix_M mRP_isLever [.int x] h = some ([.int (ix_bi false)], h) := by
  refine x_RP_isLever ?_
  rw [e_RP_isLever]
  by_cases h1 : x < 0
  · rw [if_pos h1]
  · rw [if_neg h1, if_pos (show (4 : Int32) ≤ x from hx.resolve_left h1)]
theorem M_isSlot_t {l : Nat} (hl : l < 5) (h : ixH) : ix_M mRP_isSlot [.int (nI l)] h = some ([.int (ix_bi true)], h) := x_RP_isSlot (by rw [e_RP_isSlot, if_neg (nI_pos (by omega)), if_neg (lit_nle (x := 5) (a := 5) (k := l) rfl hl (by omega))])
theorem M_isSlot_f {x : Int32} (hx : x < 0 ∨ nI 5 ≤ x) (h : ixH) : ix_M mRP_isSlot [.int x] h = some ([.int (ix_bi false)], h) := by
  refine x_RP_isSlot ?_
  rw [e_RP_isSlot]
  by_cases h1 : x < 0
  · rw [if_pos h1]
  · rw [if_neg h1, if_pos (show (5 : Int32) ≤ x from hx.resolve_left h1)]
theorem M_isPlace_t {l : Nat} (hl : l < 2) (h : ixH) : ix_M mRP_isPlace [.int (nI l)] h = some ([.int (ix_bi true)], h) := x_RP_isPlace (by rw [e_RP_isPlace, if_neg (nI_pos (by omega)), if_neg (lit_nle (x := 2) (a := 2) (k := l) rfl hl (by omega))])
theorem M_isPlace_f {x : Int32} (hx : x < 0 ∨ nI 2 ≤ x) (h : ixH) : ix_M mRP_isPlace [.int x] h = some ([.int (ix_bi false)], h) := by
  refine x_RP_isPlace ?_
  rw [e_RP_isPlace]
  by_cases h1 : x < 0
  · rw [if_pos h1]
  · rw [if_neg h1, if_pos (show (2 : Int32) ≤ x from hx.resolve_left h1)]
theorem M_flag (b : Bool) (h : ixH) : ix_M mRP_flag [.int (ix_bi b)] h = some ([.int (ix_bi b)], h) := by
  refine x_RP_flag ?_
  rw [e_RP_flag]
  cases b with
  | true => rw [if_pos rfl]; rfl
  | false => rw [if_neg (by decide)]; rfl
theorem M_isSwitch_t {l : Nat} (hl : l < 4) (h : ixH) : ix_M mMo_isSwitch [.int (nI l)] h = some ([.int (ix_bi true)], h) := x_Mo_isSwitch (by rw [e_Mo_isSwitch, kZ_of (show ix_M mMo_in [.int (nI l), .int 0, .int 3] h = _ from M_in0_t (n := 4) hl (by omega) h)])
theorem M_isSwitch_f {x : Int32} (hx : x < 0 ∨ nI 4 ≤ x) (h : ixH) : ix_M mMo_isSwitch [.int x] h = some ([.int (ix_bi false)], h) := x_Mo_isSwitch (by rw [e_Mo_isSwitch, kZ_of (show ix_M mMo_in [.int x, .int 0, .int 3] h = _ from M_in0_f (n := 4) (by omega) (by omega) hx h)])
theorem M_misSlot_t {l : Nat} (hl : l < 5) (h : ixH) : ix_M mMo_isSlot [.int (nI l)] h = some ([.int (ix_bi true)], h) := x_Mo_isSlot (by rw [e_Mo_isSlot, kZ_of (show ix_M mMo_in [.int (nI l), .int 0, .int 4] h = _ from M_in0_t (n := 5) hl (by omega) h)])
theorem M_misSlot_f {x : Int32} (hx : x < 0 ∨ nI 5 ≤ x) (h : ixH) : ix_M mMo_isSlot [.int x] h = some ([.int (ix_bi false)], h) := x_Mo_isSlot (by rw [e_Mo_isSlot, kZ_of (show ix_M mMo_in [.int x, .int 0, .int 4] h = _ from M_in0_f (n := 5) (by omega) (by omega) hx h)])
/-- the class's members of a set -/
theorem M_member {p : Nat → Bool} {k x : Nat} (hx : x < 64) (hp1 : p x = true) (hk : fb_ct p x = k) (h : ixH) : ix_M mRP_member [.long (LSt p), .int (nI k)] h = some ([.int (nI x)], h) := by
  have hlt : k < fb_ct p 64 := by
    have := fb_ct_mono p (show x + 1 ≤ 64 from hx)
    rw [fb_ct_succ, hp1, if_pos rfl] at this
    omega
  have h64 := fb_ct_le p 64
  refine x_RP_member ?_
  have least : ∀ d, d ≤ k → ∃ y, y < 64 ∧ (p y && decide (d ≤ fb_ct p y)) = true ∧ (∀ j, j < y → (p j && decide (d ≤ fb_ct p j)) = false) ∧ fb_ct p y = d ∧ p y = true := by
    intro d hd
    obtain ⟨y, y1, y2, y3⟩ := fb_ct_kth (p := p) (k := d) (n := 64) (by omega)
    refine ⟨y, y1, by rw [y2, decide_eq_true (by omega)]; rfl, fun j hj => ?_, y3, y2⟩
    cases hq : p j with
    | false => rfl
    | true =>
      have := fb_ct_mono p (show j + 1 ≤ y from hj)
      rw [fb_ct_succ, hq, if_pos rfl] at this
      rw [decide_eq_false (by omega)]; rfl
  have e := lp_f (fun d s => l_RP_member_20 (nI k) s (nI d) h) (fun d => LSt (fun y => p y && decide (d ≤ fb_ct p y))) (N := k) (fun d hd => by
    show l_RP_member_20 (nI k) (LSt (fun y => p y && decide (d ≤ fb_ct p y))) (nI d) h = l_RP_member_20 (nI k) (LSt (fun y => p y && decide (d + 1 ≤ fb_ct p y))) (nI (d + 1)) h
    obtain ⟨y, y1, y2, y3, y4, y5⟩ := least d (by omega)
    rw [e_RP_member_20, if_neg (by rw [nI_leI (by omega) (by omega)]; omega), LS_drop y1 y2 y3, nI_1]
    congr 1
    refine LS_cong (fun i hi => ?_)
    rw [Bool.eq_iff_iff]
    simp only [Bool.and_eq_true, decide_eq_true_eq]
    constructor
    · rintro ⟨⟨q1, q2⟩, q3⟩
      refine ⟨q1, ?_⟩
      rcases Nat.lt_or_ge d (fb_ct p i) with q | q
      · exact q
      · exact absurd (fb_ct_kth_one q1 y5 (by omega)) q3
    · rintro ⟨q1, q2⟩
      refine ⟨⟨q1, by omega⟩, fun q3 => ?_⟩
      rw [q3, y4] at q2
      omega) (k := 0) (by omega)
  have e' : l_RP_member_20 (nI k) (LSt (fun y => p y && decide (0 ≤ fb_ct p y))) (nI 0) h = l_RP_member_20 (nI k) (LSt (fun y => p y && decide (k ≤ fb_ct p y))) (nI k) h := e
  have e0 : LSt (fun y => p y && decide (0 ≤ fb_ct p y)) = LSt p := LS_cong (fun i _ => by rw [decide_eq_true (Nat.zero_le _), Bool.and_true])
  rw [e0] at e'
  obtain ⟨y, y1, y2, y3, y4, y5⟩ := least k (Nat.le_refl k)
  have hxy : y = x := fb_ct_kth_one y5 hp1 (y4.trans hk.symm)
  rw [e_RP_member, if_neg (nI_pos (by omega)), kI_of (M_size _ _), if_pos (by rw [nI_ltI (by omega) (by omega)]; exact hlt), show (0 : Int32) = nI 0 from rfl, e', e_RP_member_20, if_pos (by rw [nI_leI (by omega) (by omega)]; omega), kI_of (M_lowest y1 y2 y3 _), hxy]
theorem M_member_f {p : Nat → Bool} {x : Int32} (hx : x < 0 ∨ nI (fb_ct p 64) ≤ x) (h : ixH) : ix_M mRP_member [.long (LSt p), .int x] h = some ([.int (-6)], h) := by
  have h64 := fb_ct_le p 64
  refine x_RP_member ?_
  rw [e_RP_member]
  by_cases h1 : x < 0
  · rw [if_pos h1]
  · obtain ⟨j, hj, rfl⟩ := nI_of h1
    have h2 := (nI_leI (by omega) hj).mp (hx.resolve_left h1)
    rw [if_neg h1, kI_of (M_size _ _), if_neg (by rw [nI_ltI (by omega) (by omega)]; omega)]
/-! flow, pass -/
theorem invK_G {c : ixK} {X : ixX} {S : sT} (h : invK c X S) : bS S.1 ∧ cG 4 X S.1 ∧ rBd (X.1 76) S.1 ∧ bOK S.1 := ⟨h.1.1.1, h.2.1.1.1, h.2.2.1, h.1.1⟩
theorem C_widen {c : ixK} {X : ixX} {B : bT} (hs : bS B) (hG : cG 4 X B) (wl : Nat → Bool) (rev : Bool) : ∃ X' v A P g m, X' = sY X g m ∧ ix_M mSm_widen [.ref 65, .ref 5, .long (LSt wl), .int (ix_bi rev)] (hp c X) = some ([.int (nI v)], hp c X') ∧ FlowR B (opn B wl) (rop B wl (if rev = true then 2 else 1)) (rop B wl (if rev = true then 1 else 2)) v A P ∧ (∀ c, bn B ≤ c → A c = false) ∧ g 9 = LSt A ∧ g 10 = LSt P ∧ fRm 59 75 X X' := by
  obtain ⟨g, m, v, A, P, e1, e2, e3, e4, e5, _⟩ := M_widen (c := c) hs hG wl rev
  exact ⟨_, v, A, P, g, m, rfl, e1, e2, e3, e4, e5, sY_fr (fRm_refl _ _ _) (by omega) (by omega)⟩
theorem R_layFlow {c : ixK} {X : ixX} {B : bT} (hb : bS B) (hr4 : ∀ c, brl B c < 4) (hA : rBd (X.1 76) B) {r1 r2 : Nat} (h1 : r1 < 4) (h2 : r2 < 4) : ∃ Y v, ∃ ns : List Nat, ix_M mMo_layFlow [.ref 75, .int (nI r1), .int (nI r2)] (hp c X) = some ([.int (nI v)], hp c Y) ∧ rS X Y ∧ FlowR B (bop B) (bro B r1) (bro B r2) v (fun c => decide (c ∈ ns)) (fun c => decide (64 + c ∈ ns)) ∧ (∀ w, w < 128 → (Y.1 87 w = -6 ↔ ¬ w ∈ ns)) := by
  obtain ⟨Y, v, ns, e1, e2, e3, e4, e5, _⟩ := M_layFlow (c := c) hb hr4 hA h1 h2
  exact ⟨Y, v, ns, e1, rS_eX e2 (by decide) e3, e4, e5⟩
theorem K_flow {c : ixK} {X : ixX} {S : sT} (h : invK c X S) : okI mRP_flow mMo_flow [] c X := by
  obtain ⟨hs, hG, hA, hb⟩ := invK_G h
  obtain ⟨X', v, A, P, g, m, hX', e1, e2, _, _, _, e3⟩ := C_widen (c := c) hs hG (bwl S.1) false
  have hr : rBd (X'.1 76) S.1 := by rw [hX']; exact hA
  obtain ⟨Y, v2, ns, f1, f2, f3, _⟩ := R_layFlow (c := c) hs hb.2.2.1 hr (r1 := 1) (r2 := 2) (by omega) (by omega)
  have hv : v = v2 := (FlowR_eq hs e2 f3).1
  refine ok_q h (r := nI v) (X' := X') (x_RP_flow (rc_3 c X) ?_) e3 (X'' := Y) (x_Mo_flow (rc_75 c _) ?_) f2
  · rw [e_RP_flow, bO (g3_6 c X), bO (g3_0 c X), bO (g4_0 c X), bO (g3_0 c X), bO (g4_0 c X), bO (g5_5 c X), G_x hG, show (0 : Int32) = ix_bi false from rfl, kI_of e1]
  · rw [e_Mo_flow, show (1 : Int32) = nI 1 from rfl, show (2 : Int32) = nI 2 from rfl, kI_of f1, hv]
/-- the pass of the class -/
theorem C_pass {c : ixK} {X : ixX} {B : bT} (hs : bS B) (hG : cG 4 X B) (far : Bool) : ∃ X' v A P, ix_M mRP_smallestPass [.ref 3, .int (ix_bi far)] (hp c X) = some ([.long (LSt (fun c => A c && !P c))], hp c X') ∧ FlowR B (bop B) (bro B (if far = true then 2 else 1)) (bro B (if far = true then 1 else 2)) v A P ∧ (∀ c, bn B ≤ c → A c = false) ∧ fRm 59 75 X X' := by
  obtain ⟨X', v, A, P, g, m, hX', e1, e2, e3, e4, e5, e6⟩ := C_widen (c := c) hs hG (bwl B) far
  refine ⟨X', v, A, P, x_RP_smallestPass (rc_3 c X) ?_, e2, e3, e6⟩
  rw [e_RP_smallestPass, bO (g3_6 c X), bO (g3_0 c X), bO (g4_0 c X), bO (g3_0 c X), bO (g4_0 c X), bO (g5_5 c X), G_x hG, kI_of e1, bO (g3_6 c X'), hX', kL_of (M_narrowest e4 e5)]
/-- that of the reference -/
theorem R_pass {c : ixK} {X : ixX} {B : bT} (hs : bS B) (hb : ∀ c, brl B c < 4) (hA : rBd (X.1 76) B) (far : Bool) : ∃ Y v, ∃ ns : List Nat, ix_M mMo_layPass [.ref 75, .int (ix_bi far)] (hp c X) = some ([], hp c Y) ∧ FlowR B (bop B) (bro B (if far = true then 2 else 1)) (bro B (if far = true then 1 else 2)) v (fun c => decide (c ∈ ns)) (fun c => decide (64 + c ∈ ns)) ∧ (∀ x, x < bn B → Y.1 91 x = ix_bi (decide (x ∈ ns) && !decide (64 + x ∈ ns))) ∧ rS X Y := by
  have h64 := bS_64 hs
  have main : ∀ Y0 (v : Nat) (ns : List Nat), rS X Y0 → (∀ w, w < 128 → (Y0.1 87 w = -6 ↔ ¬ w ∈ ns)) → ∃ Y, l_Mo_layPass_25 75 0 (hp c Y0) = some ([], hp c Y) ∧ (∀ x, x < bn B → Y.1 91 x = ix_bi (decide (x ∈ ns) && !decide (64 + x ∈ ns))) ∧ rS X Y := by
    intro Y0 v ns hr0 h87
    have hA0 : rBd (Y0.1 76) B := by rw [rS_76 hr0]; exact hA
    obtain ⟨Y, e1, q1, q2⟩ := lp_up (fun k (Y : ixX) => l_Mo_layPass_25 75 (nI k) (hp c Y)) (fun k Y => eX [91] Y0 Y ∧ ∀ x, x < k → Y.1 91 x = ix_bi (decide (x ∈ ns) && !decide (64 + x ∈ ns))) (N := bn B) (fun k Y hk hY => by
      obtain ⟨q1, q2⟩ := hY
      have hA' : rBd (Y.1 76) B := by rw [q1.2 76 (by decide)]; exact hA0
      have fin : ∀ v : Int32, v &&& 1 = ix_bi (decide (k ∈ ns) && !decide (64 + k ∈ ns)) → eX [91] Y0 (aI Y 91 (upd (Y.1 91) k (v &&& 1))) ∧ ∀ x, x < k + 1 → (aI Y 91 (upd (Y.1 91) k (v &&& 1))).1 91 x = ix_bi (decide (x ∈ ns) && !decide (64 + x ∈ ns)) := by
        intro v hv
        refine ⟨eX_aI q1 (by decide), fun x hx => ?_⟩
        rw [aI_1]
        by_cases ex : x = k
        · rw [ex, upd_1, hv]
        · rw [upd_n _ _ ex]; exact q2 x (by omega)
      have e87 : Y.1 87 = Y0.1 87 := q1.2 87 (by decide)
      show ∃ Y', l_Mo_layPass_25 75 (nI k) (hp c Y) = l_Mo_layPass_25 75 (nI (k + 1)) (hp c Y') ∧ _
      rw [e_Mo_layPass_25, kI_of (M_mcells hA'), if_neg (by rw [nI_leI (by omega) (by omega)]; omega), bO (g75_18 c _), bO (g75_11 c _), bO (r87 (by omega)), e87]
      by_cases h1 : k ∈ ns
      · rw [if_neg (fun q => (h87 k (by omega)).mp q h1), bO (g75_11 c _), show (64 : Int32) + nI k = nI (64 + k) from nI_add 64 k, bO (r87 (by omega)), e87]
        by_cases h2 : 64 + k ∈ ns
        · rw [if_pos (fun q => (h87 (64 + k) (by omega)).mp q h2), bO (s91 (by omega)), nI_1]
          exact ⟨_, rfl, fin 0 (by rw [decide_eq_true h1, decide_eq_true h2]; decide)⟩
        · rw [if_neg (fun n => n ((h87 (64 + k) (by omega)).mpr h2)), bO (s91 (by omega)), nI_1]
          exact ⟨_, rfl, fin 1 (by rw [decide_eq_true h1, decide_eq_false h2]; decide)⟩
      · rw [if_pos ((h87 k (by omega)).mpr h1), bO (s91 (by omega)), nI_1]
        exact ⟨_, rfl, fin 0 (by rw [decide_eq_false h1, Bool.false_and]; decide)⟩) (k := 0) (s := Y0) (by omega) ⟨eX_refl _ _, fun x hx => absurd hx (Nat.not_lt_zero x)⟩
    have e1' : l_Mo_layPass_25 75 0 (hp c Y0) = l_Mo_layPass_25 75 (nI (bn B)) (hp c Y) := e1
    have hA' : rBd (Y.1 76) B := by rw [q1.2 76 (by decide)]; exact hA0
    refine ⟨Y, ?_, q2, rS_trans hr0 (rS_eX q1 (by decide) (by rw [q1.2 75 (by decide)]))⟩
    rw [e1', e_Mo_layPass_25, kI_of (M_mcells hA'), if_pos (by rw [nI_leI (by omega) (by omega)]; omega)]
  cases far with
  | false =>
    obtain ⟨Y0, v, ns, f1, f2, f3, f4⟩ := R_layFlow (c := c) hs hb hA (r1 := 1) (r2 := 2) (by omega) (by omega)
    obtain ⟨Y, g1, g2, g3⟩ := main Y0 v ns f2 f4
    refine ⟨Y, v, ns, x_Mo_layPass (rc_75 c X) ?_, f3, g2, g3⟩
    rw [show ix_bi false = 0 from rfl, e_Mo_layPass, if_neg (by decide), if_neg (by decide), show (1 : Int32) = nI 1 from rfl, show (2 : Int32) = nI 2 from rfl, kI_of f1]
    exact g1
  | true =>
    obtain ⟨Y0, v, ns, f1, f2, f3, f4⟩ := R_layFlow (c := c) hs hb hA (r1 := 2) (r2 := 1) (by omega) (by omega)
    obtain ⟨Y, g1, g2, g3⟩ := main Y0 v ns f2 f4
    refine ⟨Y, v, ns, x_Mo_layPass (rc_75 c X) ?_, f3, g2, g3⟩
    rw [show ix_bi true = 1 from rfl, e_Mo_layPass, if_pos (by decide), if_pos (by decide), show (1 : Int32) = nI 1 from rfl, show (2 : Int32) = nI 2 from rfl, kI_of f1]
    exact g1
