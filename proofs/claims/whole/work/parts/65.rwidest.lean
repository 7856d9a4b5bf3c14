/-! REFERENCE: how wide; the marked cells as a list -/
def pSt (X : ixX) (mm : Nat) (L : Nat → Bool) (e : Nat → Nat → Bool) : Prop := X.1 75 20 = nI mm ∧ (∀ i, i < mm → X.1 94 i = ix_bi (L i)) ∧ (∀ i j, i < mm → j < mm → X.1 93 (64 * i + j) = ix_bi (e i j))
theorem nI_s0 (a : Nat) : nI a - 0 = nI a := nI_sub (b := 0) (Nat.zero_le a)
theorem nI_a0 (a : Nat) : nI a + 0 = nI a := nI_add a 0
theorem M_widest {c : ixK} {X : ixX} {mm : Nat} (hmm : mm ≤ 64) {L : Nat → Bool} {e : Nat → Nat → Bool} (hL : ∀ x, L x = true → x < mm) (he : ∀ i j, e i j = true → i < j ∧ j < mm) (het : ∀ i j k, e i j = true → e j k = true → e i k = true) (hA : pSt X mm L e) : ∃ X2 k, ix_M mMo_widest [.ref 75] (hp c X) = some ([.int (nI k)], hp c X2) ∧ isW 64 L e k ∧ k ≤ 64 ∧ eX [75, 84, 95, 96, 97] X X2 ∧ (∀ k, ¬ k = 14 → X2.1 75 k = X.1 75 k) := by
  obtain ⟨A1, A2, A3⟩ := hA
  obtain ⟨X1, e1, p1, p2⟩ := lp_up (fun k (Y : ixX) => l_Mo_widest_4 75 (nI (fb_ct L k)) (nI k) (hp c Y)) (fun k Y => eX [95, 96] X Y ∧ ∀ y, y < k → Y.1 95 y = -6 ∧ Y.1 96 y = -6) (N := mm) (fun k Y hk hY => by
    obtain ⟨p1, p2⟩ := hY
    refine ⟨aI (aI Y 95 (upd (Y.1 95) k (-6))) 96 (upd (Y.1 96) k (-6)), ?_, eX_aI (eX_aI p1 (by decide)) (by decide), fun y hy => ?_⟩
    · show l_Mo_widest_4 75 (nI (fb_ct L k)) (nI k) (hp c Y) = l_Mo_widest_4 75 (nI (fb_ct L (k + 1))) (nI (k + 1)) (hp c _)
      rw [e_Mo_widest_4, bO (g75_20 c _), p1.2 75 (by decide), A1, if_neg (by rw [nI_leI (by omega) (by omega)]; omega), bO (g75_23 c _), bO (s95 (by omega)), bO (g75_24 c _), bO (s96 (by omega)), aI_o (by omega), bO (g75_22 c _), bO (r94 (by omega)), aI_o (by omega), aI_o (by omega), p1.2 94 (by decide), A2 k hk, fb_ct_succ]
      cases L k with
      | true => rw [if_neg (by decide), nI_1, nI_1, if_pos rfl]
      | false => rw [if_pos (by decide), nI_a0, nI_1, if_neg (by decide)]; rfl
    · rw [aI_1, aI_o (by omega), aI_1]
      by_cases ey : y = k
      · rw [ey, upd_1, upd_1]; exact ⟨rfl, rfl⟩
      · rw [upd_n _ _ ey, upd_n _ _ ey]; exact p2 y (by omega)) (k := 0) (s := X) (by omega) ⟨eX_refl _ _, fun y hy => absurd hy (Nat.not_lt_zero y)⟩
  have e1' : l_Mo_widest_4 75 0 0 (hp c X) = l_Mo_widest_4 75 (nI (fb_ct L mm)) (nI mm) (hp c X1) := e1
  have hA0 : pA X1 mm L e (fun _ => none) (fun _ => none) := ⟨by rw [p1.2 75 (by decide)]; exact A1, fun i hi => by rw [p1.2 94 (by decide)]; exact A2 i hi, fun i j hi hj => by rw [p1.2 93 (by decide)]; exact A3 i j hi hj, fun i hi => (p2 i hi).1, fun i hi => (p2 i hi).2⟩
  have hm0 : mOK L (dE e) (fun _ => none) (fun _ => none) := ⟨fun x y h => (by cases h), fun y x h => (by cases h)⟩
  have hml : ∀ ld fo : Nat → Option Nat, mOK L (dE e) ld fo → fb_ct (fun x => !(ld x).isNone) 64 ≤ fb_ct L mm := by
    intro ld fo hm
    have h1 : fb_ct (fun x => !(ld x).isNone) 64 ≤ fb_ct L 64 := fb_ct_sub fun x _ hx => by
      cases hl : ld x with
      | none => rw [hl] at hx; cases hx
      | some y => exact (hm.1 x y hl).1
    have h2 := ct_64 (p := L) hmm (fun x hx => by
      cases q : L x with
      | false => rfl
      | true => have := hL x q; omega)
    omega
  obtain ⟨⟨X3, ld, fo, D, J⟩, e3, r1, r2, r3, r4, r5, r6, r7, r8⟩ := lp_up (fun k (s : ixX × (Nat → Option Nat) × (Nat → Option Nat) × (Nat → Bool) × Nat) => l_Mo_widest_53 75 (nI (fb_ct L mm - s.2.2.2.2)) (nI k) (hp c s.1)) (fun k s => pA s.1 mm L e s.2.1 s.2.2.1 ∧ mOK L (dE e) s.2.1 s.2.2.1 ∧ Dc L (dE e) s.2.2.1 s.2.2.2.1 ∧ (∀ x, x < k → L x = true → s.2.1 x = none → s.2.2.2.1 x = true) ∧ (∀ x, k ≤ x → s.2.1 x = none) ∧ s.2.2.2.2 = fb_ct (fun x => !(s.2.1 x).isNone) 64 ∧ eX [75, 84, 95, 96, 97] X s.1 ∧ (∀ k, ¬ k = 14 → s.1.1 75 k = X.1 75 k)) (N := mm) (fun k s hk hP => by
    obtain ⟨p1, p2, p3, p4, p5, p6, p7, p8⟩ := hP
    show ∃ s' : ixX × (Nat → Option Nat) × (Nat → Option Nat) × (Nat → Bool) × Nat, l_Mo_widest_53 75 (nI (fb_ct L mm - s.2.2.2.2)) (nI k) (hp c s.1) = l_Mo_widest_53 75 (nI (fb_ct L mm - s'.2.2.2.2)) (nI (k + 1)) (hp c s'.1) ∧ _
    rw [e_Mo_widest_53, bO (g75_20 c _), p1.1, if_neg (by rw [nI_leI (by omega) (by omega)]; omega), bO (g75_22 c _), bO (r94 (by omega)), p1.2.1 k hk]
    cases hLk : L k with
    | false =>
      rw [if_pos (by decide), nI_s0]
      refine ⟨s, by rw [nI_1 k], p1, p2, p3, fun x hx hLx hn => ?_, fun x hx => p5 x (by omega), p6, p7, p8⟩
      by_cases ex : x = k
      · rw [ex, hLk] at hLx; cases hLx
      · exact p4 x (by omega) hLx hn
    | true =>
      obtain ⟨Y, ld2, fo2, D2, r, i1, i2, i3, i4, i5, i6, i7, i8, i9⟩ := M_findsPair (c := c) hmm hL p1 p2 p3 hLk (p5 k (Nat.le_refl k))
      have hnone : ∀ y, ld2 y = none ↔ (r && decide (y = k)) = false ∧ s.2.1 y = none := by
        intro y
        rw [← Option.isNone_iff_eq_none, ← Option.isNone_iff_eq_none, i6 y, Bool.and_eq_true, Bool.not_eq_true']
      have hle2 := hml ld2 fo2 i3
      rw [if_neg (by decide), kZ_of i1]
      cases hr : r with
      | true =>
        rw [hr] at i6 i7 hnone
        have hJ : s.2.2.2.2 + 1 = fb_ct (fun x => !(ld2 x).isNone) 64 := by
          rw [p6]
          have h1 := fb_ct_upd (fun x => !(s.2.1 x).isNone) true (show k < 64 by omega)
          rw [p5 k (Nat.le_refl k)] at h1
          have h2 : fb_ct (fun x => !(ld2 x).isNone) 64 = fb_ct (fun j => if j = k then true else !(s.2.1 j).isNone) 64 := fb_ct_cong fun x _ => by
            rw [i6 x]
            by_cases ex : x = k
            · rw [if_pos ex, decide_eq_true ex]; rfl
            · rw [if_neg ex, decide_eq_false ex]; rfl
          have h3 : (if (!(none : Option Nat).isNone) = true then 1 else 0) = 0 := rfl
          rw [h3, if_pos rfl] at h1
          omega
        rw [if_pos rfl, show nI (fb_ct L mm - s.2.2.2.2) - 1 = nI (fb_ct L mm - s.2.2.2.2 - 1) from nI_sub (b := 1) (by omega)]
        refine ⟨(Y, ld2, fo2, D2, s.2.2.2.2 + 1), by rw [nI_1 k, Nat.sub_sub], i2, i3, i4, fun x hx hLx hn => ?_, fun x hx => ?_, hJ, eX_trans p7 i8, fun k hk => (i9 k hk).trans (p8 k hk)⟩
        · have hq := (hnone x).mp hn
          have ex : ¬ x = k := fun ex => by
            have := hq.1
            rw [decide_eq_true ex] at this
            cases this
          exact i5 x (p4 x (by omega) hLx hq.2)
        · exact (hnone x).mpr ⟨by rw [decide_eq_false (show ¬ x = k by omega)]; rfl, p5 x (by omega)⟩
      | false =>
        rw [hr] at i6 i7 hnone
        rw [if_neg (by decide), nI_s0]
        refine ⟨(Y, ld2, fo2, D2, s.2.2.2.2), by rw [nI_1 k], i2, i3, i4, fun x hx hLx hn => ?_, fun x hx => ?_, ?_, eX_trans p7 i8, fun k hk => (i9 k hk).trans (p8 k hk)⟩
        · by_cases ex : x = k
          · rw [ex]; exact i7 rfl
          · exact i5 x (p4 x (by omega) hLx ((hnone x).mp hn).2)
        · exact (hnone x).mpr ⟨rfl, p5 x (by omega)⟩
        · show s.2.2.2.2 = fb_ct (fun x => !(ld2 x).isNone) 64
          rw [p6]
          exact fb_ct_cong fun x _ => by rw [i6 x]; rfl) (k := 0) (s := (X1, fun _ => none, fun _ => none, fun _ => false, 0)) (by omega) ⟨hA0, hm0, fun x hx => (by cases hx), fun x hx => absurd hx (Nat.not_lt_zero x), fun x _ => rfl, (fb_ct_zero.mpr fun _ _ => rfl).symm, eX_mono p1 (by decide), fun k _ => by show X1.1 75 k = _; rw [p1.2 75 (by decide)]⟩
  have e3' : l_Mo_widest_53 75 (nI (fb_ct L mm)) (nI 0) (hp c X1) = l_Mo_widest_53 75 (nI (fb_ct L mm - J)) (nI mm) (hp c X3) := e3
  have r1' : pA X3 mm L e ld fo := r1
  have r2' : mOK L (dE e) ld fo := r2
  have r3' : Dc L (dE e) fo D := r3
  have r4' : ∀ x, x < mm → L x = true → ld x = none → D x = true := r4
  have r6' : J = fb_ct (fun x => !(ld x).isNone) 64 := r6
  have hL64 : ∀ x, L x = true → x < 64 := fun x h => by have := hL x h; omega
  have hE : stO (dE e) (fun x => 63 - x) := by
    refine ⟨fun a b d h1 h2 => het d b a h2 h1, fun a b h => ?_⟩
    have := he b a h
    show 63 - a < 63 - b
    omega
  have hh : ∀ x, hdB L ld x = true → D x = true := fun x hx => by
    have := (hdB_iff L ld x).mp hx
    exact r4' x (hL x this.1) this.1 this.2
  have hcount : fb_ct L 64 = fb_ct (hdB L ld) 64 + J := by
    rw [r6', ← fb_ct_or (p := hdB L ld) (q := fun x => !(ld x).isNone) (fun k _ hk => by
      have h1 := (hdB_iff L ld k).mp hk.1
      have h2 := hk.2
      rw [h1.2] at h2
      cases h2)]
    refine fb_ct_cong fun x _ => ?_
    unfold hdB
    cases hl : ld x with
    | none => cases L x <;> rfl
    | some y => rw [(r2'.1 x y hl).1]; rfl
  have hc2 := ct_64 (p := L) hmm (fun x hx => by
      cases q : L x with
      | false => rfl
      | true => have := hL x q; omega)
  have hk : fb_ct L mm - J = fb_ct (hdB L ld) 64 := by omega
  refine ⟨X3, fb_ct (hdB L ld) 64, x_Mo_widest (rc_75 c X) ?_, isW_d (W_of hL64 (fun x hx => by show 63 - x < 64; omega) hE r2' r3' hh), fb_ct_le _ _, r7, r8⟩
  have h20 : X1.1 75 20 = nI mm := hA0.1
  rw [e_Mo_widest, e1', e_Mo_widest_4, bO (g75_20 c _), h20, if_pos (by rw [nI_leI (by omega) (by omega)]; omega), show (0 : Int32) = nI 0 from rfl, e3', e_Mo_widest_53, bO (g75_20 c _), r1'.1, if_pos (by rw [nI_leI (by omega) (by omega)]; omega), hk]
/-! the marked cells -/
def mLs (B : bT) (ml : List Nat) : Prop := ml.Nodup ∧ (∀ i j, i < j → j < ml.length → ml.getD i 0 < ml.getD j 0) ∧ (∀ x, x ∈ ml ↔ x < bn B ∧ bro B 3 x = true)
def eI (B : bT) (ml : List Nat) (i j : Nat) : Bool := decide (i < ml.length) && (decide (j < ml.length) && EBh B (ml.getD i 0) (ml.getD j 0))
theorem eI_iff (B : bT) (ml : List Nat) (i j : Nat) : eI B ml i j = true ↔ i < ml.length ∧ j < ml.length ∧ EBh B (ml.getD i 0) (ml.getD j 0) = true := by
  unfold eI
  simp only [Bool.and_eq_true, decide_eq_true_eq]
theorem mL_lt {B : bT} {ml : List Nat} (hl : mLs B ml) {i j : Nat} (hi : i < ml.length) (hj : j < ml.length) : ml.getD i 0 < ml.getD j 0 ↔ i < j := by
  constructor
  · intro h
    rcases Nat.lt_trichotomy i j with q | q | q
    · exact q
    · rw [q] at h; omega
    · have := hl.2.1 j i q hi; omega
  · intro h
    exact hl.2.1 i j h hj
theorem eI_lt {B : bT} (hw : 0 < bw B) {ml : List Nat} (hl : mLs B ml) {i j : Nat} (h : eI B ml i j = true) : i < j ∧ j < ml.length := by
  obtain ⟨h1, h2, h3⟩ := (eI_iff B ml i j).mp h
  exact ⟨(mL_lt hl h1 h2).mp (EBh_lt hw h3), h2⟩
theorem eI_tr {B : bT} (hw : 0 < bw B) {ml : List Nat} {i j k : Nat} (h : eI B ml i j = true) (h2 : eI B ml j k = true) : eI B ml i k = true := by
  obtain ⟨a1, a2, a3⟩ := (eI_iff B ml i j).mp h
  obtain ⟨b1, b2, b3⟩ := (eI_iff B ml j k).mp h2
  exact (eI_iff B ml i k).mpr ⟨a1, b2, (EBh_st hw).1 _ _ _ a3 b3⟩
theorem mL_len {B : bT} (hs : bS B) {ml : List Nat} (hl : mLs B ml) : ml.length ≤ 64 := Nat.le_trans (nd_len hl.1 (fun x hx => ((hl.2.2 x).mp hx).1)) (bS_64 hs)
/-- sets of indices and sets of cells -/
theorem mL_ct {B : bT} (hs : bS B) {ml : List Nat} (hl : mLs B ml) {A' A : Nat → Bool} (h1 : ∀ i, A' i = true → i < ml.length) (h2 : ∀ x, A x = true → x ∈ ml) (h3 : ∀ i, i < ml.length → A' i = A (ml.getD i 0)) : fb_ct A' 64 = fb_ct A 64 := by
  have h64 := bS_64 hs
  have hlen := mL_len hs hl
  have hx : ∀ x, x ∈ ml → x < 64 := fun x hx => by have := ((hl.2.2 x).mp hx).1; omega
  have l1 := ct_inj (p := A') (q := A) (n := 64) (fun i x => i < ml.length ∧ ml.getD i 0 = x) (fun i hi hA => by
    have hil := h1 i hA
    exact ⟨ml.getD i 0, hx _ (gd_mem ml i hil), by rw [← h3 i hil]; exact hA, hil, rfl⟩) (fun i i' x _ _ ⟨a1, a2⟩ ⟨b1, b2⟩ => by
    rcases Nat.lt_trichotomy i i' with q | q | q
    · exact absurd (a2.trans b2.symm) (nd_gd ml hl.1 i i' q b1)
    · exact q
    · exact absurd (b2.trans a2.symm) (nd_gd ml hl.1 i' i q a1))
  have l2 := ct_inj (p := A) (q := A') (n := 64) (fun x i => ml.getD i 0 = x) (fun x _ hA => by
    obtain ⟨i, hi, e⟩ := mem_gd ml x (h2 x hA)
    exact ⟨i, by omega, by rw [h3 i hi, e]; exact hA, e⟩) (fun x x' i _ _ a b => a.symm.trans b)
  omega
def toC (ml : List Nat) (A' : Nat → Bool) : Nat → Bool := fun x => decide (0 < fb_ct (fun i => decide (i < ml.length) && (decide (ml.getD i 0 = x) && A' i)) 64)
theorem toC_iff {ml : List Nat} (hl : ml.length ≤ 64) (A' : Nat → Bool) (x : Nat) : toC ml A' x = true ↔ ∃ i, i < ml.length ∧ ml.getD i 0 = x ∧ A' i = true := by
  unfold toC
  rw [decide_eq_true_eq, fb_ct_pos]
  constructor
  · rintro ⟨i, _, h⟩
    simp only [Bool.and_eq_true, decide_eq_true_eq] at h
    exact ⟨i, h.1, h.2.1, h.2.2⟩
  · rintro ⟨i, h1, h2, h3⟩
    refine ⟨i, by omega, ?_⟩
    simp only [Bool.and_eq_true, decide_eq_true_eq]
    exact ⟨h1, h2, h3⟩
theorem toC_gd {B : bT} (hs : bS B) {ml : List Nat} (hl : mLs B ml) (A' : Nat → Bool) {i : Nat} (hi : i < ml.length) : toC ml A' (ml.getD i 0) = A' i := by
  rw [Bool.eq_iff_iff, toC_iff (mL_len hs hl)]
  constructor
  · rintro ⟨j, hj, e, h⟩
    have : j = i := by
      rcases Nat.lt_trichotomy j i with q | q | q
      · exact absurd e (nd_gd ml hl.1 j i q hi)
      · exact q
      · exact absurd e.symm (nd_gd ml hl.1 i j q hj)
    rw [← this]; exact h
  · intro h
    exact ⟨i, hi, rfl, h⟩
theorem toC_aC {B : bT} (hs : bS B) {ml : List Nat} (hl : mLs B ml) {L' L A' : Nat → Bool} (hLL : ∀ i, i < ml.length → L' i = true → L (ml.getD i 0) = true) (hL' : ∀ i, L' i = true → i < ml.length) (hA : aC L' (eI B ml) A') : aC L (EBh B) (toC ml A') ∧ fb_ct (toC ml A') 64 = fb_ct A' 64 := by
  have hlen := mL_len hs hl
  refine ⟨⟨fun x hx => ?_, fun x y hx hy => ?_⟩, ?_⟩
  · obtain ⟨i, h1, h2, h3⟩ := (toC_iff hlen A' x).mp hx
    rw [← h2]
    exact hLL i h1 (hA.1 i h3)
  · obtain ⟨i, h1, h2, h3⟩ := (toC_iff hlen A' x).mp hx
    obtain ⟨j, g1, g2, g3⟩ := (toC_iff hlen A' y).mp hy
    cases hq : EBh B x y with
    | false => rfl
    | true =>
      rw [← h2, ← g2] at hq
      have := hA.2 i j h3 g3
      rw [(eI_iff B ml i j).mpr ⟨h1, g1, hq⟩] at this
      cases this
  · refine (mL_ct hs hl (fun i hi => hL' i (hA.1 i hi)) (fun x hx => ?_) (fun i hi => (toC_gd hs hl A' hi).symm)).symm
    obtain ⟨i, h1, h2, _⟩ := (toC_iff hlen A' x).mp hx
    rw [← h2]
    exact gd_mem ml i h1
theorem W_ix {B : bT} (hs : bS B) {ml : List Nat} (hl : mLs B ml) {L' L : Nat → Bool} (h1 : ∀ i, i < ml.length → L' i = L (ml.getD i 0)) (h2 : ∀ i, L' i = true → i < ml.length) (h3 : ∀ x, L x = true → x ∈ ml) {k : Nat} (h : isW 64 L' (eI B ml) k) : isW 64 L (EBh B) k := by
  obtain ⟨⟨A', a1, a2⟩, a3⟩ := h
  have t := toC_aC hs hl (L := L) (fun i hi hx => by rw [← h1 i hi]; exact hx) h2 a1
  refine ⟨⟨toC ml A', t.1, by rw [t.2]; exact a2⟩, fun A hA => ?_⟩
  have hc := mL_ct hs hl (A' := fun i => decide (i < ml.length) && A (ml.getD i 0)) (A := A) (fun i hi => by
    simp only [Bool.and_eq_true, decide_eq_true_eq] at hi
    exact hi.1) (fun x hx => h3 x (hA.1 x hx)) (fun i hi => by rw [decide_eq_true hi]; rfl)
  rw [← hc]
  refine a3 _ ⟨fun i hi => ?_, fun i j hi hj => ?_⟩
  · simp only [Bool.and_eq_true, decide_eq_true_eq] at hi
    rw [h1 i hi.1]
    exact hA.1 _ hi.2
  · simp only [Bool.and_eq_true, decide_eq_true_eq] at hi hj
    cases hq : eI B ml i j with
    | false => rfl
    | true =>
      have := hA.2 _ _ hi.2 hj.2
      rw [((eI_iff B ml i j).mp hq).2.2] at this
      cases this
def pM (X : ixX) (B : bT) (ml : List Nat) : Prop := X.1 75 20 = nI ml.length ∧ (∀ i, i < ml.length → X.1 92 i = nI (ml.getD i 0)) ∧ (∀ i j, i < ml.length → j < ml.length → X.1 93 (64 * i + j) = ix_bi (eI B ml i j))
theorem M_layMarked {c : ixK} {X : ixX} {B : bT} (hs : bS B) (hr4 : ∀ c, brl B c < 4) (hA : rBd (X.1 76) B) : ∃ Y ml, ix_M mMo_layMarked [.ref 75] (hp c X) = some ([], hp c Y) ∧ mLs B ml ∧ pM Y B ml ∧ (∀ a, ¬ a = 75 → ¬ a = 92 → ¬ a = 93 → Y.1 a = X.1 a) ∧ (∀ k, ¬ k = 20 → Y.1 75 k = X.1 75 k) ∧ (∀ a, ¬ a = 79 → Y.2 a = X.2 a) := by
  have h64 := bS_64 hs
  have hw := bS_w hs
  obtain ⟨X0, hX0⟩ : ∃ Y, Y = aI X 75 (upd (X.1 75) 20 0) := ⟨_, rfl⟩
  have o75 : ∀ k, ¬ k = 20 → X0.1 75 k = X.1 75 k := fun k hk => by rw [hX0, aI_1, upd_n _ _ hk]
  have oo : ∀ a, ¬ a = 75 → X0.1 a = X.1 a := fun a ha => by rw [hX0, aI_o ha]
  obtain ⟨⟨X1, ml⟩, e1, p1, p2, p3, p4, p5, p6, p7, p8⟩ := lp_up (fun k (s : ixX × List Nat) => l_Mo_layMarked_7 75 (nI k) (hp c s.1)) (fun k s => s.2.Nodup ∧ (∀ i j, i < j → j < s.2.length → s.2.getD i 0 < s.2.getD j 0) ∧ (∀ x, x ∈ s.2 ↔ x < k ∧ bro B 3 x = true) ∧ s.1.1 75 20 = nI s.2.length ∧ (∀ i, i < s.2.length → s.1.1 92 i = nI (s.2.getD i 0)) ∧ (∀ a, ¬ a = 75 → ¬ a = 92 → s.1.1 a = X.1 a) ∧ (∀ k, ¬ k = 20 → s.1.1 75 k = X.1 75 k) ∧ s.1.2 = X.2) (N := bn B) (fun k s hk hP => by
    obtain ⟨p1, p2, p3, p4, p5, p6, p7, p8⟩ := hP
    have hA' : rBd (s.1.1 76) B := by rw [p6 76 (by omega) (by omega)]; exact hA
    have hlen := nd_len p1 (fun x hx => ((p3 x).mp hx).1)
    show ∃ s' : ixX × List Nat, l_Mo_layMarked_7 75 (nI k) (hp c s.1) = l_Mo_layMarked_7 75 (nI (k + 1)) (hp c s'.1) ∧ _
    rw [e_Mo_layMarked_7, kI_of (M_mcells hA'), if_neg (by rw [nI_leI (by omega) (by omega)]; omega), show (3 : Int32) = nI 3 from rfl, kZ_of (M_mhas hs hr4 hA' hk (by omega))]
    cases hb : bro B 3 k with
    | false =>
      rw [if_neg (by decide)]
      refine ⟨s, by rw [nI_1 k], p1, p2, fun x => ?_, p4, p5, p6, p7, p8⟩
      rw [p3 x]
      constructor
      · rintro ⟨a, b⟩; exact ⟨by omega, b⟩
      · rintro ⟨a, b⟩
        by_cases ex : x = k
        · rw [ex, hb] at b; cases b
        · exact ⟨by omega, b⟩
    | true =>
      have hknot : ¬ k ∈ s.2 := fun h => by have := ((p3 k).mp h).1; omega
      rw [if_pos rfl, bO (g75_19 c _), bO (g75_20 c _), p4, bO (s92 (by omega)), bO (g75_20 c _), aI_o (by omega), p4, bO (p75_20 c _ _), aI_o (by omega), nI_1, nI_1]
      refine ⟨(aI (aI s.1 92 (upd (s.1.1 92) s.2.length (nI k))) 75 (upd (s.1.1 75) 20 (nI (s.2.length + 1))), s.2 ++ [k]), rfl, nd_app p1 hknot, ?_, fun x => ?_, ?_, ?_, ?_, ?_, p8⟩
      · intro i j hij hj
        rw [List.length_append] at hj
        have hj2 : j < s.2.length + 1 := hj
        show (s.2 ++ [k]).getD i 0 < (s.2 ++ [k]).getD j 0
        rw [gd_app_l s.2 [k] i (by omega)]
        rcases Nat.lt_or_ge j s.2.length with q | q
        · rw [gd_app_l s.2 [k] j q]; exact p2 i j hij q
        · have ej : j = s.2.length + 0 := by omega
          rw [ej, gd_app_r]
          exact ((p3 _).mp (gd_mem s.2 i (by omega))).1
      · show x ∈ s.2 ++ [k] ↔ _
        rw [List.mem_append, List.mem_singleton, p3 x]
        constructor
        · rintro (⟨a, b⟩ | a)
          · exact ⟨by omega, b⟩
          · rw [a]; exact ⟨by omega, hb⟩
        · rintro ⟨a, b⟩
          by_cases ex : x = k
          · exact .inr ex
          · exact .inl ⟨by omega, b⟩
      · show (aI _ 75 _).1 75 20 = nI (s.2 ++ [k]).length
        rw [aI_1, upd_1, List.length_append]; rfl
      · intro i hi
        rw [List.length_append] at hi
        have hi2 : i < s.2.length + 1 := hi
        show (aI (aI s.1 92 _) 75 _).1 92 i = nI ((s.2 ++ [k]).getD i 0)
        rw [aI_o (by omega), aI_1]
        rcases Nat.lt_or_ge i s.2.length with q | q
        · rw [upd_n _ _ (by omega), gd_app_l s.2 [k] i q]; exact p5 i q
        · have ei : i = s.2.length := by omega
          rw [ei, upd_1]
          exact congrArg nI (gd_app_r s.2 [k] 0).symm
      · intro a h1 h2
        show (aI (aI s.1 92 _) 75 _).1 a = X.1 a
        rw [aI_o h1, aI_o h2]; exact p6 a h1 h2
      · intro i hi
        show (aI (aI s.1 92 _) 75 _).1 75 i = X.1 75 i
        rw [aI_1, upd_n _ _ hi]; exact p7 i hi) (k := 0) (s := (X0, [])) (by omega) ⟨List.nodup_nil, fun i j _ hj => absurd hj (Nat.not_lt_zero j), fun x => ⟨fun h => (by cases h), fun h => absurd h.1 (Nat.not_lt_zero x)⟩, by show X0.1 75 20 = nI 0; rw [hX0, aI_1, upd_1]; rfl, fun i hi => absurd hi (Nat.not_lt_zero i), fun a h1 _ => oo a h1, o75, by show X0.2 = X.2; rw [hX0]; rfl⟩
  have e1' : l_Mo_layMarked_7 75 0 (hp c X0) = l_Mo_layMarked_7 75 (nI (bn B)) (hp c X1) := e1
  have hml : mLs B ml := ⟨p1, p2, p3⟩
  have p4' : X1.1 75 20 = nI ml.length := p4
  have p5' : ∀ i, i < ml.length → X1.1 92 i = nI (ml.getD i 0) := p5
  have p6' : ∀ a, ¬ a = 75 → ¬ a = 92 → X1.1 a = X.1 a := p6
  have p7' : ∀ k, ¬ k = 20 → X1.1 75 k = X.1 75 k := p7
  have p8' : X1.2 = X.2 := p8
  have hlen := mL_len hs hml
  have hA1 : rBd (X1.1 76) B := by rw [p6' 76 (by omega) (by omega)]; exact hA
  have hmn : ∀ i, i < ml.length → ml.getD i 0 < bn B := fun i hi => ((hml.2.2 _).mp (gd_mem ml i hi)).1
  obtain ⟨X2, e2, q1, q2, q3⟩ := lp_up (fun k (Y : ixX) => l_Mo_layMarked_52 75 (nI k) (hp c Y)) (fun k Y => (∀ a, ¬ a = 93 → Y.1 a = X1.1 a) ∧ (∀ a, ¬ a = 79 → Y.2 a = X1.2 a) ∧ ∀ i j, i < k → j < ml.length → Y.1 93 (64 * i + j) = ix_bi (eI B ml i j)) (N := ml.length) (fun k Y hk hY => by
    obtain ⟨q1, q2, q3⟩ := hY
    have hA' : rBd (Y.1 76) B := by rw [q1 76 (by omega)]; exact hA1
    obtain ⟨g, f1, f2⟩ := M_layFalls (c := c) hs hA' (hmn k hk)
    obtain ⟨Z, e3, z1, z2, z3, z4⟩ := lp_up (fun j (Z : ixX) => l_Mo_layMarked_72 75 (nI k) (nI j) (hp c Z)) (fun j Z => (∀ a, ¬ a = 93 → Z.1 a = X1.1 a) ∧ Z.2 = (aJ Y 79 g).2 ∧ (∀ i j', i < k → j' < ml.length → Z.1 93 (64 * i + j') = ix_bi (eI B ml i j')) ∧ ∀ j', j' < j → Z.1 93 (64 * k + j') = ix_bi (eI B ml k j')) (N := ml.length) (fun j Z hj hZ => by
      obtain ⟨z1, z2, z3, z4⟩ := hZ
      have fin : ∀ v : Int32, v &&& 1 = ix_bi (eI B ml k j) → (∀ a, ¬ a = 93 → (aI Z 93 (upd (Z.1 93) (64 * k + j) (v &&& 1))).1 a = X1.1 a) ∧ (aI Z 93 (upd (Z.1 93) (64 * k + j) (v &&& 1))).2 = (aJ Y 79 g).2 ∧ (∀ i j', i < k → j' < ml.length → (aI Z 93 (upd (Z.1 93) (64 * k + j) (v &&& 1))).1 93 (64 * i + j') = ix_bi (eI B ml i j')) ∧ ∀ j', j' < j + 1 → (aI Z 93 (upd (Z.1 93) (64 * k + j) (v &&& 1))).1 93 (64 * k + j') = ix_bi (eI B ml k j') := by
        intro v hv
        refine ⟨fun a ha => by rw [aI_o ha]; exact z1 a ha, z2, fun i j' hi hj' => ?_, fun j' hj' => ?_⟩
        · rw [aI_1, upd_n _ _ (by omega)]; exact z3 i j' hi hj'
        · rw [aI_1]
          by_cases ej : j' = j
          · rw [ej, upd_1, hv]
          · rw [upd_n _ _ (by omega)]; exact z4 j' (by omega)
      have w93 : ∀ v : Int32, ix_sz (hp c Z) 93 ((64 : Int32) * nI k + nI j) v = some (hp c (aI Z 93 (upd (Z.1 93) (64 * k + j) (v &&& 1)))) := fun v => by
        rw [x64]
        exact s93 (by omega)
      have hEv : eI B ml k j = EBh B (ml.getD k 0) (ml.getD j 0) := by
        unfold eI
        rw [decide_eq_true hk, decide_eq_true hj]; rfl
      show ∃ Z', l_Mo_layMarked_72 75 (nI k) (nI j) (hp c Z) = l_Mo_layMarked_72 75 (nI k) (nI (j + 1)) (hp c Z') ∧ _
      rw [e_Mo_layMarked_72, bO (g75_20 c _), z1 75 (by omega), p4', if_neg (by rw [nI_leI (by omega) (by omega)]; omega), bO (g75_21 c _)]
      by_cases ekj : k = j
      · rw [if_pos (by rw [ekj]), bO (w93 0), nI_1 j]
        refine ⟨_, rfl, fin 0 ?_⟩
        rw [hEv, ekj]
        have : EBh B (ml.getD j 0) (ml.getD j 0) = false := by
          unfold EBh
          rw [decide_eq_true (rfl : ml.getD j 0 = ml.getD j 0)]
          exact Bool.and_false _
        rw [this]; decide
      · have hmj := hmn j hj
        have hne : ¬ ml.getD k 0 = ml.getD j 0 := by
          rcases Nat.lt_or_gt_of_ne ekj with q | q
          · exact nd_gd ml hml.1 k j q hj
          · exact fun e => nd_gd ml hml.1 j k q hk e.symm
        have hsm := fw_small hs (ml.getD k 0) hmj
        rw [if_neg (by rw [nI_eq (by omega) (by omega)]; exact ekj), bO (g75_3 c _), bO (g75_19 c _), bO (r92 (by omega)), z1 92 (by omega), p5' j hj, bO (r79 (by omega)), z2, aJ_1, f2 _ hmj]
        by_cases h0 : fw B (ml.getD k 0) (ml.getD j 0) = 0
        · rw [if_pos ((lN_pos hsm).mpr h0), bO (w93 0), nI_1 j]
          refine ⟨_, rfl, fin 0 ?_⟩
          have : eI B ml k j = false := by
            rw [hEv]
            unfold EBh
            rw [decide_eq_false (by omega)]; rfl
          rw [this]; decide
        · rw [if_neg (fun q => h0 ((lN_pos hsm).mp q)), bO (w93 1), nI_1 j]
          refine ⟨_, rfl, fin 1 ?_⟩
          have : eI B ml k j = true := by
            rw [hEv]
            exact (EBh_iff B _ _).mpr ⟨by omega, hne⟩
          rw [this]; decide) (k := 0) (s := aJ Y 79 g) (by omega) ⟨fun a ha => q1 a ha, rfl, fun i j' hi hj' => q3 i j' hi hj', fun j' hj' => absurd hj' (Nat.not_lt_zero j')⟩
    have e3' : l_Mo_layMarked_72 75 (nI k) 0 (hp c (aJ Y 79 g)) = l_Mo_layMarked_72 75 (nI k) (nI ml.length) (hp c Z) := e3
    refine ⟨Z, ?_, z1, fun a ha => ?_, fun i j hi hj => ?_⟩
    · show l_Mo_layMarked_52 75 (nI k) (hp c Y) = l_Mo_layMarked_52 75 (nI (k + 1)) (hp c Z)
      rw [e_Mo_layMarked_52, bO (g75_20 c _), q1 75 (by omega), p4', if_neg (by rw [nI_leI (by omega) (by omega)]; omega), bO (g75_19 c _), bO (r92 (by omega)), q1 92 (by omega), p5' k hk, kV_of f1, e3', e_Mo_layMarked_72, bO (g75_20 c _), z1 75 (by omega), p4', if_pos (by rw [nI_leI (by omega) (by omega)]; omega), nI_1]
    · rw [z2, aJ_o ha]; exact q2 a ha
    · by_cases ei : i = k
      · rw [ei]; exact z4 j hj
      · exact z3 i j (by omega) hj) (k := 0) (s := X1) (by omega) ⟨fun _ _ => rfl, fun _ _ => rfl, fun i j hi => absurd hi (Nat.not_lt_zero i)⟩
  have e2' : l_Mo_layMarked_52 75 0 (hp c X1) = l_Mo_layMarked_52 75 (nI ml.length) (hp c X2) := e2
  refine ⟨X2, ml, x_Mo_layMarked (rc_75 c X) ?_, hml, ⟨?_, ?_, q3⟩, fun a h1 h2 h3 => ?_, fun k hk => ?_, fun a ha => ?_⟩
  · rw [e_Mo_layMarked, bO (p75_20 c _ _), ← hX0, e1', e_Mo_layMarked_7, kI_of (M_mcells hA1), if_pos (by rw [nI_leI (by omega) (by omega)]; omega), e2', e_Mo_layMarked_52, bO (g75_20 c _), q1 75 (by omega), p4', if_pos (by rw [nI_leI (by omega) (by omega)]; omega)]
  · rw [q1 75 (by omega)]; exact p4'
  · intro i hi
    rw [q1 92 (by omega)]; exact p5' i hi
  · rw [q1 a h3]; exact p6' a h1 h2
  · rw [q1 75 (by omega)]; exact p7' k hk
  · rw [q2 a ha, p8']
