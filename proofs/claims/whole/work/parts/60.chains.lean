/-! LYING BEHIND, and chains: plain facts -/
theorem rc_iff {B : bT} (hw : 0 < bw B) (y x : Nat) : 0 < fw B y x ↔ bop B x = true ∧ (x = y ∨ (¬ x % bw B = 0 ∧ 0 < fw B y (x - 1)) ∨ (bw B ≤ x ∧ 0 < fw B y (x - bw B))) := by
  rw [fw_eq hw]
  by_cases ho : bop B x = true
  · rw [if_pos ho]
    by_cases h1 : x = y
    · rw [if_pos h1]
      exact ⟨fun _ => ⟨ho, .inl h1⟩, fun _ => by omega⟩
    · rw [if_neg h1]
      by_cases h2 : x % bw B = 0
      · rw [if_pos h2]
        by_cases h3 : bw B ≤ x
        · rw [if_pos h3]
          refine ⟨fun h => ⟨ho, .inr (.inr ⟨h3, by omega⟩)⟩, fun h => ?_⟩
          rcases h.2 with h | h | h
          · exact absurd h h1
          · exact absurd h2 h.1
          · omega
        · rw [if_neg h3]
          refine ⟨fun h => by omega, fun h => ?_⟩
          rcases h.2 with h | h | h
          · exact absurd h h1
          · exact absurd h2 h.1
          · exact absurd h.1 h3
      · rw [if_neg h2]
        by_cases h3 : bw B ≤ x
        · rw [if_pos h3]
          refine ⟨fun h => ⟨ho, ?_⟩, fun h => ?_⟩
          · rcases Nat.eq_zero_or_pos (fw B y (x - 1)) with z | z
            · exact .inr (.inr ⟨h3, by omega⟩)
            · exact .inr (.inl ⟨h2, z⟩)
          · rcases h.2 with h | h | h
            · exact absurd h h1
            · omega
            · omega
        · rw [if_neg h3]
          refine ⟨fun h => ⟨ho, .inr (.inl ⟨h2, by omega⟩)⟩, fun h => ?_⟩
          rcases h.2 with h | h | h
          · exact absurd h h1
          · omega
          · exact absurd h.1 h3
  · rw [if_neg ho]
    exact ⟨fun h => by omega, fun h => absurd h.1 ho⟩
theorem rc_le {B : bT} (hw : 0 < bw B) {y x : Nat} (h : 0 < fw B y x) : y ≤ x := by
  rcases Nat.lt_or_ge x y with q | q
  · rw [fw_lt hw y x q] at h
    omega
  · exact q
theorem rc_self {B : bT} (hw : 0 < bw B) {x : Nat} (h : bop B x = true) : 0 < fw B x x := (rc_iff hw x x).mpr ⟨h, .inl rfl⟩
theorem rc_open {B : bT} (hw : 0 < bw B) (y : Nat) : ∀ x, 0 < fw B y x → bop B y = true := by
  intro x
  induction x using Nat.strongRecOn with
  | _ x ih =>
    intro h
    obtain ⟨h1, h2⟩ := (rc_iff hw y x).mp h
    rcases h2 with h2 | h2 | h2
    · rw [← h2]; exact h1
    · have : ¬ x = 0 := fun e => h2.1 (by rw [e]; exact Nat.zero_mod _)
      exact ih (x - 1) (by omega) h2.2
    · exact ih (x - bw B) (by omega) h2.2
theorem rc_trans {B : bT} (hw : 0 < bw B) {a b : Nat} (h : 0 < fw B a b) : ∀ c, 0 < fw B b c → 0 < fw B a c := by
  intro c
  induction c using Nat.strongRecOn with
  | _ c ih =>
    intro h2
    obtain ⟨h3, h4⟩ := (rc_iff hw b c).mp h2
    rcases h4 with h4 | h4 | h4
    · rw [h4]; exact h
    · have : ¬ c = 0 := fun e => h4.1 (by rw [e]; exact Nat.zero_mod _)
      exact (rc_iff hw a c).mpr ⟨h3, .inr (.inl ⟨h4.1, ih (c - 1) (by omega) h4.2⟩)⟩
    · exact (rc_iff hw a c).mpr ⟨h3, .inr (.inr ⟨h4.1, ih (c - bw B) (by omega) h4.2⟩)⟩
/-- spreading comes to what lies behind, and to what it lies behind -/
theorem sit_mono {B : bT} {b : Bool} {p : Nat → Bool} {c j : Nat} : ∀ k, sit B b p j c = true → sit B b p (j + k) c = true
  | 0, h => h
  | k + 1, h => by
    show sgr B b (sit B b p (j + k)) c = true
    unfold sgr
    rw [sit_mono k h]
    rfl
theorem sit_fall {B : bT} (hs : bS B) (x c : Nat) : sit B false (bon B x) 16 c = decide (0 < fw B x c) := by
  have hw := bS_w hs
  have h1 : ∀ k c, sit B false (bon B x) k c = true → 0 < fw B x c := by
    intro k
    induction k with
    | zero =>
      intro c h
      have h' : (decide (c = x) && bop B c) = true := h
      simp only [Bool.and_eq_true, decide_eq_true_eq] at h'
      rw [h'.1]
      exact rc_self hw (by rw [← h'.1]; exact h'.2)
    | succ k ih =>
      intro c h
      have h' : (sit B false (bon B x) k c || ((if false = true then srs B (sit B false (bon B x) k) c else sfl B (sit B false (bon B x) k) c) && bop B c)) = true := h
      rw [if_neg (by decide), Bool.or_eq_true, Bool.and_eq_true] at h'
      rcases h' with h' | ⟨h2, h3⟩
      · exact ih c h'
      · unfold sfl at h2
        simp only [Bool.and_eq_true, Bool.or_eq_true, decide_eq_true_eq, Bool.not_eq_true', decide_eq_false_iff_not] at h2
        rcases h2.2 with h4 | h4
        · exact (rc_iff hw x c).mpr ⟨h3, .inr (.inl ⟨h4.1, ih _ h4.2⟩)⟩
        · exact (rc_iff hw x c).mpr ⟨h3, .inr (.inr ⟨h4.1, ih _ h4.2⟩)⟩
  have h2 : ∀ c, 0 < fw B x c → ∃ k, k ≤ dgB B c ∧ sit B false (bon B x) k c = true := by
    intro c
    induction c using Nat.strongRecOn with
    | _ c ih =>
      intro h
      obtain ⟨h3, h4⟩ := (rc_iff hw x c).mp h
      rcases h4 with h4 | h4 | h4
      · refine ⟨0, Nat.zero_le _, ?_⟩
        show (decide (c = x) && bop B c) = true
        rw [decide_eq_true h4, h3]
        rfl
      · have hc : ¬ c = 0 := fun e => h4.1 (by rw [e]; exact Nat.zero_mod _)
        obtain ⟨k, hk, hk2⟩ := ih (c - 1) (by omega) h4.2
        have e := dgB_left hw h4.1
        refine ⟨k + 1, by omega, ?_⟩
        show (sit B false (bon B x) k c || ((if false = true then srs B (sit B false (bon B x) k) c else sfl B (sit B false (bon B x) k) c) && bop B c)) = true
        rw [if_neg (by decide), h3]
        unfold sfl
        rw [hk2, decide_eq_true (bop_lt h3), decide_eq_false h4.1]
        simp
      · obtain ⟨k, hk, hk2⟩ := ih (c - bw B) (by omega) h4.2
        have e := dgB_up hw h4.1
        refine ⟨k + 1, by omega, ?_⟩
        show (sit B false (bon B x) k c || ((if false = true then srs B (sit B false (bon B x) k) c else sfl B (sit B false (bon B x) k) c) && bop B c)) = true
        rw [if_neg (by decide), h3]
        unfold sfl
        rw [hk2, decide_eq_true (bop_lt h3), decide_eq_true h4.1]
        simp
  rw [Bool.eq_iff_iff, decide_eq_true_eq]
  refine ⟨h1 16 c, fun h => ?_⟩
  obtain ⟨k, hk, hk2⟩ := h2 c h
  have := dgB_le hs (bop_lt ((rc_iff hw x c).mp h).1)
  have e := sit_mono (16 - k) hk2
  rw [show k + (16 - k) = 16 by omega] at e
  exact e
theorem sit_rise {B : bT} (hs : bS B) (x c : Nat) : sit B true (bon B x) 16 c = decide (0 < fw B c x) := by
  have hw := bS_w hs
  have h1 : ∀ k c, sit B true (bon B x) k c = true → 0 < fw B c x := by
    intro k
    induction k with
    | zero =>
      intro c h
      have h' : (decide (c = x) && bop B c) = true := h
      simp only [Bool.and_eq_true, decide_eq_true_eq] at h'
      rw [h'.1]
      exact rc_self hw (by rw [← h'.1]; exact h'.2)
    | succ k ih =>
      intro c h
      have h' : (sit B true (bon B x) k c || ((if true = true then srs B (sit B true (bon B x) k) c else sfl B (sit B true (bon B x) k) c) && bop B c)) = true := h
      rw [if_pos rfl, Bool.or_eq_true, Bool.and_eq_true] at h'
      rcases h' with h' | ⟨h2, h3⟩
      · exact ih c h'
      · unfold srs at h2
        simp only [Bool.and_eq_true, Bool.or_eq_true, decide_eq_true_eq, Bool.not_eq_true', decide_eq_false_iff_not] at h2
        rcases h2 with h4 | h4
        · have i1 := ih _ h4.2
          refine rc_trans hw (b := c + 1) ?_ x i1
          exact (rc_iff hw c (c + 1)).mpr ⟨rc_open hw _ _ i1, .inr (.inl ⟨h4.1, rc_self hw h3⟩)⟩
        · have i1 := ih _ h4
          refine rc_trans hw (b := c + bw B) ?_ x i1
          refine (rc_iff hw c (c + bw B)).mpr ⟨rc_open hw _ _ i1, .inr (.inr ⟨by omega, ?_⟩)⟩
          rw [Nat.add_sub_cancel]
          exact rc_self hw h3
  have h2 : ∀ z j, sit B true (bon B x) j z = true → 0 < fw B c z → ∃ k, k ≤ dgB B z ∧ sit B true (bon B x) (j + k) c = true := by
    intro z
    induction z using Nat.strongRecOn with
    | _ z ih =>
      intro j hj h
      obtain ⟨h3, h4⟩ := (rc_iff hw c z).mp h
      rcases h4 with h4 | h4 | h4
      · exact ⟨0, Nat.zero_le _, by rw [← h4]; exact hj⟩
      · have hc : ¬ z = 0 := fun e => h4.1 (by rw [e]; exact Nat.zero_mod _)
        have hO := ((rc_iff hw c (z - 1)).mp h4.2).1
        have e := dgB_left hw h4.1
        have hj2 : sit B true (bon B x) (j + 1) (z - 1) = true := by
          show (sit B true (bon B x) j (z - 1) || ((if true = true then srs B (sit B true (bon B x) j) (z - 1) else sfl B (sit B true (bon B x) j) (z - 1)) && bop B (z - 1))) = true
          rw [if_pos rfl, hO]
          unfold srs
          rw [show z - 1 + 1 = z by omega, hj, decide_eq_false h4.1]
          simp
        obtain ⟨k, hk, hk2⟩ := ih (z - 1) (by omega) (j + 1) hj2 h4.2
        exact ⟨k + 1, by omega, by rw [show j + (k + 1) = j + 1 + k by omega]; exact hk2⟩
      · have hO := ((rc_iff hw c (z - bw B)).mp h4.2).1
        have e := dgB_up hw h4.1
        have hj2 : sit B true (bon B x) (j + 1) (z - bw B) = true := by
          show (sit B true (bon B x) j (z - bw B) || ((if true = true then srs B (sit B true (bon B x) j) (z - bw B) else sfl B (sit B true (bon B x) j) (z - bw B)) && bop B (z - bw B))) = true
          rw [if_pos rfl, hO]
          unfold srs
          rw [show z - bw B + bw B = z by omega, hj]
          simp
        obtain ⟨k, hk, hk2⟩ := ih (z - bw B) (by omega) (j + 1) hj2 h4.2
        exact ⟨k + 1, by omega, by rw [show j + (k + 1) = j + 1 + k by omega]; exact hk2⟩
  rw [Bool.eq_iff_iff, decide_eq_true_eq]
  refine ⟨h1 16 c, fun h => ?_⟩
  have ho := (rc_iff hw c x).mp h
  obtain ⟨k, hk, hk2⟩ := h2 x 0 (by show (decide (x = x) && bop B x) = true; rw [decide_eq_true rfl, ho.1]; rfl) h
  have := dgB_le hs (bop_lt ho.1)
  rw [Nat.zero_add] at hk2
  have e := sit_mono (16 - k) hk2
  rw [show k + (16 - k) = 16 by omega] at e
  exact e
/-! counting by maps -/
theorem ct_inj {p q : Nat → Bool} {n : Nat} (R : Nat → Nat → Prop) (h : ∀ x, x < n → p x = true → ∃ y, y < n ∧ q y = true ∧ R x y) (hi : ∀ x x' y, p x = true → p x' = true → R x y → R x' y → x = x') : fb_ct p n ≤ fb_ct q n := by
  have hx : ∀ k, ∃ y, k < fb_ct p n → y < fb_ct q n ∧ ∃ x z, x < n ∧ p x = true ∧ fb_ct p x = k ∧ z < n ∧ q z = true ∧ fb_ct q z = y ∧ R x z := by
    intro k
    by_cases hk : k < fb_ct p n
    · obtain ⟨x, hx1, hx2, hx3⟩ := fb_ct_kth hk
      obtain ⟨z, hz1, hz2, hz3⟩ := h x hx1 hx2
      refine ⟨fb_ct q z, fun _ => ⟨?_, x, z, hx1, hx2, hx3, hz1, hz2, rfl, hz3⟩⟩
      have := fb_ct_mono q (show z + 1 ≤ n from hz1)
      rw [fb_ct_succ, hz2] at this
      simp at this
      omega
    · exact ⟨0, fun q => absurd q hk⟩
  refine fb_holes (fb_ct q n) (fb_ct p n) (fun k => Classical.choose (hx k)) (fun k hk => (Classical.choose_spec (hx k) hk).1) ?_
  intro i j hij hj e
  obtain ⟨_, x, z, x1, x2, x3, z1, z2, z3, hr⟩ := Classical.choose_spec (hx i) (by omega)
  obtain ⟨_, x', z', x1', x2', x3', z1', z2', z3', hr'⟩ := Classical.choose_spec (hx j) hj
  have ez : z = z' := fb_ct_kth_one z2 z2' (by rw [z3, z3']; exact e)
  rw [← ez] at hr'
  have := hi x x' z x2 x2' hr hr'
  rw [this] at x3
  omega
theorem ct_surj {p q : Nat → Bool} {n : Nat} (R : Nat → Nat → Prop) (h : ∀ x, x < n → p x = true → ∃ y, y < n ∧ q y = true ∧ R x y) (hi : ∀ x x' y, p x = true → p x' = true → R x y → R x' y → x = x') (he : fb_ct q n ≤ fb_ct p n) : ∀ y, y < n → q y = true → ∃ x, x < n ∧ p x = true ∧ R x y := by
  intro y hy hq
  refine Classical.byContradiction fun hn => ?_
  have h1 := ct_inj (p := p) (q := fun z => if z = y then false else q z) (n := n) R (fun x hx hp => by
    obtain ⟨z, hz1, hz2, hz3⟩ := h x hx hp
    refine ⟨z, hz1, ?_, hz3⟩
    have : ¬ z = y := fun e => hn ⟨x, hx, hp, by rw [← e]; exact hz3⟩
    show (if z = y then false else q z) = true
    rw [if_neg this]
    exact hz2) hi
  have h2 := fb_ct_upd q false hy
  rw [hq, if_pos rfl, if_neg (by decide)] at h2
  omega
/-! chains -/
def stO (E : Nat → Nat → Bool) (rk : Nat → Nat) : Prop := (∀ a b c, E a b = true → E b c = true → E a c = true) ∧ (∀ a b, E a b = true → rk a < rk b)
def mOK (L : Nat → Bool) (E : Nat → Nat → Bool) (ld fo : Nat → Option Nat) : Prop := (∀ x y, ld x = some y → L x = true ∧ L y = true ∧ E y x = true ∧ fo y = some x) ∧ (∀ y x, fo y = some x → ld x = some y)
def Dc (L : Nat → Bool) (E : Nat → Nat → Bool) (fo : Nat → Option Nat) (D : Nat → Bool) : Prop := ∀ x, D x = true → L x = true ∧ ∀ y, L y = true → E y x = true → ∃ z, fo y = some z ∧ D z = true
def aC (L : Nat → Bool) (E : Nat → Nat → Bool) (A : Nat → Bool) : Prop := (∀ x, A x = true → L x = true) ∧ ∀ x y, A x = true → A y = true → E x y = false
def isW (N : Nat) (L : Nat → Bool) (E : Nat → Nat → Bool) (k : Nat) : Prop := (∃ A, aC L E A ∧ fb_ct A N = k) ∧ ∀ A, aC L E A → fb_ct A N ≤ k
theorem isW_eq {N : Nat} {L : Nat → Bool} {E : Nat → Nat → Bool} {k k2 : Nat} (h : isW N L E k) (h2 : isW N L E k2) : k = k2 := by
  obtain ⟨⟨A, a1, a2⟩, a3⟩ := h
  obtain ⟨⟨A', b1, b2⟩, b3⟩ := h2
  have := a3 A' b1
  have := b3 A a1
  omega
def hdB (L : Nat → Bool) (ld : Nat → Option Nat) : Nat → Bool := fun x => L x && (ld x).isNone
theorem hdB_iff (L : Nat → Bool) (ld : Nat → Option Nat) (x : Nat) : hdB L ld x = true ↔ L x = true ∧ ld x = none := by
  unfold hdB
  rw [Bool.and_eq_true, Option.isNone_iff_eq_none]
def upC (ld : Nat → Option Nat) : Nat → Nat → Option Nat
  | 0, x => some x
  | k + 1, x => (ld x).bind (upC ld k)
def dnC (fo : Nat → Option Nat) : Nat → Nat → Option Nat
  | 0, h => some h
  | k + 1, h => (dnC fo k h).bind fo
theorem up_dn {L : Nat → Bool} {E : Nat → Nat → Bool} {ld fo : Nat → Option Nat} (hm : mOK L E ld fo) : ∀ k x h, upC ld k x = some h ↔ dnC fo k h = some x
  | 0, x, h => ⟨fun e => by
      have : x = h := Option.some.inj e
      rw [this]; rfl, fun e => by
      have : h = x := Option.some.inj e
      rw [this]; rfl⟩
  | k + 1, x, h => by
    have ih := up_dn hm k
    show (ld x).bind (upC ld k) = some h ↔ (dnC fo k h).bind fo = some x
    constructor
    · intro e
      cases hl : ld x with
      | none => rw [hl] at e; cases e
      | some y =>
        rw [hl] at e
        have e2 : upC ld k y = some h := e
        rw [(ih y h).mp e2]
        exact (hm.1 x y hl).2.2.2
    · intro e
      cases hl : dnC fo k h with
      | none => rw [hl] at e; cases e
      | some y =>
        rw [hl] at e
        have e2 : fo y = some x := e
        rw [hm.2 y x e2]
        exact (ih y h).mpr hl
theorem dn_add (fo : Nat → Option Nat) (j h : Nat) : ∀ k, dnC fo (j + k) h = (dnC fo j h).bind (dnC fo k)
  | 0 => by
    show dnC fo j h = _
    cases dnC fo j h <;> rfl
  | k + 1 => by
    show (dnC fo (j + k) h).bind fo = _
    rw [dn_add fo j h k]
    cases dnC fo j h <;> rfl
theorem dn_E {L : Nat → Bool} {E : Nat → Nat → Bool} {rk : Nat → Nat} {ld fo : Nat → Option Nat} (hE : stO E rk) (hm : mOK L E ld fo) : ∀ k a b, dnC fo (k + 1) a = some b → E a b = true
  | 0, a, b, h => by
    have h' : fo a = some b := h
    exact (hm.1 b a (hm.2 a b h')).2.2.1
  | k + 1, a, b, h => by
    have h' : (dnC fo (k + 1) a).bind fo = some b := h
    cases hl : dnC fo (k + 1) a with
    | none => rw [hl] at h'; cases h'
    | some z =>
      rw [hl] at h'
      have h2 : fo z = some b := h'
      exact hE.1 a z b (dn_E hE hm k a z hl) ((hm.1 b z (hm.2 z b h2)).2.2.1)
theorem hd_ex {L : Nat → Bool} {E : Nat → Nat → Bool} {rk : Nat → Nat} {ld fo : Nat → Option Nat} (hE : stO E rk) (hm : mOK L E ld fo) : ∀ n x, rk x < n → L x = true → ∃ k h, upC ld k x = some h ∧ hdB L ld h = true
  | 0, x, hx, _ => absurd hx (Nat.not_lt_zero _)
  | n + 1, x, hx, hL => by
    cases hl : ld x with
    | none => exact ⟨0, x, rfl, (hdB_iff L ld x).mpr ⟨hL, hl⟩⟩
    | some y =>
      have h1 := hm.1 x y hl
      have h2 := hE.2 y x h1.2.2.1
      obtain ⟨k, h, e1, e2⟩ := hd_ex hE hm n y (by omega) h1.2.1
      refine ⟨k + 1, h, ?_, e2⟩
      show (ld x).bind (upC ld k) = some h
      rw [hl]
      exact e1
theorem hd_one {L : Nat → Bool} {ld : Nat → Option Nat} : ∀ k k' x h h', upC ld k x = some h → upC ld k' x = some h' → hdB L ld h = true → hdB L ld h' = true → h = h'
  | 0, 0, x, h, h', e1, e2, _, _ => Option.some.inj (e1.symm.trans e2)
  | 0, k' + 1, x, h, h', e1, e2, a1, _ => by
    have : x = h := Option.some.inj e1
    have e3 : (ld x).bind (upC ld k') = some h' := e2
    rw [this, ((hdB_iff L ld h).mp a1).2] at e3
    cases e3
  | k + 1, 0, x, h, h', e1, e2, _, a2 => by
    have : x = h' := Option.some.inj e2
    have e3 : (ld x).bind (upC ld k) = some h := e1
    rw [this, ((hdB_iff L ld h').mp a2).2] at e3
    cases e3
  | k + 1, k' + 1, x, h, h', e1, e2, a1, a2 => by
    have e3 : (ld x).bind (upC ld k) = some h := e1
    have e4 : (ld x).bind (upC ld k') = some h' := e2
    cases hl : ld x with
    | none => rw [hl] at e3; cases e3
    | some y =>
      rw [hl] at e3 e4
      exact hd_one k k' y h h' e3 e4 a1 a2
/-- in one chain: two that are not comparable are one -/
theorem ch_one {L : Nat → Bool} {E : Nat → Nat → Bool} {rk : Nat → Nat} {ld fo : Nat → Option Nat} (hE : stO E rk) (hm : mOK L E ld fo) {A : Nat → Bool} (hA : aC L E A) {k k' a a' h : Nat} (h1 : upC ld k a = some h) (h2 : upC ld k' a' = some h) (ha : A a = true) (ha' : A a' = true) : a = a' := by
  have key : ∀ k k' a a', k ≤ k' → upC ld k a = some h → upC ld k' a' = some h → A a = true → A a' = true → a = a' := by
    intro k k' a a' hk h1 h2 ha ha'
    have d1 := (up_dn hm k a h).mp h1
    have d2 := (up_dn hm k' a' h).mp h2
    rw [show k' = k + (k' - k) by omega, dn_add, d1] at d2
    have d3 : dnC fo (k' - k) a = some a' := d2
    cases hj : k' - k with
    | zero => rw [hj] at d3; exact Option.some.inj d3
    | succ j =>
      rw [hj] at d3
      have := dn_E hE hm j a a' d3
      rw [hA.2 a a' ha ha'] at this
      cases this
  rcases Nat.le_total k k' with q | q
  · exact key k k' a a' q h1 h2 ha ha'
  · exact (key k' k a' a q h2 h1 ha' ha).symm
theorem W_le {N : Nat} {L : Nat → Bool} {E : Nat → Nat → Bool} {rk : Nat → Nat} {ld fo : Nat → Option Nat} (hN : ∀ x, L x = true → x < N) (hE : stO E rk) (hm : mOK L E ld fo) {A : Nat → Bool} (hA : aC L E A) : fb_ct A N ≤ fb_ct (hdB L ld) N := by
  refine ct_inj (fun a h => (∃ k, upC ld k a = some h)) (fun a ha hAa => ?_) (fun a a' h ha ha' ⟨k, hk⟩ ⟨k', hk'⟩ => ch_one hE hm hA hk hk' ha ha')
  obtain ⟨k, h, e1, e2⟩ := hd_ex hE hm (rk a + 1) a (by omega) (hA.1 a hAa)
  exact ⟨h, hN h ((hdB_iff L ld h).mp e2).1, e2, k, e1⟩
/-- a set R with all heads, T before it: R without T is an antichain, and has one of each chain -/
theorem W_set {L : Nat → Bool} {E : Nat → Nat → Bool} {ld fo : Nat → Option Nat} {R T : Nat → Bool} (hRL : ∀ x, R x = true → L x = true) (hRT : ∀ c y, R c = true → L y = true → E y c = true → T y = true) : aC L E (fun x => R x && !T x) := by
  constructor
  · intro x hx
    simp only [Bool.and_eq_true] at hx
    exact hRL x hx.1
  · intro x y hx hy
    simp only [Bool.and_eq_true, Bool.not_eq_true'] at hx hy
    cases hq : E x y with
    | false => rfl
    | true =>
      have := hRT y x hy.1 (hRL x hx.1) hq
      rw [hx.2] at this
      cases this
theorem W_down {N : Nat} {L : Nat → Bool} {E : Nat → Nat → Bool} {rk : Nat → Nat} {ld fo : Nat → Option Nat} {R T : Nat → Bool} (hrk : ∀ x, L x = true → rk x < N) (hE : stO E rk) (hm : mOK L E ld fo) (hRL : ∀ x, R x = true → L x = true) (hT : ∀ y, T y = true → ∃ z, fo y = some z ∧ R z = true) : ∀ n x, N ≤ rk x + n → R x = true → ∃ k g, (R g && !T g) = true ∧ upC ld k g = some x
  | 0, x, hn, hR => by
    have := hrk x (hRL x hR)
    omega
  | n + 1, x, hn, hR => by
    cases ht : T x with
    | false => exact ⟨0, x, by rw [hR, ht]; rfl, rfl⟩
    | true =>
      obtain ⟨z, hz1, hz2⟩ := hT x ht
      have h1 := hm.1 z x (hm.2 x z hz1)
      have h2 := hE.2 x z h1.2.2.1
      obtain ⟨k, g, e1, e2⟩ := W_down hrk hE hm hRL hT n z (by omega) hz2
      refine ⟨k + 1, g, e1, ?_⟩
      have d := (up_dn hm k g z).mp e2
      refine (up_dn hm (k + 1) g x).mpr ?_
      rw [show k + 1 = 1 + k by omega, dn_add]
      show (((some x).bind fo).bind (dnC fo k)) = some g
      show ((fo x).bind (dnC fo k)) = some g
      rw [hz1]
      exact d
theorem W_ge {N : Nat} {L : Nat → Bool} {E : Nat → Nat → Bool} {rk : Nat → Nat} {ld fo : Nat → Option Nat} {R T : Nat → Bool} (hN : ∀ x, L x = true → x < N) (hrk : ∀ x, L x = true → rk x < N) (hE : stO E rk) (hm : mOK L E ld fo) (hh : ∀ x, hdB L ld x = true → R x = true) (hRL : ∀ x, R x = true → L x = true) (hT : ∀ y, T y = true → ∃ z, fo y = some z ∧ R z = true) : fb_ct (hdB L ld) N ≤ fb_ct (fun x => R x && !T x) N := by
  refine ct_inj (fun h g => ∃ k, upC ld k g = some h) (fun h hh1 hh2 => ?_) (fun h h' g a1 a2 ⟨k, hk⟩ ⟨k', hk'⟩ => hd_one k k' g h h' hk hk' a1 a2)
  obtain ⟨k, g, e1, e2⟩ := W_down hrk hE hm hRL hT N h (by omega) (hh h hh2)
  have e3 : (R g && !T g) = true := e1
  rw [Bool.and_eq_true] at e3
  exact ⟨g, hN g (hRL g e3.1), e1, k, e2⟩
/-- a matching with nothing but dead ends: the width is the number of heads -/
theorem W_of {N : Nat} {L : Nat → Bool} {E : Nat → Nat → Bool} {rk : Nat → Nat} {ld fo : Nat → Option Nat} {D : Nat → Bool} (hN : ∀ x, L x = true → x < N) (hrk : ∀ x, L x = true → rk x < N) (hE : stO E rk) (hm : mOK L E ld fo) (hD : Dc L E fo D) (hh : ∀ x, hdB L ld x = true → D x = true) : isW N L E (fb_ct (hdB L ld) N) := by
  have hRL : ∀ x, D x = true → L x = true := fun x hx => (hD x hx).1
  have hTi : ∀ y, decide (0 < fb_ct (fun c => L y && D c && E y c) N) = true ↔ L y = true ∧ ∃ c, c < N ∧ D c = true ∧ E y c = true := by
    intro y
    rw [decide_eq_true_eq, fb_ct_pos]
    constructor
    · rintro ⟨k, hk, e⟩
      simp only [Bool.and_eq_true] at e
      exact ⟨e.1.1, k, hk, e.1.2, e.2⟩
    · rintro ⟨h1, k, hk, h2, h3⟩
      exact ⟨k, hk, by simp only [Bool.and_eq_true]; exact ⟨⟨h1, h2⟩, h3⟩⟩
  have hRT : ∀ c y, D c = true → L y = true → E y c = true → decide (0 < fb_ct (fun c => L y && D c && E y c) N) = true := fun c y hc hy he => (hTi y).mpr ⟨hy, c, hN c (hRL c hc), hc, he⟩
  have hT : ∀ y, decide (0 < fb_ct (fun c => L y && D c && E y c) N) = true → ∃ z, fo y = some z ∧ D z = true := fun y hy => by
    obtain ⟨h1, c, _, h2, h3⟩ := (hTi y).mp hy
    exact (hD c h2).2 y h1 h3
  have hA := W_set (E := E) (ld := ld) (fo := fo) (T := fun y => decide (0 < fb_ct (fun c => L y && D c && E y c) N)) hRL hRT
  refine ⟨⟨_, hA, ?_⟩, fun A hA => W_le hN hE hm hA⟩
  have l1 := W_le hN hE hm hA
  have l2 := W_ge (T := fun y => decide (0 < fb_ct (fun c => L y && D c && E y c) N)) hN hrk hE hm hh hRL hT
  omega
/-- a step of the turning of a way: nf takes nl, which was free, and leaves its own -/
def upO (f : Nat → Option Nat) (k : Nat) (v : Option Nat) : Nat → Option Nat := fun x => if x = k then v else f x
theorem upO_1 (f : Nat → Option Nat) (k : Nat) (v : Option Nat) : upO f k v k = v := if_pos rfl
theorem upO_n (f : Nat → Option Nat) {k x : Nat} (v : Option Nat) (h : ¬ x = k) : upO f k v x = f x := if_neg h
def upL (fo : Nat → Option Nat) (o : Option Nat) : Nat → Option Nat := match o with
  | none => fo
  | some l => upO fo l none
theorem m_step {L : Nat → Bool} {E : Nat → Nat → Bool} {ld fo : Nat → Option Nat} {D : Nat → Bool} (hm : mOK L E ld fo) (hD : Dc L E fo D) {nl nf : Nat} (h1 : L nl = true) (h2 : L nf = true) (h3 : E nl nf = true) (h4 : fo nl = none) : mOK L E (upO ld nf (some nl)) (upO (upL fo (ld nf)) nl (some nf)) ∧ Dc L E (upO (upL fo (ld nf)) nl (some nf)) D ∧ ∀ l, ld nf = some l → ¬ l = nl ∧ upO (upL fo (ld nf)) nl (some nf) l = none := by
  have hfl : ∀ y z, upL fo (ld nf) y = some z → fo y = some z ∧ ¬ z = nf := by
    intro y z hz
    cases hl : ld nf with
    | none =>
      rw [hl] at hz
      have hz' : fo y = some z := hz
      refine ⟨hz', fun e => ?_⟩
      rw [e] at hz'
      rw [hm.2 y nf hz'] at hl
      cases hl
    | some l =>
      rw [hl] at hz
      have hz' : upO fo l none y = some z := hz
      by_cases ey : y = l
      · rw [ey, upO_1] at hz'; cases hz'
      · rw [upO_n _ _ ey] at hz'
        refine ⟨hz', fun e => ?_⟩
        rw [e] at hz'
        rw [hm.2 y nf hz'] at hl
        exact ey (Option.some.inj hl)
  have hfl2 : ∀ y z, fo y = some z → ¬ z = nf → upL fo (ld nf) y = some z := by
    intro y z hz hne
    cases hl : ld nf with
    | none => exact hz
    | some l =>
      show upO fo l none y = some z
      have ey : ¬ y = l := by
        intro ey
        have := (hm.1 nf l hl).2.2.2
        rw [← ey, hz] at this
        exact hne (Option.some.inj this)
      rw [upO_n _ _ ey]
      exact hz
  have hnD : D nf = false := by
    cases q : D nf with
    | false => rfl
    | true =>
      obtain ⟨z, hz, _⟩ := (hD nf q).2 nl h1 h3
      rw [h4] at hz
      cases hz
  refine ⟨⟨?_, ?_⟩, ?_, ?_⟩
  · intro x y hxy
    by_cases ex : x = nf
    · rw [ex, upO_1] at hxy
      have : nl = y := Option.some.inj hxy
      rw [ex, ← this, upO_1]
      exact ⟨h2, h1, h3, rfl⟩
    · rw [upO_n _ _ ex] at hxy
      have k := hm.1 x y hxy
      have ey : ¬ y = nl := by
        intro ey
        rw [ey, h4] at k
        cases k.2.2.2
      rw [upO_n _ _ ey]
      exact ⟨k.1, k.2.1, k.2.2.1, hfl2 y x k.2.2.2 ex⟩
  · intro y x hyx
    by_cases ey : y = nl
    · rw [ey, upO_1] at hyx
      have : nf = x := Option.some.inj hyx
      rw [← this, upO_1, ey]
    · rw [upO_n _ _ ey] at hyx
      obtain ⟨k1, k2⟩ := hfl y x hyx
      rw [upO_n _ _ k2]
      exact hm.2 y x k1
  · intro x hx
    refine ⟨(hD x hx).1, fun y hy he => ?_⟩
    obtain ⟨z, hz1, hz2⟩ := (hD x hx).2 y hy he
    have ey : ¬ y = nl := by
      intro ey
      rw [ey, h4] at hz1
      cases hz1
    have ez : ¬ z = nf := by
      intro ez
      rw [ez, hnD] at hz2
      cases hz2
    refine ⟨z, ?_, hz2⟩
    rw [upO_n _ _ ey]
    exact hfl2 y z hz1 ez
  · intro l hl
    have ne : ¬ l = nl := by
      intro e
      have := (hm.1 nf l hl).2.2.2
      rw [e, h4] at this
      cases this
    refine ⟨ne, ?_⟩
    rw [upO_n _ _ ne, hl]
    exact upO_1 fo l none
