/-! SETS OF CELLS: a long by its bits -/
def sNk (p : Nat → Bool) : Nat → Nat
  | 0 => 0
  | k + 1 => sNk p k + (if p k then 2 ^ k else 0)
theorem sNk_lt (p : Nat → Bool) : ∀ k, sNk p k < 2 ^ k
  | 0 => Nat.le_of_ble_eq_true rfl
  | k + 1 => by
    have := sNk_lt p k
    rw [sNk, Nat.pow_succ]
    split <;> omega
theorem sNk_bit (p : Nat → Bool) : ∀ k i, (sNk p k).testBit i = (decide (i < k) && p i)
  | 0, i => by simp [sNk]
  | k + 1, i => by
    have ih := sNk_bit p k i
    have hl := sNk_lt p k
    rw [sNk]
    cases hp : p k with
    | false =>
      rw [if_neg (by decide), Nat.add_zero, ih]
      by_cases hi : i = k
      · subst hi; simp [hp]
      · have : (i < k) ↔ (i < k + 1) := by omega
        simp [this]
    | true =>
      rw [if_pos rfl, show sNk p k + 2 ^ k = 2 ^ k * 1 + sNk p k by omega, Nat.testBit_two_pow_mul_add 1 hl]
      by_cases hi : i < k
      · rw [if_pos hi, ih]
        have : i < k + 1 := by omega
        simp [hi, this]
      · rw [if_neg hi]
        by_cases he : i = k
        · subst he; simp [hp]
        · have h1 : ¬ i < k + 1 := by omega
          have h2 : i - k = (i - k - 1) + 1 := by omega
          rw [h2, Nat.testBit_succ]
          simp [h1]
def sNn (p : Nat → Bool) : Nat := sNk p 64
theorem sN_lt (p : Nat → Bool) : sNn p < 2 ^ 64 := sNk_lt p 64
theorem sN_bit (p : Nat → Bool) (i : Nat) : (sNn p).testBit i = (decide (i < 64) && p i) := sNk_bit p 64 i
theorem sN_eq {p : Nat → Bool} {n : Nat} (hn : n < 2 ^ 64) (h : ∀ i, i < 64 → n.testBit i = p i) : n = sNn p := by
  apply Nat.eq_of_testBit_eq
  intro i
  rw [sN_bit]
  by_cases hi : i < 64
  · simp [hi, h i hi]
  · have h1 : n < 2 ^ i := Nat.lt_of_lt_of_le hn (Nat.pow_le_pow_right (by decide) (by omega))
    rw [Nat.testBit_lt_two_pow h1]
    simp [hi]
def LSt (p : Nat → Bool) : Int64 := lN (sNn p)
theorem LS_of {p : Nat → Bool} {n : Nat} (h : ∀ i, i < 64 → n.testBit i = p i) : lN n = LSt p := by
  unfold LSt
  rw [wb_mod n]
  congr 1
  refine sN_eq (Nat.mod_lt _ (by decide)) (fun i hi => ?_)
  rw [Nat.testBit_mod_two_pow, h i hi]
  simp [hi]
theorem LS_cong {p q : Nat → Bool} (h : ∀ i, i < 64 → p i = q i) : LSt p = LSt q := LS_of (fun i hi => by rw [sN_bit, ← h i hi]; simp [hi])
theorem LS_inj {p q : Nat → Bool} (h : LSt p = LSt q) {i : Nat} (hi : i < 64) : p i = q i := by
  have e : (lN (sNn p)).toBitVec.toNat = (lN (sNn q)).toBitVec.toNat := by
    show (LSt p).toBitVec.toNat = (LSt q).toBitVec.toNat
    rw [h]
  rw [wb_tn (sN_lt p), wb_tn (sN_lt q)] at e
  have e2 := sN_bit p i
  rw [e, sN_bit] at e2
  simpa [hi] using e2.symm
theorem LS_any (x : Int64) : ∃ p, x = LSt p := by
  obtain ⟨n, hn, rfl⟩ := wb_of x
  exact ⟨fun i => n.testBit i, LS_of (fun i hi => rfl)⟩
theorem LS_and (p q : Nat → Bool) : LSt p &&& LSt q = LSt (fun i => p i && q i) := by
  unfold LSt
  rw [fb_andL]
  exact LS_of (fun i hi => by rw [Nat.testBit_and, sN_bit, sN_bit]; simp [hi])
theorem LS_or (p q : Nat → Bool) : LSt p ||| LSt q = LSt (fun i => p i || q i) := by
  unfold LSt
  rw [fb_orL]
  exact LS_of (fun i hi => by rw [Nat.testBit_or, sN_bit, sN_bit]; simp [hi])
theorem LS_xor (p q : Nat → Bool) : LSt p ^^^ LSt q = LSt (fun i => p i ^^ q i) := by
  unfold LSt
  rw [fb_xorL]
  exact LS_of (fun i hi => by rw [Nat.testBit_xor, sN_bit, sN_bit]; simp [hi])
theorem LS_m1 : (-1 : Int64) = LSt (fun _ => true) := by
  rw [show (-1 : Int64) = lN (2 ^ 64 - 1) from by decide]
  exact LS_of (fun i hi => by rw [Nat.testBit_two_pow_sub_one]; simp [hi])
theorem LS_0 : (0 : Int64) = LSt (fun _ => false) := LS_of (n := 0) (fun i hi => by rw [Nat.zero_testBit])
theorem LS_not (p : Nat → Bool) : LSt p ^^^ (-1) = LSt (fun i => !p i) := by
  rw [LS_m1, LS_xor]
  exact LS_cong (fun i hi => by simp)
theorem LS_zero {p : Nat → Bool} : LSt p = 0 ↔ ∀ i, i < 64 → p i = false := by
  rw [LS_0]
  exact ⟨fun h i hi => LS_inj h hi, fun h => LS_cong h⟩
theorem LS_shl (p : Nat → Bool) {k : Nat} (hk : k < 64) : ix_shl (LSt p) (nI k) = LSt (fun i => decide (k ≤ i) && p (i - k)) := by
  unfold LSt
  rw [ix_shlN _ hk]
  exact LS_of (fun i hi => by
    rw [Nat.testBit_mul_two_pow, sN_bit]
    have : i - k < 64 := by omega
    simp [this])
theorem LS_ush (p : Nat → Bool) {k : Nat} (hk : k < 64) : ix_ush (LSt p) (nI k) = LSt (fun i => decide (i + k < 64) && p (i + k)) := by
  unfold LSt
  rw [ix_ushN (sN_lt p) hk]
  exact LS_of (fun i hi => by rw [Nat.testBit_div_two_pow, sN_bit])
theorem LS_1 : (1 : Int64) = LSt (fun i => decide (i = 0)) := LS_of (n := 1) (fun i hi => by
  cases i with
  | zero => rfl
  | succ i => rw [Nat.testBit_succ]; simp)
theorem LS_bit {c : Nat} (hc : c < 64) : ix_shl 1 (nI c) = LSt (fun i => decide (i = c)) := by
  rw [LS_1, LS_shl _ hc]
  exact LS_cong (fun i hi => by
    by_cases h : i = c
    · subst h; simp
    · by_cases h2 : c ≤ i
      · have : ¬ i - c = 0 := by omega
        simp [h, h2, this]
      · simp [h, h2])
theorem LS_pct (p : Nat → Bool) : zpct (sNn p) = fb_ct p 64 := fb_ct_cong (fun i hi => by rw [sN_bit]; simp [hi])
/-- one less: the lowest bit goes off, those below it come on -/
theorem LS_dec {p : Nat → Bool} {k : Nat} (hk : k < 64) (hp : p k = true) (hl : ∀ j, j < k → p j = false) : LSt p - 1 = LSt (fun i => if i < k then true else if i = k then false else p i) := by
  have hm : sNn p % 2 ^ (k + 1) = 2 ^ k := by
    apply Nat.eq_of_testBit_eq
    intro i
    rw [Nat.testBit_mod_two_pow, sN_bit, Nat.testBit_two_pow]
    by_cases h1 : i < k
    · have h2 : ¬ k = i := by omega
      simp [hl i h1, h2]
    · by_cases h2 : i = k
      · subst h2; simp [hp, hk]
      · have h3 : ¬ i < k + 1 := by omega
        have h4 : ¬ k = i := by omega
        simp [h3, h4]
  have he : sNn p = 2 ^ (k + 1) * (sNn p / 2 ^ (k + 1)) + 2 ^ k := by
    have := Nat.div_add_mod (sNn p) (2 ^ (k + 1))
    rw [hm] at this
    exact this.symm
  have hpos : 0 < 2 ^ k := Nat.two_pow_pos k
  have h1 : LSt p - 1 = lN (sNn p - 1) := by
    show lN (sNn p) - lN 1 = _
    exact lN_sub (by omega)
  have h2 : sNn p - 1 = 2 ^ (k + 1) * (sNn p / 2 ^ (k + 1)) + (2 ^ k - 1) := by omega
  rw [h1]
  refine LS_of (fun i hi => ?_)
  rw [h2, Nat.testBit_two_pow_mul_add _ (by rw [Nat.pow_succ]; omega), Nat.testBit_two_pow_sub_one, Nat.testBit_div_two_pow, sN_bit]
  by_cases h3 : i < k
  · have h4 : i < k + 1 := by omega
    simp [h3, h4]
  · by_cases h4 : i = k
    · subst h4; simp
    · have h5 : ¬ i < k + 1 := by omega
      have h6 : i - (k + 1) + (k + 1) = i := by omega
      rw [if_neg h5, h6]
      simp [h3, h4, hi]
theorem LS_neg (p : Nat → Bool) : -(LSt p) = (LSt p - 1) ^^^ (-1) := by
  apply wb_inj
  show -(LSt p).toBitVec = ((LSt p).toBitVec - 1#64) ^^^ (-1#64)
  have e : (-1#64) = BitVec.allOnes 64 := by decide
  rw [e, BitVec.xor_allOnes]
  rw [BitVec.neg_eq_not_add, BitVec.not_sub_one_eq_not_add_one]
/-- the lowest bit alone -/
theorem LS_low {p : Nat → Bool} {k : Nat} (hk : k < 64) (hp : p k = true) (hl : ∀ j, j < k → p j = false) : LSt p &&& (-(LSt p)) = LSt (fun i => decide (i = k)) := by
  rw [LS_neg, LS_dec hk hp hl, LS_not, LS_and]
  exact LS_cong (fun i hi => by
    by_cases h1 : i < k
    · have h2 : ¬ i = k := by omega
      simp [h1, h2, hl i h1]
    · by_cases h2 : i = k
      · subst h2; simp [hp]
      · simp [h1, h2])
theorem LS_drop {p : Nat → Bool} {k : Nat} (hk : k < 64) (hp : p k = true) (hl : ∀ j, j < k → p j = false) : LSt p &&& (LSt p - 1) = LSt (fun i => p i && decide (¬ i = k)) := by
  rw [LS_dec hk hp hl, LS_and]
  exact LS_cong (fun i hi => by
    by_cases h1 : i < k
    · have h2 : ¬ i = k := by omega
      simp [h1, h2]
    · by_cases h2 : i = k
      · subst h2; simp
      · simp [h1, h2])
theorem LS_least {p : Nat → Bool} (h : ¬ LSt p = 0) : ∃ k, k < 64 ∧ p k = true ∧ ∀ j, j < k → p j = false := by
  have h1 : ∃ i, i < 64 ∧ p i = true := by
    apply Classical.byContradiction
    intro hn
    exact h (LS_zero.mpr (fun i hi => by
      cases hp : p i with
      | false => rfl
      | true => exact absurd ⟨i, hi, hp⟩ hn))
  obtain ⟨i, hi, hpi, hm⟩ := fb_first (p := fun i => p i = true) h1
  exact ⟨i, hi, hpi, fun j hj => by
    cases hp : p j with
    | false => rfl
    | true => exact absurd hp (hm j hj)⟩
theorem ct_below : ∀ {n k : Nat}, k ≤ n → fb_ct (fun i => decide (i < k)) n = k
  | 0, k, h => by have : k = 0 := by omega
                  subst this; rfl
  | n + 1, k, h => by
    rw [fb_ct_succ]
    by_cases hk : k ≤ n
    · have : ¬ n < k := by omega
      rw [ct_below hk]
      simp [this]
    · have e : k = n + 1 := by omega
      subst e
      have e2 : fb_ct (fun i => decide (i < n + 1)) n = n := fb_ct_all.mpr (fun i hi => by simp; omega)
      rw [e2]
      simp
/-! the little methods -/
theorem M_bit {c : Nat} (hc : c < 64) (h : ixH) : ix_M mRP_bit [.int (nI c)] h = some ([.long (LSt (fun i => decide (i = c)))], h) := by
  refine x_RP_bit ?_
  rw [e_RP_bit, LS_bit hc]
theorem M_holds (p : Nat → Bool) {c : Nat} (hc : c < 64) (h : ixH) : ix_M mRP_holds [.long (LSt p), .int (nI c)] h = some ([.int (ix_bi (p c))], h) := by
  refine x_RP_holds ?_
  rw [e_RP_holds, M_bit hc]
  simp only [Option.bind_some, ix_kL, LS_and]
  cases hp : p c with
  | true =>
    rw [if_neg]
    intro hz
    have := LS_zero.mp hz c hc
    simp [hp] at this
  | false =>
    rw [if_pos]
    refine LS_zero.mpr (fun i hi => ?_)
    by_cases e : i = c
    · subst e; simp [hp]
    · simp [e]
theorem M_size (p : Nat → Bool) (h : ixH) : ix_M mRP_size [.long (LSt p)] h = some ([.int (nI (fb_ct p 64))], h) := by
  refine x_RP_size ?_
  rw [e_RP_size]
  have e := M_bitCount (sN_lt p) h
  rw [LS_pct] at e
  rw [show ix_M mJL_bitCount [.long (LSt p)] h = _ from e]
  rfl
theorem M_lowest {p : Nat → Bool} {k : Nat} (hk : k < 64) (hp : p k = true) (hl : ∀ j, j < k → p j = false) (h : ixH) : ix_M mRP_lowest [.long (LSt p)] h = some ([.int (nI k)], h) := by
  refine x_RP_lowest ?_
  rw [e_RP_lowest, LS_low hk hp hl, LS_dec (k := k) hk (by simp) (fun j hj => by simp; omega)]
  have e1 : LSt (fun i => if i < k then true else if i = k then false else decide (i = k)) = LSt (fun i => decide (i < k)) := LS_cong (fun i hi => by
    by_cases h1 : i < k
    · simp [h1]
    · by_cases h2 : i = k
      · subst h2; simp
      · simp [h1, h2])
  rw [e1]
  have e := M_bitCount (sN_lt (fun i => decide (i < k))) h
  rw [LS_pct, ct_below (by omega)] at e
  rw [show ix_M mJL_bitCount [.long (LSt (fun i => decide (i < k)))] h = _ from e]
  rfl
theorem M_lowest0 (h : ixH) : ix_M mRP_lowest [.long 0] h = some ([.int (nI 64)], h) := by
  refine x_RP_lowest ?_
  rw [e_RP_lowest, show (0 : Int64) &&& -0 = 0 from by decide, show (0 : Int64) - 1 = -1 from by decide, LS_m1]
  have e := M_bitCount (sN_lt (fun _ => true)) h
  rw [LS_pct, fb_ct_all.mpr (fun _ _ => rfl)] at e
  rw [show ix_M mJL_bitCount [.long (LSt (fun _ => true))] h = _ from e]
  rfl
