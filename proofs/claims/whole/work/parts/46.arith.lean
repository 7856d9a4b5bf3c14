/-! NUMBERS: Int32 by integers, small sets of bits -/
def zI (z : Int) : Int32 := Int32.ofInt z
theorem nI_z (n : Nat) : nI n = zI (n : Int) := Int32.ofInt_eq_ofNat.symm
theorem zI_t {z : Int} (h1 : -2147483648 ≤ z) (h2 : z < 2147483648) : (zI z).toInt = z := Int32.toInt_ofInt_of_le h1 h2
theorem zI_of (x : Int32) : ∃ z : Int, -2147483648 ≤ z ∧ z < 2147483648 ∧ x = zI z := ⟨x.toInt, x.le_toInt, x.toInt_lt, (Int32.ofInt_toInt x).symm⟩
theorem zI_add (a b : Int) : zI a + zI b = zI (a + b) := (Int32.ofInt_add a b).symm
theorem zI_sub (a b : Int) : zI a - zI b = zI (a - b) := (Int32.ofInt_sub a b).symm
theorem zI_mul (a b : Int) : zI a * zI b = zI (a * b) := (Int32.ofInt_mul a b).symm
theorem zI_neg (a : Int) : -(zI a) = zI (-a) := (Int32.ofInt_neg a).symm
theorem zI_le {a b : Int} (a1 : -2147483648 ≤ a) (a2 : a < 2147483648) (b1 : -2147483648 ≤ b) (b2 : b < 2147483648) : zI a ≤ zI b ↔ a ≤ b := by
  rw [Int32.le_iff_toInt_le, zI_t a1 a2, zI_t b1 b2]
theorem zI_lt {a b : Int} (a1 : -2147483648 ≤ a) (a2 : a < 2147483648) (b1 : -2147483648 ≤ b) (b2 : b < 2147483648) : zI a < zI b ↔ a < b := by
  rw [Int32.lt_iff_toInt_lt, zI_t a1 a2, zI_t b1 b2]
theorem zI_eq {a b : Int} (a1 : -2147483648 ≤ a) (a2 : a < 2147483648) (b1 : -2147483648 ≤ b) (b2 : b < 2147483648) : zI a = zI b ↔ a = b := by
  rw [← Int32.toInt_inj, zI_t a1 a2, zI_t b1 b2]
theorem nI_mul (a b : Nat) : nI a * nI b = nI (a * b) := (Int32.ofNat_mul a b).symm
theorem nI_sub {a b : Nat} (h : b ≤ a) : nI a - nI b = nI (a - b) := (Int32.ofNat_sub a b h).symm
theorem nI_div {a b : Nat} (ha : a < 2147483648) (hb : b < 2147483648) : nI a / nI b = nI (a / b) := (Int32.ofNat_div ha hb).symm
theorem nI_rem {a b : Nat} (ha : a < 2147483648) (hb : b < 2147483648) : ix_rem (nI a) (nI b) = nI (a % b) := by
  unfold ix_rem
  rw [nI_div ha hb, nI_mul, nI_sub (Nat.div_mul_le_self a b)]
  congr 1
  have := Nat.div_add_mod' a b
  omega
/-- a number that is no index: below 0 or from n on -/
theorem i_cases (x : Int32) {n : Nat} (hn : n < 2147483648) : (∃ k, k < n ∧ x = nI k) ∨ (x < 0 ∨ nI n ≤ x) := by
  by_cases h0 : x < 0
  · exact .inr (.inl h0)
  · obtain ⟨k, hk, rfl⟩ := nI_of h0
    by_cases h1 : k < n
    · exact .inl ⟨k, h1, rfl⟩
    · exact .inr (.inr ((nI_leI hn hk).mpr (by omega)))
theorem i_out {x : Int32} {n k : Nat} (hn : n < 2147483648) (h : x < 0 ∨ nI n ≤ x) (hk : k < n) : ¬ x = nI k := by
  rintro rfl
  rcases h with h | h
  · exact nI_pos (by omega) h
  · have := (nI_leI hn (by omega)).mp h
    omega
theorem b_one (i : Nat) : bt 1 i = decide (i = 0) := by
  by_cases h : i < 32
  · exact (show ∀ i, i < 32 → bt 1 i = decide (i = 0) by decide +kernel) i h
  · rw [b_big (by omega), decide_eq_false (by omega)]
theorem b_bi (b : Bool) (i : Nat) : bt (ix_bi b) i = (decide (i = 0) && b) := by
  cases b with
  | true => rw [show ix_bi true = 1 from rfl, b_one]; simp
  | false => rw [show ix_bi false = 0 from rfl, b_0]; simp
theorem sh1 (x : Int32) {k : Nat} (hk : k < 32) : (ix_ishr x (nI k)) &&& 1 = ix_bi (bt x k) := by
  apply b_ext
  intro i hi
  rw [b_and, b_one, b_bi]
  by_cases h : i = 0
  · subst h
    unfold ix_ishr
    rw [b_sshr k hk x (by omega), if_pos (by omega)]
    simp
  · simp [h]
theorem sh1_1 (x : Int32) {k : Nat} (hk : k < 32) : ((ix_ishr x (nI k)) &&& 1 = 1) ↔ bt x k = true := by rw [sh1 x hk]; exact ix_bi1 _
theorem sh1_0 (x : Int32) {k : Nat} (hk : k < 32) : ((ix_ishr x (nI k)) &&& 1 = 0) ↔ bt x k = false := by rw [sh1 x hk]; exact ix_bi0 _
theorem b_sl1 {k : Nat} (hk : k < 32) {i : Nat} (hi : i < 32) : bt (ix_ishl 1 (nI k)) i = decide (i = k) := by
  unfold ix_ishl
  rw [b_shl k hk 1 hi, b_one]
  by_cases h : i = k
  · subst h; simp
  · by_cases h2 : k ≤ i
    · have : ¬ i - k = 0 := by omega
      simp [h, this]
    · simp [h, h2]
theorem bt_nI (n i : Nat) : bt (nI n) i = (decide (i < 32) && n.testBit i) := by
  show (BitVec.ofNat 32 n).getLsbD i = _
  rw [BitVec.getLsbD_ofNat]
/-- Int32 of a set of small numbers -/
def iS (p : Nat → Bool) : Int32 := nI (sNk p 16)
theorem b_iS (p : Nat → Bool) {i : Nat} (hi : i < 32) : bt (iS p) i = (decide (i < 16) && p i) := by
  unfold iS
  rw [bt_nI, sNk_bit]
  simp [hi]
theorem iS_of {x : Int32} {p : Nat → Bool} (h : ∀ i, i < 32 → bt x i = (decide (i < 16) && p i)) : x = iS p := b_ext (fun i hi => by rw [h i hi, b_iS p hi])
theorem iS_0 : (0 : Int32) = iS (fun _ => false) := iS_of (fun i hi => by rw [b_0]; simp)
theorem iS_add {p : Nat → Bool} {k : Nat} (hk : k < 16) : iS p ||| ix_ishl 1 (nI k) = iS (fun i => p i || decide (i = k)) := iS_of (fun i hi => by
  rw [b_or, b_iS p hi, b_sl1 (by omega) hi]
  by_cases h : i = k
  · subst h; simp [hk]
  · simp [h])
theorem iS_cong {p q : Nat → Bool} (h : ∀ i, i < 16 → p i = q i) : iS p = iS q := iS_of (fun i hi => by
  rw [b_iS p hi]
  by_cases h1 : i < 16
  · rw [h i h1]
  · simp [h1])
