/-! Long.bitCount counts bits -/
theorem pc_and (k x y : Nat) : x &&& y = 2 ^ k * ((x / 2 ^ k) &&& (y / 2 ^ k)) + ((x % 2 ^ k) &&& (y % 2 ^ k)) := by
  rw [← Nat.and_div_two_pow, ← Nat.and_mod_two_pow, Nat.div_add_mod]
def pm1 : Nat → Nat
  | 0 => 0
  | k + 1 => 4 * pm1 k + 1
def pg1 : Nat → Nat → Nat
  | 0, _ => 0
  | k + 1, n => 4 * pg1 k (n / 4) + (n % 4 - n % 4 / 2)
def pm2 : Nat → Nat
  | 0 => 0
  | k + 1 => 16 * pm2 k + 3
def pg2 : Nat → Nat → Nat
  | 0, _ => 0
  | k + 1, n => 16 * pg2 k (n / 16) + (n % 16 % 4 + n % 16 / 4)
def pm3 : Nat → Nat
  | 0 => 0
  | k + 1 => 256 * pm3 k + 15
def pg3 : Nat → Nat → Nat
  | 0, _ => 0
  | k + 1, n => 256 * pg3 k (n / 256) + (n % 16 + n / 16 % 16)
def pds (B : Nat) : Nat → Nat → Nat
  | 0, _ => 0
  | k + 1, n => n % B + pds B k (n / B)
def pdb (B b : Nat) : Nat → Nat → Prop
  | 0, n => n = 0
  | k + 1, n => n % B ≤ b ∧ pdb B b k (n / B)
theorem pc_s1 : ∀ (k n : Nat), n < 4 ^ k → n - ((n / 2) &&& pm1 k) = pg1 k n
  | 0, n, h => by
    have : n = 0 := by simpa using h
    subst this
    rfl
  | k + 1, n, h => by
    have h4 : n / 4 < 4 ^ k := by rw [Nat.pow_succ] at h; omega
    have ih := pc_s1 k (n / 4) h4
    have e := pc_and 2 (n / 2) (pm1 (k + 1))
    simp only [pm1, Nat.reducePow] at e ⊢
    rw [show (4 * pm1 k + 1) / 4 = pm1 k by omega, show (4 * pm1 k + 1) % 4 = 1 by omega, Nat.and_one_is_mod, show n / 2 / 4 = n / 4 / 2 by omega] at e
    have hl : (n / 4 / 2 &&& pm1 k) ≤ n / 4 / 2 := Nat.and_le_left
    rw [e, pg1, ← ih]
    omega
theorem pc_s2 : ∀ (k n : Nat), n < 16 ^ k → (n &&& pm2 k) + ((n / 4) &&& pm2 k) = pg2 k n
  | 0, n, h => by
    have : n = 0 := by simpa using h
    subst this
    rfl
  | k + 1, n, h => by
    have h4 : n / 16 < 16 ^ k := by rw [Nat.pow_succ] at h; omega
    have ih := pc_s2 k (n / 16) h4
    have e := pc_and 4 n (pm2 (k + 1))
    have e2 := pc_and 4 (n / 4) (pm2 (k + 1))
    have m3 : ∀ x : Nat, x &&& 3 = x % 4 := fun x => Nat.and_two_pow_sub_one_eq_mod x 2
    simp only [pm2, Nat.reducePow] at e e2 ⊢
    rw [show (16 * pm2 k + 3) / 16 = pm2 k by omega, show (16 * pm2 k + 3) % 16 = 3 by omega, m3] at e e2
    rw [show n / 4 / 16 = n / 16 / 4 by omega] at e2
    rw [e, e2, pg2, ← ih]
    omega
theorem pc_n3 (n : Nat) : ∃ q b a, n = 256 * q + 16 * b + a ∧ a < 16 ∧ b < 16 := ⟨n / 256, n / 16 % 16, n % 16, by omega, by omega, by omega⟩
theorem pc_s3 : ∀ (k n : Nat), pdb 16 4 (2 * k) n → (n + n / 16) &&& pm3 k = pg3 k n
  | 0, n, h => by
    have : n = 0 := h
    subst this
    rfl
  | k + 1, n, h => by
    have h : pdb 16 4 (2 * k + 1 + 1) n := h
    obtain ⟨h1, h2, h3⟩ := h
    have h9 : n / 16 / 16 % 16 ≤ 4 := by
      match k, h3 with
      | 0, h3 => have h3 : n / 16 / 16 = 0 := h3; omega
      | k + 1, h3 => exact h3.1
    have ih := pc_s3 k (n / 256) (by rw [show n / 256 = n / 16 / 16 by omega]; exact h3)
    obtain ⟨q, b, a, hn, ha, hb⟩ := pc_n3 n
    have f1 : n / 16 = 16 * q + b := by omega
    have f2 : n / 256 = q := by omega
    have f3 : a ≤ 4 := by omega
    have f4 : b ≤ 4 := by omega
    have f5 : q % 16 ≤ 4 := by omega
    have f6 : (n + n / 16) / 256 = q + q / 16 := by omega
    have f7 : (n + n / 16) % 256 % 16 = a + b := by omega
    have f8 : n % 16 + n / 16 % 16 = a + b := by omega
    have e := pc_and 8 (n + n / 16) (pm3 (k + 1))
    have m15 : ∀ x : Nat, x &&& 15 = x % 16 := fun x => Nat.and_two_pow_sub_one_eq_mod x 4
    simp only [pm3, Nat.reducePow] at e ⊢
    rw [f2] at ih
    rw [show (256 * pm3 k + 15) / 256 = pm3 k by omega, show (256 * pm3 k + 15) % 256 = 15 by omega, m15, f6, f7, ih] at e
    rw [e, pg3, f2, f8]
theorem pd_1 : ∀ (k n : Nat), pdb 4 2 k (pg1 k n)
  | 0, _ => rfl
  | k + 1, n => by
    refine ⟨?_, ?_⟩
    · simp only [pg1]; omega
    · rw [show pg1 (k + 1) n / 4 = pg1 k (n / 4) by simp only [pg1]; omega]
      exact pd_1 k _
theorem pd_2 : ∀ (k n : Nat), pdb 4 2 (2 * k) n → pdb 16 4 k (pg2 k n)
  | 0, _, _ => rfl
  | k + 1, n, h => by
    have h : pdb 4 2 (2 * k + 1 + 1) n := h
    obtain ⟨h1, h2, h3⟩ := h
    refine ⟨?_, ?_⟩
    · have g1 : n % 16 % 4 = n % 4 := by omega
      have g2 : n % 16 / 4 = n / 4 % 4 := by omega
      simp only [pg2]
      rw [Nat.mul_add_mod]
      exact Nat.le_trans (Nat.mod_le _ _) (by omega)
    · rw [show pg2 (k + 1) n / 16 = pg2 k (n / 16) by simp only [pg2]; omega]
      exact pd_2 k _ (by rw [show n / 16 = n / 4 / 4 by omega]; exact h3)
theorem pd_3 : ∀ (k n : Nat), pdb 16 4 (2 * k) n → pdb 256 8 k (pg3 k n)
  | 0, _, _ => rfl
  | k + 1, n, h => by
    have h : pdb 16 4 (2 * k + 1 + 1) n := h
    obtain ⟨h1, h2, h3⟩ := h
    refine ⟨?_, ?_⟩
    · simp only [pg3]; omega
    · rw [show pg3 (k + 1) n / 256 = pg3 k (n / 256) by simp only [pg3]; omega]
      exact pd_3 k _ (by rw [show n / 256 = n / 16 / 16 by omega]; exact h3)
theorem ps_1 : ∀ (k n : Nat), pds 4 k (pg1 k n) = pds 2 (2 * k) n
  | 0, _ => rfl
  | k + 1, n => by
    have ih := ps_1 k (n / 4)
    show pg1 (k + 1) n % 4 + pds 4 k (pg1 (k + 1) n / 4) = n % 2 + (n / 2 % 2 + pds 2 (2 * k) (n / 2 / 2))
    rw [show pg1 (k + 1) n / 4 = pg1 k (n / 4) by simp only [pg1]; omega, ih, show n / 2 / 2 = n / 4 by omega]
    simp only [pg1]
    omega
theorem ps_2 : ∀ (k n : Nat), pds 16 k (pg2 k n) = pds 4 (2 * k) n
  | 0, _ => rfl
  | k + 1, n => by
    have ih := ps_2 k (n / 16)
    show pg2 (k + 1) n % 16 + pds 16 k (pg2 (k + 1) n / 16) = n % 4 + (n / 4 % 4 + pds 4 (2 * k) (n / 4 / 4))
    rw [show pg2 (k + 1) n / 16 = pg2 k (n / 16) by simp only [pg2]; omega, ih, show n / 4 / 4 = n / 16 by omega]
    have g1 : n % 16 % 4 = n % 4 := by omega
    have g2 : n % 16 / 4 = n / 4 % 4 := by omega
    simp only [pg2]
    omega
theorem ps_3 : ∀ (k n : Nat), pds 256 k (pg3 k n) = pds 16 (2 * k) n
  | 0, _ => rfl
  | k + 1, n => by
    have ih := ps_3 k (n / 256)
    show pg3 (k + 1) n % 256 + pds 256 k (pg3 (k + 1) n / 256) = n % 16 + (n / 16 % 16 + pds 16 (2 * k) (n / 16 / 16))
    rw [show pg3 (k + 1) n / 256 = pg3 k (n / 256) by simp only [pg3]; omega, ih, show n / 16 / 16 = n / 256 by omega]
    simp only [pg3]
    omega
/-- the number of bits -/
def zpct (n : Nat) : Nat := fb_ct (fun i => n.testBit i) 64
theorem pc_ct : ∀ (k n : Nat), pds 2 k n = fb_ct (fun i => n.testBit i) k := by
  intro k
  induction k with
  | zero => intro n; rfl
  | succ k ih =>
    intro n
    rw [pds, ih (n / 2), Nat.add_comm k 1, fb_ct_split]
    have e : fb_ct (fun i => n.testBit i) 1 = n % 2 := by
      show 0 + (if n.testBit 0 then 1 else 0) = n % 2
      rw [Nat.testBit_zero]
      rcases Nat.mod_two_eq_zero_or_one n with h | h <;> simp [h]
    rw [e]
    congr 1
    apply fb_ct_cong
    intro i _
    rw [Nat.add_comm 1 i, Nat.testBit_succ]
theorem pc_lt : ∀ (B b k n : Nat), b < B → pdb B b k n → n < B ^ k
  | B, b, 0, n, _, h => by
    have : n = 0 := h
    subst this
    exact Nat.pos_of_ne_zero (by simp)
  | B, b, k + 1, n, hb, h => by
    have ih := pc_lt B b k (n / B) hb h.2
    rw [Nat.pow_succ]
    have hB : 0 < B := by omega
    exact (Nat.div_lt_iff_lt_mul hB).mp ih
theorem pc_dv {B l x : Nat} (h : l < B) : (l + B * x) / B = x := by
  rw [Nat.add_mul_div_left _ _ (by omega), Nat.div_eq_of_lt h, Nat.zero_add]
theorem pc_fin0 {n n1 n2 n3 n4 n5 n6 n7 a0 a1 a2 a3 a4 a5 a6 a7 : Nat} (e0 : n = a0 + 256 * n1) (e1 : n1 = a1 + 256 * n2) (e2 : n2 = a2 + 256 * n3) (e3 : n3 = a3 + 256 * n4) (e4 : n4 = a4 + 256 * n5) (e5 : n5 = a5 + 256 * n6) (e6 : n6 = a6 + 256 * n7) (e7 : n7 = a7)
    (h0 : a0 ≤ 8) (h1 : a1 ≤ 8) (h2 : a2 ≤ 8) (h3 : a3 ≤ 8) (h4 : a4 ≤ 8) (h5 : a5 ≤ 8) (h6 : a6 ≤ 8) (h7 : a7 ≤ 8) :
    ((n + n / 256) + (n + n / 256) / 65536 + ((n + n / 256) + (n + n / 256) / 65536) / 4294967296) % 128 = a0 + a1 + a2 + a3 + a4 + a5 + a6 + a7 := by
  have d1 : n / 256 = n1 := by rw [e0]; exact pc_dv (by omega)
  have d2 : (n + n1) / 65536 = n2 + n3 := by
    have l2 : (a0 + a1) + 256 * (a1 + a2) < 65536 := by clear e0 e1 e2 e3 e4 e5 e6 e7 d1; omega
    have q : n + n1 = (a0 + a1) + 256 * (a1 + a2) + 65536 * (n2 + n3) := by clear h0 h1 h2 h3 h4 h5 h6 h7 l2 d1 e3 e4 e5 e6 e7; omega
    rw [q]; exact pc_dv l2
  have d3 : (n + n1 + (n2 + n3)) / 4294967296 = n4 + n5 + n6 + n7 := by
    have l2 : (a0 + a1 + a2 + a3) + 256 * (a1 + a2 + a3 + a4) + 65536 * (a2 + a3 + a4 + a5) + 16777216 * (a3 + a4 + a5 + a6) < 4294967296 := by clear e0 e1 e2 e3 e4 e5 e6 e7 d1 d2; omega
    have q : n + n1 + (n2 + n3) = (a0 + a1 + a2 + a3) + 256 * (a1 + a2 + a3 + a4) + 65536 * (a2 + a3 + a4 + a5) + 16777216 * (a3 + a4 + a5 + a6) + 4294967296 * (n4 + n5 + n6 + n7) := by clear h0 h1 h2 h3 h4 h5 h6 h7 l2 d1 d2 e7; omega
    rw [q]; exact pc_dv l2
  rw [d1, d2, d3]
  have q : n + n1 + (n2 + n3) + (n4 + n5 + n6 + n7) = (a0 + a1 + a2 + a3 + a4 + a5 + a6 + a7) + 128 * (2 * (n1 + n2 + n3 + n4 + n5 + n6 + n7)) := by clear h0 h1 h2 h3 h4 h5 h6 h7 d1 d2 d3; omega
  rw [q, Nat.add_mul_mod_self_left]
  exact Nat.mod_eq_of_lt (by clear e0 e1 e2 e3 e4 e5 e6 e7 d1 d2 d3 q; omega)
theorem pc_dm (n : Nat) : n = n % 256 + 256 * (n / 256) := (Nat.mod_add_div n 256).symm
theorem pc_fin {n : Nat} (h : pdb 256 8 8 n) : ((n + n / 256) + (n + n / 256) / 65536 + ((n + n / 256) + (n + n / 256) / 65536) / 4294967296) % 128 = pds 256 8 n := by
  obtain ⟨h0, h1, h2, h3, h4, h5, h6, h7, h8⟩ := h
  have h8 : n / 256 / 256 / 256 / 256 / 256 / 256 / 256 / 256 = 0 := h8
  have e7 := pc_dm (n / 256 / 256 / 256 / 256 / 256 / 256 / 256)
  rw [h8, Nat.mul_zero, Nat.add_zero] at e7
  rw [pc_fin0 (pc_dm _) (pc_dm _) (pc_dm _) (pc_dm _) (pc_dm _) (pc_dm _) (pc_dm _) e7 h0 h1 h2 h3 h4 h5 h6 h7]
  simp only [pds, Nat.add_assoc, Nat.add_zero]
