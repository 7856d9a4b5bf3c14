/-! TUPLES: the reference's states, nines: x + 1 of a route that is there -/
theorem n9_s (p : Nat) : 9 ^ (p + 1) = 9 * 9 ^ p := by rw [Nat.pow_succ, Nat.mul_comm]
theorem n9_pos (p : Nat) : 0 < 9 ^ p := Nat.pow_pos (by decide)
/-- a digit more, ahead of all -/
theorem n9_add {acc t p : Nat} (h : acc < 9 ^ p) (ht : t < 9) : acc + t * 9 ^ p < 9 ^ (p + 1) ∧ (∀ q, q < p → (acc + t * 9 ^ p) / 9 ^ q % 9 = acc / 9 ^ q % 9) ∧ (acc + t * 9 ^ p) / 9 ^ p % 9 = t := by
  have hp := n9_pos p
  refine ⟨?_, fun q hq => ?_, ?_⟩
  · rw [n9_s]
    have : t * 9 ^ p ≤ 8 * 9 ^ p := Nat.mul_le_mul_right _ (by omega)
    omega
  · obtain ⟨m, hm⟩ : ∃ m, p = q + 1 + m := ⟨p - (q + 1), by omega⟩
    have e : t * 9 ^ p = 9 ^ q * (9 * (t * 9 ^ m)) := by
      rw [hm, Nat.pow_add, Nat.pow_succ]
      simp only [Nat.mul_comm, Nat.mul_left_comm, Nat.mul_assoc]
    rw [e, Nat.add_mul_div_left _ _ (n9_pos q), Nat.add_mul_mod_self_left]
  · rw [Nat.mul_comm t, Nat.add_mul_div_left _ _ hp, Nat.div_eq_of_lt h, Nat.zero_add, Nat.mod_eq_of_lt ht]
abbrev tMb (B : bT) (p x d : Nat) : Prop := x < bw B ∧ x ≤ d ∧ d - x < bh B ∧ bop B ((d - x) * bw B + x) = true ∧ (d < dgB B (pen B p) ∨ (d - x) * bw B + x = pen B p)
/-- where a route goes: b = 1 to the right -/
def tGo (B : bT) (p d pl b : Nat) : Option Nat := if d = dgB B (pst B p) then (if b = 0 ∧ tMb B p (pst B p % bw B) d then some (pst B p % bw B + 1) else none) else if d < dgB B (pst B p) ∨ dgB B (pen B p) < d then (if b = 0 then some 0 else none) else if tMb B p (pl - 1 + b) d then some (pl + b) else none
def nxL (B : bT) (d s : Nat) : Nat → Nat → Nat → (Nat → Bool) → Nat → Option Nat
  | 0, _, acc, _, _ => some acc
  | k + 1, p, acc, tk, j => (tGo B p d (s / 9 ^ p % 9) (j % 2)).bind fun to => if 0 < to ∧ tk to = true then none else nxL B d s k (p + 1) (acc + to * 9 ^ p) (fun x => tk x || (decide (0 < to) && decide (x = to))) (j / 2)
theorem nxL_s (B : bT) (d s k p acc : Nat) (tk : Nat → Bool) (j : Nat) : nxL B d s (k + 1) p acc tk j = (tGo B p d (s / 9 ^ p % 9) (j % 2)).bind fun to => if 0 < to ∧ tk to = true then none else nxL B d s k (p + 1) (acc + to * 9 ^ p) (fun x => tk x || (decide (0 < to) && decide (x = to))) (j / 2) := rfl
/-- what is read of the reference's state that stands ahead of a diagonal -/
def vl9 (B : bT) (d s : Nat) : Prop := ∀ q, q < (bpr B).length → dgB B (pst B q) < d → d ≤ dgB B (pen B q) → 1 ≤ s / 9 ^ q % 9 ∧ s / 9 ^ q % 9 ≤ d
def dec9 (d s : Nat) : Nat → Nat := fun p => d - s / 9 ^ p % 9
theorem tGo_lt {B : bT} (hs : bS B) {p d pl b t : Nat} (hpl : ¬ d = dgB B (pst B p) → tOn B p d → 1 ≤ pl) (h : tGo B p d pl b = some t) : t < 9 ∧ (tOn B p d → 1 ≤ t ∧ t ≤ d + 1) := by
  have h8 := hs.2.1
  unfold tGo at h
  by_cases a : d = dgB B (pst B p)
  · rw [if_pos a] at h
    by_cases b2 : b = 0 ∧ tMb B p (pst B p % bw B) d
    · rw [if_pos b2] at h
      have := Option.some.inj h
      have h1 := b2.2.1
      have h2 := b2.2.2.1
      exact ⟨by omega, fun _ => by omega⟩
    · rw [if_neg b2] at h; cases h
  · rw [if_neg a] at h
    by_cases c : d < dgB B (pst B p) ∨ dgB B (pen B p) < d
    · rw [if_pos c] at h
      by_cases b2 : b = 0
      · rw [if_pos b2] at h
        have := Option.some.inj h
        exact ⟨by omega, fun o => by have := o.1; have := o.2; omega⟩
      · rw [if_neg b2] at h; cases h
    · rw [if_neg c] at h
      by_cases b2 : tMb B p (pl - 1 + b) d
      · rw [if_pos b2] at h
        have := Option.some.inj h
        have h1 := b2.1
        have h2 := b2.2.1
        have h3 := hpl a ⟨by omega, by omega⟩
        exact ⟨by omega, fun _ => by omega⟩
      · rw [if_neg b2] at h; cases h
theorem nxL_ok {B : bT} (hs : bS B) {d s : Nat} (hv : vl9 B d s) : ∀ k p acc tk j t, p + k = (bpr B).length → acc < 9 ^ p → nxL B d s k p acc tk j = some t → t < 9 ^ (p + k) ∧ (∀ q, q < p → t / 9 ^ q % 9 = acc / 9 ^ q % 9) ∧ ∀ q, p ≤ q → q < p + k → tOn B q d → 1 ≤ t / 9 ^ q % 9 ∧ t / 9 ^ q % 9 ≤ d + 1 := by
  intro k
  induction k with
  | zero =>
    intro p acc tk j t hp ha h
    have e := Option.some.inj (show some acc = some t from h)
    subst e
    exact ⟨ha, fun q _ => rfl, fun q h1 h2 => by omega⟩
  | succ k ih =>
    intro p acc tk j t hp ha h
    rw [nxL_s] at h
    cases hg : tGo B p d (s / 9 ^ p % 9) (j % 2) with
    | none => rw [hg] at h; cases h
    | some to =>
      rw [hg, Option.bind_some] at h
      have hto := tGo_lt hs (fun a o => (hv p (by omega) (by have := o.1; omega) o.2).1) hg
      by_cases b : 0 < to ∧ tk to = true
      · rw [if_pos b] at h; cases h
      · rw [if_neg b] at h
        obtain ⟨a1, a2, a3⟩ := n9_add ha hto.1
        obtain ⟨c1, c2, c3⟩ := ih (p + 1) _ _ _ t (by omega) a1 h
        refine ⟨by rw [show p + (k + 1) = p + 1 + k by omega]; exact c1, fun q hq => ?_, fun q h1 h2 o => ?_⟩
        · rw [c2 q (by omega), a2 q hq]
        · by_cases e : q = p
          · rw [e, c2 p (by omega), a3]
            rw [e] at o
            exact hto.2 o
          · exact c3 q (by omega) (by omega) o
theorem sm_pr (H : Nat → Nat) : ∀ N, fb_sm H (2 * N) = fb_sm (fun i => H (2 * i) + H (2 * i + 1)) N
  | 0 => rfl
  | N + 1 => by
    show fb_sm H (2 * N + 1 + 1) = _
    rw [fb_sm_succ, fb_sm_succ, fb_sm_succ, sm_pr H N]
    omega
theorem sm_z {H : Nat → Nat} (h : ∀ i, H i = 0) : ∀ N, fb_sm H N = 0
  | 0 => rfl
  | N + 1 => by rw [fb_sm_succ, sm_z h N, h N]
theorem tMb_at {B : bT} {p d r : Nat} (hr : r ≤ d) (hb : d = dgB B (pst B p) → r = pst B p / bw B) : tMb B p (d - r) d ↔ tAt B p d r := by
  have e : d - (d - r) = r := by omega
  constructor
  · rintro ⟨h1, h2, h3, h4, h5⟩
    rw [e] at h3 h4 h5
    exact ⟨⟨hr, h1, h3⟩, h4, h5, hb⟩
  · rintro ⟨⟨_, h1, h3⟩, h4, h5, _⟩
    refine ⟨h1, by omega, ?_, ?_, ?_⟩
    · rw [e]; exact h3
    · rw [e]; exact h4
    · rw [e]; exact h5
/-- what is kept along the routes of one state -/
def nxI (B : bT) (d s p acc : Nat) (tk : Nat → Bool) (σ : Nat → Nat) : Prop := acc < 9 ^ p ∧ (∀ q, q < p → tOn B q d → acc / 9 ^ q % 9 = d + 1 - σ q ∧ σ q ≤ d) ∧ (∀ x, tk x = true ↔ ∃ q, q < p ∧ tOn B q d ∧ x = d + 1 - σ q) ∧ ∀ q, p ≤ q → q < (bpr B).length → dgB B (pst B q) < d → d ≤ dgB B (pen B q) → σ q = d - s / 9 ^ q % 9
theorem nxI_tk {B : bT} {d s p acc r : Nat} {tk : Nat → Bool} {σ : Nat → Nat} (h : nxI B d s p acc tk σ) (hr : r ≤ d) : tk (d + 1 - r) = tTk B d σ r p := by
  rw [Bool.eq_iff_iff, h.2.2.1, tTk_iff]
  constructor
  · rintro ⟨q, h1, h2, h3⟩
    have := (h.2.1 q h1 h2).2
    exact ⟨q, h1, h2, by omega⟩
  · rintro ⟨q, h1, h2, h3⟩
    exact ⟨q, h1, h2, by rw [h3]⟩
theorem nxI_up {B : bT} (hs : bS B) {d s p acc r : Nat} {tk : Nat → Bool} {σ : Nat → Nat} (h : nxI B d s p acc tk σ) (o : tOn B p d) (hr : tIn B d r) : nxI B d s (p + 1) (acc + (d + 1 - r) * 9 ^ p) (fun x => tk x || (decide (0 < d + 1 - r) && decide (x = d + 1 - r))) (upS σ p r) := by
  have h8 := hs.2.1
  have h1 := hr.1
  have h2 := hr.2.1
  obtain ⟨a1, a2, a3⟩ := n9_add (t := d + 1 - r) h.1 (by omega)
  refine ⟨a1, fun q hq oq => ?_, fun x => ?_, fun q h3 h4 h5 h6 => ?_⟩
  · by_cases e : q = p
    · rw [e, a3, upS_1]; exact ⟨rfl, h1⟩
    · rw [upS_n _ _ e, a2 q (by omega)]; exact h.2.1 q (by omega) oq
  · rw [Bool.or_eq_true, h.2.2.1, Bool.and_eq_true, decide_eq_true_iff, decide_eq_true_iff]
    constructor
    · rintro (⟨q, b1, b2, b3⟩ | ⟨_, b2⟩)
      · exact ⟨q, by omega, b2, by rw [upS_n _ _ (by omega)]; exact b3⟩
      · exact ⟨p, by omega, o, by rw [upS_1]; exact b2⟩
    · rintro ⟨q, b1, b2, b3⟩
      by_cases e : q = p
      · rw [e, upS_1] at b3; exact .inr ⟨by omega, b3⟩
      · rw [upS_n _ _ e] at b3; exact .inl ⟨q, by omega, b2, b3⟩
  · rw [upS_n _ _ (by omega)]; exact h.2.2.2 q (by omega) h4 h5 h6
theorem nxI_off {B : bT} {d s p acc : Nat} {tk tk2 : Nat → Bool} {σ : Nat → Nat} (h : nxI B d s p acc tk σ) (o : ¬ tOn B p d) (ht : ∀ x, tk2 x = tk x) : nxI B d s (p + 1) (acc + 0 * 9 ^ p) tk2 σ := by
  obtain ⟨a1, a2, a3⟩ := n9_add (t := 0) h.1 (by omega)
  refine ⟨a1, fun q hq oq => ?_, fun x => ?_, fun q h3 h4 h5 h6 => h.2.2.2 q (by omega) h4 h5 h6⟩
  · by_cases e : q = p
    · rw [e] at oq; exact absurd oq o
    · rw [a2 q (by omega)]; exact h.2.1 q (by omega) oq
  · rw [ht, h.2.2.1]
    constructor
    · rintro ⟨q, b1, b2, b3⟩; exact ⟨q, by omega, b2, b3⟩
    · rintro ⟨q, b1, b2, b3⟩
      by_cases e : q = p
      · rw [e] at b2; exact absurd b2 o
      · exact ⟨q, by omega, b2, b3⟩
theorem nx_sum {B : bT} (hs : bS B) (hc : ∀ q, q < (bpr B).length → dgB B (pst B q) ≤ dgB B (pen B q)) {d s : Nat} (hv : vl9 B d s) {f : (Nat → Nat) → Nat} (hf : ∀ σ τ, tEq B d (bpr B).length σ τ → f σ = f τ) : ∀ k p acc tk σ, p + k = (bpr B).length → nxI B d s p acc tk σ → fb_sm (fun j => (nxL B d s k p acc tk j).elim 0 (fun t => f (dec9 (d + 1) t))) (2 ^ k) = tSt B d f k p σ := by
  intro k
  induction k with
  | zero =>
    intro p acc tk σ hp h
    show 0 + f (dec9 (d + 1) acc) = f σ
    rw [Nat.zero_add]
    refine hf _ _ (fun q hq => ⟨fun h1 h2 => ?_, fun h1 => by omega⟩)
    have := h.2.1 q (by omega) h2
    show d + 1 - acc / 9 ^ q % 9 = σ q
    rw [this.1]
    omega
  | succ k ih =>
    intro p acc tk σ hp h
    have hpn : p < (bpr B).length := by omega
    rw [Nat.pow_succ, Nat.mul_comm, sm_pr, tSt_s]
    have one : ∀ (j i : Nat), (nxL B d s (k + 1) p acc tk j).elim 0 (fun t => f (dec9 (d + 1) t)) = (tGo B p d (s / 9 ^ p % 9) (j % 2)).elim 0 (fun to => if 0 < to ∧ tk to = true then 0 else (nxL B d s k (p + 1) (acc + to * 9 ^ p) (fun x => tk x || (decide (0 < to) && decide (x = to))) (j / 2)).elim 0 (fun t => f (dec9 (d + 1) t))) := fun j _ => by
      rw [nxL_s]
      cases tGo B p d (s / 9 ^ p % 9) (j % 2) with
      | none => rfl
      | some to =>
        rw [Option.bind_some]
        show (if 0 < to ∧ tk to = true then none else nxL B d s k (p + 1) (acc + to * 9 ^ p) (fun x => tk x || (decide (0 < to) && decide (x = to))) (j / 2)).elim 0 _ = if 0 < to ∧ tk to = true then 0 else _
        by_cases b : 0 < to ∧ tk to = true
        · rw [if_pos b, if_pos b] <;> rfl
        · rw [if_neg b, if_neg b]
    -- one that goes to a row
    have go : ∀ r, r ≤ d → tOn B p d → (d = dgB B (pst B p) → r = pst B p / bw B) → fb_sm (fun i => if tMb B p (d - r) d then (if 0 < d + 1 - r ∧ tk (d + 1 - r) = true then 0 else (nxL B d s k (p + 1) (acc + (d + 1 - r) * 9 ^ p) (fun x => tk x || (decide (0 < d + 1 - r) && decide (x = d + 1 - r))) i).elim 0 (fun t => f (dec9 (d + 1) t))) else 0) (2 ^ k) = tCd B d (tSt B d f k (p + 1)) p σ r := fun r hr o hb => by
      unfold tCd
      by_cases m : tMb B p (d - r) d
      · have at2 := (tMb_at hr hb).mp m
        rw [nxI_tk h hr]
        cases t : tTk B d σ r p with
        | true =>
          rw [if_neg (fun e => by cases e.2)]
          exact sm_z (fun i => by rw [if_pos m, if_pos ⟨by omega, rfl⟩]) _
        | false =>
          rw [if_pos ⟨at2, rfl⟩, ← ih (p + 1) _ _ _ (by omega) (nxI_up hs h o at2.1)]
          refine fb_sm_cong (fun i _ => ?_)
          rw [if_pos m, if_neg (fun e => by cases e.2)]
      · rw [if_neg (fun e => m ((tMb_at hr hb).mpr e.1))]
        exact sm_z (fun i => by rw [if_neg m]) _
    have ev : ∀ i, 2 * i % 2 = 0 ∧ 2 * i / 2 = i ∧ (2 * i + 1) % 2 = 1 ∧ (2 * i + 1) / 2 = i := fun i => by omega
    by_cases o : tOn B p d
    · rw [if_pos o]
      by_cases a : d = dgB B (pst B p)
      · have e0 : tR0 B p d σ = pst B p / bw B := if_pos a
        have hx : pst B p % bw B = d - pst B p / bw B := by rw [a]; unfold dgB; omega
        have hle : pst B p / bw B ≤ d := by rw [a]; unfold dgB; omega
        have z2 : tCd B d (tSt B d f k (p + 1)) p σ (pst B p / bw B + 1) = 0 := by
          unfold tCd
          rw [if_neg (fun e => by have := e.1.2.2.2 a; omega)]
        rw [e0, z2, Nat.add_zero, ← go _ hle o (fun _ => rfl)]
        refine fb_sm_cong (fun i _ => ?_)
        rw [one _ i, one _ i, (ev i).1, (ev i).2.1, (ev i).2.2.1, (ev i).2.2.2]
        have g0 : tGo B p d (s / 9 ^ p % 9) 0 = if tMb B p (d - pst B p / bw B) d then some (d + 1 - pst B p / bw B) else none := by
          unfold tGo
          rw [if_pos a, hx]
          by_cases m : tMb B p (d - pst B p / bw B) d
          · rw [if_pos m, if_pos ⟨rfl, m⟩, show d - pst B p / bw B + 1 = d + 1 - pst B p / bw B by omega]
          · rw [if_neg m, if_neg (fun e => m e.2)]
        have g1 : tGo B p d (s / 9 ^ p % 9) 1 = none := by
          unfold tGo
          rw [if_pos a, if_neg (fun e => by have := e.1; omega)]
        rw [g0, g1]
        by_cases m : tMb B p (d - pst B p / bw B) d
        · rw [if_pos m, if_pos m]; rfl
        · rw [if_neg m, if_neg m]; rfl
      · have hv2 := hv p hpn (by have := o.1; omega) o.2
        have hsp := h.2.2.2 p (Nat.le_refl _) hpn (by have := o.1; omega) o.2
        have e0 : tR0 B p d σ = σ p := if_neg a
        rw [e0, ← go (σ p) (by omega) o (fun e => absurd e a), ← go (σ p + 1) (by omega) o (fun e => absurd e a), ← fb_sm_add]
        refine fb_sm_cong (fun i _ => ?_)
        rw [one _ i, one _ i, (ev i).1, (ev i).2.1, (ev i).2.2.1, (ev i).2.2.2]
        have gn : ∀ b, tGo B p d (s / 9 ^ p % 9) b = if tMb B p (s / 9 ^ p % 9 - 1 + b) d then some (s / 9 ^ p % 9 + b) else none := fun b => by
          unfold tGo
          rw [if_neg a, if_neg (by have := o.1; have := o.2; omega)]
        rw [gn 0, gn 1, show s / 9 ^ p % 9 - 1 + 0 = d - (σ p + 1) by omega, show s / 9 ^ p % 9 + 0 = d + 1 - (σ p + 1) by omega, show s / 9 ^ p % 9 - 1 + 1 = d - σ p by omega, show s / 9 ^ p % 9 + 1 = d + 1 - σ p by omega, Nat.add_comm]
        congr 1
        · by_cases m : tMb B p (d - σ p) d
          · rw [if_pos m, if_pos m]; rfl
          · rw [if_neg m, if_neg m]; rfl
        · by_cases m : tMb B p (d - (σ p + 1)) d
          · rw [if_pos m, if_pos m]; rfl
          · rw [if_neg m, if_neg m]; rfl
    · rw [if_neg o]
      have hcp := hc p hpn
      have ab : ¬ d = dgB B (pst B p) ∧ (d < dgB B (pst B p) ∨ dgB B (pen B p) < d) := by omega
      obtain ⟨a, b⟩ := ab
      rw [← ih (p + 1) (acc + 0 * 9 ^ p) (fun x => tk x || (decide (0 < 0) && decide (x = 0))) σ (by omega) (nxI_off h o (fun x => by rw [decide_eq_false (Nat.lt_irrefl 0), Bool.false_and, Bool.or_false]))]
      refine fb_sm_cong (fun i _ => ?_)
      rw [one _ i, one _ i, (ev i).1, (ev i).2.1, (ev i).2.2.1, (ev i).2.2.2]
      have g0 : tGo B p d (s / 9 ^ p % 9) 0 = some 0 := by
        unfold tGo
        rw [if_neg a, if_pos b, if_pos rfl]
      have g1 : tGo B p d (s / 9 ^ p % 9) 1 = none := by
        unfold tGo
        rw [if_neg a, if_pos b, if_neg (by decide)]
      rw [g0, g1]
      show (if 0 < 0 ∧ tk 0 = true then 0 else _) + 0 = _
      rw [Nat.add_zero]
      exact if_neg (fun e => absurd e.1 (Nat.lt_irrefl 0))
