/-! TUPLES: in how many ways routes that have come to a diagonal can go on; a route's place is its row -/
def pst (B : bT) (p : Nat) : Nat := ((bpr B).getD p (0, 0)).1
def pen (B : bT) (p : Nat) : Nat := ((bpr B).getD p (0, 0)).2
abbrev tOn (B : bT) (p d : Nat) : Prop := dgB B (pst B p) ≤ d ∧ d ≤ dgB B (pen B p)
def cl (B : bT) (d r : Nat) : Nat := r * bw B + (d - r)
abbrev tIn (B : bT) (d r : Nat) : Prop := r ≤ d ∧ d - r < bw B ∧ r < bh B
abbrev tAt (B : bT) (p d r : Nat) : Prop := tIn B d r ∧ bop B (cl B d r) = true ∧ (d < dgB B (pen B p) ∨ cl B d r = pen B p) ∧ (d = dgB B (pst B p) → r = pst B p / bw B)
/-- the row r of this diagonal is taken by one of the first routes -/
def tTk (B : bT) (d : Nat) (σ : Nat → Nat) (r : Nat) : Nat → Bool
  | 0 => false
  | q + 1 => tTk B d σ r q || (decide (tOn B q d) && decide (σ q = r))
def tR0 (B : bT) (p d : Nat) (σ : Nat → Nat) : Nat := if d = dgB B (pst B p) then pst B p / bw B else σ p
def upS (σ : Nat → Nat) (p r : Nat) : Nat → Nat := fun q => if q = p then r else σ q
theorem upS_1 (σ : Nat → Nat) (p r : Nat) : upS σ p r p = r := if_pos rfl
theorem upS_n (σ : Nat → Nat) {p q : Nat} (r : Nat) (h : ¬ q = p) : upS σ p r q = σ q := if_neg h
def tCd (B : bT) (d : Nat) (g : (Nat → Nat) → Nat) (p : Nat) (σ : Nat → Nat) (r : Nat) : Nat := if tAt B p d r ∧ tTk B d σ r p = false then g (upS σ p r) else 0
def tSt (B : bT) (d : Nat) (f : (Nat → Nat) → Nat) : Nat → Nat → (Nat → Nat) → Nat
  | 0, _, σ => f σ
  | k + 1, p, σ => if tOn B p d then tCd B d (tSt B d f k (p + 1)) p σ (tR0 B p d σ) + tCd B d (tSt B d f k (p + 1)) p σ (tR0 B p d σ + 1) else tSt B d f k (p + 1) σ
theorem tSt_s (B : bT) (d : Nat) (f : (Nat → Nat) → Nat) (k p : Nat) (σ : Nat → Nat) : tSt B d f (k + 1) p σ = if tOn B p d then tCd B d (tSt B d f k (p + 1)) p σ (tR0 B p d σ) + tCd B d (tSt B d f k (p + 1)) p σ (tR0 B p d σ + 1) else tSt B d f k (p + 1) σ := rfl
def tPh (B : bT) : Nat → Nat → (Nat → Nat) → Nat
  | 0, _, _ => 1
  | m + 1, d, σ => tSt B d (tPh B m (d + 1)) (bpr B).length 0 σ
theorem tPh_s (B : bT) (m d : Nat) (σ : Nat → Nat) : tPh B (m + 1) d σ = tSt B d (tPh B m (d + 1)) (bpr B).length 0 σ := rfl
/-- alike where it counts: the first p on this diagonal, the others on the one before -/
def tEq (B : bT) (d p : Nat) (σ τ : Nat → Nat) : Prop := ∀ q, q < (bpr B).length → (q < p → tOn B q d → σ q = τ q) ∧ (p ≤ q → dgB B (pst B q) < d → d ≤ dgB B (pen B q) → σ q = τ q)
theorem tTk_cong {B : bT} {d : Nat} {σ τ : Nat → Nat} (r : Nat) : ∀ p, (∀ q, q < p → tOn B q d → σ q = τ q) → tTk B d σ r p = tTk B d τ r p
  | 0, _ => rfl
  | p + 1, h => by
    show (tTk B d σ r p || (decide (tOn B p d) && decide (σ p = r))) = (tTk B d τ r p || (decide (tOn B p d) && decide (τ p = r)))
    rw [tTk_cong r p (fun q hq => h q (by omega))]
    by_cases o : tOn B p d
    · rw [h p (by omega) o]
    · rw [decide_eq_false o, Bool.false_and, Bool.false_and]
theorem tTk_iff {B : bT} {d : Nat} {σ : Nat → Nat} {r : Nat} : ∀ p, tTk B d σ r p = true ↔ ∃ q, q < p ∧ tOn B q d ∧ σ q = r
  | 0 => ⟨fun h => (by cases h), fun ⟨q, h, _⟩ => absurd h (Nat.not_lt_zero q)⟩
  | p + 1 => by
    show (tTk B d σ r p || (decide (tOn B p d) && decide (σ p = r))) = true ↔ _
    rw [Bool.or_eq_true, tTk_iff p, Bool.and_eq_true, decide_eq_true_iff, decide_eq_true_iff]
    constructor
    · rintro (⟨q, h1, h2, h3⟩ | ⟨h2, h3⟩)
      · exact ⟨q, by omega, h2, h3⟩
      · exact ⟨p, by omega, h2, h3⟩
    · rintro ⟨q, h1, h2, h3⟩
      by_cases e : q = p
      · subst e; exact .inr ⟨h2, h3⟩
      · exact .inl ⟨q, by omega, h2, h3⟩
theorem tSt_cong {B : bT} {d : Nat} {f : (Nat → Nat) → Nat} (hf : ∀ σ τ, tEq B d (bpr B).length σ τ → f σ = f τ) : ∀ k p σ τ, p + k = (bpr B).length → tEq B d p σ τ → tSt B d f k p σ = tSt B d f k p τ := by
  intro k
  induction k with
  | zero =>
    intro p σ τ hp h
    exact hf σ τ (by rw [← hp]; exact h)
  | succ k ih =>
    intro p σ τ hp h
    have hpn : p < (bpr B).length := by omega
    rw [tSt_s, tSt_s]
    by_cases o : tOn B p d
    · rw [if_pos o, if_pos o]
      have e0 : tR0 B p d σ = tR0 B p d τ := by
        unfold tR0
        by_cases e : d = dgB B (pst B p)
        · rw [if_pos e, if_pos e]
        · rw [if_neg e, if_neg e]
          have := o.1
          exact (h p hpn).2 (Nat.le_refl _) (by omega) o.2
      have ec : ∀ r, tCd B d (tSt B d f k (p + 1)) p σ r = tCd B d (tSt B d f k (p + 1)) p τ r := fun r => by
        unfold tCd
        rw [tTk_cong r p (fun q hq ho => (h q (by omega)).1 hq ho)]
        by_cases a : tAt B p d r ∧ tTk B d τ r p = false
        · rw [if_pos a, if_pos a]
          refine ih (p + 1) _ _ (by omega) (fun q hq => ⟨fun h1 h2 => ?_, fun h1 h2 h3 => ?_⟩)
          · by_cases e : q = p
            · rw [e, upS_1, upS_1]
            · rw [upS_n _ _ e, upS_n _ _ e]; exact (h q hq).1 (by omega) h2
          · rw [upS_n _ _ (by omega), upS_n _ _ (by omega)]; exact (h q hq).2 (by omega) h2 h3
        · rw [if_neg a, if_neg a]
      rw [e0, ec, ec]
    · rw [if_neg o, if_neg o]
      refine ih (p + 1) _ _ (by omega) (fun q hq => ⟨fun h1 h2 => ?_, fun h1 h2 h3 => (h q hq).2 (by omega) h2 h3⟩)
      by_cases e : q = p
      · rw [e] at h2; exact absurd h2 o
      · exact (h q hq).1 (by omega) h2
theorem tPh_cong {B : bT} : ∀ m d σ τ, tEq B d 0 σ τ → tPh B m d σ = tPh B m d τ
  | 0, _, _, _, _ => rfl
  | m + 1, d, σ, τ, h => by
    rw [tPh_s, tPh_s]
    refine tSt_cong (fun a b hab => tPh_cong m (d + 1) a b (fun q hq => ⟨fun h1 => absurd h1 (Nat.not_lt_zero q), fun _ h2 h3 => (hab q hq).1 hq ⟨by omega, by omega⟩⟩)) _ 0 σ τ (by omega) h
theorem tPh_f {B : bT} (m d : Nat) : ∀ σ τ, tEq B d (bpr B).length σ τ → tPh B m (d + 1) σ = tPh B m (d + 1) τ := fun a b hab => tPh_cong m (d + 1) a b (fun q hq => ⟨fun h1 => absurd h1 (Nat.not_lt_zero q), fun _ h2 h3 => (hab q hq).1 hq ⟨by omega, by omega⟩⟩)
/-! cells of diagonals -/
theorem cl_mod {B : bT} {d r : Nat} (h : tIn B d r) : cl B d r % bw B = d - r ∧ cl B d r / bw B = r := by
  unfold cl
  have hw : 0 < bw B := by have := h.2.1; omega
  refine ⟨?_, ?_⟩
  · rw [Nat.mul_comm, Nat.mul_add_mod, Nat.mod_eq_of_lt h.2.1]
  · rw [Nat.mul_comm, Nat.mul_add_div hw, Nat.div_eq_of_lt h.2.1, Nat.add_zero]
theorem cl_dg {B : bT} {d r : Nat} (h : tIn B d r) : dgB B (cl B d r) = d := by
  unfold dgB
  rw [(cl_mod h).1, (cl_mod h).2]
  have := h.1
  omega
theorem cl_lt {B : bT} {d r : Nat} (h : tIn B d r) : cl B d r < bn B := bn_of h.2.1 h.2.2
theorem cl_of {B : bT} (hs : bS B) {c : Nat} (hc : c < bn B) : tIn B (dgB B c) (c / bw B) ∧ cl B (dgB B c) (c / bw B) = c := by
  have h1 := Nat.mod_lt c (bS_w hs)
  have h2 := bn_div hc
  have h3 := Nat.div_add_mod' c (bw B)
  unfold cl dgB
  refine ⟨⟨by omega, by omega, h2⟩, ?_⟩
  rw [show c % bw B + c / bw B - c / bw B = c % bw B by omega]
  exact h3
theorem fw_dg {B : bT} (hw : 0 < bw B) (y : Nat) : ∀ x, 0 < fw B y x → x = y ∨ dgB B y < dgB B x := by
  intro x
  induction x using Nat.strongRecOn with
  | _ x ih =>
    intro h
    obtain ⟨h1, h2⟩ := (rc_iff hw y x).mp h
    rcases h2 with h2 | h2 | h2
    · exact .inl h2
    · have h0 : ¬ x = 0 := fun e => h2.1 (by rw [e]; exact Nat.zero_mod _)
      have e := dgB_left hw h2.1
      rcases ih (x - 1) (by omega) h2.2 with q | q
      · rw [← q]; exact .inr (by omega)
      · exact .inr (by omega)
    · have e := dgB_up hw h2.1
      rcases ih (x - bw B) (by omega) h2.2 with q | q
      · rw [← q]; exact .inr (by omega)
      · exact .inr (by omega)
/-- a step to the next diagonal: the same row, or the next one -/
theorem fw_step {B : bT} {d r r2 : Nat} (h : tIn B d r) (h2 : tIn B (d + 1) r2) (hr : r2 = r ∨ r2 = r + 1) (ho : bop B (cl B d r) = true) (ho2 : bop B (cl B (d + 1) r2) = true) : 0 < fw B (cl B d r) (cl B (d + 1) r2) := by
  have hw : 0 < bw B := by have := h.2.1; omega
  have hm := cl_mod h2
  have h9 := h.1
  rw [rc_iff hw]
  refine ⟨ho2, .inr ?_⟩
  rcases hr with e | e
  · subst e
    left
    refine ⟨by rw [hm.1]; omega, ?_⟩
    rw [show cl B (d + 1) r2 - 1 = cl B d r2 by unfold cl; omega]
    exact rc_self hw ho
  · subst e
    right
    have e1 : (r + 1) * bw B = r * bw B + bw B := Nat.succ_mul _ _
    have e2 : cl B (d + 1) (r + 1) = cl B d r + bw B := by
      unfold cl
      omega
    rw [e2]
    refine ⟨by omega, ?_⟩
    rw [Nat.add_sub_cancel]
    exact rc_self hw ho
/-! a route that can't come to its end any more -/
def tDead (B : bT) (p d : Nat) (σ : Nat → Nat) : Prop := dgB B (pst B p) ≤ d ∧ d < dgB B (pen B p) ∧ tIn B d (σ p) ∧ bop B (cl B d (σ p)) = true ∧ fw B (cl B d (σ p)) (pen B p) = 0
theorem tDead_up {B : bT} {p d q r : Nat} {σ : Nat → Nat} (h : tDead B p d σ) (hq : ¬ p = q) : tDead B p d (upS σ q r) := by
  unfold tDead
  rw [upS_n _ _ hq]
  exact h
theorem tSt_dead1 {B : bT} {p d : Nat} {f : (Nat → Nat) → Nat} (hf : ∀ σ, tDead B p d σ → f σ = 0) : ∀ k q σ, p < q → tDead B p d σ → tSt B d f k q σ = 0 := by
  intro k
  induction k with
  | zero => intro q σ _ h; exact hf σ h
  | succ k ih =>
    intro q σ hq h
    rw [tSt_s]
    have ec : ∀ r, tCd B d (tSt B d f k (q + 1)) q σ r = 0 := fun r => by
      unfold tCd
      by_cases a : tAt B q d r ∧ tTk B d σ r q = false
      · rw [if_pos a]; exact ih (q + 1) _ (by omega) (tDead_up h (by omega))
      · rw [if_neg a]
    rw [ec, ec]
    by_cases o : tOn B q d
    · rw [if_pos o]
    · rw [if_neg o]; exact ih (q + 1) _ (by omega) h
/-- a place that isn't dead is on a way to the end -/
theorem tAt_dead {B : bT} (hs : bS B) {p d r : Nat} {σ : Nat → Nat} (o : tOn B p d) (h : tAt B p d r) (hz : fw B (cl B d r) (pen B p) = 0) : tDead B p d (upS σ p r) := by
  have hw := bS_w hs
  unfold tDead
  rw [upS_1]
  refine ⟨o.1, ?_, h.1, h.2.1, hz⟩
  rcases h.2.2.1 with q | q
  · exact q
  · have := rc_self hw h.2.1
    rw [q] at hz
    rw [q] at this
    omega
theorem tSt_dead2 {B : bT} (hs : bS B) {p d : Nat} {f : (Nat → Nat) → Nat} (hf : ∀ σ, tDead B p (d + 1) σ → f σ = 0) : ∀ k q σ, q ≤ p → p < q + k → tDead B p d σ → tSt B (d + 1) f k q σ = 0 := by
  intro k
  induction k with
  | zero => intro q σ h1 h2; omega
  | succ k ih =>
    intro q σ h1 h2 h
    rw [tSt_s]
    by_cases e : q = p
    · subst e
      have o : tOn B q (d + 1) := ⟨by have := h.1; omega, by have := h.2.1; omega⟩
      have h0 : tR0 B q (d + 1) σ = σ q := if_neg (by have := h.1; omega)
      have ec : ∀ r, r = σ q ∨ r = σ q + 1 → tCd B (d + 1) (tSt B (d + 1) f k (q + 1)) q σ r = 0 := fun r hr => by
        unfold tCd
        by_cases a : tAt B q (d + 1) r ∧ tTk B (d + 1) σ r q = false
        · rw [if_pos a]
          have hst := fw_step h.2.2.1 a.1.1 hr h.2.2.2.1 a.1.2.1
          refine tSt_dead1 hf k (q + 1) _ (by omega) (tAt_dead hs o a.1 ?_)
          rcases Nat.eq_zero_or_pos (fw B (cl B (d + 1) r) (pen B q)) with z | z
          · exact z
          · have := rc_trans (bS_w hs) hst _ z
            have := h.2.2.2.2
            omega
        · rw [if_neg a]
      rw [if_pos o, h0, ec _ (.inl rfl), ec _ (.inr rfl)]
    · have ec : ∀ r, tCd B (d + 1) (tSt B (d + 1) f k (q + 1)) q σ r = 0 := fun r => by
        unfold tCd
        by_cases a : tAt B q (d + 1) r ∧ tTk B (d + 1) σ r q = false
        · rw [if_pos a]; exact ih (q + 1) _ (by omega) (by omega) (tDead_up h (by omega))
        · rw [if_neg a]
      rw [ec, ec]
      by_cases o : tOn B q (d + 1)
      · rw [if_pos o]
      · rw [if_neg o]; exact ih (q + 1) _ (by omega) (by omega) h
def tD (B : bT) : Nat := bw B + bh B - 1
theorem pen_D {B : bT} (hb : bOK B) {p : Nat} (hp : p < (bpr B).length) : pst B p < bn B ∧ pen B p < bn B ∧ dgB B (pst B p) < tD B ∧ dgB B (pen B p) < tD B := by
  have h := hb.2.2.2.2.1 p hp
  have key : ∀ c, c < bn B → dgB B c < tD B := fun c hc => by
    have h1 := Nat.mod_lt c (bS_w hb.1)
    have h2 := bn_div hc
    unfold dgB tD
    omega
  exact ⟨h.1, h.2, key _ h.1, key _ h.2⟩
theorem tPh_dead {B : bT} (hb : bOK B) {p : Nat} (hp : p < (bpr B).length) : ∀ m d σ, d + 1 + m = tD B → tDead B p d σ → tPh B m (d + 1) σ = 0 := by
  intro m
  induction m with
  | zero =>
    intro d σ hd h
    have := (pen_D hb hp).2.2.2
    have := h.2.1
    omega
  | succ m ih =>
    intro d σ hd h
    rw [tPh_s]
    exact tSt_dead2 hb.1 (fun τ hτ => ih (d + 1) τ (by omega) hτ) _ 0 σ (by omega) (by omega) h
/-! the class looks at what lies on a way from the start to the end alone -/
def tAl (B : bT) (p d r : Nat) : Prop := tIn B d r ∧ 0 < fw B (pst B p) (cl B d r) ∧ 0 < fw B (cl B d r) (pen B p)
theorem tAl_at {B : bT} (hs : bS B) {p d r : Nat} (h : tAl B p d r) : tAt B p d r := by
  have hw := bS_w hs
  refine ⟨h.1, rc_open hw _ _ h.2.2, ?_, fun e => ?_⟩
  · rcases fw_dg hw _ _ h.2.2 with q | q
    · exact .inr q.symm
    · rw [cl_dg h.1] at q; exact .inl q
  · rcases fw_dg hw _ _ h.2.1 with q | q
    · rw [← q, (cl_mod h.1).2]
    · rw [cl_dg h.1] at q; omega
/-- where the class stands: on ways alone -/
def tVl (B : bT) (d p : Nat) (σ : Nat → Nat) : Prop := ∀ q, q < (bpr B).length → (q < p → tOn B q d → tAl B q d (σ q)) ∧ (p ≤ q → dgB B (pst B q) < d → d ≤ dgB B (pen B q) → tAl B q (d - 1) (σ q))
theorem tCd_al {B : bT} (hb : bOK B) {m d k p r : Nat} (hp : p < (bpr B).length) (hk : p + 1 + k = (bpr B).length) (hd : d + 1 + m = tD B) (o : tOn B p d) {σ : Nat → Nat} (hv : dgB B (pst B p) < d → tAl B p (d - 1) (σ p)) (hr : r = tR0 B p d σ ∨ r = tR0 B p d σ + 1) (hn : ¬ tAl B p d r) : tCd B d (tSt B d (tPh B m (d + 1)) k (p + 1)) p σ r = 0 := by
  have hw := bS_w hb.1
  unfold tCd
  by_cases a : tAt B p d r ∧ tTk B d σ r p = false
  · rw [if_pos a]
    obtain ⟨a, _⟩ := a
    have hreach : 0 < fw B (pst B p) (cl B d r) := by
      by_cases e : d = dgB B (pst B p)
      · have h1 := a.2.2.2 e
        have h2 := (cl_of hb.1 (pen_D hb hp).1).2
        rw [← e, ← h1] at h2
        rw [h2]
        exact rc_self hw (by rw [← h2]; exact a.2.1)
      · have h1 := hv (by have := o.1; omega)
        rw [show tR0 B p d σ = σ p from if_neg e] at hr
        have h2 : d - 1 + 1 = d := by have := o.1; omega
        have h3 := fw_step (d := d - 1) (r2 := r) h1.1 (by rw [h2]; exact a.1) hr (rc_open hw _ _ h1.2.2) (by rw [h2]; exact a.2.1)
        rw [h2] at h3
        exact rc_trans hw h1.2.1 _ h3
    refine tSt_dead1 (fun τ hτ => tPh_dead hb hp m d τ hd hτ) k (p + 1) _ (by omega) (tAt_dead hb.1 o a ?_)
    rcases Nat.eq_zero_or_pos (fw B (cl B d r) (pen B p)) with z | z
    · exact z
    · exact absurd ⟨a.1, hreach, z⟩ hn
  · rw [if_neg a]
