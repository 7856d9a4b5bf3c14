/-! STATE: what class and reference both hold -/
/-- a board: width, height, walls, roles, wires, pairs, routes -/
abbrev bT := Nat × Nat × (Nat → Bool) × (Nat → Nat) × (Nat → Nat → Bool) × List (Nat × Nat) × (Nat → List Nat)
def bw (B : bT) : Nat := B.1
def bh (B : bT) : Nat := B.2.1
def bn (B : bT) : Nat := bw B * bh B
def bwl (B : bT) : Nat → Bool := B.2.2.1
def brl (B : bT) : Nat → Nat := B.2.2.2.1
def bwi (B : bT) : Nat → Nat → Bool := B.2.2.2.2.1
def bpr (B : bT) : List (Nat × Nat) := B.2.2.2.2.2.1
def brt (B : bT) : Nat → List Nat := B.2.2.2.2.2.2
def bS (B : bT) : Prop := 2 ≤ bw B ∧ bw B ≤ 8 ∧ 2 ≤ bh B ∧ bh B ≤ 8
def bOK (B : bT) : Prop := bS B ∧ (∀ c, bn B ≤ c → bwl B c = false ∧ brl B c = 0 ∧ ∀ l, bwi B l c = false) ∧ (∀ c, brl B c < 4) ∧ (bpr B).length ≤ 4 ∧ (∀ i, i < (bpr B).length → ((bpr B).getD i (0, 0)).1 < bn B ∧ ((bpr B).getD i (0, 0)).2 < bn B) ∧ (∀ s, (brt B s).Nodup ∧ ∀ c, c ∈ brt B s → c < bn B)
theorem bS_64 {B : bT} (h : bS B) : bn B ≤ 64 := Nat.mul_le_mul h.2.1 h.2.2.2
theorem bS_4 {B : bT} (h : bS B) : 4 ≤ bn B := Nat.mul_le_mul h.1 h.2.2.1
theorem bS_w {B : bT} (h : bS B) : 0 < bw B := by have := h.1; omega
theorem bn_mod (B : bT) : bn B % bw B = 0 := Nat.mul_mod_right _ _
theorem bn_row {B : bT} {c : Nat} (h : ¬ c % bw B = 0) (h1 : c - 1 < bn B) : c < bn B := by
  rcases Nat.lt_or_ge c (bn B) with q | q
  · exact q
  · exfalso
    rcases Nat.eq_zero_or_pos c with z | z
    · subst z; exact h (Nat.zero_mod _)
    · have e : c = bn B := by omega
      exact h (by rw [e]; exact bn_mod B)
theorem bn_div {B : bT} {c : Nat} (h : c < bn B) : c / bw B < bh B := Nat.div_lt_of_lt_mul h
theorem bn_of {B : bT} {x y : Nat} (hx : x < bw B) (hy : y < bh B) : y * bw B + x < bn B := by
  have h1 : (y + 1) * bw B ≤ bh B * bw B := Nat.mul_le_mul_right _ hy
  rw [Nat.succ_mul, Nat.mul_comm (bh B) (bw B)] at h1
  show _ < bw B * bh B
  omega
/-- a cell that no wall stands on -/
def bop (B : bT) : Nat → Bool := fun c => decide (c < bn B) && !bwl B c
theorem bop_lt {B : bT} {c : Nat} (h : bop B c = true) : c < bn B := by
  unfold bop at h
  simp only [Bool.and_eq_true, decide_eq_true_eq] at h
  exact h.1
/-- the grid of a class's board -/
def cG (b : Nat) (X : ixX) (B : bT) : Prop := X.1 (b + 1) 0 = nI (bw B) ∧ X.1 (b + 1) 1 = nI (bh B) ∧ X.2 (b + 1) 2 = LSt (fun c => decide (c < bn B)) ∧ X.2 (b + 1) 3 = LSt (fun c => decide (c < bn B) && !decide (c % bw B = 0)) ∧ X.2 (b + 1) 4 = LSt (fun c => decide (c < bn B) && !decide ((c + 1) % bw B = 0)) ∧ X.2 (b + 1) 5 = LSt (bwl B) ∧ (∀ r, 1 ≤ r → r < 4 → X.2 (b + 2) r = LSt (fun c => decide (brl B c = r))) ∧ (∀ l, l < 4 → X.2 (b + 3) l = LSt (bwi B l))
/-- a route of the class -/
def cR (r : Nat) (X : ixX) (l : List Nat) : Prop := X.1 r 1 = nI l.length ∧ X.2 r 2 = LSt (fun c => decide (c ∈ l)) ∧ ∀ k, k < l.length → X.1 (r + 1) k = nI (l.getD k 0)
def cP (b : Nat) (X : ixX) (B : bT) : Prop := X.1 b 4 = nI (bpr B).length ∧ ∀ i, i < (bpr B).length → X.1 (b + 15) i = nI ((bpr B).getD i (0, 0)).1 ∧ X.1 (b + 16) i = nI ((bpr B).getD i (0, 0)).2
def cBd (b : Nat) (X : ixX) (B : bT) : Prop := cG b X B ∧ cP b X B ∧ ∀ s, s < 5 → cR (b + 5 + 2 * s) X (brt B s)
/-- the reference's row of numbers -/
def rBd (A : Nat → Int32) (B : bT) : Prop := A 0 = nI (bw B) ∧ A 1 = nI (bh B) ∧ (∀ c, c < bn B → A (2 + c) = ix_bi (bwl B c)) ∧ (∀ c, c < bn B → A (66 + c) = nI (brl B c)) ∧ (∀ l, l < 4 → ∀ c, c < bn B → A (130 + 64 * l + c) = ix_bi (bwi B l c)) ∧ A 386 = nI (bpr B).length ∧ (∀ i, i < (bpr B).length → A (387 + 2 * i) = nI ((bpr B).getD i (0, 0)).1 ∧ A (387 + 2 * i + 1) = nI ((bpr B).getD i (0, 0)).2) ∧ ∀ s, s < 5 → A (395 + 65 * s) = nI (brt B s).length ∧ ∀ k, k < (brt B s).length → A (395 + 65 * s + 1 + k) = nI ((brt B s).getD k 0)
/-- board, saved boards, pad -/
abbrev sT := bT × (Nat → Option bT) × List Nat
def padOK (l : List Nat) : Prop := l.length ≤ 80 ∧ ∀ i, i < l.length → 33 ≤ l.getD i 0 ∧ l.getD i 0 ≤ 126
def sOK (S : sT) : Prop := bOK S.1 ∧ (∀ p B, S.2.1 p = some B → bOK B) ∧ padOK S.2.2
/-- a tally of the class: what isn't zero is listed -/
def tOK (a : Nat) (X : ixX) : Prop := ∃ n, n ≤ 4096 ∧ X.1 a 2 = nI n ∧ (∀ i, i < n → ∃ s, s < 4096 ∧ X.1 (a + 2) i = nI s) ∧ (∀ s, s < 4096 → ¬ X.2 (a + 1) s = 0 → ∃ i, i < n ∧ X.1 (a + 2) i = nI s)
def cT (c : ixK) (X : ixX) : Prop := (c.2.2.2 = 0 ∧ c.1 = 0) ∨ ((c.2.2.2 = 1 ∨ c.2.2.2 = 2) ∧ c.1 = 10 ∧ tOK 106 X ∧ tOK 109 X)
def cI (c : ixK) (X : ixX) (S : sT) : Prop := cBd 4 X S.1 ∧ (∀ p, p < 2 → S.2.1 p = none → X.1 56 p = 0) ∧ (∀ p B, p < 2 → S.2.1 p = some B → X.1 56 p = 1 ∧ cBd (22 + 17 * p) X B) ∧ X.1 57 1 = nI S.2.2.length ∧ (∀ i, i < S.2.2.length → X.1 58 i = nI (S.2.2.getD i 0)) ∧ cT c X
def rI (X : ixX) (S : sT) : Prop := rBd (X.1 76) S.1 ∧ (∀ p, p < 2 → S.2.1 p = none → X.1 78 p = 0) ∧ (∀ p B, p < 2 → S.2.1 p = some B → X.1 78 p = 1 ∧ rBd (fun k => X.1 77 (720 * p + k)) B) ∧ X.1 75 31 = nI S.2.2.length ∧ (∀ i, i < S.2.2.length → X.1 101 i = nI (S.2.2.getD i 0))
/-! frames: only cells from lo on below hi have changed -/
def fRm (lo hi : Nat) (X X' : ixX) : Prop := ∀ a, (a < lo ∨ hi ≤ a) → X'.1 a = X.1 a ∧ X'.2 a = X.2 a
theorem fRm_refl (lo hi : Nat) (X : ixX) : fRm lo hi X X := fun a _ => ⟨rfl, rfl⟩
theorem fRm_trans {lo hi : Nat} {X Y Z : ixX} (h : fRm lo hi X Y) (h2 : fRm lo hi Y Z) : fRm lo hi X Z := fun a ha => ⟨((h2 a ha).1).trans (h a ha).1, ((h2 a ha).2).trans (h a ha).2⟩
theorem fRm_aI {lo hi : Nat} {X Y : ixX} {a : Nat} {f : Nat → Int32} (h : fRm lo hi X Y) (h1 : lo ≤ a) (h2 : a < hi) : fRm lo hi X (aI Y a f) := fun b hb => ⟨by rw [aI_n Y f (by omega)]; exact (h b hb).1, (h b hb).2⟩
theorem fRm_aJ {lo hi : Nat} {X Y : ixX} {a : Nat} {f : Nat → Int64} (h : fRm lo hi X Y) (h1 : lo ≤ a) (h2 : a < hi) : fRm lo hi X (aJ Y a f) := fun b hb => ⟨(h b hb).1, by rw [aJ_n Y f (by omega)]; exact (h b hb).2⟩
theorem fRm_mono {lo hi lo2 hi2 : Nat} {X Y : ixX} (h : fRm lo hi X Y) (h1 : lo2 ≤ lo) (h2 : hi ≤ hi2) : fRm lo2 hi2 X Y := fun a ha => h a (by omega)
/-- the reference's own: all but its scratch is the same -/
def rS (X X' : ixX) : Prop := (∀ a, (a < 75 ∨ (75 < a ∧ a < 79) ∨ 101 ≤ a) → X'.1 a = X.1 a ∧ X'.2 a = X.2 a) ∧ X'.1 75 31 = X.1 75 31
theorem rS_refl (X : ixX) : rS X X := ⟨fun a _ => ⟨rfl, rfl⟩, rfl⟩
theorem rS_trans {X Y Z : ixX} (h : rS X Y) (h2 : rS Y Z) : rS X Z := ⟨fun a ha => ⟨((h2.1 a ha).1).trans (h.1 a ha).1, ((h2.1 a ha).2).trans (h.1 a ha).2⟩, h2.2.trans h.2⟩
theorem rS_aI {X Y : ixX} {a : Nat} {f : Nat → Int32} (h : rS X Y) (h1 : 79 ≤ a) (h2 : a < 101) : rS X (aI Y a f) := ⟨fun b hb => ⟨by rw [aI_n Y f (by omega)]; exact (h.1 b hb).1, (h.1 b hb).2⟩, by rw [aI_n Y f (by omega)]; exact h.2⟩
theorem rS_aJ {X Y : ixX} {a : Nat} {f : Nat → Int64} (h : rS X Y) (h1 : 79 ≤ a) (h2 : a < 101) : rS X (aJ Y a f) := ⟨fun b hb => ⟨(h.1 b hb).1, by rw [aJ_n Y f (by omega)]; exact (h.1 b hb).2⟩, h.2⟩
theorem rS_f {X Y : ixX} {k : Nat} {x : Int32} (h : rS X Y) (h1 : ¬ k = 31) : rS X (aI Y 75 (upd (Y.1 75) k x)) := ⟨fun b hb => ⟨by rw [aI_n Y _ (by omega)]; exact (h.1 b hb).1, (h.1 b hb).2⟩, by
  rw [aI_1]
  unfold upd
  rw [if_neg (by omega)]
  exact h.2⟩
theorem rS_76 {X Y : ixX} (h : rS X Y) : Y.1 76 = X.1 76 := (h.1 76 (by omega)).1
theorem rS_I {X Y : ixX} {S : sT} (h : rS X Y) (hr : rI X S) : rI Y S := by
  obtain ⟨h1, h2, h3, h4, h5⟩ := hr
  refine ⟨?_, ?_, ?_, ?_, ?_⟩
  · rw [(h.1 76 (by omega)).1]; exact h1
  · intro p hp e
    rw [(h.1 78 (by omega)).1]; exact h2 p hp e
  · intro p B hp e
    rw [(h.1 78 (by omega)).1, (h.1 77 (by omega)).1]; exact h3 p B hp e
  · rw [h.2]; exact h4
  · intro i hi
    rw [(h.1 101 (by omega)).1]; exact h5 i hi
theorem cG_cong {b : Nat} {X Y : ixX} {B : bT} (h1 : Y.1 (b + 1) = X.1 (b + 1)) (h2 : Y.2 (b + 1) = X.2 (b + 1)) (h3 : Y.2 (b + 2) = X.2 (b + 2)) (h4 : Y.2 (b + 3) = X.2 (b + 3)) (h : cG b X B) : cG b Y B := by
  unfold cG
  rw [h1, h2, h3, h4]
  exact h
theorem cR_cong {r : Nat} {X Y : ixX} {l : List Nat} (h1 : Y.1 r = X.1 r) (h2 : Y.2 r = X.2 r) (h3 : Y.1 (r + 1) = X.1 (r + 1)) (h : cR r X l) : cR r Y l := by
  unfold cR
  rw [h1, h2, h3]
  exact h
theorem cP_cong {b : Nat} {X Y : ixX} {B : bT} (h1 : Y.1 b = X.1 b) (h2 : Y.1 (b + 15) = X.1 (b + 15)) (h3 : Y.1 (b + 16) = X.1 (b + 16)) (h : cP b X B) : cP b Y B := by
  unfold cP
  rw [h1, h2, h3]
  exact h
theorem cBd_cong {b : Nat} {X Y : ixX} {B : bT} (hf : ∀ a, b ≤ a → a < b + 17 → Y.1 a = X.1 a ∧ Y.2 a = X.2 a) (h : cBd b X B) : cBd b Y B := by
  refine ⟨cG_cong (hf _ (by omega) (by omega)).1 (hf _ (by omega) (by omega)).2 (hf _ (by omega) (by omega)).2 (hf _ (by omega) (by omega)).2 h.1, cP_cong (hf _ (by omega) (by omega)).1 (hf _ (by omega) (by omega)).1 (hf _ (by omega) (by omega)).1 h.2.1, fun s hs => cR_cong (hf _ (by omega) (by omega)).1 (hf _ (by omega) (by omega)).2 (hf _ (by omega) (by omega)).1 (h.2.2 s hs)⟩
theorem tOK_cong {a : Nat} {X Y : ixX} (h1 : Y.1 a = X.1 a) (h2 : Y.1 (a + 2) = X.1 (a + 2)) (h3 : Y.2 (a + 1) = X.2 (a + 1)) (h : tOK a X) : tOK a Y := by
  unfold tOK
  rw [h1, h2, h3]
  exact h
theorem cT_fr {lo hi : Nat} {c : ixK} {X Y : ixX} (hf : fRm lo hi X Y) (hh : hi ≤ 102) (h : cT c X) : cT c Y := by
  rcases h with h | ⟨h1, h2, h3, h4⟩
  · exact .inl h
  · exact .inr ⟨h1, h2, tOK_cong (hf _ (by omega)).1 (hf _ (by omega)).1 (hf _ (by omega)).2 h3, tOK_cong (hf _ (by omega)).1 (hf _ (by omega)).1 (hf _ (by omega)).2 h4⟩
/-- what changes only from 59 on, below 102, leaves the class as it was -/
theorem cI_fr {lo hi : Nat} {c : ixK} {X Y : ixX} {S : sT} (hf : fRm lo hi X Y) (hl : 59 ≤ lo) (hh : hi ≤ 102) (h : cI c X S) : cI c Y S := by
  obtain ⟨h1, h2, h3, h4, h5, h6⟩ := h
  refine ⟨cBd_cong (fun a _ _ => hf a (by omega)) h1, ?_, ?_, ?_, ?_, cT_fr hf hh h6⟩
  · intro p hp e
    rw [(hf 56 (by omega)).1]; exact h2 p hp e
  · intro p B hp e
    rw [(hf 56 (by omega)).1]
    exact ⟨(h3 p B hp e).1, cBd_cong (fun a _ _ => hf a (by omega)) (h3 p B hp e).2⟩
  · rw [(hf 57 (by omega)).1]; exact h4
  · intro i hi2
    rw [(hf 58 (by omega)).1]; exact h5 i hi2
/-- changes of the reference leave the class as it was, and the other way round -/
theorem cI_r {c : ixK} {X Y : ixX} {S : sT} (hf : fRm 75 102 X Y) (h : cI c X S) : cI c Y S := cI_fr hf (by omega) (by omega) h
theorem rI_c {X Y : ixX} {S : sT} (hf : ∀ a, 75 ≤ a → a < 102 → Y.1 a = X.1 a ∧ Y.2 a = X.2 a) (h : rI X S) : rI Y S := by
  obtain ⟨h1, h2, h3, h4, h5⟩ := h
  refine ⟨?_, ?_, ?_, ?_, ?_⟩
  · rw [(hf 76 (by omega) (by omega)).1]; exact h1
  · intro p hp e
    rw [(hf 78 (by omega) (by omega)).1]; exact h2 p hp e
  · intro p B hp e
    rw [(hf 78 (by omega) (by omega)).1, (hf 77 (by omega) (by omega)).1]; exact h3 p B hp e
  · rw [(hf 75 (by omega) (by omega)).1]; exact h4
  · intro i hi
    rw [(hf 101 (by omega) (by omega)).1]; exact h5 i hi
theorem rS_fr {X Y : ixX} (h : rS X Y) : fRm 75 102 X Y := fun a ha => h.1 a (by omega)
/-! loops -/
theorem lp_up {σ R : Type} (F : Nat → σ → R) (P : Nat → σ → Prop) {N : Nat} (st : ∀ k s, k < N → P k s → ∃ s', F k s = F (k + 1) s' ∧ P (k + 1) s') {k : Nat} {s : σ} (hk : k ≤ N) (h : P k s) : ∃ s', F k s = F N s' ∧ P N s' := by
  obtain ⟨n, hn⟩ : ∃ n, N = k + n := ⟨N - k, by omega⟩
  induction n generalizing k s with
  | zero => subst hn; exact ⟨s, rfl, h⟩
  | succ n ih =>
    obtain ⟨s1, e1, h1⟩ := st k s (by omega) h
    obtain ⟨s2, e2, h2⟩ := ih (k := k + 1) (s := s1) (by omega) h1 (by omega)
    exact ⟨s2, e1.trans e2, h2⟩
/-- a loop that may end early, in Q -/
theorem lp_out {σ R : Type} (F : Nat → σ → R) (P : Nat → σ → Prop) (Q : R → Prop) {N : Nat} (st : ∀ k s, k < N → P k s → (∃ s', F k s = F (k + 1) s' ∧ P (k + 1) s') ∨ Q (F k s)) {k : Nat} {s : σ} (hk : k ≤ N) (h : P k s) : (∃ s', F k s = F N s' ∧ P N s') ∨ Q (F k s) := by
  obtain ⟨n, hn⟩ : ∃ n, N = k + n := ⟨N - k, by omega⟩
  induction n generalizing k s with
  | zero => subst hn; exact .inl ⟨s, rfl, h⟩
  | succ n ih =>
    rcases st k s (by omega) h with ⟨s1, e1, h1⟩ | hq
    · rcases ih (k := k + 1) (s := s1) (by omega) h1 (by omega) with ⟨s2, e2, h2⟩ | hq
      · exact .inl ⟨s2, e1.trans e2, h2⟩
      · rw [e1]; exact .inr hq
    · exact .inr hq
/-- one that only adds to a value: no choice of states -/
theorem lp_f {σ R : Type} (F : Nat → σ → R) (v : Nat → σ) {N : Nat} (st : ∀ k, k < N → F k (v k) = F (k + 1) (v (k + 1))) {k : Nat} (hk : k ≤ N) : F k (v k) = F N (v N) := by
  obtain ⟨s', e, h⟩ := lp_up F (fun k s => s = v k) (N := N) (fun k s hk h => ⟨v (k + 1), by rw [h]; exact st k hk, rfl⟩) hk rfl
  rw [e, h]
theorem upd_1 (f : Nat → Int32) (k : Nat) (x : Int32) : upd f k x k = x := if_pos rfl
theorem upd_n (f : Nat → Int32) {k j : Nat} (x : Int32) (h : ¬ j = k) : upd f k x j = f j := if_neg h
theorem updL_1 (f : Nat → Int64) (k : Nat) (x : Int64) : vp_updL f k x k = x := if_pos rfl
theorem updL_n (f : Nat → Int64) {k j : Nat} (x : Int64) (h : ¬ j = k) : vp_updL f k x j = f j := if_neg h
theorem kI_s {β : Type} (v : Int32) (h : ixH) (k : Int32 → ixH → Option β) : ix_kI ([.int v], h) k = k v h := rfl
theorem kL_s {β : Type} (v : Int64) (h : ixH) (k : Int64 → ixH → Option β) : ix_kL ([.long v], h) k = k v h := rfl
theorem kV_s {β : Type} (h : ixH) (k : ixH → Option β) : ix_kV ([], h) k = k h := rfl
