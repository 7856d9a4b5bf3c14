/-! FLOWS: plain facts. b begins, e ends, a arcs, t cells that are used; v: a node (cell c's entrance c, its exit 64 + c) that lacks one -/
def bNt (b : Bool) : Nat := if b = true then 1 else 0
theorem bNt_t : bNt true = 1 := rfl
theorem bNt_f : bNt false = 0 := rfl
theorem bNt_le (b : Bool) : bNt b ≤ 1 := by cases b <;> decide
theorem ct_sm (p : Nat → Bool) : ∀ n, fb_ct p n = fb_sm (fun k => bNt (p k)) n
  | 0 => rfl
  | n + 1 => by rw [fb_ct_succ, fb_sm_succ, ct_sm p n]; rfl
theorem sm_swap (f : Nat → Nat → Nat) (m : Nat) : ∀ n, fb_sm (fun i => fb_sm (fun j => f i j) m) n = fb_sm (fun j => fb_sm (fun i => f i j) n) m
  | 0 => by
    have : fb_sm (fun j => fb_sm (fun i => f i j) 0) m = m * 0 := fb_sm_const 0 m
    rw [this, Nat.mul_zero]
    rfl
  | n + 1 => by
    rw [fb_sm_succ, sm_swap f m n, ← fb_sm_add]
    rfl
theorem sm_if (p : Bool) (f : Nat → Nat) (n : Nat) : (if p = true then fb_sm f n else 0) = fb_sm (fun k => if p = true then f k else 0) n := by
  cases p with
  | true => rfl
  | false =>
    have : fb_sm (fun k => if false = true then f k else 0) n = n * 0 := fb_sm_const 0 n
    rw [this, Nat.mul_zero]
    rfl
def DF (n : Nat) (b e : Nat → Bool) (a : Nat → Nat → Bool) (t : Nat → Bool) (v : Nat) : Prop := ∀ c, c < n → bNt (b c) + fb_sm (fun x => bNt (a x c)) n + bNt (decide (v = c)) = bNt (t c) ∧ bNt (t c) + bNt (decide (v = 64 + c)) = bNt (e c) + fb_sm (fun x => bNt (a c x)) n
def up2 (a : Nat → Nat → Bool) (c d : Nat) (v : Bool) : Nat → Nat → Bool := fun x y => if x = c then (if y = d then v else a x y) else a x y
def up1 (t : Nat → Bool) (c : Nat) (v : Bool) : Nat → Bool := fun x => if x = c then v else t x
theorem up1_1 (t : Nat → Bool) (c : Nat) (v : Bool) : up1 t c v c = v := if_pos rfl
theorem up1_n (t : Nat → Bool) {c x : Nat} (v : Bool) (h : ¬ x = c) : up1 t c v x = t x := if_neg h
theorem up2_1 (a : Nat → Nat → Bool) (c d : Nat) (v : Bool) : up2 a c d v c d = v := by unfold up2; rw [if_pos rfl, if_pos rfl]
theorem up2_n (a : Nat → Nat → Bool) {c d x y : Nat} (v : Bool) (h : ¬ (x = c ∧ y = d)) : up2 a c d v x y = a x y := by
  unfold up2
  by_cases h1 : x = c
  · rw [if_pos h1, if_neg (fun h2 => h ⟨h1, h2⟩)]
  · rw [if_neg h1]
theorem row_1 (a : Nat → Nat → Bool) {c d n : Nat} (v : Bool) (hd : d < n) : fb_sm (fun x => bNt (up2 a c d v c x)) n + bNt (a c d) = fb_sm (fun x => bNt (a c x)) n + bNt v := by
  have e : fb_sm (fun x => bNt (up2 a c d v c x)) n = fb_sm (fun k => if k = d then bNt v else bNt (a c k)) n := fb_sm_cong fun k _ => by
    unfold up2
    rw [if_pos rfl]
    by_cases h : k = d
    · rw [if_pos h, if_pos h]
    · rw [if_neg h, if_neg h]
  rw [e]
  exact fb_sm_upd (fun k => bNt (a c k)) (bNt v) hd
theorem row_n (a : Nat → Nat → Bool) {c d n x : Nat} (v : Bool) (h : ¬ x = c) : fb_sm (fun y => bNt (up2 a c d v x y)) n = fb_sm (fun y => bNt (a x y)) n := fb_sm_cong fun k _ => by rw [up2_n a v (fun q => h q.1)]
theorem col_1 (a : Nat → Nat → Bool) {c d n : Nat} (v : Bool) (hc : c < n) : fb_sm (fun x => bNt (up2 a c d v x d)) n + bNt (a c d) = fb_sm (fun x => bNt (a x d)) n + bNt v := by
  have e : fb_sm (fun x => bNt (up2 a c d v x d)) n = fb_sm (fun k => if k = c then bNt v else bNt (a k d)) n := fb_sm_cong fun k _ => by
    unfold up2
    by_cases h : k = c
    · rw [if_pos h, if_pos rfl, if_pos h]
    · rw [if_neg h, if_neg h]
  rw [e]
  exact fb_sm_upd (fun k => bNt (a k d)) (bNt v) hc
theorem col_n (a : Nat → Nat → Bool) {c d n y : Nat} (v : Bool) (h : ¬ y = d) : fb_sm (fun x => bNt (up2 a c d v x y)) n = fb_sm (fun x => bNt (a x y)) n := fb_sm_cong fun k _ => by rw [up2_n a v (fun q => h q.2)]
theorem bNt_dec_t {p : Prop} [Decidable p] (h : p) : bNt (decide p) = 1 := by rw [decide_eq_true h]; rfl
theorem bNt_dec_f {p : Prop} [Decidable p] (h : ¬ p) : bNt (decide p) = 0 := by rw [decide_eq_false h]; rfl
/-- a new end -/
theorem DF_0 {n : Nat} {b e : Nat → Bool} {a : Nat → Nat → Bool} {t : Nat → Bool} {v c : Nat} (hn : n ≤ 64) (hv : 128 ≤ v) (hc : c < n) (h : DF n b e a t v) (h0 : e c = false) : DF n b (up1 e c true) a t (64 + c) := by
  intro x hx
  obtain ⟨h1, h2⟩ := h x hx
  rw [bNt_dec_f (show ¬ v = x by omega)] at h1
  rw [bNt_dec_f (show ¬ v = 64 + x by omega)] at h2
  refine ⟨by rw [bNt_dec_f (show ¬ 64 + c = x by omega)]; exact h1, ?_⟩
  by_cases q : x = c
  · subst q
    rw [up1_1, bNt_dec_t rfl, bNt_t]
    rw [h0, bNt_f] at h2
    omega
  · rw [up1_n e true q, bNt_dec_f (show ¬ 64 + c = 64 + x by omega)]
    exact h2
/-- an arc more -/
theorem DF_1 {n : Nat} {b e : Nat → Bool} {a : Nat → Nat → Bool} {t : Nat → Bool} {c d : Nat} (hn : n ≤ 64) (hc : c < n) (hd : d < n) (h : DF n b e a t d) (h0 : a c d = false) : DF n b e (up2 a c d true) t (64 + c) := by
  intro x hx
  obtain ⟨h1, h2⟩ := h x hx
  rw [bNt_dec_f (show ¬ d = 64 + x by omega)] at h2
  have r := row_1 a (c := c) true hd
  have k := col_1 a (d := d) true hc
  rw [h0, bNt_f, bNt_t] at r k
  refine ⟨?_, ?_⟩
  · rw [bNt_dec_f (show ¬ 64 + c = x by omega)]
    by_cases q : x = d
    · subst q
      rw [bNt_dec_t rfl] at h1
      omega
    · rw [bNt_dec_f (show ¬ d = x by omega)] at h1
      rw [col_n a true q]
      exact h1
  · by_cases q : x = c
    · subst q
      rw [bNt_dec_t rfl]
      omega
    · rw [row_n a true q, bNt_dec_f (show ¬ 64 + c = 64 + x by omega)]
      exact h2
/-- a cell that is used now -/
theorem DF_2 {n : Nat} {b e : Nat → Bool} {a : Nat → Nat → Bool} {t : Nat → Bool} {c : Nat} (hn : n ≤ 64) (hc : c < n) (h : DF n b e a t (64 + c)) (h0 : t c = false) : DF n b e a (up1 t c true) c := by
  intro x hx
  obtain ⟨h1, h2⟩ := h x hx
  rw [bNt_dec_f (show ¬ 64 + c = x by omega)] at h1
  by_cases q : x = c
  · subst q
    rw [up1_1, bNt_dec_t rfl, bNt_dec_f (show ¬ x = 64 + x by omega), bNt_t]
    rw [h0, bNt_f] at h1 h2
    rw [bNt_dec_t rfl] at h2
    omega
  · rw [up1_n t true q, bNt_dec_f (show ¬ c = x by omega), bNt_dec_f (show ¬ c = 64 + x by omega)]
    rw [bNt_dec_f (show ¬ 64 + c = 64 + x by omega)] at h2
    exact ⟨h1, h2⟩
/-- an arc less -/
theorem DF_3 {n : Nat} {b e : Nat → Bool} {a : Nat → Nat → Bool} {t : Nat → Bool} {c d : Nat} (hn : n ≤ 64) (hc : c < n) (hd : d < n) (h : DF n b e a t (64 + c)) (h0 : a c d = true) : DF n b e (up2 a c d false) t d := by
  intro x hx
  obtain ⟨h1, h2⟩ := h x hx
  rw [bNt_dec_f (show ¬ 64 + c = x by omega)] at h1
  have r := row_1 a (c := c) false hd
  have k := col_1 a (d := d) false hc
  rw [h0, bNt_f, bNt_t] at r k
  refine ⟨?_, ?_⟩
  · by_cases q : x = d
    · subst q
      rw [bNt_dec_t rfl]
      omega
    · rw [bNt_dec_f (show ¬ d = x by omega), col_n a false q]
      exact h1
  · rw [bNt_dec_f (show ¬ d = 64 + x by omega)]
    by_cases q : x = c
    · subst q
      rw [bNt_dec_t rfl] at h2
      omega
    · rw [bNt_dec_f (show ¬ 64 + c = 64 + x by omega)] at h2
      rw [row_n a false q]
      exact h2
/-- a cell that is used no more -/
theorem DF_4 {n : Nat} {b e : Nat → Bool} {a : Nat → Nat → Bool} {t : Nat → Bool} {c : Nat} (hn : n ≤ 64) (hc : c < n) (h : DF n b e a t c) : DF n b e a (up1 t c false) (64 + c) := by
  intro x hx
  obtain ⟨h1, h2⟩ := h x hx
  rw [bNt_dec_f (show ¬ c = 64 + x by omega)] at h2
  by_cases q : x = c
  · subst q
    rw [up1_1, bNt_dec_t rfl, bNt_dec_f (show ¬ 64 + x = x by omega), bNt_f]
    rw [bNt_dec_t rfl] at h1
    have := bNt_le (t x)
    omega
  · rw [up1_n t false q, bNt_dec_f (show ¬ 64 + c = x by omega), bNt_dec_f (show ¬ 64 + c = 64 + x by omega)]
    rw [bNt_dec_f (show ¬ c = x by omega)] at h1
    exact ⟨h1, h2⟩
theorem DF_in {n : Nat} {b e : Nat → Bool} {a : Nat → Nat → Bool} {t : Nat → Bool} {c : Nat} (hc : c < n) (h : DF n b e a t c) : t c = true ∧ b c = false := by
  obtain ⟨h1, h2⟩ := h c hc
  rw [bNt_dec_t rfl] at h1
  constructor
  · cases q : t c with
    | true => rfl
    | false => rw [q, bNt_f] at h1; omega
  · cases q : b c with
    | false => rfl
    | true =>
      have := bNt_le (t c)
      rw [q, bNt_t] at h1
      omega
/-- a new beginning -/
theorem DF_5 {n : Nat} {b e : Nat → Bool} {a : Nat → Nat → Bool} {t : Nat → Bool} {v c : Nat} (hn : n ≤ 64) (hv : 128 ≤ v) (hc : c < n) (h : DF n b e a t c) : DF n (up1 b c true) e a t v := by
  have h0 := (DF_in hc h).2
  intro x hx
  obtain ⟨h1, h2⟩ := h x hx
  rw [bNt_dec_f (show ¬ c = 64 + x by omega)] at h2
  rw [bNt_dec_f (show ¬ v = x by omega), bNt_dec_f (show ¬ v = 64 + x by omega)]
  refine ⟨?_, h2⟩
  by_cases q : x = c
  · subst q
    rw [up1_1, bNt_t]
    rw [h0, bNt_f, bNt_dec_t rfl] at h1
    omega
  · rw [up1_n b true q]
    rw [bNt_dec_f (show ¬ c = x by omega)] at h1
    exact h1
/-- in a flow: an arc's cells are used; no more than one arc in and out; an end or a beginning goes with no arc -/
theorem DF_arc {n : Nat} {b e : Nat → Bool} {a : Nat → Nat → Bool} {t : Nat → Bool} {v : Nat} (hv : 128 ≤ v) (hn : n ≤ 64) (h : DF n b e a t v) {c d : Nat} (hc : c < n) (hd : d < n) (ha : a c d = true) : t c = true ∧ t d = true ∧ e c = false ∧ b d = false := by
  have h1 := (h d hd).1
  have h2 := (h c hc).2
  rw [bNt_dec_f (show ¬ v = d by omega)] at h1
  rw [bNt_dec_f (show ¬ v = 64 + c by omega)] at h2
  have p1 := fb_sm_part (fun x => bNt (a x d)) hc
  have p2 := fb_sm_part (fun x => bNt (a c x)) hd
  simp only [ha, bNt_t] at p1 p2
  have l1 := bNt_le (t c)
  have l2 := bNt_le (t d)
  refine ⟨?_, ?_, ?_, ?_⟩
  · cases q : t c with
    | true => rfl
    | false => rw [q, bNt_f] at h2; omega
  · cases q : t d with
    | true => rfl
    | false => rw [q, bNt_f] at h1; omega
  · cases q : e c with
    | false => rfl
    | true => rw [q, bNt_t] at h2; omega
  · cases q : b d with
    | false => rfl
    | true => rw [q, bNt_t] at h1; omega
theorem sm_two {f : Nat → Nat} {i j n : Nat} (hij : i < j) (hj : j < n) : f i + f j ≤ fb_sm f n := by
  have p := fb_sm_part f hj
  have p2 := fb_sm_part f hij
  omega
theorem DF_one {n : Nat} {b e : Nat → Bool} {a : Nat → Nat → Bool} {t : Nat → Bool} {v : Nat} (hv : 128 ≤ v) (hn : n ≤ 64) (h : DF n b e a t v) {c d d2 : Nat} (hc : c < n) (hd : d < n) (hd2 : d2 < n) (ha : a c d = true) (hb : a c d2 = true) : d = d2 := by
  have h2 := (h c hc).2
  rw [bNt_dec_f (show ¬ v = 64 + c by omega)] at h2
  have l1 := bNt_le (t c)
  rcases Nat.lt_trichotomy d d2 with q | q | q
  · have p := sm_two (f := fun x => bNt (a c x)) q hd2
    simp only [ha, hb, bNt_t] at p
    omega
  · exact q
  · have p := sm_two (f := fun x => bNt (a c x)) q hd
    simp only [ha, hb, bNt_t] at p
    omega
/-- what crosses a cut -/
theorem DF_cut {n : Nat} {b e : Nat → Bool} {a : Nat → Nat → Bool} {t : Nat → Bool} {v : Nat} (hv : 128 ≤ v) (hn : n ≤ 64) (h : DF n b e a t v) {A P : Nat → Bool} (hb : ∀ c, c < n → b c = true → A c = true) (he : ∀ c, c < n → P c = true → e c = false) (hp : ∀ c d, c < n → d < n → P c = true → a c d = true → A d = true) : fb_ct b n + fb_sm (fun c => fb_sm (fun d => bNt (!P c && A d && a c d)) n) n + fb_ct (fun c => P c && !A c && t c) n = fb_ct (fun c => A c && !P c && t c) n := by
  have s1 : fb_sm (fun c => if A c = true then bNt (b c) else 0) n + fb_sm (fun c => if A c = true then fb_sm (fun x => bNt (a x c)) n else 0) n = fb_sm (fun c => if A c = true then bNt (t c) else 0) n := by
    rw [← fb_sm_add]
    refine fb_sm_cong fun c hc => ?_
    have h1 := (h c hc).1
    rw [bNt_dec_f (show ¬ v = c by omega)] at h1
    cases A c with
    | true => simp only [if_true]; omega
    | false => rfl
  have s2 : fb_sm (fun c => if P c = true then bNt (t c) else 0) n = fb_sm (fun c => if P c = true then fb_sm (fun x => bNt (a c x)) n else 0) n := by
    refine fb_sm_cong fun c hc => ?_
    have h1 := (h c hc).2
    rw [bNt_dec_f (show ¬ v = 64 + c by omega)] at h1
    cases q : P c with
    | true =>
      rw [he c hc q, bNt_f] at h1
      simp only [if_true]
      omega
    | false => rfl
  have s3 : fb_sm (fun c => if A c = true then bNt (b c) else 0) n = fb_ct b n := by
    rw [ct_sm]
    refine fb_sm_cong fun c hc => ?_
    cases q : b c with
    | true => rw [if_pos (hb c hc q)]
    | false => cases A c <;> rfl
  have s4 : fb_sm (fun c => if A c = true then fb_sm (fun x => bNt (a x c)) n else 0) n = fb_sm (fun c => if P c = true then fb_sm (fun x => bNt (a c x)) n else 0) n + fb_sm (fun c => fb_sm (fun d => bNt (!P c && A d && a c d)) n) n := by
    have e1 : fb_sm (fun c => if A c = true then fb_sm (fun x => bNt (a x c)) n else 0) n = fb_sm (fun c => fb_sm (fun x => if A c = true then bNt (a x c) else 0) n) n := fb_sm_cong fun c _ => sm_if (A c) _ n
    rw [e1, sm_swap (fun c x => if A c = true then bNt (a x c) else 0) n n, ← fb_sm_add]
    refine fb_sm_cong fun c hc => ?_
    rw [sm_if, ← fb_sm_add]
    refine fb_sm_cong fun d hd => ?_
    cases q : P c with
    | true =>
      cases q2 : a c d with
      | true => rw [if_pos (hp c d hc hd q q2)]; rfl
      | false => cases A d <;> rfl
    | false => cases A d <;> cases a c d <;> rfl
  have s5 : fb_sm (fun c => if A c = true then bNt (t c) else 0) n + fb_ct (fun c => P c && !A c && t c) n = fb_sm (fun c => if P c = true then bNt (t c) else 0) n + fb_ct (fun c => A c && !P c && t c) n := by
    rw [ct_sm, ct_sm, ← fb_sm_add, ← fb_sm_add]
    refine fb_sm_cong fun c hc => ?_
    cases A c <;> cases P c <;> cases t c <;> rfl
  omega
/-- what a search that found nothing leaves: entrances A and exits P that can be reached -/
def Rch (n : Nat) (O S T : Nat → Bool) (adj : Nat → Nat → Bool) (a : Nat → Nat → Bool) (t : Nat → Bool) (A P : Nat → Bool) : Prop := (∀ c, c < n → O c = true → S c = true → A c = true) ∧ (∀ c, c < n → A c = true → t c = false → P c = true) ∧ (∀ c d, c < n → d < n → A d = true → a c d = true → P c = true) ∧ (∀ c, c < n → P c = true → t c = true → A c = true) ∧ (∀ c d, c < n → d < n → P c = true → O d = true → adj c d = true → A d = true)
def Flo (n : Nat) (O S T : Nat → Bool) (adj : Nat → Nat → Bool) (b e : Nat → Bool) (a : Nat → Nat → Bool) (t : Nat → Bool) : Prop := DF n b e a t 200 ∧ (∀ c, c < n → b c = true → O c = true ∧ S c = true) ∧ (∀ c, c < n → e c = true → O c = true ∧ T c = true) ∧ (∀ c d, c < n → d < n → a c d = true → O c = true ∧ O d = true ∧ adj c d = true) ∧ ∀ c, c < n → t c = true → O c = true
/-- the end of the search: closed, nothing but what must be in it, no target passed -/
def FinR (n : Nat) (O S T : Nat → Bool) (adj : Nat → Nat → Bool) (a : Nat → Nat → Bool) (t : Nat → Bool) (A P : Nat → Bool) : Prop := Rch n O S T adj a t A P ∧ (∀ c, c < n → P c = true → O c = true → T c = true → False) ∧ (∀ A' P', Rch n O S T adj a t A' P' → ∀ c, c < n → (A c = true → A' c = true) ∧ (P c = true → P' c = true))
theorem Flo_le {n : Nat} {O S T : Nat → Bool} {adj : Nat → Nat → Bool} {b e : Nat → Bool} {a : Nat → Nat → Bool} {t : Nat → Bool} {A P : Nat → Bool} (hn : n ≤ 64) (hf : Flo n O S T adj b e a t) (h1 : ∀ c, c < n → O c = true → S c = true → A c = true) (h2 : ∀ c, c < n → P c = true → O c = true → T c = true → False) (h3 : ∀ c d, c < n → d < n → P c = true → O d = true → adj c d = true → A d = true) : fb_ct b n + fb_sm (fun c => fb_sm (fun d => bNt (!P c && A d && a c d)) n) n + fb_ct (fun c => P c && !A c && t c) n = fb_ct (fun c => A c && !P c && t c) n := by
  obtain ⟨f1, f2, f3, f4, f5⟩ := hf
  refine DF_cut (by omega) hn f1 (fun c hc q => h1 c hc (f2 c hc q).1 (f2 c hc q).2) (fun c hc q => ?_) (fun c d hc hd q qa => h3 c d hc hd q (f4 c d hc hd qa).2.1 (f4 c d hc hd qa).2.2)
  cases qe : e c with
  | false => rfl
  | true => exact absurd (f3 c hc qe).2 (fun qt => h2 c hc q (f3 c hc qe).1 qt)
theorem Flo_val {n : Nat} {O S T : Nat → Bool} {adj : Nat → Nat → Bool} {b e : Nat → Bool} {a : Nat → Nat → Bool} {t : Nat → Bool} {A P : Nat → Bool} (hn : n ≤ 64) (hf : Flo n O S T adj b e a t) (hr : FinR n O S T adj a t A P) : fb_ct b n = fb_ct (fun c => A c && !P c) n := by
  obtain ⟨⟨r1, r2, r3, r4, r5⟩, r6, _⟩ := hr
  have h := Flo_le hn hf r1 r6 r5
  have z1 : fb_sm (fun c => fb_sm (fun d => bNt (!P c && A d && a c d)) n) n = 0 := by
    have : fb_sm (fun c => fb_sm (fun d => bNt (!P c && A d && a c d)) n) n = fb_sm (fun _ => 0) n := fb_sm_cong fun c hc => by
      have : fb_sm (fun d => bNt (!P c && A d && a c d)) n = fb_sm (fun _ => 0) n := fb_sm_cong fun d hd => by
        cases q1 : A d with
        | false => simp; rfl
        | true =>
          cases q2 : a c d with
          | false => simp; rfl
          | true => rw [r3 c d hc hd q1 q2]; rfl
      rw [this, fb_sm_const, Nat.mul_zero]
    rw [this, fb_sm_const, Nat.mul_zero]
  have z2 : fb_ct (fun c => P c && !A c && t c) n = 0 := fb_ct_zero.mpr fun c hc => by
    cases q1 : P c with
    | false => rfl
    | true =>
      cases q2 : t c with
      | false => simp
      | true => rw [r4 c hc q1 q2]; rfl
  have z3 : fb_ct (fun c => A c && !P c && t c) n = fb_ct (fun c => A c && !P c) n := fb_ct_cong fun c hc => by
    cases q1 : A c with
    | false => rfl
    | true =>
      cases q2 : t c with
      | true => simp
      | false => rw [r2 c hc q1 q2]; rfl
  omega
theorem ct_eq_sub {p q : Nat → Bool} {n : Nat} (hs : ∀ k, k < n → p k = true → q k = true) (he : fb_ct p n = fb_ct q n) : ∀ k, k < n → q k = true → p k = true := by
  intro k hk hq
  cases hp : p k with
  | true => rfl
  | false =>
    exfalso
    have h1 : fb_ct (fun x => if x = k then true else p x) n ≤ fb_ct q n := fb_ct_sub fun x hx hx2 => by
      by_cases e : x = k
      · rw [e]; exact hq
      · have hx3 : (if x = k then true else p x) = true := hx2
        rw [if_neg e] at hx3
        exact hs x hx hx3
    have h2 := fb_ct_upd p true hk
    rw [hp, if_neg (by decide), if_pos rfl] at h2
    omega
/-- two of them have one value and one pass -/
theorem Fin_sub {n : Nat} {O S T : Nat → Bool} {adj : Nat → Nat → Bool} {b e b2 e2 : Nat → Bool} {a a2 : Nat → Nat → Bool} {t t2 : Nat → Bool} {A P A2 P2 : Nat → Bool} (hn : n ≤ 64) (hf : Flo n O S T adj b e a t) (hr : FinR n O S T adj a t A P) (hf2 : Flo n O S T adj b2 e2 a2 t2) (hr2 : FinR n O S T adj a2 t2 A2 P2) : fb_ct b2 n ≤ fb_ct b n ∧ (fb_ct b2 n = fb_ct b n → ∀ c, c < n → (A2 c = true → A c = true) ∧ (P2 c = true → P c = true)) := by
  have v1 := Flo_val hn hf hr
  have h := Flo_le hn hf2 hr.1.1 hr.2.1 hr.1.2.2.2.2
  have l1 : fb_ct (fun c => A c && !P c && t2 c) n ≤ fb_ct (fun c => A c && !P c) n := fb_ct_sub fun c hc q => by
    have q2 : (A c && !P c && t2 c) = true := q
    rw [Bool.and_eq_true] at q2
    exact q2.1
  refine ⟨by omega, fun he => ?_⟩
  have z1 : fb_sm (fun c => fb_sm (fun d => bNt (!P c && A d && a2 c d)) n) n = 0 := by omega
  have z2 : fb_ct (fun c => P c && !A c && t2 c) n = 0 := by omega
  have z3 : fb_ct (fun c => A c && !P c && t2 c) n = fb_ct (fun c => A c && !P c) n := by omega
  refine hr2.2.2 A P ⟨hr.1.1, ?_, ?_, ?_, hr.1.2.2.2.2⟩
  · intro c hc qa qt
    cases qp : P c with
    | true => rfl
    | false =>
      exfalso
      have := ct_eq_sub (p := fun c => A c && !P c && t2 c) (q := fun c => A c && !P c) (fun k hk q => by
        have q2 : (A k && !P k && t2 k) = true := q
        rw [Bool.and_eq_true] at q2
        exact q2.1) z3 c hc (by show (A c && !P c) = true; rw [qa, qp]; rfl)
      have t3 : (A c && !P c && t2 c) = true := this
      rw [qt, Bool.and_false] at t3
      cases t3
  · intro c d hc hd qa qarc
    cases qp : P c with
    | true => rfl
    | false =>
      exfalso
      have e1 := fb_sm_zero z1 c hc
      have e2 := fb_sm_zero e1 d hd
      have e3 : bNt (!P c && A d && a2 c d) = 0 := e2
      rw [qp, qa, qarc] at e3
      cases e3
  · intro c hc qp qt
    cases qa : A c with
    | true => rfl
    | false =>
      exfalso
      have e1 := fb_ct_zero.mp z2 c hc
      have e2 : (P c && !A c && t2 c) = false := e1
      rw [qp, qa, qt] at e2
      cases e2
theorem Fin_eq {n : Nat} {O S T : Nat → Bool} {adj : Nat → Nat → Bool} {b e b2 e2 : Nat → Bool} {a a2 : Nat → Nat → Bool} {t t2 : Nat → Bool} {A P A2 P2 : Nat → Bool} (hn : n ≤ 64) (hf : Flo n O S T adj b e a t) (hr : FinR n O S T adj a t A P) (hf2 : Flo n O S T adj b2 e2 a2 t2) (hr2 : FinR n O S T adj a2 t2 A2 P2) : fb_ct b n = fb_ct b2 n ∧ ∀ c, c < n → A c = A2 c ∧ P c = P2 c := by
  obtain ⟨l1, s1⟩ := Fin_sub hn hf hr hf2 hr2
  obtain ⟨l2, s2⟩ := Fin_sub hn hf2 hr2 hf hr
  have he : fb_ct b n = fb_ct b2 n := by omega
  refine ⟨he, fun c hc => ⟨?_, ?_⟩⟩
  · rw [Bool.eq_iff_iff]
    exact ⟨(s2 he c hc).1, (s1 he.symm c hc).1⟩
  · rw [Bool.eq_iff_iff]
    exact ⟨(s2 he c hc).2, (s1 he.symm c hc).2⟩
