/-! LAYERS: the class's search, plain -/
def adjB (B : bT) (c d : Nat) : Bool := (decide (d = c + 1) && !decide (d % bw B = 0)) || (decide (c = d + 1) && !decide (c % bw B = 0)) || decide (d = c + bw B) || decide (c = d + bw B)
theorem adjB_iff (B : bT) (c d : Nat) : adjB B c d = true ↔ (d = c + 1 ∧ ¬ d % bw B = 0) ∨ (c = d + 1 ∧ ¬ c % bw B = 0) ∨ d = c + bw B ∨ c = d + bw B := by
  unfold adjB
  simp only [Bool.or_eq_true, Bool.and_eq_true, decide_eq_true_eq, Bool.not_eq_true', decide_eq_false_iff_not, or_assoc]
theorem adjB_sym {B : bT} {c d : Nat} (h : adjB B c d = true) : adjB B d c = true := by
  rw [adjB_iff] at h ⊢
  rcases h with h | h | h | h
  · exact .inr (.inl h)
  · exact .inl h
  · exact .inr (.inr (.inr h))
  · exact .inr (.inr (.inl h))
theorem sar_iff {B : bT} (hs : bS B) {p : Nat → Bool} (hp0 : ∀ c, p c = true → c < bn B) {d : Nat} : sar B p d = true ↔ d < bn B ∧ ∃ c, c < bn B ∧ p c = true ∧ adjB B c d = true := by
  have hw := bS_w hs
  unfold sar sfl srs
  simp only [Bool.or_eq_true, Bool.and_eq_true, decide_eq_true_eq, Bool.not_eq_true', decide_eq_false_iff_not]
  constructor
  · rintro (⟨h1, h2 | h2⟩ | h2 | h2)
    · refine ⟨h1, d - 1, hp0 _ h2.2, h2.2, ?_⟩
      rw [adjB_iff]
      have : ¬ d = 0 := fun e => h2.1 (by rw [e]; exact Nat.zero_mod _)
      exact .inl ⟨by omega, h2.1⟩
    · refine ⟨h1, d - bw B, hp0 _ h2.2, h2.2, ?_⟩
      rw [adjB_iff]
      exact .inr (.inr (.inl (by omega)))
    · have := hp0 _ h2.2
      refine ⟨by omega, d + 1, this, h2.2, ?_⟩
      rw [adjB_iff]
      exact .inr (.inl ⟨rfl, h2.1⟩)
    · have := hp0 _ h2
      refine ⟨by omega, d + bw B, this, h2, ?_⟩
      rw [adjB_iff]
      exact .inr (.inr (.inr rfl))
  · rintro ⟨h0, c, h1, h2, h3⟩
    rw [adjB_iff] at h3
    rcases h3 with h | h | h | h
    · refine .inl ⟨h0, .inl ⟨h.2, ?_⟩⟩
      rw [show d - 1 = c by omega]
      exact h2
    · refine .inr (.inl ⟨?_, ?_⟩)
      · rw [← h.1]; exact h.2
      · rw [← h.1]; exact h2
    · refine .inl ⟨h0, .inr ⟨by omega, ?_⟩⟩
      rw [show d - bw B = c by omega]
      exact h2
    · refine .inr (.inr ?_)
      rw [← h]
      exact h2
/-- the sides to which routes go on: right, left, down, up -/
abbrev gT := (Nat → Bool) × (Nat → Bool) × (Nat → Bool) × (Nat → Bool)
def kOK (B : bT) (q : gT) : Prop := ∀ c, (q.1 c = true → c + 1 < bn B ∧ ¬ (c + 1) % bw B = 0) ∧ (q.2.1 c = true → c < bn B ∧ ¬ c % bw B = 0) ∧ (q.2.2.1 c = true → c + bw B < bn B) ∧ (q.2.2.2 c = true → c < bn B ∧ bw B ≤ c)
def arc (B : bT) (q : gT) (c d : Nat) : Bool := (q.1 c && decide (d = c + 1)) || (q.2.1 c && decide (c = d + 1)) || (q.2.2.1 c && decide (d = c + bw B)) || (q.2.2.2 c && decide (c = d + bw B))
theorem arc_iff (B : bT) (q : gT) (c d : Nat) : arc B q c d = true ↔ (q.1 c = true ∧ d = c + 1) ∨ (q.2.1 c = true ∧ c = d + 1) ∨ (q.2.2.1 c = true ∧ d = c + bw B) ∨ (q.2.2.2 c = true ∧ c = d + bw B) := by
  unfold arc
  simp only [Bool.or_eq_true, Bool.and_eq_true, decide_eq_true_eq, or_assoc]
theorem arc_adj {B : bT} {q : gT} (hk : kOK B q) {c d : Nat} (h : arc B q c d = true) : c < bn B ∧ d < bn B ∧ adjB B c d = true := by
  rw [arc_iff] at h
  rw [adjB_iff]
  obtain ⟨k1, k2, k3, k4⟩ := hk c
  rcases h with h | h | h | h
  · have := k1 h.1
    exact ⟨by omega, by omega, .inl ⟨h.2, by rw [h.2]; exact this.2⟩⟩
  · have := k2 h.1
    exact ⟨by omega, by omega, .inr (.inl ⟨h.2, this.2⟩)⟩
  · have := k3 h.1
    exact ⟨by omega, by omega, .inr (.inr (.inl h.2))⟩
  · have := k4 h.1
    exact ⟨by omega, by omega, .inr (.inr (.inr h.2))⟩
def bfr (B : bT) (q : gT) (s : Nat → Bool) : Nat → Bool := fun c => (q.1 c && s (c + 1)) || (q.2.1 c && s (c - 1)) || (q.2.2.1 c && s (c + bw B)) || (q.2.2.2 c && s (c - bw B))
theorem bfr_iff {B : bT} {q : gT} (hk : kOK B q) {s : Nat → Bool} {c : Nat} : bfr B q s c = true ↔ ∃ d, d < bn B ∧ arc B q c d = true ∧ s d = true := by
  unfold bfr
  simp only [Bool.or_eq_true, Bool.and_eq_true, or_assoc]
  obtain ⟨k1, k2, k3, k4⟩ := hk c
  constructor
  · rintro (h | h | h | h)
    · exact ⟨c + 1, (k1 h.1).1, (arc_iff B q c _).mpr (.inl ⟨h.1, rfl⟩), h.2⟩
    · have k := k2 h.1
      have : ¬ c = 0 := fun e => k.2 (by rw [e]; exact Nat.zero_mod _)
      exact ⟨c - 1, by omega, (arc_iff B q c _).mpr (.inr (.inl ⟨h.1, by omega⟩)), h.2⟩
    · exact ⟨c + bw B, k3 h.1, (arc_iff B q c _).mpr (.inr (.inr (.inl ⟨h.1, rfl⟩))), h.2⟩
    · have k := k4 h.1
      exact ⟨c - bw B, by omega, (arc_iff B q c _).mpr (.inr (.inr (.inr ⟨h.1, by omega⟩))), h.2⟩
  · rintro ⟨d, hd, ha, hs⟩
    rw [arc_iff] at ha
    rcases ha with h | h | h | h
    · exact .inl ⟨h.1, by rw [← h.2]; exact hs⟩
    · exact .inr (.inl ⟨h.1, by rw [show c - 1 = d by omega]; exact hs⟩)
    · exact .inr (.inr (.inl ⟨h.1, by rw [← h.2]; exact hs⟩))
    · exact .inr (.inr (.inr ⟨h.1, by rw [show c - bw B = d by omega]; exact hs⟩))
/-- exits that are new, entrances that are new -/
def lyf (B : bT) (t : Nat → Bool) (q : gT) (en P : Nat → Bool) : Nat → Bool := fun c => ((en c && !t c) || bfr B q (fun d => en d && t d) c) && !P c
def lyn (B : bT) (O t : Nat → Bool) (fr A : Nat → Bool) : Nat → Bool := fun c => ((sar B fr c && O c) || (fr c && t c)) && !A c
/-- entrances of a round, all entrances so far, all exits so far -/
def ly (B : bT) (O S t : Nat → Bool) (q : gT) : Nat → (Nat → Bool) × (Nat → Bool) × (Nat → Bool)
  | 0 => (S, S, fun _ => false)
  | k + 1 => (lyn B O t (lyf B t q (ly B O S t q k).1 (ly B O S t q k).2.2) (ly B O S t q k).2.1, fun c => (ly B O S t q k).2.1 c || lyn B O t (lyf B t q (ly B O S t q k).1 (ly B O S t q k).2.2) (ly B O S t q k).2.1 c, fun c => (ly B O S t q k).2.2 c || lyf B t q (ly B O S t q k).1 (ly B O S t q k).2.2 c)
def fk (B : bT) (O S t : Nat → Bool) (q : gT) (k : Nat) : Nat → Bool := lyf B t q (ly B O S t q k).1 (ly B O S t q k).2.2
theorem ly_en (B : bT) (O S t : Nat → Bool) (q : gT) (k : Nat) : (ly B O S t q (k + 1)).1 = lyn B O t (fk B O S t q k) (ly B O S t q k).2.1 := rfl
theorem ly_A (B : bT) (O S t : Nat → Bool) (q : gT) (k c : Nat) : (ly B O S t q (k + 1)).2.1 c = ((ly B O S t q k).2.1 c || (ly B O S t q (k + 1)).1 c) := rfl
theorem ly_P (B : bT) (O S t : Nat → Bool) (q : gT) (k c : Nat) : (ly B O S t q (k + 1)).2.2 c = ((ly B O S t q k).2.2 c || fk B O S t q k c) := rfl
theorem fk_iff {B : bT} {O S t : Nat → Bool} {q : gT} (hk : kOK B q) {k c : Nat} : fk B O S t q k c = true ↔ (((ly B O S t q k).1 c = true ∧ t c = false) ∨ ∃ d, d < bn B ∧ arc B q c d = true ∧ (ly B O S t q k).1 d = true ∧ t d = true) ∧ (ly B O S t q k).2.2 c = false := by
  unfold fk lyf
  simp only [Bool.and_eq_true, Bool.or_eq_true, Bool.not_eq_true', bfr_iff hk]
theorem en_iff {B : bT} (hs : bS B) {O S t : Nat → Bool} {q : gT} {k : Nat} (hf : ∀ c, fk B O S t q k c = true → c < bn B) {c : Nat} : (ly B O S t q (k + 1)).1 c = true ↔ (((c < bn B ∧ ∃ x, x < bn B ∧ fk B O S t q k x = true ∧ adjB B x c = true) ∧ O c = true) ∨ (fk B O S t q k c = true ∧ t c = true)) ∧ (ly B O S t q k).2.1 c = false := by
  rw [ly_en]
  unfold lyn
  simp only [Bool.and_eq_true, Bool.or_eq_true, Bool.not_eq_true', sar_iff hs hf]
/-- what holds of the layers -/
def LyI (B : bT) (O S t : Nat → Bool) (q : gT) (k : Nat) : Prop := (∀ c, S c = true → (ly B O S t q k).2.1 c = true) ∧ (∀ c, (ly B O S t q k).1 c = true → (ly B O S t q k).2.1 c = true) ∧ (∀ c, (ly B O S t q k).2.1 c = true → O c = true) ∧ (∀ c, (ly B O S t q k).2.2 c = true → O c = true) ∧ (∀ c, (ly B O S t q k).2.1 c = true → (ly B O S t q k).1 c = true ∨ ((t c = false → (ly B O S t q k).2.2 c = true) ∧ ∀ d, d < bn B → arc B q d c = true → (ly B O S t q k).2.2 d = true)) ∧ (∀ c, (ly B O S t q k).2.2 c = true → (t c = true → (ly B O S t q k).2.1 c = true) ∧ ∀ d, O d = true → adjB B c d = true → (ly B O S t q k).2.1 d = true)
def LyM (B : bT) (O S T t : Nat → Bool) (q : gT) (k : Nat) : Prop := ∀ A' P', Rch (bn B) O S T (adjB B) (arc B q) t A' P' → ∀ c, c < bn B → ((ly B O S t q k).2.1 c = true → A' c = true) ∧ ((ly B O S t q k).2.2 c = true → P' c = true)
/-- the grounds: S in O, O in the grid, used cells open, arcs between used cells -/
def LyG (B : bT) (O S t : Nat → Bool) (q : gT) : Prop := bS B ∧ kOK B q ∧ (∀ c, S c = true → O c = true) ∧ (∀ c, O c = true → c < bn B) ∧ (∀ c, t c = true → O c = true) ∧ (∀ c d, arc B q c d = true → t c = true ∧ t d = true)
theorem fk_O {B : bT} {O S t : Nat → Bool} {q : gT} (hg : LyG B O S t q) {k : Nat} (hi : LyI B O S t q k) {c : Nat} (h : fk B O S t q k c = true) : O c = true := by
  rw [fk_iff hg.2.1] at h
  rcases h.1 with h1 | ⟨d, hd, h1, h2⟩
  · exact hi.2.2.1 c (hi.2.1 c h1.1)
  · exact hg.2.2.2.2.1 c (hg.2.2.2.2.2 c d h1).1
theorem ly_inv {B : bT} {O S t : Nat → Bool} {q : gT} (hg : LyG B O S t q) : ∀ k, LyI B O S t q k
  | 0 => ⟨fun c h => h, fun c h => h, fun c h => hg.2.2.1 c h, (fun c h => by cases h), fun c h => .inl h, (fun c h => by cases h)⟩
  | k + 1 => by
    have ih := ly_inv hg k
    have hf : ∀ c, fk B O S t q k c = true → c < bn B := fun c h => hg.2.2.2.1 c (fk_O hg ih h)
    have hen := fun c => en_iff hg.1 (O := O) (S := S) (t := t) (q := q) hf (c := c)
    have hfk := fun c => fk_iff hg.2.1 (O := O) (S := S) (t := t) (k := k) (c := c)
    have hA : ∀ c, (ly B O S t q (k + 1)).2.1 c = true ↔ (ly B O S t q k).2.1 c = true ∨ (ly B O S t q (k + 1)).1 c = true := fun c => by rw [ly_A, Bool.or_eq_true]
    have hP : ∀ c, (ly B O S t q (k + 1)).2.2 c = true ↔ (ly B O S t q k).2.2 c = true ∨ fk B O S t q k c = true := fun c => by rw [ly_P, Bool.or_eq_true]
    refine ⟨fun c h => (hA c).mpr (.inl (ih.1 c h)), fun c h => (hA c).mpr (.inr h), ?_, ?_, ?_, ?_⟩
    · intro c h
      rcases (hA c).mp h with h | h
      · exact ih.2.2.1 c h
      · rcases ((hen c).mp h).1 with h1 | h1
        · exact h1.2
        · exact fk_O hg ih h1.1
    · intro c h
      rcases (hP c).mp h with h | h
      · exact ih.2.2.2.1 c h
      · exact fk_O hg ih h
    · intro c h
      rcases (hA c).mp h with h | h
      · refine .inr ?_
        rcases ih.2.2.2.2.1 c h with h1 | h1
        · refine ⟨fun ht => (hP c).mpr ?_, fun d hd ha => (hP d).mpr ?_⟩
          · cases hp1 : (ly B O S t q k).2.2 c with
            | true => exact .inl rfl
            | false => exact .inr ((hfk c).mpr ⟨.inl ⟨h1, ht⟩, hp1⟩)
          · cases hp1 : (ly B O S t q k).2.2 d with
            | true => exact .inl rfl
            | false => exact .inr ((hfk d).mpr ⟨.inr ⟨c, hg.2.2.2.1 c (ih.2.2.1 c h), ha, h1, (hg.2.2.2.2.2 d c ha).2⟩, hp1⟩)
        · exact ⟨fun ht => (hP c).mpr (.inl (h1.1 ht)), fun d hd ha => (hP d).mpr (.inl (h1.2 d hd ha))⟩
      · exact .inl h
    · intro c h
      rcases (hP c).mp h with h | h
      · have h1 := ih.2.2.2.2.2 c h
        exact ⟨fun ht => (hA c).mpr (.inl (h1.1 ht)), fun d hd ha => (hA d).mpr (.inl (h1.2 d hd ha))⟩
      · refine ⟨fun ht => (hA c).mpr ?_, fun d hd ha => (hA d).mpr ?_⟩
        · cases ha1 : (ly B O S t q k).2.1 c with
          | true => exact .inl rfl
          | false => exact .inr ((hen c).mpr ⟨.inr ⟨h, ht⟩, ha1⟩)
        · cases ha1 : (ly B O S t q k).2.1 d with
          | true => exact .inl rfl
          | false => exact .inr ((hen d).mpr ⟨.inl ⟨⟨hg.2.2.2.1 d hd, c, hf c h, h, ha⟩, hd⟩, ha1⟩)
theorem ly_min {B : bT} {O S T t : Nat → Bool} {q : gT} (hg : LyG B O S t q) : ∀ k, LyM B O S T t q k
  | 0 => fun A' P' h c hc => ⟨fun hS => h.1 c hc (hg.2.2.1 c hS) hS, fun hf => by cases hf⟩
  | k + 1 => by
    intro A' P' h c hc
    have ih := ly_min (T := T) hg k A' P' h
    have hi := ly_inv hg k
    have hf : ∀ c, fk B O S t q k c = true → c < bn B := fun c h => hg.2.2.2.1 c (fk_O hg hi h)
    have hP : ∀ c, fk B O S t q k c = true → P' c = true := by
      intro c hc1
      have hcn := hf c hc1
      rw [fk_iff hg.2.1] at hc1
      rcases hc1.1 with h1 | ⟨d, hd, h1, h2, h3⟩
      · exact h.2.1 c hcn ((ih c hcn).1 (hi.2.1 c h1.1)) h1.2
      · exact h.2.2.1 c d hcn hd ((ih d hd).1 (hi.2.1 d h2)) h1
    constructor
    · intro h1
      rw [ly_A, Bool.or_eq_true] at h1
      rcases h1 with h1 | h1
      · exact (ih c hc).1 h1
      · rw [en_iff hg.1 hf] at h1
        rcases h1.1 with ⟨⟨_, x, hx, hx1, hx2⟩, hO⟩ | h2
        · exact h.2.2.2.2 x c hx hc (hP x hx1) hO hx2
        · exact h.2.2.2.1 c hc (hP c h2.1) h2.2
    · intro h1
      rw [ly_P, Bool.or_eq_true] at h1
      rcases h1 with h1 | h1
      · exact (ih c hc).2 h1
      · exact hP c h1
theorem ly_Amono {B : bT} {O S t : Nat → Bool} {q : gT} {c : Nat} {j : Nat} : ∀ k, (ly B O S t q j).2.1 c = true → (ly B O S t q (j + k)).2.1 c = true
  | 0, h => h
  | k + 1, h => by
    show (ly B O S t q (j + k + 1)).2.1 c = true
    rw [ly_A, ly_Amono k h]
    rfl
theorem ly_Pmono {B : bT} {O S t : Nat → Bool} {q : gT} {c : Nat} {j : Nat} : ∀ k, (ly B O S t q j).2.2 c = true → (ly B O S t q (j + k)).2.2 c = true
  | 0, h => h
  | k + 1, h => by
    show (ly B O S t q (j + k + 1)).2.2 c = true
    rw [ly_P, ly_Pmono k h]
    rfl
theorem en_once {B : bT} {O S t : Nat → Bool} {q : gT} (hg : LyG B O S t q) {c i j : Nat} (hi : (ly B O S t q i).1 c = true) (hj : (ly B O S t q j).1 c = true) : i = j := by
  have key : ∀ i j, i < j → (ly B O S t q i).1 c = true → (ly B O S t q j).1 c = true → False := by
    intro i j hij h1 h2
    obtain ⟨k, rfl⟩ : ∃ k, j = i + k + 1 := ⟨j - i - 1, by omega⟩
    have a1 := ly_Amono (B := B) (O := O) (S := S) (t := t) (q := q) k ((ly_inv hg i).2.1 c h1)
    rw [ly_en] at h2
    unfold lyn at h2
    simp only [Bool.and_eq_true, Bool.not_eq_true'] at h2
    rw [a1] at h2
    cases h2.2
  rcases Nat.lt_trichotomy i j with h | h | h
  · exact (key i j h hi hj).elim
  · exact h
  · exact (key j i h hj hi).elim
theorem fk_once {B : bT} {O S t : Nat → Bool} {q : gT} (hg : LyG B O S t q) {c i j : Nat} (hi : fk B O S t q i c = true) (hj : fk B O S t q j c = true) : i = j := by
  have key : ∀ i j, i < j → fk B O S t q i c = true → fk B O S t q j c = true → False := by
    intro i j hij h1 h2
    obtain ⟨k, rfl⟩ : ∃ k, j = i + 1 + k := ⟨j - i - 1, by omega⟩
    have a0 : (ly B O S t q (i + 1)).2.2 c = true := by rw [ly_P, h1, Bool.or_true]
    have a1 := ly_Pmono (B := B) (O := O) (S := S) (t := t) (q := q) k a0
    rw [fk_iff hg.2.1] at h2
    rw [a1] at h2
    cases h2.2
  rcases Nat.lt_trichotomy i j with h | h | h
  · exact (key i j h hi hj).elim
  · exact h
  · exact (key j i h hj hi).elim
/-- each round but the last passes a cell -/
theorem ly_count {B : bT} {O S t : Nat → Bool} {q : gT} (hg : LyG B O S t q) : ∀ k, (∀ j, j < k → ∃ c, c < 64 ∧ fk B O S t q j c = true) → k ≤ fb_ct (ly B O S t q k).2.2 64
  | 0, _ => Nat.zero_le _
  | k + 1, h => by
    have ih := ly_count hg k (fun j hj => h j (by omega))
    obtain ⟨c, hc, hf⟩ := h k (by omega)
    have h0 : (ly B O S t q k).2.2 c = false := ((fk_iff hg.2.1).mp hf).2
    have h1 := fb_ct_upd (ly B O S t q k).2.2 true hc
    rw [h0, if_neg (by decide), if_pos rfl] at h1
    have h2 : fb_ct (fun x => if x = c then true else (ly B O S t q k).2.2 x) 64 ≤ fb_ct (ly B O S t q (k + 1)).2.2 64 := fb_ct_sub fun x _ hx => by
      have hx' : (if x = c then true else (ly B O S t q k).2.2 x) = true := hx
      rw [ly_P]
      by_cases e : x = c
      · rw [e, hf, Bool.or_true]
      · rw [if_neg e] at hx'
        rw [hx', Bool.true_or]
    omega
/-- the end of a search that found nothing -/
theorem ly_fin {B : bT} {O S T t : Nat → Bool} {q : gT} (hg : LyG B O S t q) {k : Nat} (hT : ∀ j c, j < k → c < bn B → fk B O S t q j c = true → T c = true → False) (hk : (∀ c, c < 64 → (ly B O S t q k).1 c = false) ∨ (k = 64 ∧ ∀ j, j < k → ∃ c, c < 64 ∧ fk B O S t q j c = true)) : FinR (bn B) O S T (adjB B) (arc B q) t (ly B O S t q k).2.1 (ly B O S t q k).2.2 := by
  have hi := ly_inv hg k
  have h64 := bS_64 hg.1
  have hall : (∀ c, c < 64 → (ly B O S t q k).1 c = false) ∨ (∀ c, c < 64 → (ly B O S t q k).2.2 c = true) := by
    rcases hk with h | ⟨h1, h2⟩
    · exact .inl h
    · refine .inr ?_
      have := ly_count hg k h2
      have l := fb_ct_le (ly B O S t q k).2.2 64
      exact fb_ct_all.mp (by omega)
  refine ⟨⟨fun c hc hO hS => hi.1 c hS, ?_, ?_, fun c hc h1 h2 => (hi.2.2.2.2.2 c h1).1 h2, fun c d hc hd h1 h2 h3 => (hi.2.2.2.2.2 c h1).2 d h2 h3⟩, ?_, ly_min hg k⟩
  · intro c hc h1 h2
    rcases hall with h | h
    · rcases hi.2.2.2.2.1 c h1 with h3 | h3
      · rw [h c (by omega)] at h3; cases h3
      · exact h3.1 h2
    · exact h c (by omega)
  · intro c d hc hd h1 h2
    rcases hall with h | h
    · rcases hi.2.2.2.2.1 d h1 with h3 | h3
      · rw [h d (by omega)] at h3; cases h3
      · exact h3.2 c hc h2
    · exact h c (by omega)
  · intro c hc h1 _ h2
    have key : ∀ k, (∀ j c, j < k → c < bn B → fk B O S t q j c = true → T c = true → False) → (ly B O S t q k).2.2 c = true → False := by
      intro k
      induction k with
      | zero => intro _ h; cases h
      | succ k ih =>
        intro hT h
        rw [ly_P, Bool.or_eq_true] at h
        rcases h with h | h
        · exact ih (fun j c hj => hT j c (by omega)) h
        · exact hT k c (by omega) hc h h2
    exact key k hT h1
