/-! LOAD -/
theorem kdO_47 : kdO 47 = none := by decide
/-- how many signs of cells stand ahead -/
def nkS (l : List Nat) (i : Nat) : Nat := fb_ct (fun j => decide (¬ kdO (l.getD j 0) = none)) i
theorem nkS_s (l : List Nat) (i : Nat) : nkS l (i + 1) = nkS l i + (if decide (¬ kdO (l.getD i 0) = none) = true then 1 else 0) := rfl
theorem nkS_n {l : List Nat} {i : Nat} (h : kdO (l.getD i 0) = none) : nkS l (i + 1) = nkS l i := by
  rw [nkS_s, if_neg (by rw [h]; decide), Nat.add_zero]
theorem nkS_1 {l : List Nat} {i : Nat} (h : ¬ kdO (l.getD i 0) = none) : nkS l (i + 1) = nkS l i + 1 := by
  rw [nkS_s, if_pos (decide_eq_true h)]
theorem nkS_m (l : List Nat) {i j : Nat} (h : i ≤ j) : nkS l i ≤ nkS l j := fb_ct_mono _ h
theorem nkS_le (l : List Nat) (i : Nat) : nkS l i ≤ i := fb_ct_le _ i
def fRl (l : List Nat) : Nat → Nat → Nat
  | 0 => fun _ => 0
  | i + 1 => (kdO (l.getD i 0)).elim (fRl l i) (fun m c => if c = nkS l i then m / 2 else fRl l i c)
def fWl (l : List Nat) : Nat → Nat → Bool
  | 0 => fun _ => false
  | i + 1 => (kdO (l.getD i 0)).elim (fWl l i) (fun m => if m % 2 = 1 then (fun c => if c = nkS l i then true else fWl l i c) else fWl l i)
theorem fRl_n {l : List Nat} {i : Nat} (h : kdO (l.getD i 0) = none) : fRl l (i + 1) = fRl l i := by
  show (kdO (l.getD i 0)).elim (fRl l i) (fun m c => if c = nkS l i then m / 2 else fRl l i c) = fRl l i
  rw [h] <;> rfl
theorem fRl_s {l : List Nat} {i m : Nat} (h : kdO (l.getD i 0) = some m) : fRl l (i + 1) = fun c => if c = nkS l i then m / 2 else fRl l i c := by
  show (kdO (l.getD i 0)).elim (fRl l i) (fun m c => if c = nkS l i then m / 2 else fRl l i c) = _
  rw [h] <;> rfl
theorem fWl_n {l : List Nat} {i : Nat} (h : kdO (l.getD i 0) = none) : fWl l (i + 1) = fWl l i := by
  show (kdO (l.getD i 0)).elim (fWl l i) (fun m => if m % 2 = 1 then (fun c => if c = nkS l i then true else fWl l i c) else fWl l i) = fWl l i
  rw [h] <;> rfl
theorem fWl_s {l : List Nat} {i m : Nat} (h : kdO (l.getD i 0) = some m) : fWl l (i + 1) = if m % 2 = 1 then (fun c => if c = nkS l i then true else fWl l i c) else fWl l i := by
  show (kdO (l.getD i 0)).elim (fWl l i) (fun m => if m % 2 = 1 then (fun c => if c = nkS l i then true else fWl l i c) else fWl l i) = _
  rw [h] <;> rfl
theorem kdO_ne {k m : Nat} (h : kdO k = some m) : ¬ kdO k = none := by rw [h]; intro e; cases e
theorem fl_0 (l : List Nat) : ∀ i c, nkS l i ≤ c → fRl l i c = 0 ∧ fWl l i c = false
  | 0, c, _ => ⟨rfl, rfl⟩
  | i + 1, c, h => by
    cases hk : kdO (l.getD i 0) with
    | none =>
      rw [nkS_n hk] at h
      rw [fRl_n hk, fWl_n hk]
      exact fl_0 l i c h
    | some m =>
      rw [nkS_1 (kdO_ne hk)] at h
      have := fl_0 l i c (by omega)
      rw [fRl_s hk, fWl_s hk]
      refine ⟨?_, ?_⟩
      · show (if c = nkS l i then m / 2 else fRl l i c) = 0
        rw [if_neg (by omega)]; exact this.1
      · by_cases q : m % 2 = 1
        · rw [if_pos q]
          show (if c = nkS l i then true else fWl l i c) = false
          rw [if_neg (by omega)]; exact this.2
        · rw [if_neg q]; exact this.2
theorem fRl_4 (l : List Nat) : ∀ i c, fRl l i c < 4
  | 0, c => by show 0 < 4; omega
  | i + 1, c => by
    cases hk : kdO (l.getD i 0) with
    | none => rw [fRl_n hk]; exact fRl_4 l i c
    | some m =>
      have := (kdO_lt hk).1
      rw [fRl_s hk]
      show (if c = nkS l i then m / 2 else fRl l i c) < 4
      by_cases e : c = nkS l i
      · rw [if_pos e]; omega
      · rw [if_neg e]; exact fRl_4 l i c
def ldOK (l : List Nat) (W R : Nat) : Prop := 2 ≤ W ∧ W ≤ 8 ∧ 2 ≤ R ∧ R ≤ 8 ∧ l.getD W 0 = 47 ∧ W < l.length ∧ (∀ j, j < W → ¬ l.getD j 0 = 47) ∧ nkS l l.length = R * W ∧ l.length + 1 = R * W + R ∧ ∀ j, j < l.length → l.getD j 0 = 47 ∨ ¬ kdO (l.getD j 0) = none
theorem ffS_s (l : List Nat) (n i w r q : Nat) : ffS l (n + 1) i w r q = if l.getD i 0 = 47 then (if ((r = 1 ∧ 2 ≤ q) ∨ (¬ r = 1 ∧ q = w)) ∧ ¬ r = 8 then ffS l n (i + 1) (if r = 1 then q else w) (r + 1) 0 else (some i, w, r)) else (if kdO (l.getD i 0) = none ∨ q = w then (some i, w, r) else ffS l n (i + 1) w r (q + 1)) := rfl
theorem ff_none {l : List Nat} : ∀ n i w m q, i + n = l.length → w ≤ 8 → q ≤ w → m ≤ 7 → (m = 0 → w = 8 ∧ ∀ j, j < i → ¬ l.getD j 0 = 47) → (0 < m → 2 ≤ w ∧ l.getD w 0 = 47 ∧ w < i ∧ ∀ j, j < w → ¬ l.getD j 0 = 47) → nkS l i = m * w + q → i = m * w + q + m → (∀ j, j < i → l.getD j 0 = 47 ∨ ¬ kdO (l.getD j 0) = none) → (ffS l n i w (m + 1) q).1 = none → ldOK l (ffS l n i w (m + 1) q).2.1 (ffS l n i w (m + 1) q).2.2 := by
  intro n
  induction n with
  | zero =>
    intro i w m q hi hw hq hm h0 h1 hk hik hall hn
    have hn' : (if m + 1 < 2 ∨ q < w then some l.length else none) = none := hn
    by_cases a : m + 1 < 2 ∨ q < w
    · rw [if_pos a] at hn'; cases hn'
    · obtain ⟨b1, b2, b3, b4⟩ := h1 (by omega)
      have eq : q = w := by omega
      have ei : i = l.length := by omega
      show ldOK l w (m + 1)
      have e1 : (m + 1) * w = m * w + w := Nat.succ_mul m w
      rw [ei] at hk hik hall b3
      exact ⟨b1, hw, by omega, by omega, b2, b3, b4, by omega, by omega, hall⟩
  | succ n ih =>
    intro i w m q hi hw hq hm h0 h1 hk hik hall hn
    rw [ffS_s] at hn ⊢
    by_cases a : l.getD i 0 = 47
    · rw [if_pos a] at hn ⊢
      have hkn : kdO (l.getD i 0) = none := by rw [a]; exact kdO_47
      have hall' : ∀ j, j < i + 1 → l.getD j 0 = 47 ∨ ¬ kdO (l.getD j 0) = none := fun j hj => by
        by_cases e : j = i
        · rw [e]; exact .inl a
        · exact hall j (by omega)
      by_cases b : ((m + 1 = 1 ∧ 2 ≤ q) ∨ (¬ m + 1 = 1 ∧ q = w)) ∧ ¬ m + 1 = 8
      · rw [if_pos b] at hn ⊢
        by_cases z : m + 1 = 1
        · rw [if_pos z] at hn ⊢
          have zm : m = 0 := by omega
          subst zm
          rw [Nat.zero_mul] at hk hik
          obtain ⟨c1, c2⟩ := h0 rfl
          have e1 : (0 + 1) * q = q := by rw [Nat.zero_add, Nat.one_mul]
          refine ih (i + 1) q (0 + 1) 0 (by omega) (by omega) (by omega) (by omega) (fun e => by omega) (fun _ => ⟨by omega, ?_, by omega, fun j hj => c2 j (by omega)⟩) (by rw [nkS_n hkn]; omega) (by omega) hall' hn
          rw [show q = i by omega]; exact a
        · rw [if_neg z] at hn ⊢
          obtain ⟨b1, b2, b3, b4⟩ := h1 (by omega)
          have e1 : (m + 1) * w = m * w + w := Nat.succ_mul m w
          exact ih (i + 1) w (m + 1) 0 (by omega) hw (by omega) (by omega) (fun e => by omega) (fun _ => ⟨b1, b2, by omega, b4⟩) (by rw [nkS_n hkn]; omega) (by omega) hall' hn
      · rw [if_neg b] at hn; cases hn
    · rw [if_neg a] at hn ⊢
      by_cases b : kdO (l.getD i 0) = none ∨ q = w
      · rw [if_pos b] at hn; cases hn
      · rw [if_neg b] at hn ⊢
        have hkn : ¬ kdO (l.getD i 0) = none := fun e => b (.inl e)
        have hqw : ¬ q = w := fun e => b (.inr e)
        refine ih (i + 1) w m (q + 1) (by omega) hw (by omega) hm (fun e => ⟨(h0 e).1, fun j hj => ?_⟩) (fun e => ⟨(h1 e).1, (h1 e).2.1, by have := (h1 e).2.2.1; omega, (h1 e).2.2.2⟩) (by rw [nkS_1 hkn]; omega) (by omega) (fun j hj => ?_) hn
        · by_cases ej : j = i
          · rw [ej]; exact a
          · exact (h0 e).2 j (by omega)
        · by_cases ej : j = i
          · rw [ej]; exact .inr hkn
          · exact hall j (by omega)
theorem ff_ld {l : List Nat} (h : (ffS l l.length 0 8 1 0).1 = none) : ldOK l (ffS l l.length 0 8 1 0).2.1 (ffS l l.length 0 8 1 0).2.2 := ff_none l.length 0 8 0 0 (by omega) (by omega) (by omega) (by omega) (fun _ => ⟨rfl, fun j hj => absurd hj (Nat.not_lt_zero j)⟩) (fun e => absurd e (Nat.lt_irrefl 0)) rfl rfl (fun j hj => absurd hj (Nat.not_lt_zero j)) h
theorem ff_le {l : List Nat} : ∀ n i w r q, i + n = l.length → ∀ j, (ffS l n i w r q).1 = some j → j ≤ l.length := by
  intro n
  induction n with
  | zero =>
    intro i w r q hi j hj
    have hj' : (if r < 2 ∨ q < w then some l.length else none) = some j := hj
    by_cases a : r < 2 ∨ q < w
    · rw [if_pos a] at hj'; have := Option.some.inj hj'; omega
    · rw [if_neg a] at hj'; cases hj'
  | succ n ih =>
    intro i w r q hi j hj
    rw [ffS_s] at hj
    by_cases a : l.getD i 0 = 47
    · rw [if_pos a] at hj
      by_cases b : ((r = 1 ∧ 2 ≤ q) ∨ (¬ r = 1 ∧ q = w)) ∧ ¬ r = 8
      · rw [if_pos b] at hj; exact ih _ _ _ _ (by omega) j hj
      · rw [if_neg b] at hj; have := Option.some.inj hj; omega
    · rw [if_neg a] at hj
      by_cases b : kdO (l.getD i 0) = none ∨ q = w
      · rw [if_pos b] at hj; have := Option.some.inj hj; omega
      · rw [if_neg b] at hj; exact ih _ _ _ _ (by omega) j hj
theorem M_gridWidth {c : ixK} {X : ixX} {l : List Nat} (h : cPd X l) {W R : Nat} (hd : ldOK l W R) : ix_M mPa_gridWidth [.ref 57] (hp c X) = some ([.int (nI W)], hp c X) := by
  have hl := h.2.2.1.1
  obtain ⟨_, _, _, _, d5, d6, d7, _⟩ := hd
  refine x_Pa_gridWidth (rc_57 c X) ?_
  have e := lp_f (fun k (_ : Unit) => l_Pa_gridWidth_2 57 (nI k) (hp c X)) (fun _ => ()) (N := W) (fun k hk => by
    have h2 := (h.2.2.1.2 k (by omega)).2
    show l_Pa_gridWidth_2 57 (nI k) (hp c X) = l_Pa_gridWidth_2 57 (nI (k + 1)) (hp c X)
    rw [e_Pa_gridWidth_2, bO (g57_1 c _), h.1, if_neg (by rw [nI_leI (by omega) (by omega)]; omega), kI_of (M_codeAt h (by omega)), if_neg (show ¬ nI (l.getD k 0) = 47 from fun e => d7 k hk ((lit_eq (x := 47) (a := 47) rfl (by omega) (by omega)).mp e)), nI_1 k]) (k := 0) (by omega)
  have e' : l_Pa_gridWidth_2 57 (nI 0) (hp c X) = l_Pa_gridWidth_2 57 (nI W) (hp c X) := e
  rw [e_Pa_gridWidth, show (0 : Int32) = nI 0 from rfl, e', e_Pa_gridWidth_2, bO (g57_1 c _), h.1, if_neg (by rw [nI_leI (by omega) (by omega)]; omega), kI_of (M_codeAt h d6), if_pos (show nI (l.getD W 0) = 47 by rw [d5]; rfl)]
theorem M_gridHeight {c : ixK} {X : ixX} {l : List Nat} (h : cPd X l) {W R : Nat} (hd : ldOK l W R) : ix_M mPa_gridHeight [.ref 57] (hp c X) = some ([.int (nI R)], hp c X) := by
  have hl := h.2.2.1.1
  obtain ⟨_, _, d3, _, _, _, _, d8, d9, d10⟩ := hd
  refine x_Pa_gridHeight (rc_57 c X) ?_
  have e := lp_f (fun k (x : Int32) => l_Pa_gridHeight_4 57 x (nI k) (hp c X)) (fun k => nI (1 + (k - nkS l k))) (N := l.length) (fun k hk => by
    have h2 := (h.2.2.1.2 k (by omega)).2
    have h3 := nkS_le l k
    show l_Pa_gridHeight_4 57 (nI (1 + (k - nkS l k))) (nI k) (hp c X) = l_Pa_gridHeight_4 57 (nI (1 + (k + 1 - nkS l (k + 1)))) (nI (k + 1)) (hp c X)
    rw [e_Pa_gridHeight_4, bO (g57_1 c _), h.1, if_neg (by rw [nI_leI (by omega) (by omega)]; omega), kI_of (M_codeAt h (by omega))]
    by_cases a : l.getD k 0 = 47
    · rw [if_neg (fun e => e (show nI (l.getD k 0) = 47 by rw [a]; rfl)), nkS_n (by rw [a]; exact kdO_47), nI_1, nI_1, show 1 + (k - nkS l k) + 1 = 1 + (k + 1 - nkS l k) by omega]
    · rw [if_pos (show ¬ nI (l.getD k 0) = 47 from fun e => a ((lit_eq (x := 47) (a := 47) rfl (by omega) (by omega)).mp e)), nkS_1 ((d10 k hk).resolve_left a), nI_1, show k + 1 - (nkS l k + 1) = k - nkS l k by omega]) (k := 0) (by omega)
  have e' : l_Pa_gridHeight_4 57 (nI (1 + (0 - nkS l 0))) (nI 0) (hp c X) = l_Pa_gridHeight_4 57 (nI (1 + (l.length - nkS l l.length))) (nI l.length) (hp c X) := e
  rw [show 1 + (0 - nkS l 0) = 1 from rfl, show 1 + (l.length - nkS l l.length) = R by omega] at e'
  rw [e_Pa_gridHeight, show (0 : Int32) = nI 0 from rfl, show (1 : Int32) = nI 1 from rfl, e', e_Pa_gridHeight_4, bO (g57_1 c _), h.1, if_pos (by rw [nI_leI (by omega) (by omega)]; omega)]
/-- the board that is read: of the first i signs -/
def brd (l : List Nat) (W R i : Nat) : bT := setR (setW (newB W R) (fWl l i)) (fRl l i)
theorem brd_S {l : List Nat} {W R : Nat} (hd : ldOK l W R) (i : Nat) : bS (brd l W R i) := ⟨hd.1, hd.2.1, hd.2.2.1, hd.2.2.2.1⟩
theorem brd_n {l : List Nat} {W R : Nat} (hd : ldOK l W R) (i : Nat) : bn (brd l W R i) = nkS l l.length := by
  show W * R = _
  rw [hd.2.2.2.2.2.2.2.1, Nat.mul_comm]
theorem brd_lt {l : List Nat} {W R : Nat} (hd : ldOK l W R) {i : Nat} (hi : i < l.length) (hk : ¬ kdO (l.getD i 0) = none) : nkS l i < 64 ∧ nkS l i < bn (brd l W R i) := by
  have h1 := nkS_m l (show i + 1 ≤ l.length from hi)
  rw [nkS_1 hk] at h1
  have h2 := bS_64 (brd_S hd i)
  rw [brd_n hd i] at h2 ⊢
  omega
theorem brd_OK {l : List Nat} {W R : Nat} (hd : ldOK l W R) : bOK (brd l W R l.length) := by
  have hB := newB_OK hd.1 hd.2.1 hd.2.2.1 hd.2.2.2.1
  refine ⟨brd_S hd _, fun c hc => ?_, fRl_4 l _, hB.2.2.2.1, hB.2.2.2.2.1, hB.2.2.2.2.2⟩
  rw [brd_n hd] at hc
  have := fl_0 l l.length c hc
  exact ⟨this.2, this.1, fun _ => rfl⟩
theorem cBd_R {X : ixX} {B : bT} (h : cBd 4 X B) {g : Nat → Int64} {rl : Nat → Nat} (hg : ∀ r, 1 ≤ r → r < 4 → g r = LSt (fun c => decide (rl c = r))) : cBd 4 (aJ X 6 g) (setR B rl) := by
  obtain ⟨⟨g1, g2, g3, g4, g5, g6, g7, g8⟩, hP, hR⟩ := h
  refine ⟨⟨g1, g2, g3, g4, g5, g6, fun r h1 h2 => ?_, g8⟩, hP, fun s hs2 => cR_cong (X := X) rfl (aJ_o (show ¬ 4 + 5 + 2 * s = 6 by omega) _ _) rfl (hR s hs2)⟩
  show (aJ X 6 g).2 6 r = LSt (fun c => decide (rl c = r))
  rw [aJ_1, hg r h1 h2]
theorem d_kd : ∀ m, m < 8 → ix_ishr (nI m) 1 = nI (m / 2) ∧ nI m &&& 1 = nI (m % 2) := by decide +kernel
theorem d_rl : ∀ m, m < 8 → nI (m / 2 + 4 * (m % 2)) / 4 = nI (m % 2) ∧ ix_rem (nI (m / 2 + 4 * (m % 2))) 4 = nI (m / 2) := by decide +kernel
theorem cPd_fr {X Y : ixX} {l : List Nat} (h : cPd X l) (hf : fRm 4 21 X Y) : cPd Y l := by
  unfold cPd
  rw [(hf 57 (by omega)).1, (hf 58 (by omega)).1, (hf 2 (by omega)).1]
  exact h
theorem M_fill {c : ixK} {X : ixX} {l : List Nat} (h : cPd X l) {W R : Nat} (hd : ldOK l W R) (hB : cBd 4 X (newB W R)) : ∃ Y, ix_M mPa_fill [.ref 57, .ref 5] (hp c X) = some ([], hp c Y) ∧ cBd 4 Y (brd l W R l.length) ∧ fRm 4 21 X Y := by
  have hl := h.2.2.1.1
  obtain ⟨Y, e, y1, y2⟩ := lp_up (fun k (Y : ixX) => l_Pa_fill_4 57 5 (nI (nkS l k)) (nI k) (hp c Y)) (fun k Y => cBd 4 Y (brd l W R k) ∧ fRm 4 21 X Y) (N := l.length) (fun k Y hk ⟨y1, y2⟩ => by
    have hY := cPd_fr h y2
    show ∃ Y', l_Pa_fill_4 57 5 (nI (nkS l k)) (nI k) (hp c Y) = l_Pa_fill_4 57 5 (nI (nkS l (k + 1))) (nI (k + 1)) (hp c Y') ∧ cBd 4 Y' (brd l W R (k + 1)) ∧ fRm 4 21 X Y'
    rw [e_Pa_fill_4, bO (g57_1 c _), hY.1, if_neg (by rw [nI_leI (by omega) (by omega)]; omega), kI_of (M_kindAt hY hk)]
    cases hq : kdO (l.getD k 0) with
    | none =>
      rw [if_neg (show ¬ (0 : Int32) ≤ oKi none by decide), nI_1 k, nkS_n hq]
      refine ⟨Y, rfl, ?_, y2⟩
      unfold brd
      rw [fWl_n hq, fRl_n hq]
      exact y1
    | some m =>
      have hm := (kdO_lt hq).1
      have hlt := brd_lt hd hk (kdO_ne hq)
      obtain ⟨g, e1, e2⟩ := M_give (c := c) (X := Y) (q := fun r c => decide (fRl l k c = r)) (fun r h1 h2 => G_r y1.1 h1 h2) (x := nkS l k) (n := m / 2) hlt.1 (by omega)
      have y3 : cBd 4 (aJ Y 6 g) (setR (setW (newB W R) (fWl l k)) (fRl l (k + 1))) := by
        refine cBd_R (B := brd l W R k) y1 (fun r h1 h2 => ?_)
        rw [e2 r h1 h2, fRl_s hq]
        refine LS_cong (fun i _ => ?_)
        show (if i = nkS l k then decide (r = m / 2) else decide (fRl l k i = r)) = decide ((if i = nkS l k then m / 2 else fRl l k i) = r)
        by_cases ei : i = nkS l k
        · rw [if_pos ei, if_pos ei, decide_eq_decide]
          exact ⟨fun q => q.symm, fun q => q.symm⟩
        · rw [if_neg ei, if_neg ei]
      have y4 : fRm 4 21 X (aJ Y 6 g) := fRm_aJ y2 (by omega) (by omega)
      rw [show oKi (some m) = nI m from rfl, if_pos (show (0 : Int32) ≤ nI m from (nI_leI (a := 0) (by omega) (by omega)).mpr (by omega)), (d_kd m hm).1, (d_kd m hm).2, kV_of e1, nI_1, nI_1, nkS_1 (kdO_ne hq)]
      by_cases odd : m % 2 = 1
      · rw [odd, if_neg (fun e => e rfl), bO (g5_5 c _), G_x y3.1, kL_of (M_bit hlt.1 _)]
        have e3 : LSt (bwl (setR (setW (newB W R) (fWl l k)) (fRl l (k + 1)))) ||| LSt (fun i => decide (i = nkS l k)) = LSt (fWl l (k + 1)) := by
          rw [LS_or, fWl_s hq, if_pos odd]
          refine LS_cong (fun i _ => ?_)
          show (fWl l k i || decide (i = nkS l k)) = if i = nkS l k then true else fWl l k i
          by_cases ei : i = nkS l k
          · rw [if_pos ei, decide_eq_true ei, Bool.or_true]
          · rw [if_neg ei, decide_eq_false ei, Bool.or_false]
        rw [e3, bO (p5_5 c _ _)]
        exact ⟨_, rfl, cBd_W y3 (fWl l (k + 1)), fRm_aJ y4 (by omega) (by omega)⟩
      · rw [show m % 2 = 0 by omega, if_pos (show ¬ nI 0 = 1 by decide)]
        refine ⟨aJ Y 6 g, rfl, ?_, y4⟩
        unfold brd
        rw [fWl_s hq, if_neg odd]
        exact y3) (k := 0) (s := X) (by omega) ⟨hB, fRm_refl _ _ _⟩
  have e' : l_Pa_fill_4 57 5 (nI 0) (nI 0) (hp c X) = l_Pa_fill_4 57 5 (nI (nkS l l.length)) (nI l.length) (hp c Y) := e
  refine ⟨Y, x_Pa_fill (rc_57 c X) ?_, y1, y2⟩
  rw [e_Pa_fill, show (0 : Int32) = nI 0 from rfl, e', e_Pa_fill_4, bO (g57_1 c _), (cPd_fr h y2).1, if_pos (by rw [nI_leI (by omega) (by omega)]; omega)]
/-! the reference -/
theorem M_layGrid {c : ixK} {X : ixX} {w t : Nat} (w1 : 2 ≤ w) (w2 : w ≤ 8) (t1 : 2 ≤ t) (t2 : t ≤ 8) : ∃ Y, ix_M mMo_layGrid [.ref 75, .int (nI w), .int (nI t)] (hp c X) = some ([], hp c Y) ∧ rBd (Y.1 76) (newB w t) ∧ eX [76] X Y := by
  have hB := newB_OK w1 w2 t1 t2
  obtain ⟨A, f1, f2⟩ := lp_up (fun k (A : Nat → Int32) => l_Mo_layGrid_2 75 (nI w) (nI t) (nI k) (hp c (aI X 76 A))) (fun k A => ∀ i, i < k → A i = 0) (N := 720) (fun k A hk hA => by
    refine ⟨upd A k 0, ?_, fun i hi => ?_⟩
    · show l_Mo_layGrid_2 75 (nI w) (nI t) (nI k) (hp c (aI X 76 A)) = l_Mo_layGrid_2 75 (nI w) (nI t) (nI (k + 1)) (hp c (aI X 76 _))
      rw [e_Mo_layGrid_2, if_neg (lit_nle (x := 720) (a := 720) (k := k) rfl hk (by omega)), bO (g75_0 c _), bO (s76 hk), aI_1, aI_aI, nI_1]
    · by_cases ei : i = k
      · rw [ei, upd_1]
      · rw [upd_n _ _ ei]; exact hA i (by omega)) (k := 0) (s := X.1 76) (by omega) (fun i hi => absurd hi (Nat.not_lt_zero i))
  have f1' : l_Mo_layGrid_2 75 (nI w) (nI t) 0 (hp c X) = l_Mo_layGrid_2 75 (nI w) (nI t) (nI 720) (hp c (aI X 76 A)) := by
    have q : l_Mo_layGrid_2 75 (nI w) (nI t) (nI 0) (hp c (aI X 76 (X.1 76))) = l_Mo_layGrid_2 75 (nI w) (nI t) (nI 720) (hp c (aI X 76 A)) := f1
    rw [aI_self] at q
    exact q
  refine ⟨aI X 76 (upd (upd A 0 (nI w)) 1 (nI t)), x_Mo_layGrid (rc_75 c X) ?_, ?_, eX_aI (eX_refl _ _) (by decide)⟩
  · rw [e_Mo_layGrid, f1', e_Mo_layGrid_2, if_pos (show (720 : Int32) ≤ nI 720 by decide), bO (g75_0 c _), bO (show ix_si (hp c _) 76 0 (nI w) = _ from s76 (i := 0) (by omega)), aI_1, aI_aI, bO (g75_0 c _), bO (show ix_si (hp c _) 76 1 (nI t) = _ from s76 (i := 1) (by omega)), aI_1, aI_aI]
  · have h64 := bS_64 hB.1
    rw [aI_1]
    have z : ∀ i, 2 ≤ i → i < 720 → upd (upd A 0 (nI w)) 1 (nI t) i = 0 := fun i h1 h2 => by rw [upd_n _ _ (by omega), upd_n _ _ (by omega)]; exact f2 i h2
    refine ⟨by rw [upd_n _ _ (by omega), upd_1]; rfl, by rw [upd_1]; rfl, fun i hi => ?_, fun i hi => ?_, fun l hl i hi => ?_, z 386 (by omega) (by omega), fun i hi => absurd hi (Nat.not_lt_zero i), fun s hs => ⟨z _ (by omega) (by omega), fun k hk => absurd hk (Nat.not_lt_zero k)⟩⟩
    · rw [z _ (by omega) (by omega)]; rfl
    · rw [z _ (by omega) (by omega)]; rfl
    · rw [z _ (by omega) (by omega)]; rfl
theorem L_mload {c : ixK} {X : ixX} {l : List Nat} (h : rPd X l) {W R : Nat} (hd : ldOK l W R) (hB : rBd (X.1 76) (newB W R)) : ∃ Y, l_Mo_load_28 75 0 0 (hp c X) = some ([.int (nI (bn (brd l W R l.length)))], hp c (aI Y 75 (upd (X.1 75) 31 0))) ∧ rBd (Y.1 76) (brd l W R l.length) ∧ eX [76] X Y := by
  have hl := h.2.2.1
  obtain ⟨Y, e, y1, y2⟩ := lp_up (fun k (Y : ixX) => l_Mo_load_28 75 (nI (nkS l k)) (nI k) (hp c Y)) (fun k Y => rBd (Y.1 76) (brd l W R k) ∧ eX [76] X Y) (N := l.length) (fun k Y hk ⟨y1, y2⟩ => by
    have hk2 := (h.2.2.2 k hk).2
    have h31 : Y.1 75 31 = nI l.length := by rw [y2.2 75 (by decide)]; exact h.1
    have h101 : Y.1 101 k = nI (l.getD k 0) := by rw [y2.2 101 (by decide)]; exact h.2.1 k hk
    show ∃ Y', l_Mo_load_28 75 (nI (nkS l k)) (nI k) (hp c Y) = l_Mo_load_28 75 (nI (nkS l (k + 1))) (nI (k + 1)) (hp c Y') ∧ rBd (Y'.1 76) (brd l W R (k + 1)) ∧ eX [76] X Y'
    rw [e_Mo_load_28, bO (g75_31 c _), h31, if_neg (by rw [nI_leI (by omega) (by omega)]; omega), bO (g75_30 c _), bO (r101 (by omega)), h101]
    by_cases a : l.getD k 0 = 47
    · have hq : kdO (l.getD k 0) = none := by rw [a]; exact kdO_47
      rw [if_pos (show nI (l.getD k 0) = 47 by rw [a]; rfl), nI_1 k, nkS_n hq]
      refine ⟨Y, rfl, ?_, y2⟩
      unfold brd
      rw [fWl_n hq, fRl_n hq]
      exact y1
    · have hne := (hd.2.2.2.2.2.2.2.2.2 k hk).resolve_left a
      have hlt := brd_lt hd hk hne
      have h64 := bS_64 (brd_S hd k)
      cases hq : kdO (l.getD k 0) with
      | none => exact absurd hq hne
      | some m =>
        have hm := (kdO_lt hq).1
        rw [if_neg (show ¬ nI (l.getD k 0) = 47 from fun e => a ((lit_eq (x := 47) (a := 47) rfl (by omega) (by omega)).mp e)), bO (g75_30 c _), bO (r101 (by omega)), h101, kI_of (M_mroleOf (by omega) _), hq, show rlV (some m) = nI (m / 2 + 4 * (m % 2)) from rfl, (d_rl m hm).1, (d_rl m hm).2, bO (g75_0 c _), if_neg (by decide), bO (y76 (jx2 _) (by omega)), bO (g75_0 c _), if_neg (by decide), bO (y76 (i66 _) (by omega)), aI_1, aI_aI, nI_1, nI_1, nkS_1 hne]
        refine ⟨_, rfl, ?_, eX_aI y2 (by decide)⟩
        rw [aI_1]
        have r1 : rBd (upd (Y.1 76) (2 + nkS l k) (nI (m % 2))) (setW (brd l W R k) (fWl l (k + 1))) := by
          refine rBd_W (brd_S hd k) y1 (fun x hx => ?_) (fun i hi => by rw [upd_n _ _ (by omega)])
          have w0 : fWl l k (nkS l k) = false := (fl_0 l k _ (Nat.le_refl _)).2
          by_cases ex : x = nkS l k
          · rw [ex, upd_1, fWl_s hq]
            by_cases odd : m % 2 = 1
            · rw [if_pos odd, odd]
              show nI 1 = ix_bi (if nkS l k = nkS l k then true else fWl l k (nkS l k))
              rw [if_pos rfl]; rfl
            · rw [if_neg odd, w0, show m % 2 = 0 by omega]; rfl
          · have w1 : fWl l (k + 1) x = fWl l k x := by
              rw [fWl_s hq]
              by_cases odd : m % 2 = 1
              · rw [if_pos odd]
                show (if x = nkS l k then true else fWl l k x) = _
                rw [if_neg ex]
              · rw [if_neg odd]
            rw [upd_n _ _ (by omega), w1]
            exact A_x y1 hx
        refine rBd_R (B := setW (brd l W R k) (fWl l (k + 1))) (brd_S hd k) r1 (fun x hx => ?_) (fun i hi => by rw [upd_n _ _ (by omega)])
        rw [fRl_s hq]
        show _ = nI (if x = nkS l k then m / 2 else fRl l k x)
        by_cases ex : x = nkS l k
        · rw [ex, upd_1, if_pos rfl]
        · rw [upd_n _ _ (by omega), if_neg ex]
          exact A_r r1 hx) (k := 0) (s := X) (by omega) ⟨hB, eX_refl _ _⟩
  have e' : l_Mo_load_28 75 (nI 0) (nI 0) (hp c X) = l_Mo_load_28 75 (nI (nkS l l.length)) (nI l.length) (hp c Y) := e
  have h75 : Y.1 75 = X.1 75 := y2.2 75 (by decide)
  refine ⟨Y, ?_, y1, y2⟩
  have hr : rBd ((aI Y 75 (upd (X.1 75) 31 0)).1 76) (brd l W R l.length) := by rw [aI_n _ _ (by decide)]; exact y1
  rw [show (0 : Int32) = nI 0 from rfl, e', e_Mo_load_28, bO (g75_31 c _), h75, h.1, if_pos (by rw [nI_leI (by omega) (by omega)]; omega), bO (p75_31 c _ _), h75]
  exact kI_of (M_mcells hr)
theorem K_load {c : ixK} {X : ixX} {S : sT} (h : invK c X S) (hz : X.1 2 = tbF) : okI mRP_load mMo_load [] c X := by
  obtain ⟨l, hl⟩ : ∃ l, l = S.2.2 := ⟨_, rfl⟩
  have hP : cPd X l := by rw [hl]; exact cPd_of h hz
  have hQ : rPd X l := by rw [hl]; exact rPd_of h
  cases hf : (ffS l l.length 0 8 1 0).1 with
  | some j =>
    have hj := ff_le l.length 0 8 1 0 (by omega) j hf
    have hlen := hP.2.2.1.1
    have hn6 : ¬ oI (some j) = -6 := fun e => nI_pos (n := j) (by omega) (by rw [show nI j = oI (some j) from rfl, e]; decide)
    obtain ⟨Z, z1, z2, z3⟩ := M_mfault (c := c) hQ
    have f1 := M_firstFault (c := c) hP
    rw [hf] at z1 f1
    exact ok_q h (r := -3) (x_RP_load (rc_3 c X) (by rw [e_RP_load, bO (g3_3 c _), kI_of f1, if_neg hn6])) (fRm_refl _ _ _) (x_Mo_load (rc_75 c X) (by rw [e_Mo_load, kI_of z1, if_neg hn6])) (rS_eF z2)
  | none =>
    have hd := ff_ld hf
    obtain ⟨W, hW⟩ : ∃ W, W = (ffS l l.length 0 8 1 0).2.1 := ⟨_, rfl⟩
    obtain ⟨R, hR⟩ : ∃ R, R = (ffS l l.length 0 8 1 0).2.2 := ⟨_, rfl⟩
    rw [← hW, ← hR] at hd
    obtain ⟨X1, e1, b1, q1⟩ := M_begin (c := c) (X := X) hd.1 hd.2.1 hd.2.2.1 hd.2.2.2.1
    have q1' : fRm 4 21 X X1 := fRm_mono q1 (by omega) (by omega)
    obtain ⟨X2, e2, b2, q2⟩ := M_fill (c := c) (cPd_fr hP q1') hd b1
    have q12 : fRm 4 21 X X2 := fRm_trans q1' q2
    obtain ⟨X3, hX3⟩ : ∃ X3, X3 = aI X2 57 (upd (X2.1 57) 1 0) := ⟨_, rfl⟩
    have q3 : fRm 57 59 X2 X3 := by rw [hX3]; exact fRm_aI (fRm_refl _ _ _) (by omega) (by omega)
    have q13 : fRm 4 59 X X3 := fRm_trans (fRm_mono q12 (by omega) (by omega)) (fRm_mono q3 (by omega) (by omega))
    have b3 : cG 4 X3 (brd l W R l.length) := by rw [hX3]; exact cG_cong rfl rfl rfl rfl b2.1
    have hQ3 : rPd X3 l := by
      unfold rPd
      rw [(q13 75 (by omega)).1, (q13 101 (by omega)).1]
      exact hQ
    obtain ⟨Z, z1, z2, z3⟩ := M_mfault (c := c) hQ3
    obtain ⟨z4, z5⟩ := z3 hf
    rw [hf] at z1
    rw [← hW] at z4
    rw [← hR] at z5
    have f1 := M_firstFault (c := c) hP
    rw [hf] at f1
    have hQZ : rPd Z l := by
      refine ⟨by rw [z2.2 31 (by omega) (by omega)]; exact hQ3.1, fun i hi => ?_, hQ3.2.2⟩
      rw [z2.1.2 101 (by decide)]; exact hQ3.2.1 i hi
    obtain ⟨Y1, g1, g2, g3⟩ := M_layGrid (c := c) (X := Z) hd.1 hd.2.1 hd.2.2.1 hd.2.2.2.1
    have hQY : rPd Y1 l := by
      unfold rPd
      rw [g3.2 75 (by decide), g3.2 101 (by decide)]
      exact hQZ
    obtain ⟨Y2, k1, k2, k3⟩ := L_mload (c := c) hQY hd g2
    have k4 : eX [76] Z Y2 := eX_trans g3 k3
    have rI2 : rI Y2 (brd l W R l.length, S.2) := rI_76 (rS_I (rS_eF z2) (rI_q q13 (by omega) h.2.2)) k4 k2
    refine ok_s (S := S) (S' := (brd l W R l.length, S.2.1, [])) (r := nI (bn (brd l W R l.length))) ⟨brd_OK hd, h.1.2.1, Nat.zero_le _, fun i hi => absurd hi (Nat.not_lt_zero i)⟩ (x_RP_load (rc_3 c X) ?_) (cI_pad (cI_b h.2.1 q12 b2) q3 (by rw [hX3, aI_1, upd_1]; rfl) (fun i hi => absurd hi (Nat.not_lt_zero i))) (x_Mo_load (rc_75 c X3) ?_) (fRm_trans (rS_fr (rS_eF z2)) (fRm_trans (fRm_76 k4) (fRm_aI (f := upd (Y1.1 75) 31 0) (fRm_refl _ _ _) (show 75 ≤ 75 by omega) (by omega)))) (rI_pad rI2 (by rw [aI_n _ _ (by decide)]) (by rw [aI_n _ _ (by decide)]) (by rw [aI_n _ _ (by decide)]) (by rw [aI_1, upd_1]; rfl) (fun i hi => absurd hi (Nat.not_lt_zero i))) (zF_fr q13 (by omega))
    · rw [e_RP_load, bO (g3_3 c _), kI_of f1, if_pos (show oI none = -6 from rfl), bO (g3_0 c _), bO (g3_3 c _), kI_of (M_gridWidth hP hd), bO (g3_3 c _), kI_of (M_gridHeight hP hd), kV_of e1, bO (g3_3 c _), bO (g3_0 c _), bO (g4_0 c _), kV_of e2, bO (g3_3 c _), bO (p57_1 c _ _), ← hX3, bO (g3_0 c _), bO (g4_0 c _), kI_of (M_gsize b3)]
    · rw [e_Mo_load, kI_of z1, if_pos (show oI none = -6 from rfl), bO (g75_32 c _), z4, bO (g75_33 c _), z5, kV_of g1]
      exact k1
