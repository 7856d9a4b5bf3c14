/-! REFERENCE'S SEARCH -/
def eX (L : List Nat) (X Y : ixX) : Prop := Y.2 = X.2 ∧ ∀ a, ¬ a ∈ L → Y.1 a = X.1 a
theorem eX_refl (L : List Nat) (X : ixX) : eX L X X := ⟨rfl, fun _ _ => rfl⟩
theorem eX_trans {L : List Nat} {X Y Z : ixX} (h : eX L X Y) (h2 : eX L Y Z) : eX L X Z := ⟨h2.1.trans h.1, fun a ha => (h2.2 a ha).trans (h.2 a ha)⟩
theorem eX_aI {L : List Nat} {X Y : ixX} {a : Nat} {f : Nat → Int32} (h : eX L X Y) (ha : a ∈ L) : eX L X (aI Y a f) := ⟨h.1, fun b hb => by
  have : ¬ b = a := fun e => hb (by rw [e]; exact ha)
  rw [aI_o this]
  exact h.2 b hb⟩
theorem eX_mono {L M : List Nat} {X Y : ixX} (h : eX L X Y) (hs : ∀ a, a ∈ L → a ∈ M) : eX M X Y := ⟨h.1, fun a ha => h.2 a (fun q => ha (hs a q))⟩
theorem nb_iff {B : bT} (hs : bS B) {c x : Nat} (hc : c < bn B) (hx : x < bn B) : adjB B c x = true ↔ ∃ d, d < 4 ∧ nb B c d = some x := by
  have hw := bS_w hs
  rw [adjB_iff]
  constructor
  · rintro (h | h | h | h)
    · refine ⟨2, by omega, ?_⟩
      show (if (c + 1) % bw B = 0 then none else some (c + 1)) = some x
      rw [if_neg (by rw [← h.1]; exact h.2), h.1]
    · refine ⟨1, by omega, ?_⟩
      show (if c % bw B = 0 then none else some (c - 1)) = some x
      rw [if_neg h.2, show c - 1 = x by omega]
    · refine ⟨3, by omega, ?_⟩
      show (if c + bw B < bn B then some (c + bw B) else none) = some x
      rw [if_pos (by omega), h]
    · refine ⟨0, by omega, ?_⟩
      show (if bw B ≤ c then some (c - bw B) else none) = some x
      rw [if_pos (by omega), show c - bw B = x by omega]
  · rintro ⟨d, hd, h⟩
    rcases (show d = 0 ∨ d = 1 ∨ d = 2 ∨ d = 3 by omega) with rfl | rfl | rfl | rfl
    · have h' : (if bw B ≤ c then some (c - bw B) else none) = some x := h
      by_cases q : bw B ≤ c
      · rw [if_pos q] at h'
        have : c - bw B = x := Option.some.inj h'
        exact .inr (.inr (.inr (by omega)))
      · rw [if_neg q] at h'; cases h'
    · have h' : (if c % bw B = 0 then none else some (c - 1)) = some x := h
      by_cases q : c % bw B = 0
      · rw [if_pos q] at h'; cases h'
      · rw [if_neg q] at h'
        have : c - 1 = x := Option.some.inj h'
        have h0 : ¬ c = 0 := fun e => q (by rw [e]; exact Nat.zero_mod _)
        exact .inr (.inl ⟨by omega, q⟩)
    · have h' : (if (c + 1) % bw B = 0 then none else some (c + 1)) = some x := h
      by_cases q : (c + 1) % bw B = 0
      · rw [if_pos q] at h'; cases h'
      · rw [if_neg q] at h'
        have : c + 1 = x := Option.some.inj h'
        exact .inl ⟨by omega, by rw [← this]; exact q⟩
    · have h' : (if c + bw B < bn B then some (c + bw B) else none) = some x := h
      by_cases q : c + bw B < bn B
      · rw [if_pos q] at h'
        have : c + bw B = x := Option.some.inj h'
        exact .inr (.inr (.inl this.symm))
      · rw [if_neg q] at h'; cases h'
theorem nb_one {B : bT} (hs : bS B) {c x d e : Nat} (hc : c < bn B) (hd : d < 4) (he : e < 4) (h1 : nb B c d = some x) (h2 : nb B c e = some x) : d = e := by
  have hw := hs.1
  have key : ∀ d, d < 4 → nb B c d = some x → (d = 0 ∧ c = x + bw B) ∨ (d = 1 ∧ c = x + 1) ∨ (d = 2 ∧ x = c + 1) ∨ (d = 3 ∧ x = c + bw B) := by
    intro d hd h
    rcases (show d = 0 ∨ d = 1 ∨ d = 2 ∨ d = 3 by omega) with rfl | rfl | rfl | rfl
    · have h' : (if bw B ≤ c then some (c - bw B) else none) = some x := h
      by_cases q : bw B ≤ c
      · rw [if_pos q] at h'
        have : c - bw B = x := Option.some.inj h'
        exact .inl ⟨rfl, by omega⟩
      · rw [if_neg q] at h'; cases h'
    · have h' : (if c % bw B = 0 then none else some (c - 1)) = some x := h
      by_cases q : c % bw B = 0
      · rw [if_pos q] at h'; cases h'
      · rw [if_neg q] at h'
        have : c - 1 = x := Option.some.inj h'
        have h0 : ¬ c = 0 := fun e => q (by rw [e]; exact Nat.zero_mod _)
        exact .inr (.inl ⟨rfl, by omega⟩)
    · have h' : (if (c + 1) % bw B = 0 then none else some (c + 1)) = some x := h
      by_cases q : (c + 1) % bw B = 0
      · rw [if_pos q] at h'; cases h'
      · rw [if_neg q] at h'
        have : c + 1 = x := Option.some.inj h'
        exact .inr (.inr (.inl ⟨rfl, this.symm⟩))
    · have h' : (if c + bw B < bn B then some (c + bw B) else none) = some x := h
      by_cases q : c + bw B < bn B
      · rw [if_pos q] at h'
        have : c + bw B = x := Option.some.inj h'
        exact .inr (.inr (.inr ⟨rfl, this.symm⟩))
      · rw [if_neg q] at h'; cases h'
  rcases key d hd h1 with k | k | k | k <;> rcases key e he h2 with l | l | l | l <;> omega
theorem nb_sym {B : bT} {c x d : Nat} (hc : c < bn B) (hd : d < 4) (h : nb B c d = some x) : nb B x (3 - d) = some c := by
  rcases (show d = 0 ∨ d = 1 ∨ d = 2 ∨ d = 3 by omega) with rfl | rfl | rfl | rfl
  · have h' : (if bw B ≤ c then some (c - bw B) else none) = some x := h
    by_cases q : bw B ≤ c
    · rw [if_pos q] at h'
      have : c - bw B = x := Option.some.inj h'
      show (if x + bw B < bn B then some (x + bw B) else none) = some c
      rw [show x + bw B = c by omega, if_pos hc]
    · rw [if_neg q] at h'; cases h'
  · have h' : (if c % bw B = 0 then none else some (c - 1)) = some x := h
    by_cases q : c % bw B = 0
    · rw [if_pos q] at h'; cases h'
    · rw [if_neg q] at h'
      have : c - 1 = x := Option.some.inj h'
      have h0 : ¬ c = 0 := fun e => q (by rw [e]; exact Nat.zero_mod _)
      show (if (x + 1) % bw B = 0 then none else some (x + 1)) = some c
      rw [show x + 1 = c by omega, if_neg q]
  · have h' : (if (c + 1) % bw B = 0 then none else some (c + 1)) = some x := h
    by_cases q : (c + 1) % bw B = 0
    · rw [if_pos q] at h'; cases h'
    · rw [if_neg q] at h'
      have : c + 1 = x := Option.some.inj h'
      show (if x % bw B = 0 then none else some (x - 1)) = some c
      rw [← this, if_neg q]
      rfl
  · have h' : (if c + bw B < bn B then some (c + bw B) else none) = some x := h
    by_cases q : c + bw B < bn B
    · rw [if_pos q] at h'
      have : c + bw B = x := Option.some.inj h'
      show (if bw B ≤ x then some (x - bw B) else none) = some c
      rw [if_pos (by omega), show x - bw B = c by omega]
    · rw [if_neg q] at h'; cases h'
/-- what goesOn (85) and comesBy (86) hold of a flow -/
def rF (B : bT) (X : ixX) (b e : Nat → Bool) (a : Nat → Nat → Bool) (t : Nat → Bool) : Prop := ∀ c, c < bn B → (t c = false → X.1 85 c = -6 ∧ X.1 86 c = -6) ∧ (b c = true → X.1 86 c = 4) ∧ (e c = true → X.1 85 c = 4) ∧ ∀ d x, d < 4 → nb B c d = some x → a c x = true → X.1 85 c = nI d ∧ X.1 86 x = nI (3 - d)
theorem sm_pos {f : Nat → Nat} : ∀ {n : Nat}, 0 < fb_sm f n → ∃ i, i < n ∧ 0 < f i
  | 0, h => absurd h (Nat.not_lt_zero _)
  | n + 1, h => by
    rw [fb_sm_succ] at h
    rcases Nat.eq_zero_or_pos (f n) with z | z
    · obtain ⟨i, hi, h2⟩ := sm_pos (f := f) (n := n) (by omega)
      exact ⟨i, by omega, h2⟩
    · exact ⟨n, by omega, z⟩
theorem bNt_pos {b : Bool} (h : 0 < bNt b) : b = true := by
  cases b with
  | true => rfl
  | false => exact absurd h (by decide)
theorem DF_out {n : Nat} {b e : Nat → Bool} {a : Nat → Nat → Bool} {t : Nat → Bool} {v : Nat} (hv : 128 ≤ v) (hn : n ≤ 64) (h : DF n b e a t v) {c : Nat} (hc : c < n) (ht : t c = true) : (e c = true ∨ ∃ x, x < n ∧ a c x = true) ∧ (b c = true ∨ ∃ x, x < n ∧ a x c = true) := by
  obtain ⟨h1, h2⟩ := h c hc
  rw [bNt_dec_f (show ¬ v = c by omega), ht, bNt_t] at h1
  rw [bNt_dec_f (show ¬ v = 64 + c by omega), ht, bNt_t] at h2
  constructor
  · cases q : e c with
    | true => exact .inl rfl
    | false =>
      rw [q, bNt_f] at h2
      obtain ⟨x, hx, hp⟩ := sm_pos (f := fun x => bNt (a c x)) (n := n) (by omega)
      exact .inr ⟨x, hx, bNt_pos hp⟩
  · cases q : b c with
    | true => exact .inl rfl
    | false =>
      rw [q, bNt_f] at h1
      obtain ⟨x, hx, hp⟩ := sm_pos (f := fun x => bNt (a x c)) (n := n) (by omega)
      exact .inr ⟨x, hx, bNt_pos hp⟩
theorem DF_one2 {n : Nat} {b e : Nat → Bool} {a : Nat → Nat → Bool} {t : Nat → Bool} {v : Nat} (hv : 128 ≤ v) (hn : n ≤ 64) (h : DF n b e a t v) {c d d2 : Nat} (hc : c < n) (hd : d < n) (hd2 : d2 < n) (ha : a d c = true) (hb : a d2 c = true) : d = d2 := by
  have h2 := (h c hc).1
  rw [bNt_dec_f (show ¬ v = c by omega)] at h2
  have l1 := bNt_le (t c)
  rcases Nat.lt_trichotomy d d2 with q | q | q
  · have p := sm_two (f := fun x => bNt (a x c)) q hd2
    simp only [ha, hb, bNt_t] at p
    omega
  · exact q
  · have p := sm_two (f := fun x => bNt (a x c)) q hd
    simp only [ha, hb, bNt_t] at p
    omega
theorem rF_cm {B : bT} (hs : bS B) {O S T : Nat → Bool} {X : ixX} {b e : Nat → Bool} {a : Nat → Nat → Bool} {t : Nat → Bool} (hf : Flo (bn B) O S T (adjB B) b e a t) (h : rF B X b e a t) {c : Nat} (hc : c < bn B) : (t c = false ∧ X.1 86 c = -6) ∨ (b c = true ∧ X.1 86 c = 4) ∨ ∃ d x, d < 4 ∧ nb B c d = some x ∧ x < bn B ∧ a x c = true ∧ X.1 86 c = nI d := by
  have h64 := bS_64 hs
  cases ht : t c with
  | false => exact .inl ⟨rfl, ((h c hc).1 ht).2⟩
  | true =>
    refine .inr ?_
    rcases (DF_out (by omega) h64 hf.1 hc ht).2 with hb | ⟨x, hx, ha⟩
    · exact .inl ⟨hb, (h c hc).2.1 hb⟩
    · refine .inr ?_
      obtain ⟨d, hd, hn⟩ := (nb_iff hs hx hc).mp (hf.2.2.2.1 x c hx hc ha).2.2
      have h2 := (h x hx).2.2.2 d c hd hn ha
      exact ⟨3 - d, x, by omega, nb_sym hx hd hn, hx, ha, h2.2⟩
theorem rF_go {B : bT} (hs : bS B) {O S T : Nat → Bool} {X : ixX} {b e : Nat → Bool} {a : Nat → Nat → Bool} {t : Nat → Bool} (hf : Flo (bn B) O S T (adjB B) b e a t) (h : rF B X b e a t) {c : Nat} (hc : c < bn B) : (t c = false ∧ X.1 85 c = -6) ∨ (e c = true ∧ X.1 85 c = 4) ∨ ∃ d x, d < 4 ∧ nb B c d = some x ∧ x < bn B ∧ a c x = true ∧ X.1 85 c = nI d := by
  have h64 := bS_64 hs
  cases ht : t c with
  | false => exact .inl ⟨rfl, ((h c hc).1 ht).1⟩
  | true =>
    refine .inr ?_
    rcases (DF_out (by omega) h64 hf.1 hc ht).1 with hb | ⟨x, hx, ha⟩
    · exact .inl ⟨hb, (h c hc).2.2.1 hb⟩
    · refine .inr ?_
      obtain ⟨d, hd, hn⟩ := (nb_iff hs hc hx).mp (hf.2.2.2.1 c x hc hx ha).2.2
      exact ⟨d, x, hd, hn, hx, ha, ((h c hc).2.2.2 d x hd hn ha).1⟩
/-- from a node to the next -/
def rsd (B : bT) (O : Nat → Bool) (a : Nat → Nat → Bool) (t : Nat → Bool) (u v : Nat) : Prop := ∃ c x, c < bn B ∧ x < bn B ∧ ((u = c ∧ v = 64 + c ∧ t c = false) ∨ (u = c ∧ v = 64 + x ∧ a x c = true) ∨ (u = 64 + c ∧ v = x ∧ adjB B c x = true ∧ O x = true ∧ a c x = false) ∨ (u = 64 + c ∧ v = c ∧ t c = true))
def ndOK (B : bT) (v : Nat) : Prop := v < bn B ∨ (64 ≤ v ∧ v < 64 + bn B)
def bq (B : bT) (O S : Nat → Bool) (a : Nat → Nat → Bool) (t : Nat → Bool) (X : ixX) (ns : List Nat) : Prop := X.1 75 14 = nI ns.length ∧ (∀ i, i < ns.length → X.1 84 i = nI (ns.getD i 0)) ∧ ns.Nodup ∧ (∀ v, v ∈ ns → ndOK B v) ∧ (∀ v, v < 128 → ¬ v ∈ ns → X.1 87 v = -6) ∧ (∀ i, i < ns.length → (X.1 87 (ns.getD i 0) = nI 200 ∧ ns.getD i 0 < bn B ∧ S (ns.getD i 0) = true) ∨ ∃ j, j < i ∧ X.1 87 (ns.getD i 0) = nI (ns.getD j 0) ∧ rsd B O a t (ns.getD j 0) (ns.getD i 0))
theorem ndOK_lt {B : bT} (hs : bS B) {v : Nat} (h : ndOK B v) : v < 128 := by
  have := bS_64 hs
  rcases h with h | h <;> omega
theorem bq_len {B : bT} (hs : bS B) {O S : Nat → Bool} {a : Nat → Nat → Bool} {t : Nat → Bool} {X : ixX} {ns : List Nat} (h : bq B O S a t X ns) : ns.length ≤ 128 := nd_len h.2.2.1 (fun v hv => ndOK_lt hs (h.2.2.2.1 v hv))
theorem bq_ne {B : bT} (hs : bS B) {O S : Nat → Bool} {a : Nat → Nat → Bool} {t : Nat → Bool} {X : ixX} {ns : List Nat} (h : bq B O S a t X ns) {v : Nat} (hv : v ∈ ns) : ∃ p, p < 201 ∧ X.1 87 v = nI p := by
  obtain ⟨i, hi, rfl⟩ := mem_gd ns v hv
  rcases h.2.2.2.2.2 i hi with ⟨h1, _⟩ | ⟨j, hj, h1, _⟩
  · exact ⟨200, by omega, h1⟩
  · have := ndOK_lt hs (h.2.2.2.1 _ (gd_mem ns j (by omega)))
    exact ⟨_, by omega, h1⟩
theorem m6_ne {p : Nat} (hp : p < 2147483648) : ¬ nI p = -6 := fun e => nI_pos hp (by rw [e]; decide)
theorem bq_iff {B : bT} (hs : bS B) {O S : Nat → Bool} {a : Nat → Nat → Bool} {t : Nat → Bool} {X : ixX} {ns : List Nat} (h : bq B O S a t X ns) {v : Nat} (hv : v < 128) : X.1 87 v = -6 ↔ ¬ v ∈ ns := by
  constructor
  · intro e hm
    obtain ⟨p, hp, e2⟩ := bq_ne hs h hm
    exact m6_ne (show p < 2147483648 by omega) (e2.symm.trans e)
  · exact h.2.2.2.2.1 v hv
theorem M_reach {c : ixK} {X : ixX} {B : bT} (hs : bS B) {O S : Nat → Bool} {a : Nat → Nat → Bool} {t : Nat → Bool} {ns : List Nat} (h : bq B O S a t X ns) {v p : Nat} (hv : ndOK B v) (hpar : (p = 200 ∧ v < bn B ∧ S v = true) ∨ ∃ j, j < ns.length ∧ p = ns.getD j 0 ∧ rsd B O a t p v) : ∃ X' z, ix_M mMo_reach [.ref 75, .int (nI v), .int (nI p)] (hp c X) = some ([], hp c X') ∧ bq B O S a t X' (ns ++ z) ∧ v ∈ ns ++ z ∧ eX [75, 84, 87] X X' ∧ (∀ k, ¬ k = 14 → X'.1 75 k = X.1 75 k) := by
  have hv128 := ndOK_lt hs hv
  have hlen := bq_len hs h
  by_cases hm : v ∈ ns
  · refine ⟨X, [], x_Mo_reach (rc_75 c X) ?_, by rw [List.append_nil]; exact h, by rw [List.append_nil]; exact hm, eX_refl _ _, fun _ _ => rfl⟩
    rw [e_Mo_reach, bO (g75_11 c X), bO (r87 hv128), if_pos (fun e => (bq_iff hs h hv128).mp e hm)]
  · have hnd : (ns ++ [v]).Nodup := by
      refine gd_nd _ (fun i j hij hj => ?_)
      rw [List.length_append] at hj
      have hj2 : j < ns.length + 1 := hj
      rw [gd_app_l ns [v] i (by omega)]
      rcases Nat.lt_or_ge j ns.length with q | q
      · rw [gd_app_l ns [v] j q]
        exact nd_gd ns h.2.2.1 i j hij q
      · have e : j = ns.length + 0 := by omega
        rw [e, gd_app_r]
        intro e2
        have e3 : ns.getD i 0 = v := e2
        exact hm (by rw [← e3]; exact gd_mem ns i (by omega))
    have hok : ∀ w, w ∈ ns ++ [v] → ndOK B w := by
      intro w hw
      rcases List.mem_append.mp hw with q | q
      · exact h.2.2.2.1 w q
      · rw [List.mem_singleton.mp q]; exact hv
    have hlen2 := nd_len hnd (fun w hw => ndOK_lt hs (hok w hw))
    rw [List.length_append] at hlen2
    have hlen3 : ns.length + 1 ≤ 128 := hlen2
    have e6 := (bq_iff hs h hv128).mpr hm
    refine ⟨_, [v], x_Mo_reach (rc_75 c X) (by rw [e_Mo_reach, bO (g75_11 c X), bO (r87 hv128), if_neg (by rw [e6]; simp), bO (g75_11 c X), bO (s87 hv128), bO (g75_8 c _), bO (g75_14 c _), aI_o (by omega), h.1, bO (s84 (show ns.length < 128 by omega)), bO (g75_14 c _), bO (p75_14 c _ _)]), ⟨?_, ?_, hnd, hok, ?_, ?_⟩, ?_, ?_, ?_⟩
    · rw [aI_1, upd_1, aI_o (by omega), aI_o (by omega), h.1, nI_1, List.length_append]
      rfl
    · intro i hi
      rw [List.length_append] at hi
      have hi2 : i < ns.length + 1 := hi
      rw [aI_o (by omega), aI_1, aI_o (by omega)]
      rcases Nat.lt_or_ge i ns.length with q | q
      · rw [upd_n _ _ (by omega), gd_app_l ns [v] i q]
        exact h.2.1 i q
      · have e : i = ns.length := by omega
        rw [e, upd_1]
        exact congrArg nI (gd_app_r ns [v] 0).symm
    · intro w hw hn
      have hwv : ¬ w = v := fun e => hn (by rw [e]; exact List.mem_append.mpr (.inr (List.mem_singleton.mpr rfl)))
      rw [aI_o (by omega), aI_o (by omega), aI_1, upd_n _ _ hwv]
      exact h.2.2.2.2.1 w hw (fun q => hn (List.mem_append.mpr (.inl q)))
    · intro i hi
      rw [List.length_append] at hi
      have hi2 : i < ns.length + 1 := hi
      rw [aI_o (by omega), aI_o (by omega), aI_1]
      rcases Nat.lt_or_ge i ns.length with q | q
      · rw [gd_app_l ns [v] i q, upd_n _ _ (fun e => hm (by rw [← e]; exact gd_mem ns i q))]
        rcases h.2.2.2.2.2 i q with h1 | ⟨j, hj, h1⟩
        · exact .inl h1
        · exact .inr ⟨j, hj, by rw [gd_app_l ns [v] j (by omega)]; exact h1⟩
      · have e : i = ns.length + 0 := by omega
        rw [e, gd_app_r]
        show (upd (X.1 87) v (nI p) v = _ ∧ _) ∨ ∃ j, j < ns.length + 0 ∧ upd (X.1 87) v (nI p) v = _ ∧ rsd B O a t _ v
        rw [upd_1]
        rcases hpar with ⟨h1, h2, h3⟩ | ⟨j, hj, h1, h2⟩
        · exact .inl ⟨by rw [h1], h2, h3⟩
        · refine .inr ⟨j, by omega, ?_, ?_⟩
          · rw [gd_app_l ns [v] j hj, h1]
          · rw [gd_app_l ns [v] j hj, ← h1]; exact h2
    · exact List.mem_append.mpr (.inr (List.mem_singleton.mpr rfl))
    · exact eX_aI (eX_aI (eX_aI (eX_refl _ _) (by decide)) (by decide)) (by decide)
    · intro k hk
      rw [aI_1, upd_n _ _ hk, aI_o (by omega), aI_o (by omega)]
theorem M_reachIn {c : ixK} {X : ixX} {B : bT} (hs : bS B) (hA : rBd (X.1 76) B) {O S T : Nat → Bool} {b e : Nat → Bool} {a : Nat → Nat → Bool} {t : Nat → Bool} {ns : List Nat} (hf : Flo (bn B) O S T (adjB B) b e a t) (hr : rF B X b e a t) (h : bq B O S a t X ns) {k x : Nat} (hk : k < ns.length) (hx : ns.getD k 0 = x) (hxn : x < bn B) : ∃ X' z, ix_M mMo_reachIn [.ref 75, .int (nI x)] (hp c X) = some ([], hp c X') ∧ bq B O S a t X' (ns ++ z) ∧ (t x = false → 64 + x ∈ ns ++ z) ∧ (∀ y, y < bn B → a y x = true → 64 + y ∈ ns ++ z) ∧ eX [75, 84, 87] X X' ∧ (∀ k, ¬ k = 14 → X'.1 75 k = X.1 75 k) := by
  have h64 := bS_64 hs
  rcases rF_cm hs hf hr hxn with ⟨ht, hc⟩ | ⟨hb, hc⟩ | ⟨d, y, hd, hn, hy, ha, hc⟩
  · obtain ⟨X', z, e1, e2, e3, e4, e5⟩ := M_reach (c := c) hs h (v := 64 + x) (p := x) (.inr ⟨by omega, by omega⟩) (.inr ⟨k, hk, hx.symm, x, x, hxn, hxn, .inl ⟨rfl, rfl, ht⟩⟩)
    refine ⟨X', z, x_Mo_reachIn (rc_75 c X) ?_, e2, fun _ => e3, fun y hy ha => ?_, e4, e5⟩
    · rw [e_Mo_reachIn, bO (g75_10 c X), bO (r86 (by omega)), hc, if_neg (by decide), show (64 : Int32) + nI x = nI (64 + x) from nI_add 64 x, kV_of e1]
    · have := (DF_arc (by omega) h64 hf.1 hy hxn ha).2.1
      rw [ht] at this; cases this
  · refine ⟨X, [], x_Mo_reachIn (rc_75 c X) ?_, by rw [List.append_nil]; exact h, fun ht => ?_, fun y hy ha => ?_, eX_refl _ _, fun _ _ => rfl⟩
    · rw [e_Mo_reachIn, bO (g75_10 c X), bO (r86 (by omega)), hc, if_pos (by decide), bO (g75_10 c X), bO (r86 (by omega)), hc, if_pos (by decide)]
    · exfalso
      have := (hf.1 x hxn).1
      rw [hb, ht, bNt_t, bNt_f] at this
      omega
    · have := (DF_arc (by omega) h64 hf.1 hy hxn ha).2.2.2
      rw [hb] at this; cases this
  · obtain ⟨X', z, e1, e2, e3, e4, e5⟩ := M_reach (c := c) hs h (v := 64 + y) (p := x) (.inr ⟨by omega, by omega⟩) (.inr ⟨k, hk, hx.symm, x, y, hxn, hy, .inr (.inl ⟨rfl, rfl, ha⟩)⟩)
    refine ⟨X', z, x_Mo_reachIn (rc_75 c X) ?_, e2, fun ht => ?_, fun y2 hy2 ha2 => ?_, e4, e5⟩
    · have e4' : ¬ (4 : Int32) ≤ nI d := by
        show ¬ nI 4 ≤ nI d
        rw [nI_leI (by omega) (by omega)]
        omega
      have eb := M_beside (c := c) hs hA hxn hd
      rw [hn] at eb
      have eb' : ix_M mMo_beside [.ref 75, .int (nI x), .int (nI d)] (hp c X) = some ([.int (nI y)], hp c X) := eb
      rw [e_Mo_reachIn, bO (g75_10 c X), bO (r86 (by omega)), hc, if_pos (m6_ne (by omega)), bO (g75_10 c X), bO (r86 (by omega)), hc, if_neg e4', bO (g75_10 c X), bO (r86 (by omega)), hc, kI_of eb', show (64 : Int32) + nI y = nI (64 + y) from nI_add 64 y, kV_of e1]
    · exfalso
      have := (DF_arc (by omega) h64 hf.1 hy hxn ha).2.1
      rw [ht] at this; cases this
    · have := DF_one2 (by omega) h64 hf.1 hxn hy hy2 ha ha2
      rw [← this]; exact e3
theorem M_reachOut {c : ixK} {X : ixX} {B : bT} (hs : bS B) (hA : rBd (X.1 76) B) {S T : Nat → Bool} {b e : Nat → Bool} {a : Nat → Nat → Bool} {t : Nat → Bool} {ns : List Nat} (hf : Flo (bn B) (bop B) S T (adjB B) b e a t) (hr : rF B X b e a t) (h : bq B (bop B) S a t X ns) {k x : Nat} (hk : k < ns.length) (hx : ns.getD k 0 = 64 + x) (hxn : x < bn B) : ∃ X' z, ix_M mMo_reachOut [.ref 75, .int (nI x)] (hp c X) = some ([], hp c X') ∧ bq B (bop B) S a t X' (ns ++ z) ∧ (t x = true → x ∈ ns ++ z) ∧ (∀ y, y < bn B → bop B y = true → adjB B x y = true → a x y = false → y ∈ ns ++ z) ∧ eX [75, 84, 87] X X' ∧ (∀ k, ¬ k = 14 → X'.1 75 k = X.1 75 k) := by
  have h64 := bS_64 hs
  obtain ⟨X1, e1, z, q1, q2, q3, q4⟩ := lp_up (fun d (Y : ixX) => l_Mo_reachOut_2 75 (nI x) (nI d) (hp c Y)) (fun d Y => ∃ z, bq B (bop B) S a t Y (ns ++ z) ∧ (∀ d' y, d' < d → nb B x d' = some y → bop B y = true → a x y = false → y ∈ ns ++ z) ∧ eX [75, 84, 87] X Y ∧ (∀ k, ¬ k = 14 → Y.1 75 k = X.1 75 k)) (N := 4) (fun d Y hd hY => by
    obtain ⟨z, q1, q2, q3, q4⟩ := hY
    have hA' : rBd (Y.1 76) B := by rw [q3.2 76 (by decide)]; exact hA
    have e4' : ¬ (4 : Int32) ≤ nI d := by
      show ¬ nI 4 ≤ nI d
      rw [nI_leI (by omega) (by omega)]
      omega
    show ∃ s', l_Mo_reachOut_2 75 (nI x) (nI d) (hp c Y) = l_Mo_reachOut_2 75 (nI x) (nI (d + 1)) (hp c s') ∧ _
    rw [e_Mo_reachOut_2, if_neg e4', kZ_of (M_isOpenBeside hs hA' hxn hd), nI_1]
    cases hq : nbo B x d with
    | false =>
      rw [if_neg (by decide)]
      refine ⟨Y, rfl, z, q1, ?_, q3, q4⟩
      intro d' y hd' hn hO ha
      by_cases ed : d' = d
      · exfalso
        rw [ed] at hn
        unfold nbo at hq
        rw [hn] at hq
        have hq' : bop B y = false := hq
        rw [hO] at hq'; cases hq'
      · exact q2 d' y (by omega) hn hO ha
    | true =>
      obtain ⟨y, hn, hO⟩ : ∃ y, nb B x d = some y ∧ bop B y = true := by
        unfold nbo at hq
        cases hn : nb B x d with
        | none => rw [hn] at hq; cases hq
        | some y => rw [hn] at hq; exact ⟨y, rfl, hq⟩
      have hy := nb_lt hs hxn hn
      rw [if_pos rfl, bO (g75_9 c Y), bO (r85 (by omega)), q3.2 85 (by decide)]
      by_cases hg : X.1 85 x = nI d
      · rw [if_pos hg]
        refine ⟨Y, rfl, z, q1, ?_, q3, q4⟩
        intro d' y' hd' hn' hO' ha'
        by_cases ed : d' = d
        · exfalso
          rw [ed, hn] at hn'
          have : y = y' := Option.some.inj hn'
          rw [← this] at ha'
          rcases rF_go hs hf hr hxn with ⟨_, g1⟩ | ⟨_, g1⟩ | ⟨d2, y2, hd2, g1, g2, g3, g4⟩
          · exact m6_ne (show d < 2147483648 by omega) (hg.symm.trans g1)
          · have g2 : nI d = nI 4 := hg.symm.trans g1
            rw [nI_eq (by omega) (by omega)] at g2
            omega
          · have g5 := hg.symm.trans g4
            rw [nI_eq (by omega) (by omega)] at g5
            rw [← g5, hn] at g1
            have : y = y2 := Option.some.inj g1
            rw [← this, ha'] at g3
            cases g3
        · exact q2 d' y' (by omega) hn' hO' ha'
      · rw [if_neg hg]
        have ha : a x y = false := by
          cases za : a x y with
          | false => rfl
          | true => exact absurd ((hr x hxn).2.2.2 d y hd hn za).1 hg
        have eb := M_beside (c := c) hs hA' hxn hd
        rw [hn] at eb
        have eb' : ix_M mMo_beside [.ref 75, .int (nI x), .int (nI d)] (hp c Y) = some ([.int (nI y)], hp c Y) := eb
        obtain ⟨Z, z2, f1, f2, f3, f4, f5⟩ := M_reach (c := c) hs q1 (v := y) (p := 64 + x) (.inl hy) (.inr ⟨k, by rw [List.length_append]; omega, by rw [gd_app_l ns z k hk, hx], x, y, hxn, hy, .inr (.inr (.inl ⟨rfl, rfl, (nb_iff hs hxn hy).mpr ⟨d, hd, hn⟩, hO, ha⟩))⟩)
        rw [List.append_assoc] at f2 f3
        rw [kI_of eb', show (64 : Int32) + nI x = nI (64 + x) from nI_add 64 x, kV_of f1]
        refine ⟨Z, rfl, z ++ z2, f2, ?_, eX_trans q3 f4, fun k hk => (f5 k hk).trans (q4 k hk)⟩
        intro d' y' hd' hn' hO' ha'
        by_cases ed : d' = d
        · rw [ed, hn] at hn'
          have : y = y' := Option.some.inj hn'
          rw [← this]; exact f3
        · have := q2 d' y' (by omega) hn' hO' ha'
          rw [← List.append_assoc]
          exact List.mem_append.mpr (.inl this)) (k := 0) (s := X) (by omega) ⟨[], by rw [List.append_nil]; exact h, fun d' y hd' => absurd hd' (Nat.not_lt_zero d'), eX_refl _ _, fun _ _ => rfl⟩
  have e1' : l_Mo_reachOut_2 75 (nI x) 0 (hp c X) = l_Mo_reachOut_2 75 (nI x) (nI 4) (hp c X1) := e1
  have hnb : ∀ y, y < bn B → bop B y = true → adjB B x y = true → a x y = false → y ∈ ns ++ z := by
    intro y hy hO hadj ha
    obtain ⟨d, hd, hn⟩ := (nb_iff hs hxn hy).mp hadj
    exact q2 d y hd hn hO ha
  have hc1 : X1.1 86 x = X.1 86 x := by rw [q3.2 86 (by decide)]
  cases ht : t x with
  | false =>
    refine ⟨X1, z, x_Mo_reachOut (rc_75 c X) ?_, q1, fun q => (by cases q), hnb, q3, q4⟩
    rw [e_Mo_reachOut, e1', e_Mo_reachOut_2, if_pos (show (4 : Int32) ≤ nI 4 by decide), bO (g75_10 c X1), bO (r86 (by omega)), hc1, ((hr x hxn).1 ht).2, if_pos rfl]
  | true =>
    obtain ⟨Z, z2, f1, f2, f3, f4, f5⟩ := M_reach (c := c) hs q1 (v := x) (p := 64 + x) (.inl hxn) (.inr ⟨k, by rw [List.length_append]; omega, by rw [gd_app_l ns z k hk, hx], x, x, hxn, hxn, .inr (.inr (.inr ⟨rfl, rfl, ht⟩))⟩)
    rw [List.append_assoc] at f2 f3
    have hne : ¬ X.1 86 x = -6 := by
      rcases rF_cm hs hf hr hxn with ⟨g1, _⟩ | ⟨_, g1⟩ | ⟨d, y, hd, _, _, _, g1⟩
      · rw [ht] at g1; cases g1
      · rw [g1]; decide
      · rw [g1]; exact m6_ne (by omega)
    refine ⟨Z, z ++ z2, x_Mo_reachOut (rc_75 c X) ?_, f2, fun _ => f3, fun y hy hO hadj ha => ?_, eX_trans q3 f4, fun k hk => (f5 k hk).trans (q4 k hk)⟩
    · rw [e_Mo_reachOut, e1', e_Mo_reachOut_2, if_pos (show (4 : Int32) ≤ nI 4 by decide), bO (g75_10 c X1), bO (r86 (by omega)), hc1, if_neg hne, show (64 : Int32) + nI x = nI (64 + x) from nI_add 64 x, kV_of f1]
    · rw [← List.append_assoc]
      exact List.mem_append.mpr (.inl (hnb y hy hO hadj ha))
