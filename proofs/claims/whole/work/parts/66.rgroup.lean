/-! REFERENCE'S GROUP -/
theorem rS_eX {L : List Nat} {X Y : ixX} (h : eX L X Y) (hL : ∀ a, a ∈ L → a = 75 ∨ (79 ≤ a ∧ a < 101)) (h31 : Y.1 75 31 = X.1 75 31) : rS X Y := ⟨fun a ha => ⟨h.2 a (fun q => by have := hL a q; omega), by rw [h.1]⟩, h31⟩
def cmI (B : bT) (ml : List Nat) (i j : Nat) : Bool := eI B ml i j || eI B ml j i
theorem M_areComparable {c : ixK} {X : ixX} {B : bT} {ml : List Nat} (hl : ml.length ≤ 64) (h : pM X B ml) {i j : Nat} (hi : i < ml.length) (hj : j < ml.length) : ix_M mMo_areComparable [.ref 75, .int (nI i), .int (nI j)] (hp c X) = some ([.int (ix_bi (cmI B ml i j))], hp c X) := by
  refine x_Mo_areComparable (rc_75 c X) ?_
  rw [e_Mo_areComparable, bO (g75_21 c _), bO (x64r (by omega) (by omega)), h.2.2 i j hi hj]
  unfold cmI
  cases eI B ml i j with
  | true => rw [if_pos (by decide)]; rfl
  | false =>
    rw [if_neg (by decide), bO (g75_21 c _), bO (x64r (by omega) (by omega)), h.2.2 j i hj hi]
    cases eI B ml j i with
    | true => rw [if_neg (by decide)]; rfl
    | false => rw [if_pos (by decide)]; rfl
theorem pM_cong {X Y : ixX} {B : bT} {ml : List Nat} (h1 : Y.1 75 20 = X.1 75 20) (h2 : Y.1 92 = X.1 92) (h3 : Y.1 93 = X.1 93) (h : pM X B ml) : pM Y B ml := by
  obtain ⟨a, b, d⟩ := h
  exact ⟨h1.trans a, fun i hi => by rw [h2]; exact b i hi, fun i j hi hj => by rw [h3]; exact d i j hi hj⟩
theorem M_wholeCover {c : ixK} {X : ixX} {B : bT} (hs : bS B) (hr4 : ∀ c, brl B c < 4) (hA : rBd (X.1 76) B) : ∃ Y ml k, ix_M mMo_wholeCover [.ref 75] (hp c X) = some ([.int (nI k)], hp c Y) ∧ mLs B ml ∧ pM Y B ml ∧ isW 64 (fun i => decide (i < ml.length)) (eI B ml) k ∧ isW 64 (bro B 3) (EBh B) k ∧ k ≤ 64 ∧ rS X Y := by
  have h64 := bS_64 hs
  have hw := bS_w hs
  obtain ⟨X1, ml, e1, hml, hp1, o1, o2, o3⟩ := M_layMarked (c := c) hs hr4 hA
  have hlen := mL_len hs hml
  have r1 : rS X X1 := ⟨fun a ha => ⟨o1 a (by omega) (by omega) (by omega), o3 a (by omega)⟩, o2 31 (by omega)⟩
  obtain ⟨X2, e2, q1, q2⟩ := lp_up (fun k (Y : ixX) => l_Mo_wholeCover_6 75 (nI k) (hp c Y)) (fun k Y => eX [94] X1 Y ∧ ∀ i, i < k → Y.1 94 i = 1) (N := ml.length) (fun k Y hk hY => by
    obtain ⟨q1, q2⟩ := hY
    refine ⟨aI Y 94 (upd (Y.1 94) k (1 &&& 1)), ?_, eX_aI q1 (by decide), fun i hi => ?_⟩
    · show l_Mo_wholeCover_6 75 (nI k) (hp c Y) = l_Mo_wholeCover_6 75 (nI (k + 1)) (hp c _)
      rw [e_Mo_wholeCover_6, bO (g75_20 c _), q1.2 75 (by decide), hp1.1, if_neg (by rw [nI_leI (by omega) (by omega)]; omega), bO (g75_22 c _), bO (s94 (by omega)), nI_1]
    · rw [aI_1]
      by_cases ei : i = k
      · rw [ei, upd_1]; decide
      · rw [upd_n _ _ ei]; exact q2 i (by omega)) (k := 0) (s := X1) (by omega) ⟨eX_refl _ _, fun i hi => absurd hi (Nat.not_lt_zero i)⟩
  have e2' : l_Mo_wholeCover_6 75 0 (hp c X1) = l_Mo_wholeCover_6 75 (nI ml.length) (hp c X2) := e2
  have hpM2 : pM X2 B ml := pM_cong (by rw [q1.2 75 (by decide)]) (q1.2 92 (by decide)) (q1.2 93 (by decide)) hp1
  have hS : pSt X2 ml.length (fun i => decide (i < ml.length)) (eI B ml) := ⟨hpM2.1, fun i hi => by
    show _ = ix_bi (decide (i < ml.length))
    rw [q2 i hi, decide_eq_true hi]
    rfl, hpM2.2.2⟩
  obtain ⟨X3, k, f1, f2, f3, f4, f5⟩ := M_widest (c := c) hlen (fun x hx => of_decide_eq_true hx) (fun i j h => eI_lt hw hml h) (fun i j k h h2 => eI_tr hw h h2) hS
  have hW := W_ix hs hml (L := bro B 3) (fun i hi => by rw [decide_eq_true hi, ((hml.2.2 _).mp (gd_mem ml i hi)).2]) (fun i hi => of_decide_eq_true hi) (fun x hx => (hml.2.2 x).mpr ⟨by
    unfold bro at hx
    simp only [Bool.and_eq_true] at hx
    exact bop_lt hx.2, hx⟩) f2
  refine ⟨X3, ml, k, x_Mo_wholeCover (rc_75 c X) ?_, hml, pM_cong (f5 20 (by omega)) (f4.2 92 (by decide)) (f4.2 93 (by decide)) hpM2, f2, hW, f3, rS_trans r1 (rS_trans (rS_eX q1 (by decide) (by rw [q1.2 75 (by decide)])) (rS_eX f4 (by decide) (f5 31 (by omega))))⟩
  rw [e_Mo_wholeCover, kV_of e1, e2', e_Mo_wholeCover_6, bO (g75_20 c _), hpM2.1, if_pos (by rw [nI_leI (by omega) (by omega)]; omega), kI_of f1]
theorem M_cover {c : ixK} {X : ixX} {B : bT} (hs : bS B) (hr4 : ∀ c, brl B c < 4) (hA : rBd (X.1 76) B) : ∃ Y k, ix_M mMo_cover [.ref 75] (hp c X) = some ([.int (nI k)], hp c Y) ∧ isW 64 (bro B 3) (EBh B) k ∧ rS X Y := by
  obtain ⟨Y, ml, k, e1, _, _, _, h2, _, h3⟩ := M_wholeCover (c := c) hs hr4 hA
  exact ⟨Y, k, x_Mo_cover (rc_75 c X) (by rw [e_Mo_cover, kI_of e1]), h2, h3⟩
/-- the chosen ones -/
def pC (X : ixX) (ch : List Nat) : Prop := X.1 75 27 = nI ch.length ∧ ∀ k, k < ch.length → X.1 98 k = nI (ch.getD k 0)
def nCm (B : bT) (ml ch : List Nat) (j : Nat) : Bool := allB (fun k => !cmI B ml (ch.getD k 0) j) ch.length
theorem nCm_iff (B : bT) (ml ch : List Nat) (j : Nat) : nCm B ml ch j = true ↔ ∀ t, t ∈ ch → cmI B ml t j = false := by
  unfold nCm
  rw [allB_iff]
  constructor
  · intro h t ht
    obtain ⟨k, hk, e⟩ := mem_gd ch t ht
    have := h k hk
    rw [e, Bool.not_eq_true'] at this
    exact this
  · intro h k hk
    rw [h _ (gd_mem ch k hk)]; rfl
theorem M_lookBehind {c : ixK} {X : ixX} {B : bT} {ml ch : List Nat} (hl : ml.length ≤ 64) (h : pM X B ml) (hc : pC X ch) (hcl : ∀ t, t ∈ ch → t < ml.length) (hcn : ch.length ≤ 64) {i : Nat} (hi : i < ml.length) : ∃ Y, ix_M mMo_lookBehind [.ref 75, .int (nI i)] (hp c X) = some ([], hp c Y) ∧ eX [94] X Y ∧ ∀ j, j < ml.length → Y.1 94 j = ix_bi ((decide (i < j) && !cmI B ml i j) && nCm B ml ch j) := by
  obtain ⟨Y, e1, q1, q2⟩ := lp_up (fun k (Y : ixX) => l_Mo_lookBehind_2 75 (nI i) (nI k) (hp c Y)) (fun k Y => eX [94] X Y ∧ ∀ j, j < k → Y.1 94 j = ix_bi ((decide (i < j) && !cmI B ml i j) && nCm B ml ch j)) (N := ml.length) (fun k Y hk hY => by
    obtain ⟨q1, q2⟩ := hY
    have hY1 : pM Y B ml := pM_cong (by rw [q1.2 75 (by decide)]) (q1.2 92 (by decide)) (q1.2 93 (by decide)) h
    have hY2 : pC Y ch := ⟨by rw [q1.2 75 (by decide)]; exact hc.1, fun t ht => by rw [q1.2 98 (by decide)]; exact hc.2 t ht⟩
    have h33 : ∀ b : Bool, l_Mo_lookBehind_33 75 (nI i) (nI k) b 0 (hp c Y) = l_Mo_lookBehind_2 75 (nI i) (nI (k + 1)) (hp c (aI Y 94 (upd (Y.1 94) k (ix_bi (b && nCm B ml ch k) &&& 1)))) := by
      intro b
      have e := lp_f (fun t s => l_Mo_lookBehind_33 75 (nI i) (nI k) s (nI t) (hp c Y)) (fun t => b && allB (fun t => !cmI B ml (ch.getD t 0) k) t) (N := ch.length) (fun t ht => by
        show l_Mo_lookBehind_33 75 (nI i) (nI k) (b && allB (fun t => !cmI B ml (ch.getD t 0) k) t) (nI t) (hp c Y) = l_Mo_lookBehind_33 75 (nI i) (nI k) (b && (allB (fun t => !cmI B ml (ch.getD t 0) k) t && !cmI B ml (ch.getD t 0) k)) (nI (t + 1)) (hp c Y)
        rw [e_Mo_lookBehind_33, bO (g75_27 c _), hY2.1, if_neg (by rw [nI_leI (by omega) (by omega)]; omega)]
        cases hb : (b && allB (fun t => !cmI B ml (ch.getD t 0) k) t) with
        | false =>
          rw [if_neg (by decide), nI_1, ← Bool.and_assoc, hb]
          rfl
        | true =>
          rw [if_pos rfl, bO (g75_26 c _), bO (r98 (by omega)), hY2.2 t ht, kZ_of (M_areComparable hl hY1 (hcl _ (gd_mem ch t ht)) hk), nI_1, ← Bool.and_assoc, hb]
          cases cmI B ml (ch.getD t 0) k with
          | true => rw [if_pos rfl]; rfl
          | false => rw [if_neg (by decide)]; rfl) (k := 0) (by omega)
      have e' : l_Mo_lookBehind_33 75 (nI i) (nI k) (b && true) (nI 0) (hp c Y) = l_Mo_lookBehind_33 75 (nI i) (nI k) (b && nCm B ml ch k) (nI ch.length) (hp c Y) := e
      rw [Bool.and_true] at e'
      rw [show (0 : Int32) = nI 0 from rfl, e', e_Mo_lookBehind_33, bO (g75_27 c _), hY2.1, if_pos (by rw [nI_leI (by omega) (by omega)]; omega), bO (g75_22 c _), bO (s94 (by omega)), nI_1]
    refine ⟨aI Y 94 (upd (Y.1 94) k (ix_bi ((decide (i < k) && !cmI B ml i k) && nCm B ml ch k) &&& 1)), ?_, eX_aI q1 (by decide), fun j hj => ?_⟩
    · show l_Mo_lookBehind_2 75 (nI i) (nI k) (hp c Y) = l_Mo_lookBehind_2 75 (nI i) (nI (k + 1)) (hp c _)
      rw [e_Mo_lookBehind_2, bO (g75_20 c _), hY1.1, if_neg (by rw [nI_leI (by omega) (by omega)]; omega)]
      by_cases hik : i < k
      · rw [if_neg (by rw [nI_leI (by omega) (by omega)]; omega), kZ_of (M_areComparable hl hY1 hi hk), decide_eq_true hik]
        cases cmI B ml i k with
        | true => rw [if_pos rfl]; exact h33 false
        | false => rw [if_neg (by decide)]; exact h33 true
      · rw [if_pos (by rw [nI_leI (by omega) (by omega)]; omega), decide_eq_false hik]
        exact h33 false
    · rw [aI_1]
      by_cases ej : j = k
      · rw [ej, upd_1]
        cases ((decide (i < k) && !cmI B ml i k) && nCm B ml ch k) <;> decide
      · rw [upd_n _ _ ej]; exact q2 j (by omega)) (k := 0) (s := X) (by omega) ⟨eX_refl _ _, fun j hj => absurd hj (Nat.not_lt_zero j)⟩
  have e1' : l_Mo_lookBehind_2 75 (nI i) 0 (hp c X) = l_Mo_lookBehind_2 75 (nI i) (nI ml.length) (hp c Y) := e1
  refine ⟨Y, x_Mo_lookBehind (rc_75 c X) ?_, q1, q2⟩
  rw [e_Mo_lookBehind, e1', e_Mo_lookBehind_2, bO (g75_20 c _), q1.2 75 (by decide), h.1, if_pos (by rw [nI_leI (by omega) (by omega)]; omega)]
theorem ct_list {l : List Nat} (hn : l.Nodup) (hl : ∀ x, x ∈ l → x < 64) : fb_ct (fun x => decide (x ∈ l)) 64 = l.length := by
  have hlen := nd_len hn hl
  have h1 : fb_ct (fun i => decide (i < l.length)) 64 = l.length := ct_below hlen
  have l1 := ct_inj (p := fun x => decide (x ∈ l)) (q := fun i => decide (i < l.length)) (n := 64) (fun x i => l.getD i 0 = x) (fun x _ hx => by
    obtain ⟨i, hi, e⟩ := mem_gd l x (of_decide_eq_true hx)
    exact ⟨i, by omega, decide_eq_true hi, e⟩) (fun x x' i _ _ a b => a.symm.trans b)
  have l2 := ct_inj (p := fun i => decide (i < l.length)) (q := fun x => decide (x ∈ l)) (n := 64) (fun i x => l.getD i 0 = x) (fun i _ hi => ⟨l.getD i 0, hl _ (gd_mem l i (of_decide_eq_true hi)), decide_eq_true (gd_mem l i (of_decide_eq_true hi)), rfl⟩) (fun i i' x hi hi' a b => by
    have hi := of_decide_eq_true hi
    have hi' := of_decide_eq_true hi'
    rcases Nat.lt_trichotomy i i' with q | q | q
    · exact absurd (a.trans b.symm) (nd_gd l hn i i' q hi')
    · exact q
    · exact absurd (b.trans a.symm) (nd_gd l hn i' i q hi))
  omega
/-- the greedy choice: one step -/
theorem gr_step {B : bT} (hs : bS B) {ml ch : List Nat} (hml : mLs B ml) {G : Nat → Bool} (hG : isG 64 (bro B 3) (EBh B) G) {i : Nat} (hi : i < ml.length) (hch : ch.Nodup) (hch2 : ∀ t, t ∈ ch ↔ t < i ∧ G (ml.getD t 0) = true) {kW : Nat} (hW : isW 64 (fun j => decide (j < ml.length) && ((decide (i < j) && !cmI B ml i j) && nCm B ml ch j)) (eI B ml) kW) : (G (ml.getD i 0) = true → ch.length < fb_ct G 64 ∧ nCm B ml ch i = true ∧ ch.length + 1 + kW = fb_ct G 64) ∧ (G (ml.getD i 0) = false → nCm B ml ch i = true → ¬ ch.length + 1 + kW = fb_ct G 64) := by
  have hlen := mL_len hs hml
  have hw := bS_w hs
  have hGm : ∀ x, G x = true → x ∈ ml := fun x hx => by
    have h1 := hG.1.1 x hx
    refine (hml.2.2 x).mpr ⟨?_, h1⟩
    unfold bro at h1
    simp only [Bool.and_eq_true] at h1
    exact bop_lt h1.2
  have hcl : ∀ t, t ∈ ch → t < 64 := fun t ht => by have := ((hch2 t).mp ht).1; omega
  have hcc := ct_list hch hcl
  have hGc : fb_ct (fun t => decide (t < ml.length) && G (ml.getD t 0)) 64 = fb_ct G 64 := mL_ct hs hml (fun t ht => by
    simp only [Bool.and_eq_true, decide_eq_true_eq] at ht
    exact ht.1) hGm (fun t ht => by rw [decide_eq_true ht]; rfl)
  have hGanti : ∀ t s, t < ml.length → s < ml.length → G (ml.getD t 0) = true → G (ml.getD s 0) = true → cmI B ml t s = false := by
    intro t s ht hs2 h1 h2
    unfold cmI
    cases q : eI B ml t s with
    | true =>
      have := hG.1.2 _ _ h1 h2
      rw [((eI_iff B ml t s).mp q).2.2] at this; cases this
    | false =>
      cases q2 : eI B ml s t with
      | true =>
        have := hG.1.2 _ _ h2 h1
        rw [((eI_iff B ml s t).mp q2).2.2] at this; cases this
      | false => rfl
  -- ch, i and a group behind
  have hS : ∀ W : Nat → Bool, aC (fun j => decide (j < ml.length) && ((decide (i < j) && !cmI B ml i j) && nCm B ml ch j)) (eI B ml) W → nCm B ml ch i = true → aC (fun t => decide (t < ml.length)) (eI B ml) (fun t => (decide (t ∈ ch) || decide (t = i)) || W t) ∧ fb_ct (fun t => (decide (t ∈ ch) || decide (t = i)) || W t) 64 = ch.length + 1 + fb_ct W 64 := by
    intro W hWa hci
    have hWi : ∀ t, W t = true → t < ml.length ∧ i < t ∧ cmI B ml i t = false ∧ nCm B ml ch t = true := by
      intro t ht
      have := hWa.1 t ht
      simp only [Bool.and_eq_true, decide_eq_true_eq, Bool.not_eq_true'] at this
      exact ⟨this.1, this.2.1.1, this.2.1.2, this.2.2⟩
    have cm0 : ∀ t s, cmI B ml t s = false → eI B ml t s = false ∧ eI B ml s t = false := by
      intro t s h
      unfold cmI at h
      rw [Bool.or_eq_false_iff] at h
      exact h
    refine ⟨⟨fun t ht => ?_, fun t s ht hs2 => ?_⟩, ?_⟩
    · simp only [Bool.or_eq_true, decide_eq_true_eq] at ht ⊢
      rcases ht with (ht | ht) | ht
      · have := ((hch2 t).mp ht).1; omega
      · omega
      · exact (hWi t ht).1
    · simp only [Bool.or_eq_true, decide_eq_true_eq] at ht hs2
      rcases ht with (ht | ht) | ht
      · have t1 := (hch2 t).mp ht
        rcases hs2 with (hs2 | hs2) | hs2
        · have s1 := (hch2 s).mp hs2
          exact (cm0 t s (hGanti t s (by omega) (by omega) t1.2 s1.2)).1
        · rw [hs2]
          exact (cm0 t i ((nCm_iff B ml ch i).mp hci t ht)).1
        · exact (cm0 t s ((nCm_iff B ml ch s).mp (hWi s hs2).2.2.2 t ht)).1
      · rw [ht]
        rcases hs2 with (hs2 | hs2) | hs2
        · exact (cm0 s i ((nCm_iff B ml ch i).mp hci s hs2)).2
        · rw [hs2]
          cases q : eI B ml i i with
          | false => rfl
          | true => have := (eI_lt hw hml q).1; omega
        · exact (cm0 i s (hWi s hs2).2.2.1).1
      · rcases hs2 with (hs2 | hs2) | hs2
        · exact (cm0 s t ((nCm_iff B ml ch t).mp (hWi t ht).2.2.2 s hs2)).2
        · rw [hs2]
          exact (cm0 i t (hWi t ht).2.2.1).2
        · exact hWa.2 t s ht hs2
    · have c1 : fb_ct (fun t => (decide (t ∈ ch) || decide (t = i)) || W t) 64 = fb_ct (fun t => decide (t ∈ ch) || decide (t = i)) 64 + fb_ct W 64 := fb_ct_or (p := fun t => decide (t ∈ ch) || decide (t = i)) (q := W) (fun t _ ht => by
        have h2 := (hWi t ht.2).2.1
        have h1 := ht.1
        simp only [Bool.or_eq_true, decide_eq_true_eq] at h1
        rcases h1 with h1 | h1
        · have := ((hch2 t).mp h1).1; omega
        · omega)
      have c2 : fb_ct (fun t => decide (t ∈ ch) || decide (t = i)) 64 = fb_ct (fun t => decide (t ∈ ch)) 64 + fb_ct (fun t => decide (t = i)) 64 := fb_ct_or (p := fun t => decide (t ∈ ch)) (q := fun t => decide (t = i)) (fun t _ ht => by
        have h1 := (hch2 t).mp (of_decide_eq_true ht.1)
        have h2 := of_decide_eq_true ht.2
        omega)
      have c3 : fb_ct (fun t => decide (t = i)) 64 = 1 := by
        have h0 : fb_ct (fun _ => false) 64 = 0 := fb_ct_zero.mpr fun _ _ => rfl
        have h1 := fb_ct_upd (fun _ => false) true (show i < 64 by omega)
        rw [if_neg (by decide), if_pos rfl, h0] at h1
        have h2 : fb_ct (fun t => decide (t = i)) 64 = fb_ct (fun k => if k = i then true else false) 64 := fb_ct_cong fun t _ => by
          by_cases et : t = i
          · rw [if_pos et, decide_eq_true et]
          · rw [if_neg et, decide_eq_false et]
        omega
      omega
  obtain ⟨⟨W, hWa, hWc⟩, hWm⟩ := hW
  constructor
  · intro hGi
    have hci : nCm B ml ch i = true := (nCm_iff B ml ch i).mpr (fun t ht => by
      have t1 := (hch2 t).mp ht
      exact hGanti t i (by omega) hi t1.2 hGi)
    have hup : ch.length + 1 + kW ≤ fb_ct G 64 := by
      have s := hS W hWa hci
      have t := toC_aC hs hml (L := bro B 3) (L' := fun t => decide (t < ml.length)) (fun t ht _ => ((hml.2.2 _).mp (gd_mem ml t ht)).2) (fun t ht => of_decide_eq_true ht) s.1
      have := hG.2.1.2 _ t.1
      omega
    have hlo : fb_ct G 64 ≤ ch.length + 1 + kW := by
      have a1 : aC (fun j => decide (j < ml.length) && ((decide (i < j) && !cmI B ml i j) && nCm B ml ch j)) (eI B ml) (fun j => decide (j < ml.length) && (decide (i < j) && G (ml.getD j 0))) := by
        refine ⟨fun j hj => ?_, fun j j' hj hj' => ?_⟩
        · simp only [Bool.and_eq_true, decide_eq_true_eq] at hj
          simp only [Bool.and_eq_true, decide_eq_true_eq, Bool.not_eq_true']
          refine ⟨hj.1, ⟨hj.2.1, hGanti i j hi hj.1 hGi hj.2.2⟩, (nCm_iff B ml ch j).mpr (fun t ht => ?_)⟩
          have t1 := (hch2 t).mp ht
          exact hGanti t j (by omega) hj.1 t1.2 hj.2.2
        · simp only [Bool.and_eq_true, decide_eq_true_eq] at hj hj'
          have := hGanti j j' hj.1 hj'.1 hj.2.2 hj'.2.2
          unfold cmI at this
          rw [Bool.or_eq_false_iff] at this
          exact this.1
      have b1 := hWm _ a1
      have b2 : fb_ct (fun t => decide (t < ml.length) && G (ml.getD t 0)) 64 ≤ fb_ct (fun t => (decide (t ∈ ch) || decide (t = i)) || (decide (t < ml.length) && (decide (i < t) && G (ml.getD t 0)))) 64 := fb_ct_sub fun t _ ht => by
        simp only [Bool.and_eq_true, Bool.or_eq_true, decide_eq_true_eq] at ht ⊢
        rcases Nat.lt_trichotomy t i with q | q | q
        · exact .inl (.inl ((hch2 t).mpr ⟨q, ht.2⟩))
        · exact .inl (.inr q)
        · exact .inr ⟨ht.1, q, ht.2⟩
      have b3 := (hS _ a1 hci).2
      omega
    exact ⟨by omega, hci, by omega⟩
  · intro hGi hci he
    have s := hS W hWa hci
    have t := toC_aC hs hml (L := bro B 3) (L' := fun t => decide (t < ml.length)) (fun t ht _ => ((hml.2.2 _).mp (gd_mem ml t ht)).2) (fun t ht => of_decide_eq_true ht) s.1
    obtain ⟨g, hg1, hg2⟩ := hG.2.2 _ t.1 (by omega) (ml.getD i 0) (by
      rw [toC_gd hs hml _ hi]
      simp) hGi
    obtain ⟨u, hu, eu⟩ := mem_gd ml g (hGm g hg1)
    rw [← eu] at hg1 hg2
    have hui := (mL_lt hml hu hi).mp (EBh_lt hw hg2)
    have huc := (hch2 u).mpr ⟨hui, hg1⟩
    have := (nCm_iff B ml ch i).mp hci u huc
    unfold cmI at this
    rw [(eI_iff B ml u i).mpr ⟨hu, hi, hg2⟩] at this
    cases this
theorem M_layGroup {c : ixK} {X : ixX} {B : bT} (hs : bS B) (hr4 : ∀ c, brl B c < 4) (hA : rBd (X.1 76) B) {G : Nat → Bool} (hG : isG 64 (bro B 3) (EBh B) G) : ∃ Y ml ch, ix_M mMo_layGroup [.ref 75] (hp c X) = some ([], hp c Y) ∧ mLs B ml ∧ pM Y B ml ∧ pC Y ch ∧ ch.Nodup ∧ (∀ i j, i < j → j < ch.length → ch.getD i 0 < ch.getD j 0) ∧ (∀ t, t ∈ ch ↔ t < ml.length ∧ G (ml.getD t 0) = true) ∧ rS X Y := by
  have h64 := bS_64 hs
  have hw := bS_w hs
  obtain ⟨X1, ml, k0, e1, hml, hpm, hw1, hw2, hk0, hr1⟩ := M_wholeCover (c := c) hs hr4 hA
  have hlen := mL_len hs hml
  have hall : k0 = fb_ct G 64 := isW_eq hw2 hG.2.1
  obtain ⟨X2, hX2⟩ : ∃ Y, Y = aI X1 75 (upd (X1.1 75) 27 0) := ⟨_, rfl⟩
  obtain ⟨⟨X3, ch⟩, e3, p1, p2, p3, p4, p5, p6⟩ := lp_up (fun k (s : ixX × List Nat) => l_Mo_layGroup_12 75 (nI k0) (nI k) (hp c s.1)) (fun k s => pM s.1 B ml ∧ pC s.1 s.2 ∧ s.2.Nodup ∧ (∀ i j, i < j → j < s.2.length → s.2.getD i 0 < s.2.getD j 0) ∧ (∀ t, t ∈ s.2 ↔ t < k ∧ G (ml.getD t 0) = true) ∧ rS X s.1) (N := ml.length) (fun k s hk hP => by
    obtain ⟨p1, p2, p3, p4, p5, p6⟩ := hP
    have hcl : ∀ t, t ∈ s.2 → t < ml.length := fun t ht => by have := ((p5 t).mp ht).1; omega
    have hcn : s.2.length ≤ 64 := Nat.le_trans (nd_len p3 hcl) hlen
    obtain ⟨Y, f1, f2, f3⟩ := M_lookBehind (c := c) hlen p1 p2 hcl hcn hk
    have hpmY : pM Y B ml := pM_cong (by rw [f2.2 75 (by decide)]) (f2.2 92 (by decide)) (f2.2 93 (by decide)) p1
    have hSt : pSt Y ml.length (fun j => decide (j < ml.length) && ((decide (k < j) && !cmI B ml k j) && nCm B ml s.2 j)) (eI B ml) := ⟨hpmY.1, fun j hj => by
      show _ = ix_bi (decide (j < ml.length) && ((decide (k < j) && !cmI B ml k j) && nCm B ml s.2 j))
      rw [f3 j hj, decide_eq_true hj]
      rfl, hpmY.2.2⟩
    obtain ⟨Z, kW, g1, g2, g3, g4, g5⟩ := M_widest (c := c) hlen (fun x hx => by
      simp only [Bool.and_eq_true, decide_eq_true_eq] at hx
      exact hx.1) (fun i j h => eI_lt hw hml h) (fun i j k h h2 => eI_tr hw h h2) hSt
    have hgr := gr_step hs hml hG hk p3 p5 g2
    have hrZ : rS X Z := rS_trans p6 (rS_trans (rS_eX f2 (by decide) (by rw [f2.2 75 (by decide)])) (rS_eX g4 (by decide) (g5 31 (by omega))))
    have hpmZ : pM Z B ml := pM_cong (g5 20 (by omega)) (g4.2 92 (by decide)) (g4.2 93 (by decide)) hpmY
    have hpcZ : pC Z s.2 := ⟨by rw [g5 27 (by omega), f2.2 75 (by decide)]; exact p2.1, fun t ht => by rw [g4.2 98 (by decide), f2.2 98 (by decide)]; exact p2.2 t ht⟩
    have hloop : ∀ b : Bool, l_Mo_layGroup_37 75 (nI k0) (nI k) b 0 (hp c s.1) = l_Mo_layGroup_37 75 (nI k0) (nI k) (b && nCm B ml s.2 k) (nI s.2.length) (hp c s.1) := by
      intro b
      have e := lp_f (fun t s' => l_Mo_layGroup_37 75 (nI k0) (nI k) s' (nI t) (hp c s.1)) (fun t => b && allB (fun t => !cmI B ml (s.2.getD t 0) k) t) (N := s.2.length) (fun t ht => by
        show l_Mo_layGroup_37 75 (nI k0) (nI k) (b && allB (fun t => !cmI B ml (s.2.getD t 0) k) t) (nI t) (hp c s.1) = l_Mo_layGroup_37 75 (nI k0) (nI k) (b && (allB (fun t => !cmI B ml (s.2.getD t 0) k) t && !cmI B ml (s.2.getD t 0) k)) (nI (t + 1)) (hp c s.1)
        rw [e_Mo_layGroup_37, bO (g75_27 c _), p2.1, if_neg (by rw [nI_leI (by omega) (by omega)]; omega)]
        cases hb : (b && allB (fun t => !cmI B ml (s.2.getD t 0) k) t) with
        | false =>
          rw [if_neg (by decide), nI_1, ← Bool.and_assoc, hb]
          rfl
        | true =>
          rw [if_pos rfl, bO (g75_26 c _), bO (r98 (by omega)), p2.2 t ht, kZ_of (M_areComparable hlen p1 (hcl _ (gd_mem s.2 t ht)) hk), nI_1 t, ← Bool.and_assoc, hb]
          cases cmI B ml (s.2.getD t 0) k with
          | true => rw [if_pos rfl]; rfl
          | false => rw [if_neg (by decide)]; rfl) (k := 0) (by omega)
      have e' : l_Mo_layGroup_37 75 (nI k0) (nI k) (b && true) (nI 0) (hp c s.1) = l_Mo_layGroup_37 75 (nI k0) (nI k) (b && nCm B ml s.2 k) (nI s.2.length) (hp c s.1) := e
      rw [Bool.and_true] at e'
      exact e'
    have hstart : l_Mo_layGroup_12 75 (nI k0) (nI k) (hp c s.1) = l_Mo_layGroup_37 75 (nI k0) (nI k) (decide (s.2.length < k0) && nCm B ml s.2 k) (nI s.2.length) (hp c s.1) := by
      rw [e_Mo_layGroup_12, bO (g75_20 c _), p1.1, if_neg (by rw [nI_leI (by omega) (by omega)]; omega), bO (g75_27 c _), p2.1]
      by_cases hq : s.2.length < k0
      · rw [if_neg (by rw [nI_leI (by omega) (by omega)]; omega), decide_eq_true hq]
        exact hloop true
      · rw [if_pos (by rw [nI_leI (by omega) (by omega)]; omega), decide_eq_false hq]
        exact hloop false
    have skip : G (ml.getD k 0) = false → ∀ t, t ∈ s.2 ↔ t < k + 1 ∧ G (ml.getD t 0) = true := by
      intro hf t
      rw [p5 t]
      constructor
      · rintro ⟨a, b⟩; exact ⟨by omega, b⟩
      · rintro ⟨a, b⟩
        by_cases et : t = k
        · rw [et, hf] at b; cases b
        · exact ⟨by omega, b⟩
    show ∃ s' : ixX × List Nat, l_Mo_layGroup_12 75 (nI k0) (nI k) (hp c s.1) = l_Mo_layGroup_12 75 (nI k0) (nI (k + 1)) (hp c s'.1) ∧ _
    rw [hstart, e_Mo_layGroup_37, bO (g75_27 c _), p2.1, if_pos (by rw [nI_leI (by omega) (by omega)]; omega)]
    cases hGk : G (ml.getD k 0) with
    | true =>
      obtain ⟨u1, u2, u3⟩ := hgr.1 hGk
      have hknot : ¬ k ∈ s.2 := fun h => by have := ((p5 k).mp h).1; omega
      have hlt := nd_len (nd_app p3 hknot) (fun x hx => by
        rcases List.mem_append.mp hx with r | r
        · exact hcl x r
        · rw [List.mem_singleton.mp r]; exact hk)
      rw [List.length_append] at hlt
      have hlt2 : s.2.length + 1 ≤ ml.length := hlt
      rw [u2, decide_eq_true (show s.2.length < k0 by omega), if_pos (by decide), kV_of f1, bO (g75_27 c _), f2.2 75 (by decide), p2.1, kI_of g1, nI_1 s.2.length, nI_add, if_neg (fun n => n (by rw [hall, u3])), bO (g75_26 c _), bO (g75_27 c _), hpcZ.1, bO (s98 (by omega)), bO (g75_27 c _), aI_o (by omega), hpcZ.1, bO (p75_27 c _ _), aI_o (by omega), nI_1, nI_1]
      refine ⟨(aI (aI Z 98 (upd (Z.1 98) s.2.length (nI k))) 75 (upd (Z.1 75) 27 (nI (s.2.length + 1))), s.2 ++ [k]), rfl, pM_cong (by rw [aI_1, upd_n _ _ (by omega)]) (by rw [aI_o (by omega), aI_o (by omega)]) (by rw [aI_o (by omega), aI_o (by omega)]) hpmZ, ⟨?_, fun t ht => ?_⟩, nd_app p3 hknot, ?_, fun t => ?_, rS_f (rS_aI hrZ (by omega) (by omega)) (by omega)⟩
      · show (aI _ 75 _).1 75 27 = nI (s.2 ++ [k]).length
        rw [aI_1, upd_1, List.length_append]; rfl
      · rw [List.length_append] at ht
        have ht2 : t < s.2.length + 1 := ht
        show (aI (aI Z 98 _) 75 _).1 98 t = nI ((s.2 ++ [k]).getD t 0)
        rw [aI_o (by omega), aI_1]
        rcases Nat.lt_or_ge t s.2.length with q | q
        · rw [upd_n _ _ (by omega), gd_app_l s.2 [k] t q]; exact hpcZ.2 t q
        · have et : t = s.2.length := by omega
          rw [et, upd_1]
          exact congrArg nI (gd_app_r s.2 [k] 0).symm
      · intro i j hij hj
        rw [List.length_append] at hj
        have hj2 : j < s.2.length + 1 := hj
        show (s.2 ++ [k]).getD i 0 < (s.2 ++ [k]).getD j 0
        rw [gd_app_l s.2 [k] i (by omega)]
        rcases Nat.lt_or_ge j s.2.length with q | q
        · rw [gd_app_l s.2 [k] j q]; exact p4 i j hij q
        · have ej : j = s.2.length + 0 := by omega
          rw [ej, gd_app_r]
          exact ((p5 _).mp (gd_mem s.2 i (by omega))).1
      · show t ∈ s.2 ++ [k] ↔ _
        rw [List.mem_append, List.mem_singleton, p5 t]
        constructor
        · rintro (⟨a, b⟩ | a)
          · exact ⟨by omega, b⟩
          · rw [a]; exact ⟨by omega, hGk⟩
        · rintro ⟨a, b⟩
          by_cases et : t = k
          · exact .inr et
          · exact .inl ⟨by omega, b⟩
    | false =>
      cases hb : (decide (s.2.length < k0) && nCm B ml s.2 k) with
      | false =>
        rw [if_neg (by decide)]
        exact ⟨s, by rw [nI_1 k], p1, p2, p3, p4, skip hGk, p6⟩
      | true =>
        rw [Bool.and_eq_true] at hb
        have hne := hgr.2 hGk hb.2
        rw [if_pos rfl, kV_of f1, bO (g75_27 c _), f2.2 75 (by decide), p2.1, kI_of g1, nI_1 s.2.length, nI_add, if_pos (by rw [nI_eq (by omega) (by omega)]; omega)]
        exact ⟨(Z, s.2), by rw [nI_1 k], hpmZ, hpcZ, p3, p4, skip hGk, hrZ⟩) (k := 0) (s := (X2, [])) (by omega) ⟨pM_cong (by show X2.1 75 20 = _; rw [hX2, aI_1, upd_n _ _ (by omega)]) (by show X2.1 92 = _; rw [hX2, aI_o (by omega)]) (by show X2.1 93 = _; rw [hX2, aI_o (by omega)]) hpm, ⟨by show X2.1 75 27 = nI 0; rw [hX2, aI_1, upd_1]; rfl, fun t ht => absurd ht (Nat.not_lt_zero t)⟩, List.nodup_nil, fun i j _ hj => absurd hj (Nat.not_lt_zero j), fun t => ⟨fun h => (by cases h), fun h => absurd h.1 (Nat.not_lt_zero t)⟩, by show rS X X2; rw [hX2]; exact rS_f hr1 (by omega)⟩
  have e3' : l_Mo_layGroup_12 75 (nI k0) 0 (hp c X2) = l_Mo_layGroup_12 75 (nI k0) (nI ml.length) (hp c X3) := e3
  have p1' : pM X3 B ml := p1
  refine ⟨X3, ml, ch, x_Mo_layGroup (rc_75 c X) ?_, hml, p1, p2, p3, p4, p5, p6⟩
  rw [e_Mo_layGroup, kI_of e1, bO (p75_27 c _ _), ← hX2, e3', e_Mo_layGroup_12, bO (g75_20 c _), p1'.1, if_pos (by rw [nI_leI (by omega) (by omega)]; omega)]
