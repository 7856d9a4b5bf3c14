/-! CALLS: exchange -/
theorem nd_app2 {l m : List Nat} (h : l.Nodup) (h2 : m.Nodup) (hd : ∀ x, x ∈ m → ¬ x ∈ l) : (l ++ m).Nodup := by
  refine gd_nd _ (fun i j hij hj => ?_)
  rw [List.length_append] at hj
  rcases Nat.lt_or_ge j l.length with q | q
  · rw [gd_app_l l m i (by omega), gd_app_l l m j q]
    exact nd_gd l h i j hij q
  · obtain ⟨j', rfl⟩ : ∃ j', j = l.length + j' := ⟨j - l.length, by omega⟩
    rw [gd_app_r]
    rcases Nat.lt_or_ge i l.length with r | r
    · rw [gd_app_l l m i r]
      exact fun e => hd _ (gd_mem m j' (by omega)) (by rw [← e]; exact gd_mem l i r)
    · obtain ⟨i', rfl⟩ : ∃ i', i = l.length + i' := ⟨i - l.length, by omega⟩
      rw [gd_app_r]
      exact nd_gd m h2 i' j' (by omega) (by omega)
theorem mem_tk {l : List Nat} {k x : Nat} (hk : k ≤ l.length) : x ∈ l.take k ↔ ∃ j, j < k ∧ l.getD j 0 = x := by
  have hlen : (l.take k).length = k := by rw [List.length_take]; omega
  constructor
  · intro h
    obtain ⟨j, hj, e⟩ := mem_gd _ _ h
    rw [hlen] at hj
    rw [gd_take l k j hj] at e
    exact ⟨j, hj, e⟩
  · rintro ⟨j, hj, e⟩
    have := gd_mem (l.take k) j (by omega)
    rw [gd_take l k j hj, e] at this
    exact this
theorem mem_dr {l : List Nat} {k x : Nat} : x ∈ l.drop k ↔ ∃ j, k + j < l.length ∧ l.getD (k + j) 0 = x := by
  have hlen : (l.drop k).length = l.length - k := List.length_drop
  constructor
  · intro h
    obtain ⟨j, hj, e⟩ := mem_gd _ _ h
    rw [gd_drop l k j] at e
    exact ⟨j, by omega, e⟩
  · rintro ⟨j, hj, e⟩
    have := gd_mem (l.drop k) j (by omega)
    rw [gd_drop l k j, e] at this
    exact this
theorem nd_tk {l : List Nat} (h : l.Nodup) {k : Nat} (hk : k ≤ l.length) : (l.take k).Nodup := by
  have hlen : (l.take k).length = k := by rw [List.length_take]; omega
  refine gd_nd _ (fun i j hij hj => ?_)
  rw [hlen] at hj
  rw [gd_take l k i (by omega), gd_take l k j hj]
  exact nd_gd l h i j hij (by omega)
theorem nd_dr {l : List Nat} (h : l.Nodup) (k : Nat) : (l.drop k).Nodup := by
  have hlen : (l.drop k).length = l.length - k := List.length_drop
  refine gd_nd _ (fun i j hij hj => ?_)
  rw [gd_drop, gd_drop]
  exact nd_gd l h _ _ (by omega) (by omega)
theorem nd_td {l : List Nat} (h : l.Nodup) {k x : Nat} (hk : k ≤ l.length) (h1 : x ∈ l.take k) : ¬ x ∈ l.drop k := by
  intro h2
  obtain ⟨i, hi, e1⟩ := (mem_tk hk).mp h1
  obtain ⟨j, hj, e2⟩ := mem_dr.mp h2
  exact nd_gd l h i (k + j) (by omega) hj (e1.trans e2.symm)
theorem mem_td {l : List Nat} {k x : Nat} (h : x ∈ l) : x ∈ l.take k ∨ x ∈ l.drop k := by
  rw [← List.take_append_drop k l] at h
  exact List.mem_append.mp h
/-- head of one and tail of another have no common cell -/
def noTw (l m : List Nat) (k1 k2 : Nat) : Prop := ∀ x, x ∈ m.drop k2 → ¬ x ∈ l.take k1
theorem noTw_OK {l m : List Nat} {k1 k2 n : Nat} (h : noTw l m k1 k2) (hl : l.Nodup) (hm : m.Nodup) (h1 : k1 ≤ l.length) (hl2 : ∀ x, x ∈ l → x < n) (hm2 : ∀ x, x ∈ m → x < n) : (l.take k1 ++ m.drop k2).Nodup ∧ (∀ x, x ∈ l.take k1 ++ m.drop k2 → x < n) ∧ k1 + (m.length - k2) ≤ n := by
  have a := nd_app2 (nd_tk hl h1) (nd_dr hm k2) h
  have b : ∀ x, x ∈ l.take k1 ++ m.drop k2 → x < n := fun x hx => by
    rcases List.mem_append.mp hx with r | r
    · exact hl2 x (List.mem_of_mem_take r)
    · exact hm2 x (List.mem_of_mem_drop r)
  have d := nd_len a b
  rw [List.length_append, List.length_take, List.length_drop] at d
  exact ⟨a, b, by omega⟩
theorem gd_jn {l m : List Nat} {k1 k2 : Nat} (h1 : k1 ≤ l.length) (j : Nat) : (l.take k1 ++ m.drop k2).getD j 0 = if j < k1 then l.getD j 0 else m.getD (k2 + (j - k1)) 0 := by
  have hlen : (l.take k1).length = k1 := by rw [List.length_take]; omega
  by_cases q : j < k1
  · rw [if_pos q, gd_app_l _ _ _ (by omega), gd_take _ _ _ q]
  · rw [if_neg q]
    have := gd_app_r (l.take k1) (m.drop k2) (j - k1)
    rw [hlen, gd_drop] at this
    rw [← this]
    congr 1
    omega
theorem i65 (i : Nat) : (65 : Int32) * nI i = nI (65 * i) := nI_mul 65 i
theorem R_joins {c : ixK} {X : ixX} {B : bT} (hb : bOK B) (h : rBd (X.1 76) B) {i s t x i1 i2 : Nat} (hi : i < 2) (hs : s < 5) (ht : t < 5) (h1 : i1 < (brt B s).length) (e1 : (brt B s).getD i1 0 = x) (h2 : i2 < (brt B t).length) (e2 : (brt B t).getD i2 0 = x) : ∃ Y b, ix_M mMo_joins [.ref 75, .int (nI i), .int (nI s), .int (nI t), .int (nI x)] (hp c X) = some ([.int (ix_bi b)], hp c Y) ∧ eX [99, 100] X Y ∧ (b = true ↔ noTw (brt B s) (brt B t) (i1 + 1) (i2 + 1)) ∧ (∀ j, (j < 65 * i ∨ 65 * i + 65 ≤ j) → Y.1 99 j = X.1 99 j) ∧ (∀ j, ¬ j = i → Y.1 100 j = X.1 100 j) ∧ (b = true → Y.1 100 i = nI (i1 + 1 + ((brt B t).length - (i2 + 1))) ∧ ∀ j, j < i1 + 1 + ((brt B t).length - (i2 + 1)) → Y.1 99 (65 * i + j) = nI (((brt B s).take (i1 + 1) ++ (brt B t).drop (i2 + 1)).getD j 0)) := by
  have h64 := bS_64 hb.1
  have hl1 := bOK_len hb s
  have hl2 := bOK_len hb t
  have hx64 : x < 64 := by rw [← e1]; exact bOK_64 hb (gd_mem _ _ h1)
  obtain ⟨l, hl⟩ : ∃ l, l = brt B s := ⟨_, rfl⟩
  obtain ⟨m, hm⟩ : ∃ m, m = brt B t := ⟨_, rfl⟩
  have hln : ∀ x, x ∈ l → x < bn B := fun x hx => (hb.2.2.2.2.2 s).2 x (by rw [← hl]; exact hx)
  have hmn : ∀ x, x ∈ m → x < bn B := fun x hx => (hb.2.2.2.2.2 t).2 x (by rw [← hm]; exact hx)
  have hnd : l.Nodup := by rw [hl]; exact (hb.2.2.2.2.2 s).1
  have hmd : m.Nodup := by rw [hm]; exact (hb.2.2.2.2.2 t).1
  have z76 : ∀ Y : ixX, eX [99, 100] X Y → rBd (Y.1 76) B := fun Y q => by rw [q.2 76 (by decide)]; exact h
  rw [← hl] at hl1 h1 e1
  rw [← hm] at hl2 h2 e2
  -- the head
  obtain ⟨Y1, f1, f2, f3, f4, f5⟩ := lp_up (fun k (Y : ixX) => l_Mo_joins_12 75 (nI i) (nI s) (nI t) (nI x) (nI k) (nI (65 * i)) (nI k) (hp c Y)) (fun k Y => eX [99, 100] X Y ∧ (∀ j, j < k → Y.1 99 (65 * i + j) = nI (l.getD j 0)) ∧ (∀ j, (j < 65 * i ∨ 65 * i + 65 ≤ j) → Y.1 99 j = X.1 99 j) ∧ Y.1 100 = X.1 100) (N := i1 + 1) (fun k Y hk ⟨q1, q2, q3, q4⟩ => by
    have hA := z76 Y q1
    refine ⟨aI Y 99 (upd (Y.1 99) (65 * i + k) (nI (l.getD k 0))), ?_, eX_aI q1 (by decide), fun j hj => ?_, fun j hj => ?_, ?_⟩
    · show l_Mo_joins_12 75 (nI i) (nI s) (nI t) (nI x) (nI k) (nI (65 * i)) (nI k) (hp c Y) = _
      have hco : ix_M mMo_cellOf [.ref 75, .int (nI s), .int (nI k)] (hp c Y) = some ([.int (nI (l.getD k 0))], hp c Y) := by
        have := M_mcellOf (c := c) hA hs (k := k) (by rw [← hl]; omega) (by rw [← hl]; exact hl1)
        rw [← hl] at this
        exact this
      rw [e_Mo_joins_12, kI_of (M_mindexOf_t hb hA hs hx64 (by rw [← hl]; exact h1) (by rw [← hl]; exact e1)), if_neg (by rw [nI_ltI (by omega) (by omega)]; omega), bO (g75_28 c _), kI_of hco, nI_add, bO (s99 (by omega)), nI_1 k]
    · rw [aI_1]
      rcases Nat.lt_or_ge j k with r | r
      · rw [upd_n _ _ (by omega)]; exact q2 j r
      · have ej : j = k := by omega
        rw [ej, upd_1]
    · rw [aI_1, upd_n _ _ (by omega)]; exact q3 j hj
    · rw [aI_n _ _ (by decide)]; exact q4) (k := 0) (s := X) (by omega) ⟨eX_refl _ _, fun j hj => absurd hj (Nat.not_lt_zero j), fun _ _ => rfl, rfl⟩
  have f1' : l_Mo_joins_12 75 (nI i) (nI s) (nI t) (nI x) 0 (nI (65 * i)) 0 (hp c X) = l_Mo_joins_12 75 (nI i) (nI s) (nI t) (nI x) (nI (i1 + 1)) (nI (65 * i)) (nI (i1 + 1)) (hp c Y1) := f1
  have g1 : l_Mo_joins_12 75 (nI i) (nI s) (nI t) (nI x) (nI (i1 + 1)) (nI (65 * i)) (nI (i1 + 1)) (hp c Y1) = l_Mo_joins_68 75 (nI i) (nI t) (nI (i1 + 1)) (nI (65 * i)) (nI (i1 + 1)) true (nI (i2 + 1)) (hp c Y1) := by
    rw [e_Mo_joins_12, kI_of (M_mindexOf_t hb (z76 Y1 f2) hs hx64 (by rw [← hl]; exact h1) (by rw [← hl]; exact e1)), if_pos (by rw [nI_ltI (by omega) (by omega)]; omega), kI_of (M_mindexOf_t hb (z76 Y1 f2) ht hx64 (by rw [← hm]; exact h2) (by rw [← hm]; exact e2)), nI_1 i2]
  -- the tail
  have hdB : ∀ n, i2 + 1 + n ≤ m.length → (∀ j, j < n → ¬ m.getD (i2 + 1 + j) 0 ∈ l.take (i1 + 1)) → i1 + 1 + n ≤ 64 := by
    intro n hn hd
    have hmt : noTw l (m.take (i2 + 1 + n)) (i1 + 1) (i2 + 1) := by
      intro y hy
      obtain ⟨j, hj, e⟩ := mem_dr.mp hy
      rw [List.length_take] at hj
      rw [gd_take m _ _ (by omega)] at e
      rw [← e]
      exact hd j (by omega)
    have := (noTw_OK hmt hnd (nd_tk hmd hn) (by omega) hln (fun y hy => hmn y (List.mem_of_mem_take hy))).2.2
    rw [List.length_take] at this
    omega
  obtain ⟨⟨b, x5, Y2⟩, p1, p2, p3, p4, p5, p6, p7⟩ := lp_up (fun n (z : Bool × Int32 × ixX) => l_Mo_joins_68 75 (nI i) (nI t) z.2.1 (nI (65 * i)) (nI (i1 + 1)) z.1 (nI (i2 + 1 + n)) (hp c z.2.2)) (fun n z => eX [99, 100] X z.2.2 ∧ (∀ j, j < i1 + 1 → z.2.2.1 99 (65 * i + j) = nI (l.getD j 0)) ∧ (∀ j, (j < 65 * i ∨ 65 * i + 65 ≤ j) → z.2.2.1 99 j = X.1 99 j) ∧ z.2.2.1 100 = X.1 100 ∧ (z.1 = true ↔ ∀ j, j < n → ¬ m.getD (i2 + 1 + j) 0 ∈ l.take (i1 + 1)) ∧ (z.1 = true → z.2.1 = nI (i1 + 1 + n) ∧ ∀ j, j < n → z.2.2.1 99 (65 * i + (i1 + 1 + j)) = nI (m.getD (i2 + 1 + j) 0))) (N := m.length - (i2 + 1)) (fun n z hn hz => by
    obtain ⟨b, x5, Y⟩ := z
    obtain ⟨q1, q2, q3, q4, q5, q6⟩ := hz
    have hA := z76 Y q1
    obtain ⟨v, hv⟩ : ∃ v, v = m.getD (i2 + 1 + n) 0 := ⟨_, rfl⟩
    have hv64 : v < 64 := by rw [hv]; have := hmn _ (gd_mem m (i2 + 1 + n) (by omega)); omega
    have hco : ix_M mMo_cellOf [.ref 75, .int (nI t), .int (nI (i2 + 1 + n))] (hp c Y) = some ([.int (nI v)], hp c Y) := by
      have := M_mcellOf (c := c) hA ht (k := i2 + 1 + n) (by rw [← hm]; omega) (by rw [← hm]; exact hl2)
      rw [← hm, ← hv] at this
      exact this
    have hml : ix_M mMo_length [.ref 75, .int (nI t)] (hp c Y) = some ([.int (nI m.length)], hp c Y) := by
      have := M_mlength (c := c) hA ht
      rw [← hm] at this
      exact this
    have hin := lp_f (fun k b => l_Mo_joins_81 75 (nI i) (nI t) x5 (nI (65 * i)) (nI (i1 + 1)) b (nI (i2 + 1 + n)) (nI k) (hp c Y)) (fun k => b && allB (fun j => !decide (l.getD j 0 = v)) k) (N := i1 + 1) (fun k hk => by
      show l_Mo_joins_81 75 (nI i) (nI t) x5 (nI (65 * i)) (nI (i1 + 1)) (b && allB (fun j => !decide (l.getD j 0 = v)) k) (nI (i2 + 1 + n)) (nI k) (hp c Y) = l_Mo_joins_81 75 (nI i) (nI t) x5 (nI (65 * i)) (nI (i1 + 1)) (b && (allB (fun j => !decide (l.getD j 0 = v)) k && !decide (l.getD k 0 = v))) (nI (i2 + 1 + n)) (nI (k + 1)) (hp c Y)
      have hlk : l.getD k 0 < 64 := by have := hln _ (gd_mem l k (by omega)); omega
      rw [← Bool.and_assoc, e_Mo_joins_81, if_neg (by rw [nI_leI (by omega) (by omega)]; omega), nI_1 k]
      cases (b && allB (fun j => !decide (l.getD j 0 = v)) k) with
      | false => rw [if_neg (by decide)]; rfl
      | true =>
        rw [if_pos rfl, bO (g75_28 c _), nI_add, bO (r99 (by omega)), q2 k hk, kI_of hco]
        by_cases e : l.getD k 0 = v
        · rw [if_pos (by rw [e]), decide_eq_true e]; rfl
        · rw [if_neg (by rw [nI_eq (by omega) (by omega)]; exact e), decide_eq_false e]; rfl) (k := 0) (by omega)
    have hin' : l_Mo_joins_81 75 (nI i) (nI t) x5 (nI (65 * i)) (nI (i1 + 1)) (b && true) (nI (i2 + 1 + n)) 0 (hp c Y) = l_Mo_joins_81 75 (nI i) (nI t) x5 (nI (65 * i)) (nI (i1 + 1)) (b && allB (fun j => !decide (l.getD j 0 = v)) (i1 + 1)) (nI (i2 + 1 + n)) (nI (i1 + 1)) (hp c Y) := hin
    rw [Bool.and_true] at hin'
    have hal : allB (fun j => !decide (l.getD j 0 = v)) (i1 + 1) = true ↔ ¬ v ∈ l.take (i1 + 1) := by
      rw [allB_iff, mem_tk (by omega)]
      constructor
      · rintro q ⟨j, hj, e⟩
        have := q j hj
        rw [decide_eq_true e] at this; cases this
      · intro q j hj
        rw [decide_eq_false (fun e => q ⟨j, hj, e⟩)]; rfl
    show ∃ z' : Bool × Int32 × ixX, l_Mo_joins_68 75 (nI i) (nI t) x5 (nI (65 * i)) (nI (i1 + 1)) b (nI (i2 + 1 + n)) (hp c Y) = l_Mo_joins_68 75 (nI i) (nI t) z'.2.1 (nI (65 * i)) (nI (i1 + 1)) z'.1 (nI (i2 + 1 + (n + 1))) (hp c z'.2.2) ∧ _
    rw [e_Mo_joins_68, kI_of hml, if_neg (by rw [nI_leI (by omega) (by omega)]; omega), hin', e_Mo_joins_81, if_pos (by rw [nI_leI (by omega) (by omega)]; omega), nI_1 (i2 + 1 + n)]
    cases hbb : (b && allB (fun j => !decide (l.getD j 0 = v)) (i1 + 1)) with
    | false =>
      refine ⟨(false, x5, Y), ?_, q1, q2, q3, q4, ⟨fun z => (by cases z), fun z => ?_⟩, fun z => (by cases z)⟩
      · rw [if_neg (by decide)]
        rfl
      · have hb1 : b = true := q5.mpr (fun j hj => z j (by omega))
        rw [hb1, Bool.true_and] at hbb
        have := hal.mpr (by rw [hv]; exact z n (by omega))
        rw [hbb] at this; cases this
    | true =>
      rw [Bool.and_eq_true] at hbb
      have hb1 := hbb.1
      obtain ⟨r1, r2⟩ := q6 hb1
      have hold := q5.mp hb1
      have hnew : ∀ j, j < n + 1 → ¬ m.getD (i2 + 1 + j) 0 ∈ l.take (i1 + 1) := by
        intro j hj
        rcases Nat.lt_or_ge j n with r | r
        · exact hold j r
        · have ej : j = n := by omega
          rw [ej, ← hv]
          exact hal.mp hbb.2
      have hbd := hdB (n + 1) (by omega) hnew
      have r1' : x5 = nI (i1 + 1 + n) := r1
      refine ⟨(true, nI (i1 + 1 + (n + 1)), aI Y 99 (upd (Y.1 99) (65 * i + (i1 + 1 + n)) (nI v))), ?_, eX_aI q1 (by decide), fun j hj => ?_, fun j hj => ?_, ?_, ⟨fun _ => hnew, fun _ => rfl⟩, fun _ => ⟨rfl, fun j hj => ?_⟩⟩
      · rw [if_pos rfl, bO (g75_28 c _), kI_of hco, r1', nI_add, bO (s99 (by omega)), nI_1 (i1 + 1 + n)]
        rfl
      · show (aI Y 99 _).1 99 _ = _
        rw [aI_1, upd_n _ _ (by omega)]; exact q2 j hj
      · show (aI Y 99 _).1 99 _ = _
        rw [aI_1, upd_n _ _ (by omega)]; exact q3 j hj
      · show (aI Y 99 _).1 100 = _
        rw [aI_n _ _ (by decide)]; exact q4
      · show (aI Y 99 _).1 99 _ = _
        rw [aI_1]
        rcases Nat.lt_or_ge j n with r | r
        · rw [upd_n _ _ (by omega)]; exact r2 j r
        · have ej : j = n := by omega
          rw [ej, upd_1, hv]) (k := 0) (s := (true, nI (i1 + 1), Y1)) (by omega) ⟨f2, f3, f4, f5, ⟨fun _ j hj => absurd hj (Nat.not_lt_zero j), fun _ => rfl⟩, fun _ => ⟨rfl, fun j hj => absurd hj (Nat.not_lt_zero j)⟩⟩
  have p1' : l_Mo_joins_68 75 (nI i) (nI t) (nI (i1 + 1)) (nI (65 * i)) (nI (i1 + 1)) true (nI (i2 + 1)) (hp c Y1) = l_Mo_joins_68 75 (nI i) (nI t) x5 (nI (65 * i)) (nI (i1 + 1)) b (nI (i2 + 1 + (m.length - (i2 + 1)))) (hp c Y2) := p1
  have hml : ix_M mMo_length [.ref 75, .int (nI t)] (hp c Y2) = some ([.int (nI m.length)], hp c Y2) := by
    have := M_mlength (c := c) (z76 Y2 p2) ht
    rw [← hm] at this
    exact this
  have hN : b = true ↔ noTw l m (i1 + 1) (i2 + 1) := by
    rw [p6]
    constructor
    · intro q y hy
      obtain ⟨j, hj, e⟩ := mem_dr.mp hy
      rw [← e]
      exact q j (by omega)
    · intro q j hj
      exact q _ (mem_dr.mpr ⟨j, by omega, rfl⟩)
  rw [← hl, ← hm]
  refine ⟨aI Y2 100 (upd (Y2.1 100) i x5), b, x_Mo_joins (rc_75 c X) ?_, eX_aI p2 (by decide), hN, fun j hj => ?_, fun j hj => ?_, fun hbt => ⟨?_, fun j hj => ?_⟩⟩
  · rw [e_Mo_joins, i65, f1', g1, p1', e_Mo_joins_68, kI_of hml, if_pos (by rw [nI_leI (by omega) (by omega)]; omega), bO (g75_29 c _), bO (s100 hi)]
  · rw [aI_n _ _ (by decide)]; exact p4 j hj
  · rw [aI_1, upd_n _ _ hj]; exact congrFun p5 j
  · rw [aI_1, upd_1]
    exact (p7 hbt).1
  · rw [aI_n _ _ (by decide), gd_jn (by omega) j]
    by_cases q : j < i1 + 1
    · rw [if_pos q]; exact p3 j q
    · rw [if_neg q]
      have := (p7 hbt).2 (j - (i1 + 1)) (by omega)
      rw [show i1 + 1 + (j - (i1 + 1)) = j from by omega] at this
      exact this
theorem R_layJoined {c : ixK} {X : ixX} {i s n : Nat} {f : Nat → Int32} (hi : i < 2) (hs : s < 5) (hn : n ≤ 64) (h1 : X.1 100 i = nI n) (h2 : ∀ j, j < n → X.1 99 (65 * i + j) = f j) : ∃ Y, ix_M mMo_layJoined [.ref 75, .int (nI i), .int (nI s)] (hp c X) = some ([], hp c Y) ∧ eX [76] X Y ∧ Y.1 76 (395 + 65 * s) = nI n ∧ (∀ j, j < n → Y.1 76 (395 + 65 * s + 1 + j) = f j) ∧ ∀ j, (j < 395 + 65 * s ∨ 395 + 65 * s + 65 ≤ j) → Y.1 76 j = X.1 76 j := by
  obtain ⟨Y, q0, q1, q2, q3, q4⟩ := lp_up (fun k (Y : ixX) => l_Mo_layJoined_21 75 (nI i) (nI s) (nI k) (hp c Y)) (fun k Y => eX [76] X Y ∧ Y.1 76 (395 + 65 * s) = nI n ∧ (∀ j, j < k → Y.1 76 (395 + 65 * s + 1 + j) = f j) ∧ ∀ j, (j < 395 + 65 * s ∨ 395 + 65 * s + 65 ≤ j) → Y.1 76 j = X.1 76 j) (N := n) (fun k Y hk ⟨a1, a2, a3, a4⟩ => by
    refine ⟨aI Y 76 (upd (Y.1 76) (395 + 65 * s + 1 + k) (f k)), ?_, eX_aI a1 (by decide), ?_, fun j hj => ?_, fun j hj => ?_⟩
    · show l_Mo_layJoined_21 75 (nI i) (nI s) (nI k) (hp c Y) = _
      rw [e_Mo_layJoined_21, bO (g75_29 c _), bO (r100 hi), a1.2 100 (by decide), h1, if_neg (by rw [nI_leI (by omega) (by omega)]; omega), bO (g75_0 c _), bO (g75_28 c _), i65, nI_add, bO (r99 (by omega)), a1.2 99 (by decide), h2 k hk, bO (y76 (i396k s k) (by omega)), nI_1 k]
    · rw [aI_1, upd_n _ _ (by omega)]; exact a2
    · rw [aI_1]
      rcases Nat.lt_or_ge j k with r | r
      · rw [upd_n _ _ (by omega)]; exact a3 j r
      · have ej : j = k := by omega
        rw [ej, upd_1]
    · rw [aI_1, upd_n _ _ (by omega)]; exact a4 j hj) (k := 0) (s := aI X 76 (upd (X.1 76) (395 + 65 * s) (nI n))) (by omega) ⟨eX_aI (eX_refl _ _) (by decide), by rw [aI_1, upd_1], fun j hj => absurd hj (Nat.not_lt_zero j), fun j hj => by rw [aI_1, upd_n _ _ (by omega)]⟩
  have q0' : l_Mo_layJoined_21 75 (nI i) (nI s) 0 (hp c (aI X 76 (upd (X.1 76) (395 + 65 * s) (nI n)))) = l_Mo_layJoined_21 75 (nI i) (nI s) (nI n) (hp c Y) := q0
  refine ⟨Y, x_Mo_layJoined (rc_75 c X) ?_, q1, q2, q3, q4⟩
  rw [e_Mo_layJoined, bO (g75_0 c _), bO (g75_29 c _), bO (r100 hi), h1, bO (y76 (i395 s) (by omega)), q0', e_Mo_layJoined_21, bO (g75_29 c _), bO (r100 hi), q1.2 100 (by decide), h1, if_pos (by rw [nI_leI (by omega) (by omega)]; omega)]
theorem M_rindexN {r : Nat} (hr : rtA r) {c : ixK} {X : ixX} {l : List Nat} (h : cR r X l) (hl : l.length ≤ 64) (hn : l.Nodup) (hm : ∀ c, c ∈ l → c < 64) {x : Nat} (hx : x < 64) {i : Nat} (hi : i < l.length) (he : l.getD i 0 = x) : ix_M mRt_indexOf [.ref r, .int (nI x)] (hp c X) = some ([.int (nI i)], hp c X) := M_rindexOf hr h hl hm hx hi he (fun j hj e => nd_gd l hn j i hj hi (e.trans he.symm))
theorem LS_tw {l m : List Nat} {k1 k2 : Nat} (hl : ∀ c, c ∈ l → c < 64) (hm : m.Nodup) (h2 : k2 ≤ m.length) : ((LSt (fun x => decide (x ∈ l.take k1)) &&& LSt (fun x => decide (x ∈ m))) &&& (LSt (fun x => decide (x ∈ m.take k2)) ^^^ (-1))) = 0 ↔ noTw l m k1 k2 := by
  rw [LS_not, LS_and, LS_and, LS_zero]
  constructor
  · intro h x hx hx2
    have := h x (hl x (List.mem_of_mem_take hx2))
    rw [decide_eq_true hx2, decide_eq_true (List.mem_of_mem_drop hx), decide_eq_false (fun q => nd_td hm h2 q hx)] at this
    cases this
  · intro h x _
    by_cases q1 : x ∈ l.take k1
    · by_cases q2 : x ∈ m
      · rcases mem_td (k := k2) q2 with q3 | q3
        · rw [decide_eq_true q3]; simp
        · exact absurd q1 (h x q3)
      · rw [decide_eq_false q2]; simp
    · rw [decide_eq_false q1]; simp
theorem C_swapTails {c : ixK} {X : ixX} {B : bT} (hb : bOK B) (h : cBd 4 X B) {s t x i1 i2 : Nat} (hs : s < 5) (ht : t < 5) (hne : ¬ s = t) (h1 : i1 < (brt B s).length) (e1 : (brt B s).getD i1 0 = x) (h2 : i2 < (brt B t).length) (e2 : (brt B t).getD i2 0 = x) : (noTw (brt B s) (brt B t) (i1 + 1) (i2 + 1) ∧ noTw (brt B t) (brt B s) (i2 + 1) (i1 + 1) ∧ ∃ X1 X', ix_M mRP_swapTails [.ref 3, .ref (9 + 2 * s), .ref (9 + 2 * t), .int (nI x)] (hp c X) = some ([.int (ix_bi true)], hp c X') ∧ fRm 73 75 X X1 ∧ fRm 4 21 X1 X' ∧ cBd 4 X' (setT B (upTs (upTs (brt B) s ((brt B s).take (i1 + 1) ++ (brt B t).drop (i2 + 1))) t ((brt B t).take (i2 + 1) ++ (brt B s).drop (i1 + 1))))) ∨ (¬ (noTw (brt B s) (brt B t) (i1 + 1) (i2 + 1) ∧ noTw (brt B t) (brt B s) (i2 + 1) (i1 + 1)) ∧ ix_M mRP_swapTails [.ref 3, .ref (9 + 2 * s), .ref (9 + 2 * t), .int (nI x)] (hp c X) = some ([.int (ix_bi false)], hp c X)) := by
  have h64 := bS_64 hb.1
  have hl1 := bOK_len hb s
  have hl2 := bOK_len hb t
  have hx64 : x < 64 := by rw [← e1]; exact bOK_64 hb (gd_mem _ _ h1)
  have ra := rtA_4 hs
  have rb := rtA_4 ht
  have Ra := c_rt h hs
  have Rb := c_rt h ht
  have m1 : ∀ c, c ∈ brt B s → c < 64 := fun c hc => bOK_64 hb hc
  have m2 : ∀ c, c ∈ brt B t → c < 64 := fun c hc => bOK_64 hb hc
  have n1 := (hb.2.2.2.2.2 s).1
  have n2 := (hb.2.2.2.2.2 t).1
  have st : ix_D mRP_swapTails 0 [some (.ref 3), some (.ref (9 + 2 * s)), some (.ref (9 + 2 * t)), some (.int (nI x)), none, none, none, none, none, none, none] [] (hp c X) = if ((LSt (fun x => decide (x ∈ (brt B s).take (i1 + 1))) &&& LSt (fun x => decide (x ∈ brt B t))) &&& (LSt (fun x => decide (x ∈ (brt B t).take (i2 + 1))) ^^^ (-1))) = 0 then (if ((LSt (fun x => decide (x ∈ (brt B t).take (i2 + 1))) &&& LSt (fun x => decide (x ∈ brt B s))) &&& (LSt (fun x => decide (x ∈ (brt B s).take (i1 + 1))) ^^^ (-1))) = 0 then l_RP_swapTails_77 3 (9 + 2 * s) (9 + 2 * t) (nI (i1 + 1)) (nI (i2 + 1)) false (hp c X) else l_RP_swapTails_77 3 (9 + 2 * s) (9 + 2 * t) (nI (i1 + 1)) (nI (i2 + 1)) true (hp c X)) else l_RP_swapTails_77 3 (9 + 2 * s) (9 + 2 * t) (nI (i1 + 1)) (nI (i2 + 1)) true (hp c X) := by
    rw [e_RP_swapTails, kI_of (M_rindexN ra Ra hl1 n1 m1 hx64 h1 e1), kI_of (M_rindexN rb Rb hl2 n2 m2 hx64 h2 e2), nI_1 i1, kL_of (M_rfirst ra Ra hl1 m1 (by omega)), nI_1 i2, kL_of (M_rfirst rb Rb hl2 m2 (by omega)), bO (rt_g2 rb c X), Rb.2.1, bO (rt_g2 ra c X), Ra.2.1]
  rw [LS_and, LS_and] at st
  rw [← LS_and, ← LS_and] at st
  by_cases q1 : noTw (brt B s) (brt B t) (i1 + 1) (i2 + 1)
  · by_cases q2 : noTw (brt B t) (brt B s) (i2 + 1) (i1 + 1)
    · refine .inl ⟨q1, q2, ?_⟩
      have st2 := st
      rw [if_pos ((LS_tw m1 n2 (by omega)).mpr q1), if_pos ((LS_tw m2 n1 (by omega)).mpr q2)] at st2
      have o1 := noTw_OK q1 n1 n2 (by omega) (hb.2.2.2.2.2 s).2 (hb.2.2.2.2.2 t).2
      have o2 := noTw_OK q2 n2 n1 (by omega) (hb.2.2.2.2.2 t).2 (hb.2.2.2.2.2 s).2
      have tl1 : ((brt B s).take (i1 + 1)).length = i1 + 1 := by rw [List.length_take]; omega
      have tl2 : ((brt B t).take (i2 + 1)).length = i2 + 1 := by rw [List.length_take]; omega
      obtain ⟨X1, a1, a2, a3⟩ := M_rcopyFrom rtA_73 ra (.inr (by omega)) (c := c) Ra hl1
      have Ra1 : cR (9 + 2 * s) X1 (brt B s) := cR_cong (X := X) (a3 _ (by omega)).1 (a3 _ (by omega)).2 (a3 _ (by omega)).1 Ra
      have Bd1 : cBd 4 X1 B := cBd_cong (fun a _ ha => a3 a (by omega)) h
      obtain ⟨X2, b1, b2, b3⟩ := M_rkeep ra (c := c) Ra1 hl1 m1 (n := i1 + 1) (by omega)
      have Rb2 : cR (9 + 2 * t) X2 (brt B t) := cR_cong (X := X1) (b3 _ (by omega)).1 (b3 _ (by omega)).2 (b3 _ (by omega)).1 (c_rt Bd1 ht)
      obtain ⟨X3, d1, d2, d3⟩ := M_rappendFrom ra rb (by omega) (c := c) b2 Rb2 (k := i2 + 1) (by omega) hl2 (by rw [tl1]; omega) m2
      have d4 := fRm_trans b3 d3
      have Bd3 := cBd_T Bd1 hs d4 d2
      have Rb3 : cR (9 + 2 * t) X3 (brt B t) := cR_cong (X := X2) (d3 _ (by omega)).1 (d3 _ (by omega)).2 (d3 _ (by omega)).1 Rb2
      have Rs3 : cR 73 X3 (brt B s) := cR_cong (X := X1) (d4 _ (by omega)).1 (d4 _ (by omega)).2 (d4 _ (by omega)).1 a2
      obtain ⟨X4, g1, g2, g3⟩ := M_rkeep rb (c := c) Rb3 hl2 m2 (n := i2 + 1) (by omega)
      have Rs4 : cR 73 X4 (brt B s) := cR_cong (X := X3) (g3 _ (by omega)).1 (g3 _ (by omega)).2 (g3 _ (by omega)).1 Rs3
      obtain ⟨X5, k1, k2, k3⟩ := M_rappendFrom rb rtA_73 (.inl (by omega)) (c := c) g2 Rs4 (k := i1 + 1) (by omega) hl1 (by rw [tl2]; omega) m1
      have k4 := fRm_trans g3 k3
      have Bd5 := cBd_T Bd3 ht k4 k2
      refine ⟨X1, X5, x_RP_swapTails (rc_3 c X) ?_, a3, fRm_trans (fRm_mono d4 (by omega) (by omega)) (fRm_mono k4 (by omega) (by omega)), Bd5⟩
      rw [st2, e_RP_swapTails_77, if_neg (by decide), bO (g3_8 c _), kV_of a1, kV_of b1, kV_of d1, kV_of g1, bO (g3_8 c _), kV_of k1]
    · refine .inr ⟨fun q => q2 q.2, x_RP_swapTails (rc_3 c X) ?_⟩
      rw [st, if_pos ((LS_tw m1 n2 (by omega)).mpr q1), if_neg (fun q => q2 ((LS_tw m2 n1 (by omega)).mp q)), e_RP_swapTails_77, if_pos rfl]
  · refine .inr ⟨fun q => q1 q.1, x_RP_swapTails (rc_3 c X) ?_⟩
    rw [st, if_neg (fun q => q1 ((LS_tw m1 n2 (by omega)).mp q)), e_RP_swapTails_77, if_pos rfl]
theorem bOK_T2 {B : bT} (h : bOK B) {s t : Nat} {l m : List Nat} (h1 : l.Nodup) (h2 : ∀ c, c ∈ l → c < bn B) (h3 : m.Nodup) (h4 : ∀ c, c ∈ m → c < bn B) : bOK (setT B (upTs (upTs (brt B) s l) t m)) := bOK_T (B := setT B (upTs (brt B) s l)) (bOK_T h h1 h2) h3 h4
theorem K_exchange {c : ixK} {X : ixX} {S : sT} (h : invK c X S) (x1 x2 : Int32) : okI mRP_exchange mMo_exchange [.int x1, .int x2] c X := by
  obtain ⟨hs, hG, hA, hb⟩ := invK_G h
  have h64 := bS_64 hs
  rcases i_cases x1 (n := 5) (by omega) with ⟨s, hs5, rfl⟩ | hx
  · rcases i_cases x2 (n := 5) (by omega) with ⟨t, ht5, rfl⟩ | hy
    · by_cases e : s = t
      · rw [e]
        exact ok_0 h (r := -2) (x_RP_exchange (rc_3 c X) (by rw [e_RP_exchange, kZ_of (M_isSlot_t ht5 _), if_pos rfl, kZ_of (M_isSlot_t ht5 _), if_pos rfl, if_neg (fun n => n rfl)])) (x_Mo_exchange (rc_75 c X) (by rw [e_Mo_exchange, kZ_of (M_misSlot_t ht5 _), if_pos rfl, kZ_of (M_misSlot_t ht5 _), if_pos rfl, if_neg (fun n => n rfl)]))
      · have hne : ¬ nI s = nI t := by rw [nI_eq (by omega) (by omega)]; exact e
        cases ho : mtO S.1 s t with
        | none =>
          have c1 := M_cmeetingOf (c := c) hb h.2.1.1 hs5 ht5 e
          have c2 := M_rmeetingOf (c := c) hb hA hs5 ht5 e
          rw [ho] at c1 c2
          exact ok_0 h (r := -5) (x_RP_exchange (rc_3 c X) (by rw [e_RP_exchange, kZ_of (M_isSlot_t hs5 _), if_pos rfl, kZ_of (M_isSlot_t ht5 _), if_pos rfl, if_pos hne, kI_of c1, if_neg (fun n => n rfl)])) (x_Mo_exchange (rc_75 c X) (by rw [e_Mo_exchange, kZ_of (M_misSlot_t hs5 _), if_pos rfl, kZ_of (M_misSlot_t ht5 _), if_pos rfl, if_pos hne, kI_of c2, if_pos (show oI none < 0 by decide)]))
        | some x =>
          obtain ⟨hx1, hx2, hx3⟩ := mtO_lt hb ho
          obtain ⟨i1, hi1, e1⟩ := mem_gd _ _ hx2
          obtain ⟨i2, hi2, e2⟩ := mem_gd _ _ hx3
          have c1 : ix_M mRP_meetingOf [.ref 3, .int (nI s), .int (nI t)] (hp c X) = some ([.int (nI x)], hp c X) := by
            have := M_cmeetingOf (c := c) hb h.2.1.1 hs5 ht5 e
            rw [ho] at this
            exact this
          have c2 : ∀ Y : ixX, rBd (Y.1 76) S.1 → ix_M mMo_meetingOf [.ref 75, .int (nI s), .int (nI t)] (hp c Y) = some ([.int (nI x)], hp c Y) := fun Y hY => by
            have := M_rmeetingOf (c := c) hb hY hs5 ht5 e
            rw [ho] at this
            exact this
          have hn6 : ¬ nI x = -6 := fun q => by
            have hq := nI_pos (n := x) (by omega)
            rw [q] at hq
            exact hq (by decide)
          have hn0 : ¬ nI x < 0 := nI_pos (by omega)
          rcases C_swapTails (c := c) hb h.2.1.1 hs5 ht5 e hi1 e1 hi2 e2 with ⟨t1, t2, X1, X', s1, s2, s3, s4⟩ | ⟨t1, s1⟩
          · have hr1 : rI X' S := rI_4 s3 (rI_q s2 (by omega) h.2.2)
            have hA' := hr1.1
            obtain ⟨Y1, b1, j1, j2, j3, j4, j5, j6⟩ := R_joins (c := c) (i := 0) hb hA' (by omega) hs5 ht5 hi1 e1 hi2 e2
            have hA1 : rBd (Y1.1 76) S.1 := by rw [j2.2 76 (by decide)]; exact hA'
            obtain ⟨Y2, b2, l1, l2, l3, l4, l5, l6⟩ := R_joins (c := c) (i := 1) hb hA1 (by omega) ht5 hs5 hi2 e2 hi1 e1
            have hb1 := j3.mpr t1
            have hb2 := l3.mpr t2
            obtain ⟨u1, u2⟩ := j6 hb1
            obtain ⟨v1, v2⟩ := l6 hb2
            have hl1 := bOK_len hb s
            have hl2 := bOK_len hb t
            have o1 := noTw_OK t1 (hb.2.2.2.2.2 s).1 (hb.2.2.2.2.2 t).1 (by omega) (hb.2.2.2.2.2 s).2 (hb.2.2.2.2.2 t).2
            have o2 := noTw_OK t2 (hb.2.2.2.2.2 t).1 (hb.2.2.2.2.2 s).1 (by omega) (hb.2.2.2.2.2 t).2 (hb.2.2.2.2.2 s).2
            have ln1 : ((brt S.1 s).take (i1 + 1) ++ (brt S.1 t).drop (i2 + 1)).length = i1 + 1 + ((brt S.1 t).length - (i2 + 1)) := by
              rw [List.length_append, List.length_take, List.length_drop]; omega
            have ln2 : ((brt S.1 t).take (i2 + 1) ++ (brt S.1 s).drop (i1 + 1)).length = i2 + 1 + ((brt S.1 s).length - (i1 + 1)) := by
              rw [List.length_append, List.length_take, List.length_drop]; omega
            obtain ⟨Y3, w1, w2, w3, w4, w5⟩ := R_layJoined (c := c) (X := Y2) (i := 0) (s := s) (n := i1 + 1 + ((brt S.1 t).length - (i2 + 1))) (f := fun j => nI (((brt S.1 s).take (i1 + 1) ++ (brt S.1 t).drop (i2 + 1)).getD j 0)) (by omega) hs5 (by omega) (by rw [l5 0 (by omega)]; exact u1) (fun j hj => by rw [l4 _ (.inl (by omega))]; exact u2 j hj)
            obtain ⟨Y4, y1, y2, y3, y4, y5⟩ := R_layJoined (c := c) (X := Y3) (i := 1) (s := t) (n := i2 + 1 + ((brt S.1 s).length - (i1 + 1))) (f := fun j => nI (((brt S.1 t).take (i2 + 1) ++ (brt S.1 s).drop (i1 + 1)).getD j 0)) (by omega) ht5 (by omega) (by rw [w2.2 100 (by decide)]; exact v1) (fun j hj => by rw [w2.2 99 (by decide)]; exact v2 j hj)
            have e24 : eX [76, 99, 100] X' Y4 := eX_trans (eX_trans (eX_trans (eX_mono j2 (fun a ha => by simp at ha ⊢; omega)) (eX_mono l2 (fun a ha => by simp at ha ⊢; omega))) (eX_mono w2 (fun a ha => by simp at ha ⊢; omega))) (eX_mono y2 (fun a ha => by simp at ha ⊢; omega))
            have a76 : Y2.1 76 = X'.1 76 := (l2.2 76 (by decide)).trans (j2.2 76 (by decide))
            have hA2 : rBd (Y2.1 76) S.1 := by rw [a76]; exact hA'
            have hrB : rBd (Y4.1 76) (setT S.1 (upTs (upTs (brt S.1) s ((brt S.1 s).take (i1 + 1) ++ (brt S.1 t).drop (i2 + 1))) t ((brt S.1 t).take (i2 + 1) ++ (brt S.1 s).drop (i1 + 1)))) := by
              refine rBd_T hs hA2 (fun u hu => ?_) (fun k hk => by rw [y5 k (by omega), w5 k (by omega)]) hb.2.2.2.1
              by_cases eu : u = t
              · rw [eu, upTs_1, ln2]
                exact ⟨y3, y4⟩
              · by_cases eu2 : u = s
                · rw [upTs_n _ _ eu, eu2, upTs_1, ln1]
                  refine ⟨by rw [y5 _ (by omega)]; exact w3, fun k hk => ?_⟩
                  rw [y5 _ (by omega)]
                  exact w4 k hk
                · have hlu := bOK_len hb u
                  rw [upTs_n _ _ eu, upTs_n _ _ eu2]
                  refine ⟨by rw [y5 _ (by omega), w5 _ (by omega)]; exact A_t hA2 hu, fun k hk => ?_⟩
                  rw [y5 _ (by omega), w5 _ (by omega)]
                  exact A_tk hA2 hu hk
            have hf : fRm 75 102 X' Y4 := fun a ha => ⟨e24.2 a (by simp; omega), by rw [e24.1]⟩
            refine ok_s (S := S) (S' := (setT S.1 (upTs (upTs (brt S.1) s ((brt S.1 s).take (i1 + 1) ++ (brt S.1 t).drop (i2 + 1))) t ((brt S.1 t).take (i2 + 1) ++ (brt S.1 s).drop (i1 + 1))), S.2)) (r := nI x) (sOK_b h.1 (bOK_T2 hb o1.1 o1.2.1 o2.1 o2.2.1)) (x_RP_exchange (rc_3 c X) ?_) (cI_b (cI_fr s2 (by omega) (by omega) h.2.1) s3 s4) (x_Mo_exchange (rc_75 c X') ?_) hf (rI_b hr1 (fun a _ _ h3 h4 h5 => e24.2 a (by simp; omega)) (by rw [e24.2 75 (by decide)]) hrB) (zF_tr (zF_fr s2 (by omega)) (zF_fr s3 (by omega)))
            · rw [e_RP_exchange, kZ_of (M_isSlot_t hs5 _), if_pos rfl, kZ_of (M_isSlot_t ht5 _), if_pos rfl, if_pos hne, kI_of c1, if_pos hn6, bO (g3_0 c X), bO (g4_1 c X), bO (q8_ hs5), bO (g3_0 c X), bO (g4_1 c X), bO (q8_ ht5), kZ_of s1, if_pos rfl]
            · rw [e_Mo_exchange, kZ_of (M_misSlot_t hs5 _), if_pos rfl, kZ_of (M_misSlot_t ht5 _), if_pos rfl, if_pos hne, kI_of (c2 X' hA'), if_neg hn0]
              rw [show (0 : Int32) = nI 0 from rfl, kZ_of j1, if_pos hb1, show (1 : Int32) = nI 1 from rfl, kZ_of l1, if_pos hb2, kV_of w1, kV_of y1]
          · obtain ⟨Y1, b1, j1, j2, j3, j4, j5, j6⟩ := R_joins (c := c) (i := 0) hb hA (by omega) hs5 ht5 hi1 e1 hi2 e2
            have hA1 : rBd (Y1.1 76) S.1 := by rw [j2.2 76 (by decide)]; exact hA
            have ec : ix_M mRP_exchange [.ref 3, .int (nI s), .int (nI t)] (hp c X) = some ([.int (-5)], hp c X) := x_RP_exchange (rc_3 c X) (by
              rw [e_RP_exchange, kZ_of (M_isSlot_t hs5 _), if_pos rfl, kZ_of (M_isSlot_t ht5 _), if_pos rfl, if_pos hne, kI_of c1, if_pos hn6, bO (g3_0 c X), bO (g4_1 c X), bO (q8_ hs5), bO (g3_0 c X), bO (g4_1 c X), bO (q8_ ht5), kZ_of s1, if_neg (by decide)])
            have er : ∃ Y, ix_M mMo_exchange [.ref 75, .int (nI s), .int (nI t)] (hp c X) = some ([.int (-5)], hp c Y) ∧ eX [99, 100] X Y := by
              cases hb1 : b1 with
              | false =>
                rw [hb1] at j1
                refine ⟨Y1, x_Mo_exchange (rc_75 c X) ?_, j2⟩
                rw [e_Mo_exchange, kZ_of (M_misSlot_t hs5 _), if_pos rfl, kZ_of (M_misSlot_t ht5 _), if_pos rfl, if_pos hne, kI_of (c2 X hA), if_neg hn0]
                rw [show (0 : Int32) = nI 0 from rfl, kZ_of j1, if_neg (by decide)]
              | true =>
                obtain ⟨Y2, b2, l1, l2, l3, l4, l5, l6⟩ := R_joins (c := c) (i := 1) hb hA1 (by omega) ht5 hs5 hi2 e2 hi1 e1
                have hb2 : b2 = false := by
                  cases q : b2 with
                  | false => rfl
                  | true => exact absurd ⟨j3.mp hb1, l3.mp q⟩ t1
                rw [hb1] at j1
                rw [hb2] at l1
                refine ⟨Y2, x_Mo_exchange (rc_75 c X) ?_, eX_trans j2 l2⟩
                rw [e_Mo_exchange, kZ_of (M_misSlot_t hs5 _), if_pos rfl, kZ_of (M_misSlot_t ht5 _), if_pos rfl, if_pos hne, kI_of (c2 X hA), if_neg hn0]
                rw [show (0 : Int32) = nI 0 from rfl, kZ_of j1, if_pos rfl, show (1 : Int32) = nI 1 from rfl, kZ_of l1, if_neg (by decide)]
            obtain ⟨Y, r1, r2⟩ := er
            exact ok_q h ec (fRm_refl _ _ _) r1 (rS_eX r2 (fun a ha => by simp at ha; omega) (by rw [r2.2 75 (by decide)]))
    · exact ok_0 h (r := -1) (x_RP_exchange (rc_3 c X) (by rw [e_RP_exchange, kZ_of (M_isSlot_t hs5 _), if_pos rfl, kZ_of (M_isSlot_f hy _), if_neg (by decide)])) (x_Mo_exchange (rc_75 c X) (by rw [e_Mo_exchange, kZ_of (M_misSlot_t hs5 _), if_pos rfl, kZ_of (M_misSlot_f hy _), if_neg (by decide)]))
  · exact ok_0 h (r := -1) (x_RP_exchange (rc_3 c X) (by rw [e_RP_exchange, kZ_of (M_isSlot_f hx _), if_neg (by decide)])) (x_Mo_exchange (rc_75 c X) (by rw [e_Mo_exchange, kZ_of (M_misSlot_f hx _), if_neg (by decide)]))
