/-! CHAINS of the class; its own cells are 67 to 72 -/
def EBh (B : bT) (y x : Nat) : Bool := decide (0 < fw B y x) && !decide (y = x)
theorem EBh_iff (B : bT) (y x : Nat) : EBh B y x = true ↔ 0 < fw B y x ∧ ¬ y = x := by
  unfold EBh
  simp only [Bool.and_eq_true, decide_eq_true_eq, Bool.not_eq_true', decide_eq_false_iff_not]
theorem EBh_lt {B : bT} (hw : 0 < bw B) {y x : Nat} (h : EBh B y x = true) : y < x := by
  obtain ⟨h1, h2⟩ := (EBh_iff B y x).mp h
  have := rc_le hw h1
  omega
theorem EBh_st {B : bT} (hw : 0 < bw B) : stO (EBh B) (fun x => x) := by
  refine ⟨fun a b c h1 h2 => ?_, fun a b h => EBh_lt hw h⟩
  have l1 := EBh_lt hw h1
  have l2 := EBh_lt hw h2
  exact (EBh_iff B a c).mpr ⟨rc_trans hw ((EBh_iff B a b).mp h1).1 c ((EBh_iff B b c).mp h2).1, by omega⟩
def cAr (X : ixX) (B : bT) (L : Nat → Bool) (ld fo : Nat → Option Nat) : Prop := (∀ k, k < bn B → X.2 68 k = LSt (fun y => decide (0 < fw B y k))) ∧ X.2 67 5 = LSt L ∧ X.2 67 6 = LSt (fun y => L y && (fo y).isNone) ∧ (∀ k, k < 64 → X.1 69 k = oI (ld k)) ∧ (∀ k, k < 64 → X.1 70 k = oI (fo k))
theorem M_aheadOf {c : ixK} {X : ixX} {k : Nat} (hk : k < 64) : ix_M mCh_aheadOf [.ref 67, .int (nI k)] (hp c X) = some ([.long (X.2 68 k)], hp c X) := by
  refine x_Ch_aheadOf (rc_67 c X) ?_
  rw [e_Ch_aheadOf, if_neg (nI_pos (by omega)), if_neg (lit_nle (x := 64) (a := 64) (k := k) rfl hk (by omega)), bO (g67_0 c X), bO (r68 hk)]
theorem M_aheadOf_0 {c : ixK} {X : ixX} {x : Int32} (hx : x < 0) : ix_M mCh_aheadOf [.ref 67, .int x] (hp c X) = some ([.long 0], hp c X) := by
  refine x_Ch_aheadOf (rc_67 c X) ?_
  rw [e_Ch_aheadOf, if_pos hx]
theorem M_findAhead {c : ixK} {X : ixX} {B : bT} (hs : bS B) (h : cG 4 X B) : ∃ g, ix_M mCh_findAhead [.ref 67, .ref 5] (hp c X) = some ([], hp c (aJ X 68 g)) ∧ ∀ k, k < bn B → g k = LSt (fun y => decide (0 < fw B y k)) := by
  have h64 := bS_64 hs
  have hw := bS_w hs
  have h8 := hs.2.1
  have hG : ∀ g, cG 4 (aJ X 68 g) B := fun g => cG_cong rfl rfl rfl rfl h
  obtain ⟨g, e, hg⟩ := lp_up (fun k (g : Nat → Int64) => l_Ch_findAhead_18 67 5 (nI (bn B)) (LSt (bop B)) (nI k) (hp c (aJ X 68 g))) (fun k g => ∀ j, j < k → g j = LSt (fun y => decide (0 < fw B y j))) (N := bn B) (fun k g hk hg => by
    refine ⟨vp_updL g k (LSt (fun y => decide (0 < fw B y k))), ?_, ?_⟩
    · show l_Ch_findAhead_18 67 5 (nI (bn B)) (LSt (bop B)) (nI k) (hp c (aJ X 68 g)) = l_Ch_findAhead_18 67 5 (nI (bn B)) (LSt (bop B)) (nI (k + 1)) (hp c (aJ X 68 _))
      have hup : ∀ s : Nat → Bool, (∀ y, s y = true ↔ (y = k ∨ (¬ k % bw B = 0 ∧ 0 < fw B y (k - 1)))) → l_Ch_findAhead_56 67 5 (nI (bn B)) (LSt (bop B)) (nI k) (LSt s) (hp c (aJ X 68 g)) = l_Ch_findAhead_18 67 5 (nI (bn B)) (LSt (bop B)) (nI (k + 1)) (hp c (aJ X 68 (vp_updL g k (LSt (fun y => decide (0 < fw B y k)))))) := by
        intro s hsum
        have ew : ∃ u : Nat → Bool, (ix_M mCh_aheadOf [.ref 67, .int (nI k - nI (bw B))] (hp c (aJ X 68 g))) = some ([.long (LSt u)], hp c (aJ X 68 g)) ∧ ∀ y, u y = true ↔ (bw B ≤ k ∧ 0 < fw B y (k - bw B)) := by
          by_cases h1 : bw B ≤ k
          · refine ⟨fun y => decide (0 < fw B y (k - bw B)), ?_, fun y => ?_⟩
            · rw [nI_sub h1, M_aheadOf (by omega), aJ_1, hg (k - bw B) (by omega)]
            · rw [decide_eq_true_eq]
              exact ⟨fun q => ⟨h1, q⟩, fun q => q.2⟩
          · refine ⟨fun _ => false, ?_, fun y => ⟨(fun q => by cases q), fun q => absurd q.1 h1⟩⟩
            rw [M_aheadOf_0 (nI_subneg (by omega) (by omega)), LS_0]
        obtain ⟨u, eu, hu⟩ := ew
        rw [e_Ch_findAhead_56, bO (g5_0 c _), G_w (hG g), kL_of eu, bO (g67_0 c _), kZ_of (M_holds _ (by omega) _), nI_1]
        cases ho : bop B k with
        | true =>
          have e1 : LSt s ||| LSt u = LSt (fun y => decide (0 < fw B y k)) := by
            rw [LS_or]
            refine LS_cong (fun y _ => ?_)
            rw [Bool.eq_iff_iff, Bool.or_eq_true, hsum, hu, decide_eq_true_eq, rc_iff hw y k]
            constructor
            · rintro ((q | q) | q)
              · exact ⟨ho, .inl q.symm⟩
              · exact ⟨ho, .inr (.inl q)⟩
              · exact ⟨ho, .inr (.inr q)⟩
            · rintro ⟨_, q | q | q⟩
              · exact .inl (.inl q.symm)
              · exact .inl (.inr q)
              · exact .inr q
          rw [if_pos rfl, e1, bO (s68 (by omega)), aJ_1, aJ_aJ]
        | false =>
          have e1 : (0 : Int64) = LSt (fun y => decide (0 < fw B y k)) := by
            rw [LS_0]
            refine LS_cong (fun y _ => ?_)
            symm
            rw [decide_eq_false]
            intro q
            have := ((rc_iff hw y k).mp q).1
            rw [ho] at this
            cases this
          rw [if_neg (by decide), e1, bO (s68 (by omega)), aJ_1, aJ_aJ]
      rw [e_Ch_findAhead_18, if_neg (by rw [nI_leI (by omega) (by omega)]; omega), kL_of (M_bit (by omega) _), bO (g5_3 c _), G_f (hG g), kZ_of (M_holds _ (by omega) _), decide_eq_true hk]
      by_cases h0 : k % bw B = 0
      · rw [decide_eq_true h0, if_neg (by decide)]
        refine hup _ (fun y => ?_)
        rw [decide_eq_true_eq]
        exact ⟨fun q => .inl q, fun q => q.elim id (fun r => absurd h0 r.1)⟩
      · have hk0 : ¬ k = 0 := fun e => h0 (by rw [e]; exact Nat.zero_mod _)
        rw [decide_eq_false h0, if_pos (by decide), show nI k - 1 = nI (k - 1) from nI_sub (b := 1) (by omega), kL_of (M_aheadOf (by omega)), aJ_1, hg (k - 1) (by omega), LS_or]
        refine hup _ (fun y => ?_)
        rw [Bool.or_eq_true, decide_eq_true_eq, decide_eq_true_eq]
        exact ⟨fun q => q.elim (fun r => .inl r) (fun r => .inr ⟨h0, r⟩), fun q => q.elim (fun r => .inl r) (fun r => .inr r.2)⟩
    · intro j hj
      by_cases ej : j = k
      · rw [ej, updL_1]
      · rw [updL_n _ _ ej]; exact hg j (by omega)) (k := 0) (s := X.2 68) (by omega) (fun j hj => absurd hj (Nat.not_lt_zero j))
  have e' : l_Ch_findAhead_18 67 5 (nI (bn B)) (LSt (bop B)) (nI 0) (hp c (aJ X 68 (X.2 68))) = l_Ch_findAhead_18 67 5 (nI (bn B)) (LSt (bop B)) (nI (bn B)) (hp c (aJ X 68 g)) := e
  rw [aJ_self] at e'
  refine ⟨g, x_Ch_findAhead (rc_67 c X) ?_, hg⟩
  rw [e_Ch_findAhead, kI_of (M_gsize h), kL_of (M_gopen h), mn_64 h64, show (0 : Int32) = nI 0 from rfl, e', e_Ch_findAhead_18, if_pos (by rw [nI_leI (by omega) (by omega)]; omega)]
theorem M_linkIn_69 {c : ixK} {X : ixX} {k : Nat} (hk : k < 64) : ix_M mCh_linkIn [.ref 69, .int (nI k)] (hp c X) = some ([.int (X.1 69 k)], hp c X) := by
  have e : ix_an (hp c X) 69 = some 64 := hp_an (v := (64, .inl (X.1 69))) (t := 0) (n := 0) (by omega) (by rw [sh_69]; rfl)
  refine x_Ch_linkIn ?_
  rw [e_Ch_linkIn, if_neg (nI_pos (by omega)), bO e, if_neg (show ¬ Int32.ofNat 64 ≤ nI k from lit_nle (a := 64) rfl hk (by omega)), bO (r69 hk)]
theorem M_linkIn_72 {c : ixK} {X : ixX} {k : Nat} (hk : k < 64) : ix_M mCh_linkIn [.ref 72, .int (nI k)] (hp c X) = some ([.int (X.1 72 k)], hp c X) := by
  have e : ix_an (hp c X) 72 = some 64 := hp_an (v := (64, .inl (X.1 72))) (t := 0) (n := 0) (by omega) (by rw [sh_72]; rfl)
  refine x_Ch_linkIn ?_
  rw [e_Ch_linkIn, if_neg (nI_pos (by omega)), bO e, if_neg (show ¬ Int32.ofNat 64 ≤ nI k from lit_nle (a := 64) rfl hk (by omega)), bO (r72 hk)]
theorem M_link {c : ixK} {X : ixX} {x y : Nat} (hx : x < 64) (hy : y < 64) : ix_M mCh_link [.ref 67, .int (nI x), .int (nI y)] (hp c X) = some ([], hp c (aI (aI X 70 (upd (X.1 70) x (nI y))) 69 (upd (X.1 69) y (nI x)))) := by
  refine x_Ch_link (rc_67 c X) ?_
  rw [e_Ch_link, if_neg (nI_pos (by omega)), if_neg (lit_nle (x := 64) (a := 64) (k := x) rfl hx (by omega)), if_neg (nI_pos (by omega)), if_neg (lit_nle (x := 64) (a := 64) (k := y) rfl hy (by omega)), if_neg (by decide), bO (g67_2 c _), bO (s70 hx), bO (g67_1 c _), bO (s69 hy), aI_o (by omega)]
theorem oI_none {o : Option Nat} (h : ∀ x, o = some x → x < 2147483648) : oI o = -6 ↔ o = none := by
  cases o with
  | none => exact ⟨fun _ => rfl, fun _ => rfl⟩
  | some x => exact ⟨fun q => absurd q (m6_ne (h x rfl)), fun q => by cases q⟩
/-- the queue of a search as a list -/
def cQ (X : ixX) (qs : List Nat) : Prop := ∀ i, i < qs.length → X.1 71 i = nI (qs.getD i 0)
theorem cQ_app {X : ixX} {qs : List Nat} (h : cQ X qs) {f : Nat} : cQ (aI X 71 (upd (X.1 71) qs.length (nI f))) (qs ++ [f]) := by
  intro i hi
  rw [List.length_append] at hi
  have hi2 : i < qs.length + 1 := hi
  rw [aI_1]
  rcases Nat.lt_or_ge i qs.length with q | q
  · rw [upd_n _ _ (by omega), gd_app_l qs [f] i q]
    exact h i q
  · have e : i = qs.length := by omega
    rw [e, upd_1]
    exact congrArg nI (gd_app_r qs [f] 0).symm
theorem nd_app {qs : List Nat} (h : qs.Nodup) {f : Nat} (hf : ¬ f ∈ qs) : (qs ++ [f]).Nodup := by
  refine gd_nd _ (fun i j hij hj => ?_)
  rw [List.length_append] at hj
  have hj2 : j < qs.length + 1 := hj
  rw [gd_app_l qs [f] i (by omega)]
  rcases Nat.lt_or_ge j qs.length with q | q
  · rw [gd_app_l qs [f] j q]
    exact nd_gd qs h i j hij q
  · have e : j = qs.length + 0 := by omega
    rw [e, gd_app_r]
    intro e2
    have e3 : qs.getD i 0 = f := e2
    exact hf (by rw [← e3]; exact gd_mem qs i (by omega))
/-- followers of a set of leaders come into the queue -/
theorem L_enq {c : ixK} {L : Nat → Bool} {E : Nat → Nat → Bool} {ld fo : Nat → Option Nat} (hm : mOK L E ld fo) (hL : ∀ x, L x = true → x < 64) {s : Nat} (hs : s < 64) : ∀ (m k : Nat) (rest : Nat → Bool) (X : ixX) (qs : List Nat), fb_ct rest 64 = m → k + m ≤ 64 → qs.Nodup → (∀ q, q ∈ qs → q < 64) → (∀ y f, rest y = true → fo y = some f → ¬ f ∈ qs) → cQ X qs → (∀ j, j < 64 → X.1 70 j = oI (fo j)) → ∃ X' z, l_Ch_enqueueFollowers_10 67 (nI s) (nI qs.length) (LSt rest) (nI k) (hp c X) = some ([.int (nI (qs ++ z).length)], hp c X') ∧ (qs ++ z).Nodup ∧ (∀ q, q ∈ qs ++ z → q < 64) ∧ cQ X' (qs ++ z) ∧ X'.2 = X.2 ∧ (∀ a, ¬ a = 71 → ¬ a = 72 → X'.1 a = X.1 a) ∧ (∀ y f, y < 64 → rest y = true → fo y = some f → f ∈ z ∧ X'.1 72 y = nI s) ∧ (∀ y, ¬ (rest y = true) → X'.1 72 y = X.1 72 y) ∧ (∀ f, f ∈ z → ∃ y, y < 64 ∧ rest y = true ∧ fo y = some f) := by
  have hfo : ∀ y x, fo y = some x → x < 64 ∧ y < 64 := fun y x h => by
    have := hm.1 x y (hm.2 y x h)
    exact ⟨hL x this.1, hL y this.2.1⟩
  intro m
  induction m with
  | zero =>
    intro k rest X qs hr hk hn hq hd hc hf
    have hz := fb_ct_zero.mp hr
    have e0 : LSt rest = 0 := LS_zero.mpr hz
    refine ⟨X, [], ?_, by rw [List.append_nil]; exact hn, by rw [List.append_nil]; exact hq, by rw [List.append_nil]; exact hc, rfl, fun _ _ _ => rfl, fun y f hy hr2 => ?_, fun _ _ => rfl, fun f hf => (by cases hf)⟩
    · rw [e_Ch_enqueueFollowers_10, List.append_nil]
      by_cases h64 : (64 : Int32) ≤ nI k
      · rw [if_pos h64]
      · rw [if_neg h64, if_pos e0]
    · rw [hz y hy] at hr2; cases hr2
  | succ m ih =>
    intro k rest X qs hr hk hn hq hd hc hf
    have hne : ¬ LSt rest = 0 := by
      intro e
      have := fb_ct_zero.mpr (LS_zero.mp e)
      omega
    obtain ⟨v, hv1, hv2, hv3⟩ := LS_least hne
    have hlen : qs.length ≤ 64 := nd_len hn hq
    have hct : fb_ct (fun i => rest i && decide (¬ i = v)) 64 = m := by
      have h1 := fb_ct_upd rest false hv1
      rw [hv2, if_pos rfl, if_neg (by decide)] at h1
      have h2 : fb_ct (fun i => rest i && decide (¬ i = v)) 64 = fb_ct (fun k => if k = v then false else rest k) 64 := fb_ct_cong fun i _ => by
        by_cases e : i = v
        · rw [if_pos e, decide_eq_false (fun n => n e), Bool.and_false]
        · rw [if_neg e, decide_eq_true e, Bool.and_true]
      omega
    have hsub : ∀ y, (rest y && decide (¬ y = v)) = true ↔ rest y = true ∧ ¬ y = v := fun y => by rw [Bool.and_eq_true, decide_eq_true_eq]
    rw [e_Ch_enqueueFollowers_10, if_neg (lit_nle (x := 64) (a := 64) (k := k) rfl (by omega) (by omega)), if_neg hne, kI_of (M_lowest hv1 hv2 hv3 _), if_neg (lit_nle (x := 64) (a := 64) (k := v) rfl hv1 (by omega)), bO (g67_2 c _), bO (r70 hv1), hf v hv1, LS_drop hv1 hv2 hv3, nI_1, nI_1]
    cases ho : fo v with
    | none =>
      rw [if_pos (show oI none = -6 from rfl)]
      obtain ⟨X', z, i1, i2, i3, i4, i5, i6, i7, i8, i9⟩ := ih (k + 1) (fun i => rest i && decide (¬ i = v)) X qs hct (by omega) hn hq (fun y f hy hyf => hd y f ((hsub y).mp hy).1 hyf) hc hf
      refine ⟨X', z, i1, i2, i3, i4, i5, i6, fun y f hy hr2 hyf => ?_, fun y hy => i8 y (fun q => hy ((hsub y).mp q).1), fun f hfz => ?_⟩
      · by_cases ey : y = v
        · rw [ey, ho] at hyf; cases hyf
        · exact i7 y f hy ((hsub y).mpr ⟨hr2, ey⟩) hyf
      · obtain ⟨y, h1, h2, h3⟩ := i9 f hfz
        exact ⟨y, h1, ((hsub y).mp h2).1, h3⟩
    | some w =>
      have hw := hfo v w ho
      have hwq := hd v w hv2 ho
      have hnd := nd_app hn hwq
      have hlt : ∀ q, q ∈ qs ++ [w] → q < 64 := fun q hq2 => by
        rcases List.mem_append.mp hq2 with r | r
        · exact hq q r
        · rw [List.mem_singleton.mp r]; exact hw.1
      have hl2 := nd_len hnd hlt
      rw [List.length_append] at hl2
      have hl3 : qs.length + 1 ≤ 64 := hl2
      obtain ⟨X1, hX1⟩ : ∃ Y, Y = aI (aI X 72 (upd (X.1 72) v (nI s))) 71 (upd (X.1 71) qs.length (nI w)) := ⟨_, rfl⟩
      have hc1 : cQ X1 (qs ++ [w]) := by
        rw [hX1]
        have h0 : cQ (aI X 72 (upd (X.1 72) v (nI s))) qs := fun i hi => by rw [aI_o (by omega)]; exact hc i hi
        have := cQ_app (f := w) h0
        rw [aI_o (by omega)] at this
        exact this
      have hf1 : ∀ j, j < 64 → X1.1 70 j = oI (fo j) := fun j hj => by rw [hX1, aI_o (by omega), aI_o (by omega)]; exact hf j hj
      rw [if_neg (show ¬ oI (some w) = -6 from m6_ne (by omega)), if_neg (lit_nle (x := 64) (a := 64) (k := qs.length) rfl (by omega) (by omega)), bO (g67_4 c _), bO (s72 hv1), bO (g67_3 c _), bO (g67_2 c _), bO (r70 hv1), aI_o (by omega), hf v hv1, ho, show oI (some w) = nI w from rfl, bO (s71 (by omega)), aI_o (by omega), ← hX1]
      obtain ⟨X', z, i1, i2, i3, i4, i5, i6, i7, i8, i9⟩ := ih (k + 1) (fun i => rest i && decide (¬ i = v)) X1 (qs ++ [w]) hct (by omega) hnd hlt (fun y f hy hyf hfq => by
        rcases List.mem_append.mp hfq with r | r
        · exact hd y f ((hsub y).mp hy).1 hyf r
        · rw [List.mem_singleton.mp r] at hyf
          have := (hm.2 y w hyf).symm.trans (hm.2 v w ho)
          exact ((hsub y).mp hy).2 (Option.some.inj this)) hc1 hf1
      rw [List.append_assoc] at i1 i2 i3 i4
      rw [List.length_append] at i1
      refine ⟨X', [w] ++ z, i1, i2, i3, i4, by rw [i5, hX1]; rfl, fun a h1 h2 => by rw [i6 a h1 h2, hX1, aI_o h1, aI_o h2], fun y f hy hr2 hyf => ?_, fun y hy => ?_, fun f hfz => ?_⟩
      · by_cases ey : y = v
        · rw [ey, ho] at hyf
          have : w = f := Option.some.inj hyf
          refine ⟨by rw [← this]; exact List.mem_append.mpr (.inl (List.mem_singleton.mpr rfl)), ?_⟩
          rw [ey, i8 v (fun q => ((hsub v).mp q).2 rfl), hX1, aI_o (by omega), aI_1, upd_1]
        · have := i7 y f hy ((hsub y).mpr ⟨hr2, ey⟩) hyf
          exact ⟨List.mem_append.mpr (.inr this.1), this.2⟩
      · rw [i8 y (fun q => hy ((hsub y).mp q).1), hX1, aI_o (by omega), aI_1, upd_n _ _ (fun e => hy (by rw [e]; exact hv2))]
      · rcases List.mem_append.mp hfz with r | r
        · rw [List.mem_singleton.mp r]
          exact ⟨v, hv1, hv2, ho⟩
        · obtain ⟨y, h1, h2, h3⟩ := i9 f r
          exact ⟨y, h1, ((hsub y).mp h2).1, h3⟩
theorem M_enq {c : ixK} {L : Nat → Bool} {E : Nat → Nat → Bool} {ld fo : Nat → Option Nat} (hm : mOK L E ld fo) (hL : ∀ x, L x = true → x < 64) {s : Nat} (hs : s < 64) {rest : Nat → Bool} {X : ixX} {qs : List Nat} (hn : qs.Nodup) (hq : ∀ q, q ∈ qs → q < 64) (hd : ∀ y f, rest y = true → fo y = some f → ¬ f ∈ qs) (hc : cQ X qs) (hf : ∀ j, j < 64 → X.1 70 j = oI (fo j)) : ∃ X' z, ix_M mCh_enqueueFollowers [.ref 67, .long (LSt rest), .int (nI s), .int (nI qs.length)] (hp c X) = some ([.int (nI (qs ++ z).length)], hp c X') ∧ (qs ++ z).Nodup ∧ (∀ q, q ∈ qs ++ z → q < 64) ∧ cQ X' (qs ++ z) ∧ X'.2 = X.2 ∧ (∀ a, ¬ a = 71 → ¬ a = 72 → X'.1 a = X.1 a) ∧ (∀ y f, y < 64 → rest y = true → fo y = some f → f ∈ z ∧ X'.1 72 y = nI s) ∧ (∀ y, ¬ (rest y = true) → X'.1 72 y = X.1 72 y) ∧ (∀ f, f ∈ z → ∃ y, y < 64 ∧ rest y = true ∧ fo y = some f) := by
  obtain ⟨X', z, i1, i2⟩ := L_enq (c := c) hm hL hs (fb_ct rest 64) 0 rest X qs rfl (by have := fb_ct_le rest 64; omega) hn hq hd hc hf
  refine ⟨X', z, x_Ch_enqueueFollowers (rc_67 c X) ?_, i2⟩
  rw [e_Ch_enqueueFollowers]
  exact i1
/-- the cells of a way change their leaders -/
theorem L_relink {c : ixK} {L : Nat → Bool} {E : Nat → Nat → Bool} {ld fo : Nat → Option Nat} {D : Nat → Bool} (hm : mOK L E ld fo) (hL : ∀ x, L x = true → x < 64) {qs : List Nat} (hn : qs.Nodup) (hq : ∀ q, q ∈ qs → L q = true) {X0 : ixX} {e0 : Nat} (hsk : ∀ i, i < qs.length → (i = 0 ∧ ld (qs.getD i 0) = none) ∨ ∃ y j, ld (qs.getD i 0) = some y ∧ j < i ∧ X0.1 72 y = nI (qs.getD j 0) ∧ E y (qs.getD j 0) = true) : ∀ i, i < qs.length → ∀ (t nl : Nat) (X : ixX) (ld' fo' : Nat → Option Nat), t + i < 64 → mOK L E ld' fo' → Dc L E fo' D → L nl = true → E nl (qs.getD i 0) = true → fo' nl = none → (nl = e0 ∨ ∃ z, fo nl = some z) → (∀ k, k < 64 → X.1 69 k = oI (ld' k)) → (∀ k, k < 64 → ¬ k = nl → X.1 70 k = oI (fo' k)) → (∀ j, j ≤ i → ld' (qs.getD j 0) = ld (qs.getD j 0)) → (∀ y, ¬ y = qs.getD 0 0 → (ld' y).isNone = (ld y).isNone) → (∀ y, ¬ y = nl → (fo' y).isNone = (!decide (y = e0) && (fo y).isNone)) → X.2 = X0.2 → (∀ a, ¬ a = 69 → ¬ a = 70 → X.1 a = X0.1 a) → ∃ X2 ld2 fo2, l_Ch_relink_25 67 (nI nl) (nI (qs.getD i 0)) (nI t) (hp c X) = some ([], hp c X2) ∧ mOK L E ld2 fo2 ∧ Dc L E fo2 D ∧ (∀ k, k < 64 → X2.1 69 k = oI (ld2 k)) ∧ (∀ k, k < 64 → X2.1 70 k = oI (fo2 k)) ∧ (∀ y, (ld2 y).isNone = (!decide (y = qs.getD 0 0) && (ld y).isNone)) ∧ (∀ y, (fo2 y).isNone = (!decide (y = e0) && (fo y).isNone)) ∧ X2.2 = X0.2 ∧ (∀ a, ¬ a = 69 → ¬ a = 70 → X2.1 a = X0.1 a) := by
  intro i
  induction i using Nat.strongRecOn with
  | _ i ih =>
    intro hi t nl X ld' fo' ht hm' hD' hnl hE hfree hor h69 h70 hun hldn hfon hX2 hX1
    have hqi : L (qs.getD i 0) = true := hq _ (gd_mem qs i hi)
    have hqi64 := hL _ hqi
    have hnl64 := hL _ hnl
    obtain ⟨s1, s2, s3⟩ := m_step hm' hD' hnl hqi hE hfree
    have hldi := hun i (Nat.le_refl i)
    obtain ⟨X1, hX1'⟩ : ∃ Y, Y = aI (aI X 70 (upd (X.1 70) nl (nI (qs.getD i 0)))) 69 (upd (X.1 69) (qs.getD i 0) (nI nl)) := ⟨_, rfl⟩
    have a69 : ∀ k, k < 64 → X1.1 69 k = oI (upO ld' (qs.getD i 0) (some nl) k) := by
      intro k hk
      rw [hX1', aI_1]
      by_cases e : k = qs.getD i 0
      · rw [e, upd_1, upO_1]; rfl
      · rw [upd_n _ _ e, upO_n _ _ e]; exact h69 k hk
    have a70 : ∀ k, k < 64 → (∀ l, ld' (qs.getD i 0) = some l → ¬ k = l) → X1.1 70 k = oI (upO (upL fo' (ld' (qs.getD i 0))) nl (some (qs.getD i 0)) k) := by
      intro k hk hkl
      rw [hX1', aI_o (by omega), aI_1]
      by_cases e : k = nl
      · rw [e, upd_1, upO_1]; rfl
      · rw [upd_n _ _ e, upO_n _ _ e, h70 k hk e]
        cases hl : ld' (qs.getD i 0) with
        | none => rfl
        | some l =>
          show oI (fo' k) = oI (upO fo' l none k)
          rw [upO_n _ _ (hkl l hl)]
    have b2 : X1.2 = X0.2 := by rw [hX1']; exact hX2
    have b1 : ∀ a, ¬ a = 69 → ¬ a = 70 → X1.1 a = X0.1 a := fun a h1 h2 => by rw [hX1', aI_o h1, aI_o h2]; exact hX1 a h1 h2
    have start : l_Ch_relink_25 67 (nI nl) (nI (qs.getD i 0)) (nI t) (hp c X) = if ¬ oI (ld (qs.getD i 0)) = -6 then (ix_gr (hp c X1) 67 8 4).bind fun v5 => (ix_M mCh_linkIn [.ref v5, .int (oI (ld (qs.getD i 0)))] (hp c X1)).bind fun r => ix_kI r fun v7 h6 => l_Ch_relink_25 67 (oI (ld (qs.getD i 0))) v7 (nI t + 1) h6 else some ([], hp c X1) := by
      rw [e_Ch_relink_25, if_neg (lit_nle (x := 64) (a := 64) (k := t) rfl (by omega) (by omega)), bO (g67_1 c _), kI_of (M_linkIn_69 hqi64), h69 _ hqi64, hldi, kV_of (M_link hnl64 hqi64), ← hX1']
    have hldcase : ∀ y, ¬ y = qs.getD 0 0 → (∃ l, ld (qs.getD i 0) = some l) ∨ i = 0 → (upO ld' (qs.getD i 0) (some nl) y).isNone = (ld y).isNone := by
      intro y hy hcase
      by_cases e : y = qs.getD i 0
      · rw [e, upO_1]
        rcases hcase with ⟨l, hl⟩ | h0
        · rw [hl]; rfl
        · rw [h0] at e; exact absurd e hy
      · rw [upO_n _ _ e]; exact hldn y hy
    rcases hsk i hi with ⟨hi0, hnone⟩ | ⟨y, j, hy, hj, hy72, hyE⟩
    · refine ⟨X1, upO ld' (qs.getD i 0) (some nl), upO (upL fo' (ld' (qs.getD i 0))) nl (some (qs.getD i 0)), ?_, s1, s2, a69, fun k hk => a70 k hk (fun l hl => by rw [hldi, hnone] at hl; cases hl), ?_, ?_, b2, b1⟩
      · rw [start, hnone, if_neg (fun n => n rfl)]
      · intro y
        by_cases e : y = qs.getD 0 0
        · rw [decide_eq_true e, e, hi0, upO_1]; rfl
        · rw [decide_eq_false e, hldcase y e (.inr hi0)]; rfl
      · intro y
        by_cases e : y = nl
        · rw [e, upO_1]
          rcases hor with h | ⟨z, hz⟩
          · rw [decide_eq_true h]; rfl
          · rw [hz]; cases decide (nl = e0) <;> rfl
        · rw [upO_n _ _ e, hldi, hnone]
          exact hfon y e
    · have hy64 : y < 64 := hL y (hm.1 _ _ hy).2.1
      have hyL := (hm.1 _ _ hy).2.1
      have hne : ¬ oI (ld (qs.getD i 0)) = -6 := by
        rw [hy]
        exact m6_ne (by omega)
      have hldy : ld' (qs.getD i 0) = some y := by rw [hldi]; exact hy
      obtain ⟨s4, s5⟩ := s3 y hldy
      have hji : j < qs.length := by omega
      obtain ⟨X2, ld2, fo2, r1, r2⟩ := ih j hj hji (t + 1) y X1 _ _ (by omega) s1 s2 hyL hyE s5 (.inr ⟨_, (hm.1 _ _ hy).2.2.2⟩) a69 (fun k hk hky => a70 k hk (fun l hl => by
          rw [hldy] at hl
          rw [← Option.some.inj hl]
          exact hky)) (fun j' hj' => by
          rw [upO_n _ _ (nd_gd qs hn j' i (by omega) hi)]
          exact hun j' (by omega)) (fun z hz => hldcase z hz (.inl ⟨y, hy⟩)) (fun z hz => by
          by_cases e : z = nl
          · rw [e, upO_1]
            rcases hor with h | ⟨w, hw⟩
            · rw [decide_eq_true h]; rfl
            · rw [hw]; cases decide (nl = e0) <;> rfl
          · rw [upO_n _ _ e, hldy]
            show (upO fo' y none z).isNone = _
            rw [upO_n _ _ hz]
            exact hfon z e) b2 b1
      refine ⟨X2, ld2, fo2, ?_, r2⟩
      rw [start, if_pos hne, bO (g67_4 c _), hy, show oI (some y) = nI y from rfl, kI_of (M_linkIn_72 hy64), b1 72 (by omega) (by omega), hy72, nI_1, r1]
