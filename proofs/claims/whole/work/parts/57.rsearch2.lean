/-! REFERENCE'S SEARCH: the loops -/
def nsC (B : bT) (O S : Nat → Bool) (a : Nat → Nat → Bool) (t : Nat → Bool) (ns : List Nat) : Prop := (∀ c, c < bn B → S c = true → c ∈ ns) ∧ (∀ c, c < bn B → c ∈ ns → t c = false → 64 + c ∈ ns) ∧ (∀ c x, c < bn B → x < bn B → c ∈ ns → a x c = true → 64 + x ∈ ns) ∧ (∀ c, c < bn B → 64 + c ∈ ns → t c = true → c ∈ ns) ∧ (∀ c y, c < bn B → y < bn B → 64 + c ∈ ns → O y = true → adjB B c y = true → a c y = false → y ∈ ns)
/-- what a node that has been looked at leads to -/
def nsD (B : bT) (O : Nat → Bool) (a : Nat → Nat → Bool) (t : Nat → Bool) (ns : List Nat) (v : Nat) : Prop := (v < bn B → (t v = false → 64 + v ∈ ns) ∧ ∀ x, x < bn B → a x v = true → 64 + x ∈ ns) ∧ ∀ x, x < bn B → v = 64 + x → (t x = true → x ∈ ns) ∧ ∀ y, y < bn B → O y = true → adjB B x y = true → a x y = false → y ∈ ns
theorem nsD_app {B : bT} {O : Nat → Bool} {a : Nat → Nat → Bool} {t : Nat → Bool} {ns : List Nat} {v : Nat} (h : nsD B O a t ns v) (z : List Nat) : nsD B O a t (ns ++ z) v := ⟨fun hv => ⟨fun ht => List.mem_append.mpr (.inl ((h.1 hv).1 ht)), fun x hx ha => List.mem_append.mpr (.inl ((h.1 hv).2 x hx ha))⟩, fun x hx e => ⟨fun ht => List.mem_append.mpr (.inl ((h.2 x hx e).1 ht)), fun y hy hO hadj ha => List.mem_append.mpr (.inl ((h.2 x hx e).2 y hy hO hadj ha))⟩⟩
theorem nsD_C {B : bT} {O S : Nat → Bool} {a : Nat → Nat → Bool} {t : Nat → Bool} {ns : List Nat} (h1 : ∀ c, c < bn B → S c = true → c ∈ ns) (h2 : ∀ j, j < ns.length → nsD B O a t ns (ns.getD j 0)) : nsC B O S a t ns := by
  have h3 : ∀ v, v ∈ ns → nsD B O a t ns v := fun v hv => by
    obtain ⟨j, hj, e⟩ := mem_gd ns v hv
    rw [← e]
    exact h2 j hj
  exact ⟨h1, fun c hc hm ht => ((h3 c hm).1 hc).1 ht, fun c x hc hx hm ha => ((h3 c hm).1 hc).2 x hx ha, fun c hc hm ht => ((h3 _ hm).2 c hc rfl).1 ht, fun c y hc hy hm hO hadj ha => ((h3 _ hm).2 c hc rfl).2 y hy hO hadj ha⟩
theorem go_4 {B : bT} (hs : bS B) {O S T : Nat → Bool} {X : ixX} {b e : Nat → Bool} {a : Nat → Nat → Bool} {t : Nat → Bool} (hf : Flo (bn B) O S T (adjB B) b e a t) (h : rF B X b e a t) {c : Nat} (hc : c < bn B) : X.1 85 c = 4 ↔ e c = true := by
  constructor
  · intro h4
    rcases rF_go hs hf h hc with ⟨_, g⟩ | ⟨g, _⟩ | ⟨d, x, hd, _, _, _, g⟩
    · rw [g] at h4; exact absurd h4 (by decide)
    · exact g
    · rw [g] at h4
      have h5 : nI d = nI 4 := h4
      rw [nI_eq (by omega) (by omega)] at h5
      omega
  · intro he
    exact (h c hc).2.2.1 he
theorem oI_le {o : Option Nat} (h : ∀ x, o = some x → x < 2147483648) : (0 ≤ oI o) ↔ ∃ x, o = some x := by
  cases o with
  | none => exact ⟨fun q => absurd q (by decide), fun ⟨x, q⟩ => (by cases q)⟩
  | some x => exact ⟨fun _ => ⟨x, rfl⟩, fun _ => nI_pos' (h x rfl)⟩
theorem M_msearch {c : ixK} {X : ixX} {B : bT} (hs : bS B) (hr4 : ∀ c, brl B c < 4) (hA : rBd (X.1 76) B) {r1 r2 : Nat} (f12 : X.1 75 12 = nI r1) (f13 : X.1 75 13 = nI r2) (h1 : r1 < 4) (h2 : r2 < 4) {b e : Nat → Bool} {a : Nat → Nat → Bool} {t : Nat → Bool} (hf : Flo (bn B) (bop B) (bro B r1) (bro B r2) (adjB B) b e a t) (hr : rF B X b e a t) : ∃ X' o ns, ix_M mMo_search [.ref 75] (hp c X) = some ([.int (oI o)], hp c X') ∧ eX [75, 84, 87] X X' ∧ (∀ k, ¬ k = 14 → X'.1 75 k = X.1 75 k) ∧ bq B (bop B) (bro B r1) a t X' ns ∧ nsC B (bop B) (bro B r1) a t ns ∧ ((o = none ∧ ∀ x, x < bn B → 64 + x ∈ ns → bro B r2 x = true → e x = true) ∨ ∃ x, o = some x ∧ x < bn B ∧ 64 + x ∈ ns ∧ bro B r2 x = true ∧ e x = false) := by
  have h64 := bS_64 hs
  -- the marks
  obtain ⟨Y1, e1, p1, p2, p3⟩ := lp_up (fun k (Y : ixX) => l_Mo_search_2 75 (nI k) (hp c Y)) (fun k Y => eX [75, 84, 87] X Y ∧ Y.1 75 = X.1 75 ∧ ∀ v, v < k → Y.1 87 v = -6) (N := 128) (fun k Y hk hY => by
    refine ⟨aI Y 87 (upd (Y.1 87) k (-6)), ?_, eX_aI hY.1 (by decide), ?_, ?_⟩
    · show l_Mo_search_2 75 (nI k) (hp c Y) = l_Mo_search_2 75 (nI (k + 1)) (hp c _)
      rw [e_Mo_search_2, if_neg (lit_nle (x := 128) (a := 128) (k := k) rfl (by omega) (by omega)), bO (g75_11 c Y), bO (s87 hk), nI_1]
    · rw [aI_o (by omega)]; exact hY.2.1
    · intro v hv
      rw [aI_1]
      by_cases q : v = k
      · rw [q, upd_1]
      · rw [upd_n _ _ q]; exact hY.2.2 v (by omega)) (k := 0) (s := X) (by omega) ⟨eX_refl _ _, rfl, fun v hv => absurd hv (Nat.not_lt_zero v)⟩
  have e1' : l_Mo_search_2 75 0 (hp c X) = l_Mo_search_2 75 (nI 128) (hp c Y1) := e1
  obtain ⟨Y2, hY2⟩ : ∃ Y, Y = aI Y1 75 (upd (Y1.1 75) 14 0) := ⟨_, rfl⟩
  have b2 : bq B (bop B) (bro B r1) a t Y2 [] := by
    rw [hY2]
    refine ⟨by rw [aI_1, upd_1]; rfl, fun i hi => absurd hi (Nat.not_lt_zero i), List.nodup_nil, fun v hv => (by cases hv), fun v hv _ => ?_, fun i hi => absurd hi (Nat.not_lt_zero i)⟩
    rw [aI_o (by omega)]
    exact p3 v hv
  have x2 : eX [75, 84, 87] X Y2 := by rw [hY2]; exact eX_aI p1 (by decide)
  have k2 : ∀ k, ¬ k = 14 → Y2.1 75 k = X.1 75 k := by
    intro k hk
    rw [hY2, aI_1, upd_n _ _ hk, p2]
  -- the sources
  obtain ⟨⟨Y3, n3⟩, e3, q1, q2, q3, q4⟩ := lp_up (fun k (s : ixX × List Nat) => l_Mo_search_30 75 (nI k) (hp c s.1)) (fun k s => bq B (bop B) (bro B r1) a t s.1 s.2 ∧ (∀ x, x < k → bro B r1 x = true → x ∈ s.2) ∧ eX [75, 84, 87] X s.1 ∧ (∀ k, ¬ k = 14 → s.1.1 75 k = X.1 75 k)) (N := bn B) (fun k s hk hP => by
    obtain ⟨q1, q2, q3, q4⟩ := hP
    have hA' : rBd (s.1.1 76) B := by rw [q3.2 76 (by decide)]; exact hA
    show ∃ s' : ixX × List Nat, l_Mo_search_30 75 (nI k) (hp c s.1) = l_Mo_search_30 75 (nI (k + 1)) (hp c s'.1) ∧ _
    rw [e_Mo_search_30, kI_of (M_mcells hA'), if_neg (by rw [nI_leI (by omega) (by omega)]; omega), bO (g75_12 c _), q4 12 (by omega), f12, kZ_of (M_mhas hs hr4 hA' hk h1), nI_1]
    cases hb : bro B r1 k with
    | false =>
      rw [if_neg (by decide)]
      refine ⟨s, rfl, q1, ?_, q3, q4⟩
      intro x hx hx1
      by_cases ex : x = k
      · rw [ex, hb] at hx1; cases hx1
      · exact q2 x (by omega) hx1
    | true =>
      obtain ⟨Z, z, f1, f2, f3, f4, f5⟩ := M_reach (c := c) hs q1 (v := k) (p := 200) (.inl hk) (.inl ⟨rfl, hk, hb⟩)
      rw [if_pos rfl, show (200 : Int32) = nI 200 from rfl, kV_of f1]
      refine ⟨(Z, s.2 ++ z), rfl, f2, ?_, eX_trans q3 f4, fun k hk => (f5 k hk).trans (q4 k hk)⟩
      intro x hx hx1
      by_cases ex : x = k
      · rw [ex]; exact f3
      · exact List.mem_append.mpr (.inl (q2 x (by omega) hx1))) (k := 0) (s := (Y2, [])) (by omega) ⟨b2, fun x hx => absurd hx (Nat.not_lt_zero x), x2, k2⟩
  have e3' : l_Mo_search_30 75 0 (hp c Y2) = l_Mo_search_30 75 (nI (bn B)) (hp c Y3) := e3
  have q1' : bq B (bop B) (bro B r1) a t Y3 n3 := q1
  have q2' : ∀ x, x < bn B → bro B r1 x = true → x ∈ n3 := q2
  have q3' : eX [75, 84, 87] X Y3 := q3
  have q4' : ∀ k, ¬ k = 14 → Y3.1 75 k = X.1 75 k := q4
  -- the queue
  obtain ⟨Q, hQ⟩ : ∃ Q : Option (List Value × ixH) → Prop, Q = fun R => ∃ X' o ns, R = some ([.int (oI o)], hp c X') ∧ eX [75, 84, 87] X X' ∧ (∀ k, ¬ k = 14 → X'.1 75 k = X.1 75 k) ∧ bq B (bop B) (bro B r1) a t X' ns ∧ nsC B (bop B) (bro B r1) a t ns ∧ ((o = none ∧ ∀ x, x < bn B → 64 + x ∈ ns → bro B r2 x = true → e x = true) ∨ ∃ x, o = some x ∧ x < bn B ∧ 64 + x ∈ ns ∧ bro B r2 x = true ∧ e x = false) := ⟨_, rfl⟩
  obtain ⟨P, hP⟩ : ∃ P : Nat → (Option Nat × ixX × List Nat) → Prop, P = fun k s => bq B (bop B) (bro B r1) a t s.2.1 s.2.2 ∧ (∀ x, x < bn B → bro B r1 x = true → x ∈ s.2.2) ∧ k ≤ s.2.2.length ∧ (∀ j, j < k → nsD B (bop B) a t s.2.2 (s.2.2.getD j 0)) ∧ (s.1 = none → ∀ j x, j < k → x < bn B → s.2.2.getD j 0 = 64 + x → bro B r2 x = true → e x = true) ∧ (∀ x, s.1 = some x → x < bn B ∧ 64 + x ∈ s.2.2 ∧ bro B r2 x = true ∧ e x = false) ∧ eX [75, 84, 87] X s.2.1 ∧ (∀ k, ¬ k = 14 → s.2.1.1 75 k = X.1 75 k) := ⟨_, rfl⟩
  have hout : ∀ k s, P k s → s.2.2.length ≤ k → Q (l_Mo_search_69 75 (oI s.1) (nI k) (hp c s.2.1)) := by
    intro k s hs1 hl
    rw [hP] at hs1
    obtain ⟨u1, u2, u3, u4, u5, u6, u7, u8⟩ := hs1
    have hlen := bq_len hs u1
    rw [hQ]
    refine ⟨s.2.1, s.1, s.2.2, ?_, u7, u8, u1, nsD_C u2 (fun j hj => u4 j (by omega)), ?_⟩
    · rw [e_Mo_search_69, bO (g75_14 c _), u1.1, if_pos (by rw [nI_leI (by omega) (by omega)]; omega)]
    · cases ho : s.1 with
      | none =>
        refine .inl ⟨rfl, fun x hx hm hT => ?_⟩
        obtain ⟨j, hj, ej⟩ := mem_gd _ _ hm
        exact u5 ho j x (by omega) hx ej hT
      | some x => exact .inr ⟨x, rfl, u6 x ho⟩
  have main := lp_out (fun k (s : Option Nat × ixX × List Nat) => l_Mo_search_69 75 (oI s.1) (nI k) (hp c s.2.1)) P Q (N := 128) (fun k s hk hs1 => by
    by_cases hl : s.2.2.length ≤ k
    · exact .inr (hout k s hs1 hl)
    · refine .inl ?_
      rw [hP] at hs1
      obtain ⟨u1, u2, u3, u4, u5, u6, u7, u8⟩ := hs1
      have hlen := bq_len hs u1
      have hA' : rBd (s.2.1.1 76) B := by rw [u7.2 76 (by decide)]; exact hA
      have hr' : rF B s.2.1 b e a t := by
        unfold rF
        rw [u7.2 85 (by decide), u7.2 86 (by decide)]
        exact hr
      have hkl : k < s.2.2.length := by omega
      have hnd := u1.2.2.2.1 _ (gd_mem s.2.2 k hkl)
      have hso : ∀ x, s.1 = some x → x < 2147483648 := fun x hx => by have := (u6 x hx).1; omega
      show ∃ s' : Option Nat × ixX × List Nat, l_Mo_search_69 75 (oI s.1) (nI k) (hp c s.2.1) = l_Mo_search_69 75 (oI s'.1) (nI (k + 1)) (hp c s'.2.1) ∧ P (k + 1) s'
      rw [e_Mo_search_69, bO (g75_14 c _), u1.1, if_neg (by rw [nI_leI (by omega) (by omega)]; omega), bO (g75_8 c _), bO (r84 (show k < 128 by omega)), u1.2.1 k hkl, if_neg (by decide)]
      rcases hnd with hv | ⟨hv1, hv2⟩
      · -- an entrance
        obtain ⟨Z, z, f1, f2, f3, f4, f5, f6⟩ := M_reachIn (c := c) hs hA' hf hr' u1 hkl rfl hv
        have erem : ix_rem (nI (s.2.2.getD k 0)) 64 = nI (s.2.2.getD k 0) := by
          have := nI_rem (a := s.2.2.getD k 0) (b := 64) (by omega) (by omega)
          rw [Nat.mod_eq_of_lt (by omega)] at this
          exact this
        rw [if_neg (lit_nle (x := 64) (a := 64) (k := (s.2.2.getD k 0)) rfl (by omega) (by omega)), erem, kV_of f1, nI_1]
        refine ⟨(s.1, Z, s.2.2 ++ z), rfl, ?_⟩
        rw [hP]
        refine ⟨f2, fun x hx hx1 => List.mem_append.mpr (.inl (u2 x hx hx1)), by show k + 1 ≤ (s.2.2 ++ z).length; rw [List.length_append]; omega, ?_, ?_, ?_, eX_trans u7 f5, fun k hk => (f6 k hk).trans (u8 k hk)⟩
        · intro j hj
          show nsD B (bop B) a t (s.2.2 ++ z) ((s.2.2 ++ z).getD j 0)
          rw [gd_app_l s.2.2 z j (by omega)]
          by_cases ej : j = k
          · rw [ej]
            exact ⟨fun _ => ⟨f3, f4⟩, fun x hx ex => by omega⟩
          · exact nsD_app (u4 j (by omega)) z
        · intro ho j x hj hx ej hT
          have ej2 : (s.2.2 ++ z).getD j 0 = 64 + x := ej
          rw [gd_app_l s.2.2 z j (by omega)] at ej2
          by_cases ek : j = k
          · rw [ek] at ej2; omega
          · exact u5 ho j x (by omega) hx ej2 hT
        · intro x hx
          have := u6 x hx
          exact ⟨this.1, List.mem_append.mpr (.inl this.2.1), this.2.2⟩
      · -- an exit
        obtain ⟨y, hy⟩ : ∃ y, s.2.2.getD k 0 = 64 + y := ⟨s.2.2.getD k 0 - 64, by omega⟩
        have hyn : y < bn B := by omega
        obtain ⟨Z, z, f1, f2, f3, f4, f5, f6⟩ := M_reachOut (c := c) hs hA' hf hr' u1 hkl hy hyn
        have erem : ix_rem (nI (64 + y)) 64 = nI y := by
          have := nI_rem (a := 64 + y) (b := 64) (by omega) (by omega)
          rw [Nat.add_mod_left, Nat.mod_eq_of_lt (by omega)] at this
          exact this
        have base : ∀ o', (o' = none → ∀ j x, j < k + 1 → x < bn B → (s.2.2 ++ z).getD j 0 = 64 + x → bro B r2 x = true → e x = true) → (∀ x, o' = some x → x < bn B ∧ 64 + x ∈ s.2.2 ++ z ∧ bro B r2 x = true ∧ e x = false) → P (k + 1) (o', Z, s.2.2 ++ z) := by
          intro o' ho1 ho2
          rw [hP]
          refine ⟨f2, fun x hx hx1 => List.mem_append.mpr (.inl (u2 x hx hx1)), by show k + 1 ≤ (s.2.2 ++ z).length; rw [List.length_append]; omega, ?_, ho1, ho2, eX_trans u7 f5, fun k hk => (f6 k hk).trans (u8 k hk)⟩
          intro j hj
          show nsD B (bop B) a t (s.2.2 ++ z) ((s.2.2 ++ z).getD j 0)
          rw [gd_app_l s.2.2 z j (by omega)]
          by_cases ej : j = k
          · rw [ej, hy]
            refine ⟨fun hlt => by omega, fun x hx ex => ?_⟩
            have : x = y := by omega
            rw [this]
            exact ⟨f3, f4⟩
          · exact nsD_app (u4 j (by omega)) z
        have keep2 : ∀ x, s.1 = some x → x < bn B ∧ 64 + x ∈ s.2.2 ++ z ∧ bro B r2 x = true ∧ e x = false := by
          intro x hx
          have := u6 x hx
          exact ⟨this.1, List.mem_append.mpr (.inl this.2.1), this.2.2⟩
        have hymem : 64 + y ∈ s.2.2 ++ z := List.mem_append.mpr (.inl (by rw [← hy]; exact gd_mem _ k hkl))
        have keep1 : (bro B r2 y = true → e y = true) → s.1 = none → ∀ j x, j < k + 1 → x < bn B → (s.2.2 ++ z).getD j 0 = 64 + x → bro B r2 x = true → e x = true := by
          intro hyy ho j x hj hx ej hT
          rw [gd_app_l s.2.2 z j (by omega)] at ej
          by_cases ek : j = k
          · rw [ek, hy] at ej
            have : x = y := by omega
            rw [this] at hT ⊢
            exact hyy hT
          · exact u5 ho j x (by omega) hx ej hT
        rw [hy, if_pos (lit_le (x := 64) (a := 64) (k := (64 + y)) rfl (by omega) (by omega)), erem]
        cases ho : s.1 with
        | some x0 =>
          rw [if_pos ((oI_le (o := some x0) (fun x hx => hso x (by rw [ho]; exact hx))).mpr ⟨x0, rfl⟩), kV_of f1, nI_1]
          exact ⟨(some x0, Z, s.2.2 ++ z), rfl, base _ (fun q => by cases q) (fun x hx => keep2 x (by rw [ho]; exact hx))⟩
        | none =>
          rw [if_neg (show ¬ (0 : Int32) ≤ oI none by decide), bO (g75_13 c _), u8 13 (by omega), f13, kZ_of (M_mhas hs hr4 hA' hyn h2)]
          cases hb : bro B r2 y with
          | false =>
            rw [if_neg (by decide), kV_of f1, nI_1]
            exact ⟨(none, Z, s.2.2 ++ z), rfl, base _ (fun _ => keep1 (fun q => by rw [hb] at q; cases q) ho) (fun x hx => by cases hx)⟩
          | true =>
            rw [if_pos rfl, bO (g75_9 c _), bO (r85 (by omega))]
            by_cases h4 : s.2.1.1 85 y = 4
            · rw [if_pos h4, kV_of f1, nI_1]
              exact ⟨(none, Z, s.2.2 ++ z), rfl, base _ (fun _ => keep1 (fun _ => (go_4 hs hf hr' hyn).mp h4) ho) (fun x hx => by cases hx)⟩
            · have he : e y = false := by
                cases q : e y with
                | false => rfl
                | true => exact absurd ((go_4 hs hf hr' hyn).mpr q) h4
              rw [if_neg h4, kV_of f1, nI_1]
              refine ⟨(some y, Z, s.2.2 ++ z), rfl, base _ (fun q => by cases q) (fun x hx => ?_)⟩
              have : y = x := Option.some.inj hx
              rw [← this]
              exact ⟨hyn, hymem, hb, he⟩) (k := 0) (s := (none, Y3, n3)) (by omega) (by
    rw [hP]
    exact ⟨q1', q2', Nat.zero_le _, fun j hj => absurd hj (Nat.not_lt_zero j), fun _ j x hj => absurd hj (Nat.not_lt_zero j), (fun x hx => by cases hx), q3', q4'⟩)
  have hQ2 : Q (l_Mo_search_69 75 (oI none) (nI 0) (hp c Y3)) := by
    rcases main with ⟨s', e5, hs5⟩ | hq
    · have e5' : l_Mo_search_69 75 (oI none) (nI 0) (hp c Y3) = l_Mo_search_69 75 (oI s'.1) (nI 128) (hp c s'.2.1) := e5
      rw [e5']
      have hb : bq B (bop B) (bro B r1) a t s'.2.1 s'.2.2 := by rw [hP] at hs5; exact hs5.1
      exact hout 128 s' hs5 (bq_len hs hb)
    · exact hq
  rw [hQ] at hQ2
  obtain ⟨X', o, ns, w1, w2⟩ := hQ2
  have hA3 : rBd (Y3.1 76) B := by rw [q3'.2 76 (by decide)]; exact hA
  refine ⟨X', o, ns, x_Mo_search (rc_75 c X) ?_, w2⟩
  rw [e_Mo_search, e1', e_Mo_search_2, if_pos (show (128 : Int32) ≤ nI 128 by decide), bO (p75_14 c Y1 0), ← hY2, e3', e_Mo_search_30, kI_of (M_mcells hA3), if_pos (by rw [nI_leI (by omega) (by omega)]; omega)]
  exact w1
/-- the end of a search that found nothing -/
theorem bq_fin {B : bT} (hs : bS B) {O S T : Nat → Bool} {X : ixX} {b e : Nat → Bool} {a : Nat → Nat → Bool} {t : Nat → Bool} {ns : List Nat} (hS : ∀ c, S c = true → O c = true) (hf : Flo (bn B) O S T (adjB B) b e a t) (h : bq B O S a t X ns) (hc : nsC B O S a t ns) (hT : ∀ x, x < bn B → 64 + x ∈ ns → T x = true → e x = true) : FinR (bn B) O S T (adjB B) a t (fun c => decide (c ∈ ns)) (fun c => decide (64 + c ∈ ns)) := by
  have h64 := bS_64 hs
  -- who brought an exit of a used cell
  have hpar : ∀ x d, x < bn B → d < bn B → 64 + x ∈ ns → a x d = true → d ∈ ns := by
    intro x d hx hd hm ha
    obtain ⟨i, hi, ei⟩ := mem_gd ns _ hm
    have hu := DF_arc (by omega) h64 hf.1 hx hd ha
    rcases h.2.2.2.2.2 i hi with ⟨_, g1, _⟩ | ⟨j, hj, _, c1, x1, hc1, hx1, g⟩
    · omega
    · rw [ei] at g
      have hjm : ns.getD j 0 ∈ ns := gd_mem ns j (by omega)
      rcases g with ⟨g1, g2, g3⟩ | ⟨g1, g2, g3⟩ | ⟨g1, g2, g3⟩ | ⟨g1, g2, g3⟩
      · have : c1 = x := by omega
        rw [this, hu.1] at g3
        cases g3
      · have : x1 = x := by omega
        rw [this] at g3
        have := DF_one (by omega) h64 hf.1 hx hd hc1 ha g3
        rw [this, ← g1]
        exact hjm
      · omega
      · omega
  refine ⟨⟨fun c hcn hO hSc => decide_eq_true (hc.1 c hcn hSc), fun c hcn hA ht => decide_eq_true (hc.2.1 c hcn (of_decide_eq_true hA) ht), fun c d hcn hd hA ha => decide_eq_true (hc.2.2.1 d c hd hcn (of_decide_eq_true hA) ha), fun c hcn hP ht => decide_eq_true (hc.2.2.2.1 c hcn (of_decide_eq_true hP) ht), fun c d hcn hd hP hO hadj => ?_⟩, ?_, ?_⟩
  · have hP' : 64 + c ∈ ns := of_decide_eq_true hP
    cases ha : a c d with
    | false => exact decide_eq_true (hc.2.2.2.2 c d hcn hd hP' hO hadj ha)
    | true => exact decide_eq_true (hpar c d hcn hd hP' ha)
  · intro c hcn hP hO hTc
    have hP' : 64 + c ∈ ns := of_decide_eq_true hP
    have he := hT c hcn hP' hTc
    obtain ⟨i, hi, ei⟩ := mem_gd ns _ hP'
    have ht : t c = true := by
      have := (hf.1 c hcn).2
      rw [he, bNt_t, bNt_dec_f (show ¬ 200 = 64 + c by omega)] at this
      cases q : t c with
      | true => rfl
      | false => rw [q, bNt_f] at this; omega
    rcases h.2.2.2.2.2 i hi with ⟨_, g1, _⟩ | ⟨j, hj, _, c1, x1, hc1, hx1, g⟩
    · omega
    · rw [ei] at g
      rcases g with ⟨g1, g2, g3⟩ | ⟨g1, g2, g3⟩ | ⟨g1, g2, g3⟩ | ⟨g1, g2, g3⟩
      · have : c1 = c := by omega
        rw [this, ht] at g3
        cases g3
      · have : x1 = c := by omega
        rw [this] at g3
        have := (DF_arc (by omega) h64 hf.1 hcn hc1 g3).2.2.1
        rw [he] at this
        cases this
      · omega
      · omega
  · intro A' P' hR
    have key : ∀ i, i < ns.length → (∀ c, c < bn B → ns.getD i 0 = c → A' c = true) ∧ (∀ c, c < bn B → ns.getD i 0 = 64 + c → P' c = true) := by
      intro i
      induction i using Nat.strongRecOn with
      | _ i ih =>
        intro hi
        rcases h.2.2.2.2.2 i hi with ⟨_, g1, g2⟩ | ⟨j, hj, _, c1, x1, hc1, hx1, g⟩
        · refine ⟨fun c hcn ec => ?_, fun c hcn ec => by omega⟩
          rw [ec] at g2
          exact hR.1 c hcn (hS c g2) g2
        · obtain ⟨k1, k2⟩ := ih j hj (by omega)
          rcases g with ⟨g1, g2, g3⟩ | ⟨g1, g2, g3⟩ | ⟨g1, g2, g3, g4, g5⟩ | ⟨g1, g2, g3⟩
          · refine ⟨fun c hcn ec => by omega, fun c hcn ec => ?_⟩
            have : c = c1 := by omega
            rw [this]
            exact hR.2.1 c1 hc1 (k1 c1 hc1 g1) g3
          · refine ⟨fun c hcn ec => by omega, fun c hcn ec => ?_⟩
            have : c = x1 := by omega
            rw [this]
            exact hR.2.2.1 x1 c1 hx1 hc1 (k1 c1 hc1 g1) g3
          · refine ⟨fun c hcn ec => ?_, fun c hcn ec => by omega⟩
            have : c = x1 := by omega
            rw [this]
            exact hR.2.2.2.2 c1 x1 hc1 hx1 (k2 c1 hc1 g1) g4 g3
          · refine ⟨fun c hcn ec => ?_, fun c hcn ec => by omega⟩
            have : c = c1 := by omega
            rw [this]
            exact hR.2.2.2.1 c1 hc1 (k2 c1 hc1 g1) g3
    intro c hcn
    constructor
    · intro hA
      obtain ⟨i, hi, ei⟩ := mem_gd ns c (of_decide_eq_true hA)
      exact (key i hi).1 c hcn ei
    · intro hP
      obtain ⟨i, hi, ei⟩ := mem_gd ns _ (of_decide_eq_true hP)
      exact (key i hi).2 c hcn ei
