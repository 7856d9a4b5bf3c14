/-! REFERENCE'S PAIRS: its matching, from the other side -/
def dE (e : Nat → Nat → Bool) : Nat → Nat → Bool := fun y x => e x y
theorem aC_d {L : Nat → Bool} {e : Nat → Nat → Bool} {A : Nat → Bool} : aC L (dE e) A ↔ aC L e A := ⟨fun h => ⟨h.1, fun x y hx hy => h.2 y x hy hx⟩, fun h => ⟨h.1, fun x y hx hy => h.2 y x hy hx⟩⟩
theorem isW_d {N : Nat} {L : Nat → Bool} {e : Nat → Nat → Bool} {k : Nat} (h : isW N L (dE e) k) : isW N L e k := by
  obtain ⟨⟨A, h1, h2⟩, h3⟩ := h
  exact ⟨⟨A, aC_d.mp h1, h2⟩, fun A' hA' => h3 A' (aC_d.mpr hA')⟩
/-- the arrays of the pairing -/
def pA (X : ixX) (mm : Nat) (L : Nat → Bool) (e : Nat → Nat → Bool) (ld fo : Nat → Option Nat) : Prop := X.1 75 20 = nI mm ∧ (∀ i, i < mm → X.1 94 i = ix_bi (L i)) ∧ (∀ i j, i < mm → j < mm → X.1 93 (64 * i + j) = ix_bi (e i j)) ∧ (∀ i, i < mm → X.1 95 i = oI (ld i)) ∧ (∀ i, i < mm → X.1 96 i = oI (fo i))
theorem x64 (i j : Nat) : (64 : Int32) * nI i + nI j = nI (64 * i + j) := by
  rw [show (64 : Int32) * nI i = nI (64 * i) from nI_mul 64 i]
  exact nI_add _ _
theorem x64r {c : ixK} {X : ixX} {i j : Nat} (hi : i < 64) (hj : j < 64) : ix_az (hp c X) 93 ((64 : Int32) * nI i + nI j) = some (X.1 93 (64 * i + j)) := by
  rw [x64]
  exact r93 (by omega)
theorem L_turnP {c : ixK} {mm : Nat} (hmm : mm ≤ 64) {L : Nat → Bool} {E : Nat → Nat → Bool} {ld fo : Nat → Option Nat} {D : Nat → Bool} (hm : mOK L E ld fo) (hL : ∀ x, L x = true → x < mm) {qs : List Nat} (hn : qs.Nodup) (hq : ∀ q, q ∈ qs → L q = true) {X0 : ixX} (hsk : ∀ i, i < qs.length → (i = 0 ∧ ld (qs.getD i 0) = none) ∨ ∃ y j, ld (qs.getD i 0) = some y ∧ j < i ∧ X0.1 97 y = nI (qs.getD j 0) ∧ E y (qs.getD j 0) = true) : ∀ i, i < qs.length → ∀ (nl : Nat) (X : ixX) (ld' fo' : Nat → Option Nat), mOK L E ld' fo' → Dc L E fo' D → L nl = true → E nl (qs.getD i 0) = true → X0.1 97 nl = nI (qs.getD i 0) → fo' nl = none → (∀ k, k < mm → X.1 95 k = oI (ld' k)) → (∀ k, k < mm → ¬ k = nl → X.1 96 k = oI (fo' k)) → (∀ j, j ≤ i → ld' (qs.getD j 0) = ld (qs.getD j 0)) → (∀ y, ¬ y = qs.getD 0 0 → (ld' y).isNone = (ld y).isNone) → X.2 = X0.2 → (∀ a, ¬ a = 95 → ¬ a = 96 → X.1 a = X0.1 a) → ∃ X2 ld2 fo2, l_Mo_turnPairs_2 75 (nI nl) (hp c X) = some ([], hp c X2) ∧ mOK L E ld2 fo2 ∧ Dc L E fo2 D ∧ (∀ k, k < mm → X2.1 95 k = oI (ld2 k)) ∧ (∀ k, k < mm → X2.1 96 k = oI (fo2 k)) ∧ (∀ y, (ld2 y).isNone = (!decide (y = qs.getD 0 0) && (ld y).isNone)) ∧ X2.2 = X0.2 ∧ (∀ a, ¬ a = 95 → ¬ a = 96 → X2.1 a = X0.1 a) := by
  intro i
  induction i using Nat.strongRecOn with
  | _ i ih =>
    intro hi nl X ld' fo' hm' hD' hnl hE h97 hfree h95 h96 hun hldn hX2 hX1
    have hqi : L (qs.getD i 0) = true := hq _ (gd_mem qs i hi)
    have hqi64 := hL _ hqi
    have hnl64 := hL _ hnl
    obtain ⟨s1, s2, s3⟩ := m_step hm' hD' hnl hqi hE hfree
    have hldi := hun i (Nat.le_refl i)
    obtain ⟨X1, hX1'⟩ : ∃ Y, Y = aI (aI X 95 (upd (X.1 95) (qs.getD i 0) (nI nl))) 96 (upd (X.1 96) nl (nI (qs.getD i 0))) := ⟨_, rfl⟩
    have a95 : ∀ k, k < mm → X1.1 95 k = oI (upO ld' (qs.getD i 0) (some nl) k) := by
      intro k hk
      rw [hX1', aI_o (by omega), aI_1]
      by_cases e : k = qs.getD i 0
      · rw [e, upd_1, upO_1]; rfl
      · rw [upd_n _ _ e, upO_n _ _ e]; exact h95 k hk
    have a96 : ∀ k, k < mm → (∀ l, ld' (qs.getD i 0) = some l → ¬ k = l) → X1.1 96 k = oI (upO (upL fo' (ld' (qs.getD i 0))) nl (some (qs.getD i 0)) k) := by
      intro k hk hkl
      rw [hX1', aI_1]
      by_cases e : k = nl
      · rw [e, upd_1, upO_1]; rfl
      · rw [upd_n _ _ e, upO_n _ _ e, h96 k hk e]
        cases hl : ld' (qs.getD i 0) with
        | none => rfl
        | some l =>
          show oI (fo' k) = oI (upO fo' l none k)
          rw [upO_n _ _ (hkl l hl)]
    have b2 : X1.2 = X0.2 := by rw [hX1']; exact hX2
    have b1 : ∀ a, ¬ a = 95 → ¬ a = 96 → X1.1 a = X0.1 a := fun a h1 h2 => by rw [hX1', aI_o h2, aI_o h1]; exact hX1 a h1 h2
    have start : l_Mo_turnPairs_2 75 (nI nl) (hp c X) = l_Mo_turnPairs_2 75 (oI (ld (qs.getD i 0))) (hp c X1) := by
      rw [e_Mo_turnPairs_2, if_neg (nI_pos (by omega)), bO (g75_25 c _), bO (r97 (by omega)), hX1 97 (by omega) (by omega), h97, bO (g75_23 c _), bO (r95 (by omega)), h95 _ hqi64, hldi, bO (g75_23 c _), bO (s95 (by omega)), bO (g75_24 c _), bO (s96 (by omega)), aI_o (by omega), ← hX1']
    have hldcase : ∀ y, ¬ y = qs.getD 0 0 → (∃ l, ld (qs.getD i 0) = some l) ∨ i = 0 → (upO ld' (qs.getD i 0) (some nl) y).isNone = (ld y).isNone := by
      intro y hy hcase
      by_cases e : y = qs.getD i 0
      · rw [e, upO_1]
        rcases hcase with ⟨l, hl⟩ | h0
        · rw [hl]; rfl
        · rw [h0] at e; exact absurd e hy
      · rw [upO_n _ _ e]; exact hldn y hy
    rcases hsk i hi with ⟨hi0, hnone⟩ | ⟨y, j, hy, hj, hy97, hyE⟩
    · refine ⟨X1, upO ld' (qs.getD i 0) (some nl), upO (upL fo' (ld' (qs.getD i 0))) nl (some (qs.getD i 0)), ?_, s1, s2, a95, fun k hk => a96 k hk (fun l hl => by rw [hldi, hnone] at hl; cases hl), ?_, b2, b1⟩
      · rw [start, hnone, e_Mo_turnPairs_2, if_pos (show oI none < 0 by decide)]
      · intro y
        by_cases e : y = qs.getD 0 0
        · rw [decide_eq_true e, e, hi0, upO_1]; rfl
        · rw [decide_eq_false e, hldcase y e (.inr hi0)]; rfl
    · have hyL := (hm.1 _ _ hy).2.1
      have hldy : ld' (qs.getD i 0) = some y := by rw [hldi]; exact hy
      obtain ⟨s4, s5⟩ := s3 y hldy
      have hji : j < qs.length := by omega
      obtain ⟨X2, ld2, fo2, r1, r2⟩ := ih j hj hji y X1 _ _ s1 s2 hyL hyE hy97 s5 a95 (fun k hk hky => a96 k hk (fun l hl => by
          rw [hldy] at hl
          rw [← Option.some.inj hl]
          exact hky)) (fun j' hj' => by
          rw [upO_n _ _ (nd_gd qs hn j' i (by omega) hi)]
          exact hun j' (by omega)) (fun z hz => hldcase z hz (.inl ⟨y, hy⟩)) b2 b1
      refine ⟨X2, ld2, fo2, ?_, r2⟩
      rw [start, hy]
      exact r1
/-- what the search holds: k of its queue looked at whole, the next one up to j -/
def fPI (mm : Nat) (L : Nat → Bool) (E : Nat → Nat → Bool) (ld fo : Nat → Option Nat) (x k j : Nat) (seen : Nat → Bool) (X : ixX) (qs : List Nat) : Prop := qs.Nodup ∧ (∀ q, q ∈ qs → L q = true) ∧ X.1 75 14 = nI qs.length ∧ (∀ i, i < qs.length → X.1 84 i = nI (qs.getD i 0)) ∧ 0 < qs.length ∧ qs.getD 0 0 = x ∧ (∀ y, seen y = true ↔ L y = true ∧ ((∃ a, a < k ∧ a < qs.length ∧ E y (qs.getD a 0) = true) ∨ (y < j ∧ k < qs.length ∧ E y (qs.getD k 0) = true))) ∧ (∀ y, seen y = true → ∃ f, fo y = some f ∧ f ∈ qs) ∧ (∀ i, i < qs.length → (i = 0 ∧ ld (qs.getD i 0) = none) ∨ ∃ y j, ld (qs.getD i 0) = some y ∧ seen y = true ∧ j < i ∧ X.1 97 y = nI (qs.getD j 0) ∧ E y (qs.getD j 0) = true) ∧ (∀ y, y < mm → (X.1 97 y = -6 ↔ seen y = false))
theorem M_findsPair {c : ixK} {X : ixX} {mm : Nat} (hmm : mm ≤ 64) {L : Nat → Bool} {e : Nat → Nat → Bool} {ld fo : Nat → Option Nat} {D : Nat → Bool} (hL : ∀ x, L x = true → x < mm) (hA : pA X mm L e ld fo) (hm : mOK L (dE e) ld fo) (hD : Dc L (dE e) fo D) {x : Nat} (hx : L x = true) (hx0 : ld x = none) : ∃ X2 ld2 fo2 D2 r, ix_M mMo_findsPair [.ref 75, .int (nI x)] (hp c X) = some ([.int (ix_bi r)], hp c X2) ∧ pA X2 mm L e ld2 fo2 ∧ mOK L (dE e) ld2 fo2 ∧ Dc L (dE e) fo2 D2 ∧ (∀ y, D y = true → D2 y = true) ∧ (∀ y, (ld2 y).isNone = (!(r && decide (y = x)) && (ld y).isNone)) ∧ (r = false → D2 x = true) ∧ eX [75, 84, 95, 96, 97] X X2 ∧ (∀ k, ¬ k = 14 → X2.1 75 k = X.1 75 k) := by
  have hxm := hL x hx
  obtain ⟨Q, hQ⟩ : ∃ Q : Option (List Value × ixH) → Prop, Q = fun R => ∃ X2 ld2 fo2 D2 r, R = some ([.int (ix_bi r)], hp c X2) ∧ pA X2 mm L e ld2 fo2 ∧ mOK L (dE e) ld2 fo2 ∧ Dc L (dE e) fo2 D2 ∧ (∀ y, D y = true → D2 y = true) ∧ (∀ y, (ld2 y).isNone = (!(r && decide (y = x)) && (ld y).isNone)) ∧ (r = false → D2 x = true) ∧ eX [75, 84, 95, 96, 97] X X2 ∧ (∀ k, ¬ k = 14 → X2.1 75 k = X.1 75 k) := ⟨_, rfl⟩
  obtain ⟨P, hP⟩ : ∃ P : Nat → Nat → ((Nat → Bool) × ixX × List Nat) → Prop, P = fun k j s => fPI mm L (dE e) ld fo x k j s.1 s.2.1 s.2.2 ∧ k ≤ s.2.2.length ∧ pA s.2.1 mm L e ld fo ∧ eX [75, 84, 97] X s.2.1 ∧ (∀ k, ¬ k = 14 → s.2.1.1 75 k = X.1 75 k) := ⟨_, rfl⟩
  have hlenq : ∀ k j s, P k j s → s.2.2.length ≤ 64 := fun k j s h => by
    rw [hP] at h
    exact Nat.le_trans (nd_len h.1.1 (fun q hq => hL q (h.1.2.1 q hq))) hmm
  have hout : ∀ k s, P k 0 s → s.2.2.length ≤ k → Q (l_Mo_findsPair_43 75 (nI k) (hp c s.2.1)) := by
    intro k s hp1 hl
    have hlen := hlenq k 0 s hp1
    rw [hP] at hp1
    obtain ⟨⟨f1, f2, f3, f4, f5, f6, f7, f8, f9, f10⟩, hk, hA1, hfr, hfk⟩ := hp1
    have hD1 : ∀ y, D y = true → (D y || decide (y ∈ s.2.2)) = true := fun y hy => by rw [hy]; rfl
    have hD2 : ∀ y, y ∈ s.2.2 → (D y || decide (y ∈ s.2.2)) = true := fun y hy => by rw [decide_eq_true hy, Bool.or_true]
    rw [hQ]
    refine ⟨s.2.1, ld, fo, fun y => D y || decide (y ∈ s.2.2), false, ?_, hA1, hm, ?_, hD1, fun y => (by rw [Bool.false_and]; rfl), fun _ => ?_, eX_mono hfr (by decide), hfk⟩
    · rw [e_Mo_findsPair_43, bO (g75_14 c _), f3, if_pos (by rw [nI_leI (by omega) (by omega)]; omega)]
    · intro z hz
      rw [Bool.or_eq_true, decide_eq_true_eq] at hz
      rcases hz with hz | hz
      · refine ⟨(hD z hz).1, fun y hy he => ?_⟩
        obtain ⟨w, hw1, hw2⟩ := (hD z hz).2 y hy he
        exact ⟨w, hw1, hD1 w hw2⟩
      · refine ⟨f2 z hz, fun y hy he => ?_⟩
        obtain ⟨j, hj, ej⟩ := mem_gd _ _ hz
        obtain ⟨w, hw1, hw2⟩ := f8 y ((f7 y).mpr ⟨hy, .inl ⟨j, by omega, hj, by rw [ej]; exact he⟩⟩)
        exact ⟨w, hw1, hD2 w hw2⟩
    · have : x ∈ s.2.2 := by rw [← f6]; exact gd_mem _ 0 f5
      exact hD2 x this
  have inner : ∀ k s, P k 0 s → k < s.2.2.length → (∃ s', l_Mo_findsPair_43 75 (nI k) (hp c s.2.1) = l_Mo_findsPair_43 75 (nI (k + 1)) (hp c s'.2.1) ∧ P (k + 1) 0 s') ∨ Q (l_Mo_findsPair_43 75 (nI k) (hp c s.2.1)) := by
    intro k s hp0 hk0
    have hlen := hlenq k 0 s hp0
    have hks : k < 64 := by omega
    obtain ⟨sk, hsk⟩ : ∃ z, z = s.2.2.getD k 0 := ⟨_, rfl⟩
    have start : l_Mo_findsPair_43 75 (nI k) (hp c s.2.1) = l_Mo_findsPair_61 75 (nI k) (nI sk) (nI 0) (hp c s.2.1) := by
      rw [hP] at hp0
      obtain ⟨⟨f1, f2, f3, f4, f5, f6, f7, f8, f9, f10⟩, hk, hA1, hfr, hfk⟩ := hp0
      rw [e_Mo_findsPair_43, bO (g75_14 c _), f3, if_neg (by rw [nI_leI (by omega) (by omega)]; omega), bO (g75_8 c _), bO (r84 (by omega)), f4 k hk0, ← hsk]
      rfl
    rw [start]
    have main := lp_out (fun j (s : (Nat → Bool) × ixX × List Nat) => l_Mo_findsPair_61 75 (nI k) (nI sk) (nI j) (hp c s.2.1)) (fun j s => P k j s ∧ k < s.2.2.length ∧ s.2.2.getD k 0 = sk) Q (N := mm) (fun j s hj hp1 => by
      obtain ⟨hp1, hkl, hgk⟩ := hp1
      have hlen := hlenq k j s hp1
      rw [hP] at hp1
      obtain ⟨⟨f1, f2, f3, f4, f5, f6, f7, f8, f9, f10⟩, hk, hA1, hfr, hfk⟩ := hp1
      obtain ⟨A1, A2, A3, A4, A5⟩ := hA1
      have hskm : sk < mm := by rw [← hgk]; exact hL _ (f2 _ (gd_mem _ k hkl))
      have hskL : L sk = true := by rw [← hgk]; exact f2 _ (gd_mem _ k hkl)
      have hfol : ∀ y z, fo y = some z → z < 2147483648 := fun y z h => by
        have := hL z (hm.1 z y (hm.2 y z h)).1
        omega
      show (∃ s' : (Nat → Bool) × ixX × List Nat, l_Mo_findsPair_61 75 (nI k) (nI sk) (nI j) (hp c s.2.1) = l_Mo_findsPair_61 75 (nI k) (nI sk) (nI (j + 1)) (hp c s'.2.1) ∧ P k (j + 1) s' ∧ k < s'.2.2.length ∧ s'.2.2.getD k 0 = sk) ∨ Q (l_Mo_findsPair_61 75 (nI k) (nI sk) (nI j) (hp c s.2.1))
      rw [e_Mo_findsPair_61, bO (g75_20 c _), A1, if_neg (by rw [nI_leI (by omega) (by omega)]; omega), bO (g75_22 c _), bO (r94 (by omega)), A2 j hj]
      -- nothing new at j
      have skip : (L j = true → e sk j = true → s.1 j = true) → P k (j + 1) s := by
        intro hno
        rw [hP]
        refine ⟨⟨f1, f2, f3, f4, f5, f6, fun y => ?_, f8, f9, f10⟩, hk, ⟨A1, A2, A3, A4, A5⟩, hfr, hfk⟩
        rw [f7 y]
        constructor
        · rintro ⟨q1, q2 | q2⟩
          · exact ⟨q1, .inl q2⟩
          · exact ⟨q1, .inr ⟨by omega, q2.2⟩⟩
        · rintro ⟨q1, q2 | ⟨q2, q3, q4⟩⟩
          · exact ⟨q1, .inl q2⟩
          · by_cases ey : y = j
            · have he2 : e sk j = true := by
                have q5 : e (s.2.2.getD k 0) y = true := q4
                rw [hgk, ey] at q5
                exact q5
              have := hno (by rw [← ey]; exact q1) he2
              rw [← ey] at this
              exact (f7 y).mp this
            · exact ⟨q1, .inr ⟨by omega, q3, q4⟩⟩
      cases hLj : L j with
      | false =>
        rw [if_pos (by decide), nI_1 j]
        exact .inl ⟨s, rfl, skip (fun q => by rw [hLj] at q; cases q), hkl, hgk⟩
      | true =>
        rw [if_neg (by decide), bO (g75_21 c _), bO (x64r (by omega) (by omega)), A3 sk j hskm hj]
        cases hej : e sk j with
        | false =>
          rw [if_pos (by decide), nI_1 j]
          exact .inl ⟨s, rfl, skip (fun _ q => by rw [hej] at q; cases q), hkl, hgk⟩
        | true =>
          rw [if_neg (by decide), bO (g75_25 c _), bO (r97 (by omega))]
          cases hsj : s.1 j with
          | true =>
            have : ¬ s.2.1.1 97 j = -6 := fun q => by
              have := (f10 j hj).mp q
              rw [hsj] at this; cases this
            rw [if_pos this, nI_1 j]
            exact .inl ⟨s, rfl, skip (fun _ _ => hsj), hkl, hgk⟩
          | false =>
            have e6 := (f10 j hj).mpr hsj
            rw [if_neg (fun n => n e6), bO (g75_25 c _), bO (s97 (by omega)), bO (g75_24 c _), bO (r96 (by omega)), aI_o (by omega), A5 j hj]
            obtain ⟨X1, hX1⟩ : ∃ Y, Y = aI s.2.1 97 (upd (s.2.1.1 97) j (nI sk)) := ⟨_, rfl⟩
            rw [← hX1]
            have b1 : ∀ a, ¬ a = 97 → X1.1 a = s.2.1.1 a := fun a ha => by rw [hX1, aI_o ha]
            have b97 : ∀ y, ¬ y = j → X1.1 97 y = s.2.1.1 97 y := fun y hy => by rw [hX1, aI_1, upd_n _ _ hy]
            have b97j : X1.1 97 j = nI sk := by rw [hX1, aI_1, upd_1]
            have hx1 : eX [75, 84, 97] X X1 := by rw [hX1]; exact eX_aI hfr (by decide)
            cases hfj : fo j with
            | none =>
              rw [if_neg (show ¬ (0 : Int32) ≤ oI none by decide)]
              obtain ⟨X2, ld2, fo2, r1, r2, r3, r4, r5, r6, r7, r8⟩ := L_turnP (c := c) (D := D) hmm hm hL f1 f2 (X0 := X1) (fun i hi => by
                rcases f9 i hi with g | ⟨y, j', g1, g2, g3, g4, g5⟩
                · exact .inl g
                · have hyj : ¬ y = j := fun q => by rw [q, hsj] at g2; cases g2
                  exact .inr ⟨y, j', g1, g3, by rw [b97 y hyj]; exact g4, g5⟩) k hkl j X1 ld fo hm hD hLj (by rw [hgk]; exact hej) (by rw [hgk]; exact b97j) hfj (fun i hi => by rw [b1 95 (by omega)]; exact A4 i hi) (fun i hi _ => by rw [b1 96 (by omega)]; exact A5 i hi) (fun _ _ => rfl) (fun _ _ => rfl) rfl (fun _ _ _ => rfl)
              have et : ix_M mMo_turnPairs [.ref 75, .int (nI j)] (hp c X1) = some ([], hp c X2) := x_Mo_turnPairs (rc_75 c _) (by rw [e_Mo_turnPairs]; exact r1)
              rw [kV_of et, hQ]
              refine .inr ⟨X2, ld2, fo2, D, true, rfl, ⟨?_, ?_, ?_, r4, r5⟩, r2, r3, fun y hy => hy, fun y => by rw [r6 y, f6, Bool.true_and], fun q => (by cases q), ?_, ?_⟩
              · rw [r8 75 (by omega) (by omega), b1 75 (by omega)]; exact A1
              · intro i hi
                rw [r8 94 (by omega) (by omega), b1 94 (by omega)]; exact A2 i hi
              · intro i j' hi hj'
                rw [r8 93 (by omega) (by omega), b1 93 (by omega)]; exact A3 i j' hi hj'
              · refine ⟨r7.trans hx1.1, fun a ha => ?_⟩
                have h1 : ¬ a = 95 := fun q => ha (by rw [q]; decide)
                have h2 : ¬ a = 96 := fun q => ha (by rw [q]; decide)
                rw [r8 a h1 h2]
                refine hx1.2 a (fun q => ha ?_)
                have hsub : ∀ a, a ∈ [75, 84, 97] → a ∈ [75, 84, 95, 96, 97] := by decide
                exact hsub a q
              · intro i hi
                rw [r8 75 (by omega) (by omega), b1 75 (by omega)]; exact hfk i hi
            | some w =>
              have hwL : L w = true := (hm.1 w j (hm.2 j w hfj)).1
              have hwm := hL w hwL
              have hwq : ¬ w ∈ s.2.2 := by
                intro hw
                obtain ⟨i, hi, ei⟩ := mem_gd _ _ hw
                rcases f9 i hi with ⟨_, g⟩ | ⟨y, j', g1, g2, _⟩
                · rw [ei, hm.2 j w hfj] at g; cases g
                · rw [ei, hm.2 j w hfj] at g1
                  rw [← Option.some.inj g1, hsj] at g2
                  cases g2
              have hnd := nd_app f1 hwq
              have hlt : ∀ q, q ∈ s.2.2 ++ [w] → L q = true := fun q hq2 => by
                rcases List.mem_append.mp hq2 with r | r
                · exact f2 q r
                · rw [List.mem_singleton.mp r]; exact hwL
              have hl2 := nd_len hnd (fun q hq => hL q (hlt q hq))
              rw [List.length_append] at hl2
              have hl3 : s.2.2.length + 1 ≤ mm := hl2
              obtain ⟨X2, hX2⟩ : ∃ Y, Y = aI (aI X1 84 (upd (s.2.1.1 84) s.2.2.length (nI w))) 75 (upd (s.2.1.1 75) 14 (nI (s.2.2.length + 1))) := ⟨_, rfl⟩
              rw [if_pos (show (0 : Int32) ≤ oI (some w) from nI_pos' (by omega)), bO (g75_8 c _), bO (g75_14 c _), b1 75 (by omega), f3, bO (g75_24 c _), bO (r96 (by omega)), b1 96 (by omega), A5 j hj, hfj, show oI (some w) = nI w from rfl, bO (s84 (by omega)), b1 84 (by omega), bO (g75_14 c _), aI_o (by omega), b1 75 (by omega), f3, bO (p75_14 c _ _), aI_o (by omega), b1 75 (by omega), nI_1, nI_1, ← hX2]
              have c84 : X2.1 84 = upd (s.2.1.1 84) s.2.2.length (nI w) := by rw [hX2, aI_o (by omega), aI_1]
              have c75 : X2.1 75 = upd (s.2.1.1 75) 14 (nI (s.2.2.length + 1)) := by rw [hX2, aI_1]
              have co : ∀ a, ¬ a = 75 → ¬ a = 84 → X2.1 a = X1.1 a := fun a h1 h2 => by rw [hX2, aI_o h1, aI_o h2]
              have hgd : ∀ j, j < s.2.2.length → (s.2.2 ++ [w]).getD j 0 = s.2.2.getD j 0 := fun j hj => gd_app_l _ _ j hj
              have hseen : ∀ y, up1 s.1 j true y = true ↔ s.1 y = true ∨ y = j := fun y => by
                by_cases ey : y = j
                · rw [ey, up1_1]; exact ⟨fun _ => .inr rfl, fun _ => rfl⟩
                · rw [up1_n _ _ ey]; exact ⟨fun q => .inl q, fun q => q.elim id (fun r => absurd r ey)⟩
              refine .inl ⟨(up1 s.1 j true, X2, s.2.2 ++ [w]), rfl, ?_, by show k < (s.2.2 ++ [w]).length; rw [List.length_append]; omega, by show (s.2.2 ++ [w]).getD k 0 = sk; rw [hgd k hkl]; exact hgk⟩
              rw [hP]
              refine ⟨⟨hnd, hlt, ?_, ?_, ?_, ?_, ?_, ?_, ?_, ?_⟩, ?_, ⟨?_, ?_, ?_, ?_, ?_⟩, ?_, ?_⟩
              · show X2.1 75 14 = nI (s.2.2 ++ [w]).length
                rw [c75, upd_1, List.length_append]; rfl
              · intro i hi
                rw [List.length_append] at hi
                have hi2 : i < s.2.2.length + 1 := hi
                show X2.1 84 i = nI ((s.2.2 ++ [w]).getD i 0)
                rw [c84]
                rcases Nat.lt_or_ge i s.2.2.length with q | q
                · rw [upd_n _ _ (by omega), hgd i q]; exact f4 i q
                · have ei : i = s.2.2.length := by omega
                  rw [ei, upd_1]
                  exact congrArg nI (gd_app_r s.2.2 [w] 0).symm
              · show 0 < (s.2.2 ++ [w]).length
                rw [List.length_append]; omega
              · show (s.2.2 ++ [w]).getD 0 0 = x
                rw [hgd 0 f5]; exact f6
              · intro y
                show up1 s.1 j true y = true ↔ L y = true ∧ ((∃ a, a < k ∧ a < (s.2.2 ++ [w]).length ∧ dE e y ((s.2.2 ++ [w]).getD a 0) = true) ∨ (y < j + 1 ∧ k < (s.2.2 ++ [w]).length ∧ dE e y ((s.2.2 ++ [w]).getD k 0) = true))
                rw [hseen, f7 y, hgd k hkl, List.length_append]
                constructor
                · rintro (⟨q1, ⟨a, q2, q3, q4⟩ | q2⟩ | q)
                  · exact ⟨q1, .inl ⟨a, q2, by omega, by rw [hgd a q3]; exact q4⟩⟩
                  · exact ⟨q1, .inr ⟨by omega, by omega, q2.2.2⟩⟩
                  · rw [q]
                    exact ⟨hLj, .inr ⟨by omega, by omega, by rw [hgk]; exact hej⟩⟩
                · rintro ⟨q1, ⟨a, q2, q3, q4⟩ | ⟨q2, q3, q4⟩⟩
                  · rw [hgd a (by omega)] at q4
                    exact .inl ⟨q1, .inl ⟨a, q2, by omega, q4⟩⟩
                  · by_cases ey : y = j
                    · exact .inr ey
                    · exact .inl ⟨q1, .inr ⟨by omega, hkl, q4⟩⟩
              · intro y hy
                rcases (hseen y).mp hy with q | q
                · obtain ⟨f, q1, q2⟩ := f8 y q
                  exact ⟨f, q1, List.mem_append.mpr (.inl q2)⟩
                · rw [q]
                  exact ⟨w, hfj, List.mem_append.mpr (.inr (List.mem_singleton.mpr rfl))⟩
              · intro i hi
                rw [List.length_append] at hi
                have hi2 : i < s.2.2.length + 1 := hi
                show (i = 0 ∧ ld ((s.2.2 ++ [w]).getD i 0) = none) ∨ ∃ y j', ld ((s.2.2 ++ [w]).getD i 0) = some y ∧ up1 s.1 j true y = true ∧ j' < i ∧ X2.1 97 y = nI ((s.2.2 ++ [w]).getD j' 0) ∧ dE e y ((s.2.2 ++ [w]).getD j' 0) = true
                rw [co 97 (by omega) (by omega)]
                rcases Nat.lt_or_ge i s.2.2.length with q | q
                · rw [hgd i q]
                  rcases f9 i q with g | ⟨y, j', g1, g2, g3, g4, g5⟩
                  · exact .inl g
                  · have hyj : ¬ y = j := fun q => by rw [q, hsj] at g2; cases g2
                    exact .inr ⟨y, j', g1, (hseen y).mpr (.inl g2), g3, by rw [b97 y hyj, hgd j' (by omega)]; exact g4, by rw [hgd j' (by omega)]; exact g5⟩
                · have ei : i = s.2.2.length + 0 := by omega
                  rw [ei, gd_app_r]
                  exact .inr ⟨j, k, hm.2 j w hfj, (hseen j).mpr (.inr rfl), by omega, by rw [b97j, hgd k hkl, hgk], by rw [hgd k hkl, hgk]; exact hej⟩
              · intro y hy
                show X2.1 97 y = -6 ↔ up1 s.1 j true y = false
                rw [co 97 (by omega) (by omega)]
                by_cases ey : y = j
                · rw [ey, b97j, up1_1]
                  exact ⟨fun q => absurd q (m6_ne (by omega)), fun q => by cases q⟩
                · rw [b97 y ey, up1_n _ _ ey]
                  exact f10 y hy
              · show k ≤ (s.2.2 ++ [w]).length
                rw [List.length_append]; omega
              · show X2.1 75 20 = nI mm
                rw [c75, upd_n _ _ (by omega)]; exact A1
              · intro i hi
                show X2.1 94 i = _
                rw [co 94 (by omega) (by omega), b1 94 (by omega)]; exact A2 i hi
              · intro i j' hi hj'
                show X2.1 93 _ = _
                rw [co 93 (by omega) (by omega), b1 93 (by omega)]; exact A3 i j' hi hj'
              · intro i hi
                show X2.1 95 i = _
                rw [co 95 (by omega) (by omega), b1 95 (by omega)]; exact A4 i hi
              · intro i hi
                show X2.1 96 i = _
                rw [co 96 (by omega) (by omega), b1 96 (by omega)]; exact A5 i hi
              · show eX [75, 84, 97] X X2
                rw [hX2]
                exact eX_aI (eX_aI hx1 (by decide)) (by decide)
              · intro i hi
                show X2.1 75 i = X.1 75 i
                rw [c75, upd_n _ _ hi]; exact hfk i hi) (k := 0) (s := s) (by omega) ⟨hp0, hk0, hsk.symm⟩
    rcases main with ⟨s', e5, hp5, hk5, hg5⟩ | hq
    · refine .inl ⟨s', ?_, ?_⟩
      · have e5' : l_Mo_findsPair_61 75 (nI k) (nI sk) (nI 0) (hp c s.2.1) = l_Mo_findsPair_61 75 (nI k) (nI sk) (nI mm) (hp c s'.2.1) := e5
        have hA5 : s'.2.1.1 75 20 = nI mm := by rw [hP] at hp5; exact hp5.2.2.1.1
        rw [e5', e_Mo_findsPair_61, bO (g75_20 c _), hA5, if_pos (by rw [nI_leI (by omega) (by omega)]; omega), nI_1]
      · rw [hP] at hp5 ⊢
        obtain ⟨⟨f1, f2, f3, f4, f5, f6, f7, f8, f9, f10⟩, hk, hA1, hfr, hfk⟩ := hp5
        refine ⟨⟨f1, f2, f3, f4, f5, f6, fun y => ?_, f8, f9, f10⟩, by omega, hA1, hfr, hfk⟩
        rw [f7 y]
        constructor
        · rintro ⟨q1, ⟨a, q2, q3, q4⟩ | ⟨q2, q3, q4⟩⟩
          · exact ⟨q1, .inl ⟨a, by omega, q3, q4⟩⟩
          · exact ⟨q1, .inl ⟨k, by omega, q3, q4⟩⟩
        · rintro ⟨q1, ⟨a, q2, q3, q4⟩ | ⟨q2, q3, q4⟩⟩
          · by_cases ea : a = k
            · rw [ea] at q3 q4
              exact ⟨q1, .inr ⟨hL y q1, q3, q4⟩⟩
            · exact ⟨q1, .inl ⟨a, by omega, q3, q4⟩⟩
          · omega
    · exact .inr hq
  -- the marks
  obtain ⟨X1, e1, p1, p2⟩ := lp_up (fun k (Y : ixX) => l_Mo_findsPair_2 75 (nI x) (nI k) (hp c Y)) (fun k Y => eX [97] X Y ∧ ∀ y, y < k → Y.1 97 y = -6) (N := mm) (fun k Y hk hY => by
    obtain ⟨p1, p2⟩ := hY
    refine ⟨aI Y 97 (upd (Y.1 97) k (-6)), ?_, eX_aI p1 (by decide), fun y hy => ?_⟩
    · show l_Mo_findsPair_2 75 (nI x) (nI k) (hp c Y) = l_Mo_findsPair_2 75 (nI x) (nI (k + 1)) (hp c _)
      rw [e_Mo_findsPair_2, bO (g75_20 c _), p1.2 75 (by decide), hA.1, if_neg (by rw [nI_leI (by omega) (by omega)]; omega), bO (g75_25 c _), bO (s97 (by omega)), nI_1]
    · rw [aI_1]
      by_cases ey : y = k
      · rw [ey, upd_1]
      · rw [upd_n _ _ ey]; exact p2 y (by omega)) (k := 0) (s := X) (by omega) ⟨eX_refl _ _, fun y hy => absurd hy (Nat.not_lt_zero y)⟩
  have e1' : l_Mo_findsPair_2 75 (nI x) 0 (hp c X) = l_Mo_findsPair_2 75 (nI x) (nI mm) (hp c X1) := e1
  obtain ⟨X2, hX2⟩ : ∃ Y, Y = aI (aI (aI X1 75 (upd (X.1 75) 14 0)) 84 (upd (X.1 84) 0 (nI x))) 75 (upd (upd (X.1 75) 14 0) 14 1) := ⟨_, rfl⟩
  have e2 : l_Mo_findsPair_2 75 (nI x) (nI mm) (hp c X1) = l_Mo_findsPair_43 75 (nI 0) (hp c X2) := by
    rw [e_Mo_findsPair_2, bO (g75_20 c _), p1.2 75 (by decide), hA.1, if_pos (by rw [nI_leI (by omega) (by omega)]; omega), bO (p75_14 c _ _), p1.2 75 (by decide), bO (g75_8 c _), bO (show ix_si (hp c _) 84 0 (nI x) = _ from s84 (i := 0) (by omega)), aI_o (by omega), p1.2 84 (by decide), bO (p75_14 c _ _), aI_o (by omega), aI_1, ← hX2]
    rfl
  have d75 : X2.1 75 = upd (upd (X.1 75) 14 0) 14 1 := by rw [hX2, aI_1]
  have d84 : X2.1 84 = upd (X.1 84) 0 (nI x) := by rw [hX2, aI_o (by omega), aI_1]
  have dot : ∀ a, ¬ a = 75 → ¬ a = 84 → X2.1 a = X1.1 a := fun a h1 h2 => by rw [hX2, aI_o h1, aI_o h2, aI_o h1]
  have hP0 : P 0 0 (fun _ => false, X2, [x]) := by
    rw [hP]
    refine ⟨⟨List.nodup_cons.mpr ⟨fun h => (by cases h), List.nodup_nil⟩, fun q hq => by rw [List.mem_singleton.mp hq]; exact hx, ?_, ?_, Nat.succ_pos _, rfl, fun y => ⟨fun h => (by cases h), fun h => ?_⟩, fun y h => (by cases h), ?_, fun y hy => ?_⟩, Nat.zero_le _, ⟨?_, ?_, ?_, ?_, ?_⟩, ?_, ?_⟩
    · show X2.1 75 14 = nI 1
      rw [d75, upd_1]; rfl
    · intro i hi
      have hi2 : i < 1 := hi
      have : i = 0 := by omega
      rw [this]
      show X2.1 84 0 = nI x
      rw [d84, upd_1]
    · rcases h.2 with ⟨a, ha, _⟩ | ⟨hy, _⟩
      · exact absurd ha (Nat.not_lt_zero a)
      · exact absurd hy (Nat.not_lt_zero y)
    · intro i hi
      have hi2 : i < 1 := hi
      have : i = 0 := by omega
      rw [this]
      exact .inl ⟨rfl, hx0⟩
    · show X2.1 97 y = -6 ↔ false = false
      rw [dot 97 (by omega) (by omega), p2 y hy]
      exact ⟨fun _ => rfl, fun _ => rfl⟩
    · show X2.1 75 20 = nI mm
      rw [d75, upd_n _ _ (by omega), upd_n _ _ (by omega)]; exact hA.1
    · intro i hi
      show X2.1 94 i = _
      rw [dot 94 (by omega) (by omega), p1.2 94 (by decide)]; exact hA.2.1 i hi
    · intro i j hi hj
      show X2.1 93 _ = _
      rw [dot 93 (by omega) (by omega), p1.2 93 (by decide)]; exact hA.2.2.1 i j hi hj
    · intro i hi
      show X2.1 95 i = _
      rw [dot 95 (by omega) (by omega), p1.2 95 (by decide)]; exact hA.2.2.2.1 i hi
    · intro i hi
      show X2.1 96 i = _
      rw [dot 96 (by omega) (by omega), p1.2 96 (by decide)]; exact hA.2.2.2.2 i hi
    · show eX [75, 84, 97] X X2
      rw [hX2]
      exact eX_aI (eX_aI (eX_aI (eX_mono p1 (by decide)) (by decide)) (by decide)) (by decide)
    · intro i hi
      show X2.1 75 i = X.1 75 i
      rw [d75, upd_n _ _ hi, upd_n _ _ hi]
  have hQ2 : Q (l_Mo_findsPair_43 75 (nI 0) (hp c X2)) := by
    have main := lp_out (fun k (s : (Nat → Bool) × ixX × List Nat) => l_Mo_findsPair_43 75 (nI k) (hp c s.2.1)) (fun k s => P k 0 s) Q (N := 64) (fun k s hk hs1 => by
      by_cases hl : s.2.2.length ≤ k
      · exact .inr (hout k s hs1 hl)
      · exact inner k s hs1 (by omega)) (k := 0) (s := (fun _ => false, X2, [x])) (by omega) hP0
    rcases main with ⟨s', e5, hs5⟩ | hq
    · have e5' : l_Mo_findsPair_43 75 (nI 0) (hp c X2) = l_Mo_findsPair_43 75 (nI 64) (hp c s'.2.1) := e5
      rw [e5']
      exact hout 64 s' hs5 (hlenq 64 0 s' hs5)
    · exact hq
  rw [hQ] at hQ2
  obtain ⟨Y, ld2, fo2, D2, r, w1, w2⟩ := hQ2
  refine ⟨Y, ld2, fo2, D2, r, x_Mo_findsPair (rc_75 c X) ?_, w2⟩
  rw [e_Mo_findsPair, e1', e2]
  exact w1
