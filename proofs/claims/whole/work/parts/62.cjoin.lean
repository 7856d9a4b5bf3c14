/-! CHAINS of the class: the search for a leader, the joining -/
/-- what a search holds when k of its queue have been looked at -/
def fLI (B : bT) (L : Nat → Bool) (ld fo : Nat → Option Nat) (x : Nat) (k : Nat) (seen : Nat → Bool) (X : ixX) (qs : List Nat) : Prop := qs.Nodup ∧ (∀ q, q ∈ qs → L q = true) ∧ cQ X qs ∧ 0 < qs.length ∧ qs.getD 0 0 = x ∧ (∀ y, seen y = true ↔ L y = true ∧ ∃ j, j < k ∧ j < qs.length ∧ EBh B y (qs.getD j 0) = true) ∧ (∀ y, seen y = true → ∃ f, fo y = some f ∧ f ∈ qs) ∧ (∀ i, i < qs.length → (i = 0 ∧ ld (qs.getD i 0) = none) ∨ ∃ y j, ld (qs.getD i 0) = some y ∧ seen y = true ∧ j < i ∧ X.1 72 y = nI (qs.getD j 0) ∧ EBh B y (qs.getD j 0) = true)
theorem M_findLeader {c : ixK} {X : ixX} {B : bT} (hs : bS B) {L : Nat → Bool} {ld fo : Nat → Option Nat} {D : Nat → Bool} (hL : ∀ x, L x = true → x < bn B) (hA : cAr X B L ld fo) (hm : mOK L (EBh B) ld fo) (hD : Dc L (EBh B) fo D) {x : Nat} (hx : L x = true) (hx0 : ld x = none) : ∃ X2 ld2 fo2 D2 r, ix_M mCh_findLeader [.ref 67, .int (nI x)] (hp c X) = some ([.int (ix_bi r)], hp c X2) ∧ cAr X2 B L ld2 fo2 ∧ mOK L (EBh B) ld2 fo2 ∧ Dc L (EBh B) fo2 D2 ∧ (∀ y, D y = true → D2 y = true) ∧ (∀ y, (ld2 y).isNone = (!(r && decide (y = x)) && (ld y).isNone)) ∧ (r = false → D2 x = true) ∧ fRm 67 73 X X2 := by
  have h64 := bS_64 hs
  have hw := bS_w hs
  have hL64 : ∀ x, L x = true → x < 64 := fun x h => by have := hL x h; omega
  have hx64 := hL64 x hx
  obtain ⟨Q, hQ⟩ : ∃ Q : Option (List Value × ixH) → Prop, Q = fun R => ∃ X2 ld2 fo2 D2 r, R = some ([.int (ix_bi r)], hp c X2) ∧ cAr X2 B L ld2 fo2 ∧ mOK L (EBh B) ld2 fo2 ∧ Dc L (EBh B) fo2 D2 ∧ (∀ y, D y = true → D2 y = true) ∧ (∀ y, (ld2 y).isNone = (!(r && decide (y = x)) && (ld y).isNone)) ∧ (r = false → D2 x = true) ∧ fRm 67 73 X X2 := ⟨_, rfl⟩
  obtain ⟨P, hP⟩ : ∃ P : Nat → ((Nat → Bool) × ixX × List Nat) → Prop, P = fun k s => fLI B L ld fo x k s.1 s.2.1 s.2.2 ∧ k ≤ s.2.2.length ∧ cAr s.2.1 B L ld fo ∧ fRm 67 73 X s.2.1 := ⟨_, rfl⟩
  have hout : ∀ k s, P k s → s.2.2.length ≤ k → Q (l_Ch_findLeader_15 67 (LSt s.1) (nI s.2.2.length) (nI k) (hp c s.2.1)) := by
    intro k s hp1 hl
    rw [hP] at hp1
    obtain ⟨⟨f1, f2, f3, f4, f5, f6, f7, f8⟩, hk, hA1, hfr⟩ := hp1
    have hlen := nd_len f1 (fun q hq => hL64 q (f2 q hq))
    have hD1 : ∀ y, D y = true → (D y || decide (y ∈ s.2.2)) = true := fun y hy => by rw [hy]; rfl
    have hD2 : ∀ y, y ∈ s.2.2 → (D y || decide (y ∈ s.2.2)) = true := fun y hy => by rw [decide_eq_true hy, Bool.or_true]
    rw [hQ]
    refine ⟨s.2.1, ld, fo, fun y => D y || decide (y ∈ s.2.2), false, ?_, hA1, hm, ?_, hD1, fun y => (by rw [Bool.false_and]; rfl), fun _ => ?_, hfr⟩
    · rw [e_Ch_findLeader_15, if_pos (by rw [nI_leI (by omega) (by omega)]; omega)]
    · intro z hz
      rw [Bool.or_eq_true, decide_eq_true_eq] at hz
      rcases hz with hz | hz
      · refine ⟨(hD z hz).1, fun y hy he => ?_⟩
        obtain ⟨w, hw1, hw2⟩ := (hD z hz).2 y hy he
        exact ⟨w, hw1, hD1 w hw2⟩
      · refine ⟨f2 z hz, fun y hy he => ?_⟩
        obtain ⟨j, hj, ej⟩ := mem_gd _ _ hz
        obtain ⟨w, hw1, hw2⟩ := f7 y ((f6 y).mpr ⟨hy, j, by omega, hj, by rw [ej]; exact he⟩)
        exact ⟨w, hw1, hD2 w hw2⟩
    · have : x ∈ s.2.2 := by rw [← f5]; exact gd_mem _ 0 f4
      exact hD2 x this
  have main := lp_out (fun k (s : (Nat → Bool) × ixX × List Nat) => l_Ch_findLeader_15 67 (LSt s.1) (nI s.2.2.length) (nI k) (hp c s.2.1)) P Q (N := 64) (fun k s hk hp1 => by
    by_cases hl : s.2.2.length ≤ k
    · exact .inr (hout k s hp1 hl)
    · rw [hP] at hp1
      obtain ⟨⟨f1, f2, f3, f4, f5, f6, f7, f8⟩, hkl, hA1, hfr⟩ := hp1
      have hlen := nd_len f1 (fun q hq => hL64 q (f2 q hq))
      have hsL := f2 _ (gd_mem s.2.2 k (by omega))
      have hsn := hL _ hsL
      obtain ⟨sk, hsk⟩ : ∃ z, z = s.2.2.getD k 0 := ⟨_, rfl⟩
      rw [← hsk] at hsL hsn
      obtain ⟨A1, A2, A3, A4, A5⟩ := hA1
      obtain ⟨fre, hfre⟩ : ∃ f : Nat → Bool, f = fun y => ((decide (0 < fw B y sk) && !decide (y = sk)) && L y) && !s.1 y := ⟨_, rfl⟩
      have hfi : ∀ y, fre y = true ↔ EBh B y sk = true ∧ L y = true ∧ s.1 y = false := by
        intro y
        rw [hfre, Bool.and_eq_true, Bool.and_eq_true, Bool.not_eq_true']
        exact ⟨fun q => ⟨q.1.1, q.1.2, q.2⟩, fun q => ⟨⟨q.1, q.2.1⟩, q.2.2⟩⟩
      have eF : ((LSt (fun y => decide (0 < fw B y sk)) &&& (LSt (fun i => decide (i = sk)) ^^^ -1)) &&& LSt L) &&& (LSt s.1 ^^^ -1) = LSt fre := by
        rw [LS_not, LS_and, LS_and, LS_not, LS_and, hfre]
      have hqd : ∀ y f, fre y = true → fo y = some f → ¬ f ∈ s.2.2 := by
        intro y f hy hyf hfq
        obtain ⟨i, hi, ei⟩ := mem_gd _ _ hfq
        rcases f8 i hi with ⟨_, g⟩ | ⟨y', j, g1, g2, _⟩
        · rw [ei, hm.2 y f hyf] at g; cases g
        · rw [ei, hm.2 y f hyf] at g1
          rw [← Option.some.inj g1] at g2
          have := ((hfi y).mp hy).2.2
          rw [g2] at this; cases this
      show (∃ s' : (Nat → Bool) × ixX × List Nat, l_Ch_findLeader_15 67 (LSt s.1) (nI s.2.2.length) (nI k) (hp c s.2.1) = l_Ch_findLeader_15 67 (LSt s'.1) (nI s'.2.2.length) (nI (k + 1)) (hp c s'.2.1) ∧ P (k + 1) s') ∨ Q (l_Ch_findLeader_15 67 (LSt s.1) (nI s.2.2.length) (nI k) (hp c s.2.1))
      rw [e_Ch_findLeader_15, if_neg (by rw [nI_leI (by omega) (by omega)]; omega), if_neg (lit_nle (x := 64) (a := 64) (k := k) rfl hk (by omega)), bO (g67_3 c _), bO (r71 hk), f3 k (by omega), ← hsk, kL_of (M_aheadOf (by omega)), A1 sk hsn, kL_of (M_bit (by omega) _), bO (g67_5 c _), bO (g67_6 c _), A2, A3, eF]
      by_cases hz : LSt fre &&& LSt (fun y => L y && (fo y).isNone) = 0
      · rw [if_pos hz]
        have hz2 : ∀ y, y < 64 → (fre y && (L y && (fo y).isNone)) = false := by
          rw [LS_and] at hz
          exact LS_zero.mp hz
        have hall : ∀ y, fre y = true → ∃ f, fo y = some f := by
          intro y hy
          have h1 := (hfi y).mp hy
          have := hz2 y (hL64 y h1.2.1)
          rw [hy, h1.2.1] at this
          cases hf : fo y with
          | some f => exact ⟨f, rfl⟩
          | none => rw [hf] at this; cases this
        obtain ⟨X', z, i1, i2, i3, i4, i5, i6, i7, i8, i9⟩ := M_enq (c := c) hm hL64 (s := sk) (by omega) (rest := fre) f1 (fun q hq => hL64 q (f2 q hq)) hqd f3 A5
        rw [kI_of i1, LS_or, nI_1]
        refine .inl ⟨(fun y => s.1 y || fre y, X', s.2.2 ++ z), rfl, ?_⟩
        rw [hP]
        have hzL : ∀ q, q ∈ s.2.2 ++ z → L q = true := by
          intro q hq
          rcases List.mem_append.mp hq with r | r
          · exact f2 q r
          · obtain ⟨y, _, _, hyf⟩ := i9 q r
            exact (hm.1 q y (hm.2 y q hyf)).1
        have hgd : ∀ j, j < s.2.2.length → (s.2.2 ++ z).getD j 0 = s.2.2.getD j 0 := fun j hj => gd_app_l _ _ j hj
        have hseen : ∀ y, (s.1 y || fre y) = true ↔ s.1 y = true ∨ fre y = true := fun y => by rw [Bool.or_eq_true]
        refine ⟨⟨i2, hzL, i4, by rw [List.length_append]; omega, by rw [hgd 0 f4]; exact f5, ?_, ?_, ?_⟩, by show k + 1 ≤ (s.2.2 ++ z).length; rw [List.length_append]; omega, ⟨fun j hj => by rw [i5]; exact A1 j hj, by rw [i5]; exact A2, by rw [i5]; exact A3, fun j hj => by rw [i6 69 (by omega) (by omega)]; exact A4 j hj, fun j hj => by rw [i6 70 (by omega) (by omega)]; exact A5 j hj⟩, ?_⟩
        · intro y
          rw [hseen, f6 y, hfi]
          constructor
          · rintro (⟨q1, j, q2, q3, q4⟩ | q)
            · exact ⟨q1, j, by omega, by rw [List.length_append]; omega, by rw [hgd j q3]; exact q4⟩
            · exact ⟨q.2.1, k, by omega, by rw [List.length_append]; omega, by rw [hgd k (by omega), ← hsk]; exact q.1⟩
          · rintro ⟨q1, j, q2, q3, q4⟩
            rw [hgd j (by omega)] at q4
            by_cases ej : j = k
            · rw [ej, ← hsk] at q4
              cases hsy : s.1 y with
              | true => exact .inl ((f6 y).mp hsy)
              | false => exact .inr ⟨q4, q1, rfl⟩
            · exact .inl ⟨q1, j, by omega, by omega, q4⟩
        · intro y hy
          rcases (hseen y).mp hy with q | q
          · obtain ⟨f, q1, q2⟩ := f7 y q
            exact ⟨f, q1, List.mem_append.mpr (.inl q2)⟩
          · obtain ⟨f, hf⟩ := hall y q
            exact ⟨f, hf, List.mem_append.mpr (.inr (i7 y f (hL64 y ((hfi y).mp q).2.1) q hf).1)⟩
        · intro i hi
          rcases Nat.lt_or_ge i s.2.2.length with q | q
          · rw [hgd i q]
            rcases f8 i q with g | ⟨y, j, g1, g2, g3, g4, g5⟩
            · exact .inl g
            · have hnf : ¬ (fre y = true) := fun r => by
                have := ((hfi y).mp r).2.2
                rw [g2] at this; cases this
              exact .inr ⟨y, j, g1, (hseen y).mpr (.inl g2), g3, by rw [i8 y hnf, hgd j (by omega)]; exact g4, by rw [hgd j (by omega)]; exact g5⟩
          · have hm2 : (s.2.2 ++ z).getD i 0 ∈ z := by
              rw [show i = s.2.2.length + (i - s.2.2.length) by omega, gd_app_r]
              refine gd_mem z _ ?_
              rw [List.length_append] at hi
              omega
            obtain ⟨y, hy64, hyr, hyf⟩ := i9 _ hm2
            refine .inr ⟨y, k, hm.2 y _ hyf, (hseen y).mpr (.inr hyr), by omega, ?_, ?_⟩
            · rw [(i7 y _ hy64 hyr hyf).2, hgd k (by omega), hsk]
            · rw [hgd k (by omega), ← hsk]; exact ((hfi y).mp hyr).1
        · intro a ha
          refine ⟨?_, ?_⟩
          · show X'.1 a = X.1 a
            rw [i6 a (by omega) (by omega)]; exact (hfr a ha).1
          · show X'.2 a = X.2 a
            rw [i5]; exact (hfr a ha).2
      · rw [if_neg hz]
        rw [LS_and] at hz
        obtain ⟨e0, he1, he2, he3⟩ := LS_least hz
        have he4 : fre e0 = true ∧ L e0 = true ∧ (fo e0).isNone = true := by
          simp only [Bool.and_eq_true] at he2
          exact ⟨he2.1, he2.2.1, he2.2.2⟩
        have hfe : fo e0 = none := Option.isNone_iff_eq_none.mp he4.2.2
        obtain ⟨X1, hX1⟩ : ∃ Y, Y = aJ s.2.1 67 (vp_updL (s.2.1.2 67) 6 (LSt (fun y => (L y && (fo y).isNone) && !decide (y = e0)))) := ⟨_, rfl⟩
        obtain ⟨X2, ld2, fo2, r1, r2, r3, r4, r5, r6, r7, r8, r9⟩ := L_relink (c := c) (D := D) hm hL64 f1 f2 (X0 := X1) (e0 := e0) (fun i hi => by
          rcases f8 i hi with g | ⟨y, j, g1, g2, g3, g4, g5⟩
          · exact .inl g
          · exact .inr ⟨y, j, g1, g3, by rw [hX1]; exact g4, g5⟩) k (by omega) 0 e0 X1 ld fo (by omega) hm hD he4.2.1 (by rw [← hsk]; exact ((hfi e0).mp he4.1).1) hfe (.inl rfl) (fun j hj => by rw [hX1]; exact A4 j hj) (fun j hj _ => by rw [hX1]; exact A5 j hj) (fun j _ => rfl) (fun y _ => rfl) (fun y hy => by rw [decide_eq_false hy]; rfl) rfl (fun _ _ _ => rfl)
        rw [hQ]
        refine .inr ⟨X2, ld2, fo2, D, true, ?_, ⟨?_, ?_, ?_, r4, r5⟩, r2, r3, fun y hy => hy, fun y => ?_, fun q => (by cases q), ?_⟩
        · have er : ix_M mCh_relink [.ref 67, .int (nI e0), .int (nI sk)] (hp c s.2.1) = some ([], hp c X2) := by
            refine x_Ch_relink (rc_67 c _) ?_
            rw [e_Ch_relink, bO (g67_6 c _), A3, kL_of (M_bit he1 _), LS_not, LS_and, bO (p67_6 c _ _), ← hX1]
            rw [hsk, show (0 : Int32) = nI 0 from rfl]
            exact r1
          rw [bO (g67_6 c _), A3, LS_and, kI_of (M_lowest he1 he2 he3 _), kV_of er]
        · intro j hj
          rw [r8, hX1, aJ_o (by omega)]; exact A1 j hj
        · rw [r8, hX1, aJ_1, updL_n _ _ (by omega)]; exact A2
        · rw [r8, hX1, aJ_1, updL_1]
          refine LS_cong (fun y _ => ?_)
          rw [r7 y]
          cases L y <;> cases (fo y).isNone <;> cases decide (y = e0) <;> rfl
        · rw [r6 y, f5, Bool.true_and]
        · intro a ha
          have hX1a : X1.1 a = s.2.1.1 a ∧ X1.2 a = s.2.1.2 a := by
            rw [hX1]
            exact ⟨rfl, aJ_o (by omega) _ _⟩
          refine ⟨?_, ?_⟩
          · rw [r9 a (by omega) (by omega), hX1a.1]; exact (hfr a ha).1
          · rw [r8, hX1a.2]; exact (hfr a ha).2) (k := 0) (s := (fun _ => false, aI X 71 (upd (X.1 71) 0 (nI x)), [x])) (by omega) (by
    rw [hP]
    refine ⟨⟨List.nodup_cons.mpr ⟨fun h => (by cases h), List.nodup_nil⟩, fun q hq => by rw [List.mem_singleton.mp hq]; exact hx, ?_, Nat.succ_pos _, rfl, fun y => ⟨fun h => (by cases h), fun h => ?_⟩, fun y h => (by cases h), ?_⟩, Nat.zero_le _, ?_, fRm_aI (fRm_refl _ _ _) (by omega) (by omega)⟩
    · intro i hi
      have hi2 : i < 1 := hi
      have : i = 0 := by omega
      rw [this]
      show (aI X 71 (upd (X.1 71) 0 (nI x))).1 71 0 = nI x
      rw [aI_1, upd_1]
    · obtain ⟨_, j, hj, _⟩ := h
      exact absurd hj (Nat.not_lt_zero j)
    · intro i hi
      have hi2 : i < 1 := hi
      have : i = 0 := by omega
      rw [this]
      exact .inl ⟨rfl, hx0⟩
    · obtain ⟨A1, A2, A3, A4, A5⟩ := hA
      exact ⟨A1, A2, A3, fun j hj => by rw [aI_o (by omega)]; exact A4 j hj, fun j hj => by rw [aI_o (by omega)]; exact A5 j hj⟩)
  have hQ2 : Q (l_Ch_findLeader_15 67 0 1 0 (hp c (aI X 71 (upd (X.1 71) 0 (nI x))))) := by
    have e0 : l_Ch_findLeader_15 67 0 1 0 (hp c (aI X 71 (upd (X.1 71) 0 (nI x)))) = l_Ch_findLeader_15 67 (LSt (fun _ => false)) (nI 1) (nI 0) (hp c (aI X 71 (upd (X.1 71) 0 (nI x)))) := by
      rw [← LS_0]; rfl
    rw [e0]
    rcases main with ⟨s', e5, hs5⟩ | hq
    · have e5' : l_Ch_findLeader_15 67 (LSt (fun _ => false)) (nI 1) (nI 0) (hp c (aI X 71 (upd (X.1 71) 0 (nI x)))) = l_Ch_findLeader_15 67 (LSt s'.1) (nI s'.2.2.length) (nI 64) (hp c s'.2.1) := e5
      rw [e5']
      refine hout 64 s' hs5 ?_
      rw [hP] at hs5
      exact nd_len hs5.1.1 (fun q hq => hL64 q (hs5.1.2.1 q hq))
    · exact hq
  rw [hQ] at hQ2
  obtain ⟨X2, ld2, fo2, D2, r, w1, w2⟩ := hQ2
  refine ⟨X2, ld2, fo2, D2, r, x_Ch_findLeader (rc_67 c X) ?_, w2⟩
  rw [e_Ch_findLeader, bO (g67_3 c _), bO (show ix_si (hp c X) 71 0 (nI x) = _ from s71 (i := 0) (by omega))]
  exact w1
/-- what the joining leaves -/
def cJ (X : ixX) (B : bT) (L : Nat → Bool) (ld fo : Nat → Option Nat) (D : Nat → Bool) : Prop := cAr X B L ld fo ∧ mOK L (EBh B) ld fo ∧ Dc L (EBh B) fo D ∧ ∀ x, hdB L ld x = true → D x = true
theorem M_join {c : ixK} {X : ixX} {B : bT} (hs : bS B) (h : cG 4 X B) {L : Nat → Bool} (hL : ∀ x, L x = true → x < bn B) : ∃ X2 ld fo D, ix_M mCh_join [.ref 67, .ref 5, .long (LSt L)] (hp c X) = some ([.int (nI (fb_ct (hdB L ld) 64))], hp c X2) ∧ cJ X2 B L ld fo D ∧ isW 64 L (EBh B) (fb_ct (hdB L ld) 64) ∧ fRm 67 73 X X2 := by
  have h64 := bS_64 hs
  have hw := bS_w hs
  have hL64 : ∀ x, L x = true → x < 64 := fun x h => by have := hL x h; omega
  obtain ⟨g, e1, hg⟩ := M_findAhead (c := c) hs h
  obtain ⟨X1, hX1⟩ : ∃ Y, Y = aJ (aJ (aJ X 68 g) 67 (vp_updL (X.2 67) 5 (LSt L))) 67 (vp_updL (vp_updL (X.2 67) 5 (LSt L)) 6 (LSt L)) := ⟨_, rfl⟩
  have f1 : fRm 67 73 X X1 := by rw [hX1]; exact fRm_aJ (fRm_aJ (fRm_aJ (fRm_refl _ _ _) (by omega) (by omega)) (by omega) (by omega)) (by omega) (by omega)
  have a68 : X1.2 68 = g := by rw [hX1, aJ_o (by omega), aJ_o (by omega), aJ_1]
  have a5 : X1.2 67 5 = LSt L := by rw [hX1, aJ_1, updL_n _ _ (by omega), updL_1]
  have a6 : X1.2 67 6 = LSt L := by rw [hX1, aJ_1, updL_1]
  obtain ⟨X2, e2, q1, q2, q3⟩ := lp_up (fun k (Y : ixX) => l_Ch_join_21 67 false (nI k) (hp c Y)) (fun k Y => Y.2 = X1.2 ∧ (∀ j, j < k → Y.1 69 j = -6 ∧ Y.1 70 j = -6) ∧ fRm 67 73 X Y) (N := 64) (fun k Y hk hY => by
    obtain ⟨q1, q2, q3⟩ := hY
    refine ⟨aI (aI Y 69 (upd (Y.1 69) k (-6))) 70 (upd (Y.1 70) k (-6)), ?_, q1, fun j hj => ?_, fRm_aI (fRm_aI q3 (by omega) (by omega)) (by omega) (by omega)⟩
    · show l_Ch_join_21 67 false (nI k) (hp c Y) = l_Ch_join_21 67 false (nI (k + 1)) (hp c _)
      rw [e_Ch_join_21, if_neg (lit_nle (x := 64) (a := 64) (k := k) rfl hk (by omega)), bO (g67_1 c _), bO (s69 hk), bO (g67_2 c _), bO (s70 hk), aI_o (by omega), nI_1]
    · rw [aI_1, aI_o (by omega), aI_1]
      by_cases ej : j = k
      · rw [ej, upd_1, upd_1]; exact ⟨rfl, rfl⟩
      · rw [upd_n _ _ ej, upd_n _ _ ej]; exact q2 j (by omega)) (k := 0) (s := X1) (by omega) ⟨rfl, fun j hj => absurd hj (Nat.not_lt_zero j), f1⟩
  have e2' : l_Ch_join_21 67 false 0 (hp c X1) = l_Ch_join_21 67 false (nI 64) (hp c X2) := e2
  have hA0 : cAr X2 B L (fun _ => none) (fun _ => none) := by
    refine ⟨fun k hk => by rw [q1, a68]; exact hg k hk, by rw [q1]; exact a5, ?_, fun j hj => (q2 j hj).1, fun j hj => (q2 j hj).2⟩
    rw [q1, a6]
    exact LS_cong (fun y _ => by show L y = (L y && true); rw [Bool.and_true])
  have hm0 : mOK L (EBh B) (fun _ => none) (fun _ => none) := ⟨fun x y h => (by cases h), fun y x h => (by cases h)⟩
  obtain ⟨⟨X3, ld, fo, D, J⟩, e3, r1, r2, r3, r4, r5, r6, r7⟩ := lp_up (fun k (s : ixX × (Nat → Option Nat) × (Nat → Option Nat) × (Nat → Bool) × Nat) => l_Ch_join_55 67 (nI s.2.2.2.2) (nI k) (hp c s.1)) (fun k s => cAr s.1 B L s.2.1 s.2.2.1 ∧ mOK L (EBh B) s.2.1 s.2.2.1 ∧ Dc L (EBh B) s.2.2.1 s.2.2.2.1 ∧ (∀ x, x < k → L x = true → s.2.1 x = none → s.2.2.2.1 x = true) ∧ (∀ x, k ≤ x → s.2.1 x = none) ∧ s.2.2.2.2 = fb_ct (fun x => !(s.2.1 x).isNone) 64 ∧ fRm 67 73 X s.1) (N := 64) (fun k s hk hP => by
    obtain ⟨p1, p2, p3, p4, p5, p6, p7⟩ := hP
    show ∃ s' : ixX × (Nat → Option Nat) × (Nat → Option Nat) × (Nat → Bool) × Nat, l_Ch_join_55 67 (nI s.2.2.2.2) (nI k) (hp c s.1) = l_Ch_join_55 67 (nI s'.2.2.2.2) (nI (k + 1)) (hp c s'.1) ∧ _
    rw [e_Ch_join_55, if_neg (lit_nle (x := 64) (a := 64) (k := k) rfl hk (by omega)), bO (g67_5 c _), p1.2.1, kZ_of (M_holds _ hk _), nI_1]
    cases hLk : L k with
    | false =>
      rw [if_neg (by decide)]
      refine ⟨s, by rw [nI_1 k], p1, p2, p3, fun x hx hLx hn => ?_, fun x hx => p5 x (by omega), p6, p7⟩
      by_cases ex : x = k
      · rw [ex, hLk] at hLx; cases hLx
      · exact p4 x (by omega) hLx hn
    | true =>
      obtain ⟨Y, ld2, fo2, D2, r, i1, i2, i3, i4, i5, i6, i7, i8⟩ := M_findLeader (c := c) hs hL p1 p2 p3 hLk (p5 k (Nat.le_refl k))
      have hnone : ∀ y, ld2 y = none ↔ (r && decide (y = k)) = false ∧ s.2.1 y = none := by
        intro y
        rw [← Option.isNone_iff_eq_none, ← Option.isNone_iff_eq_none, i6 y, Bool.and_eq_true, Bool.not_eq_true']
      rw [if_pos rfl, kZ_of i1]
      have hfrm := fRm_trans p7 i8
      cases hr : r with
      | true =>
        rw [hr] at i6 i7 hnone
        rw [if_pos rfl, nI_1]
        refine ⟨(Y, ld2, fo2, D2, s.2.2.2.2 + 1), rfl, i2, i3, i4, fun x hx hLx hn => ?_, fun x hx => ?_, ?_, hfrm⟩
        · have hq := (hnone x).mp hn
          have ex : ¬ x = k := fun ex => by
            have := hq.1
            rw [decide_eq_true ex] at this
            cases this
          exact i5 x (p4 x (by omega) hLx hq.2)
        · exact (hnone x).mpr ⟨by rw [decide_eq_false (show ¬ x = k by omega)]; rfl, p5 x (by omega)⟩
        · show s.2.2.2.2 + 1 = fb_ct (fun x => !(ld2 x).isNone) 64
          rw [p6]
          have h1 := fb_ct_upd (fun x => !(s.2.1 x).isNone) true hk
          rw [p5 k (Nat.le_refl k)] at h1
          have h2 : fb_ct (fun x => !(ld2 x).isNone) 64 = fb_ct (fun j => if j = k then true else !(s.2.1 j).isNone) 64 := fb_ct_cong fun x _ => by
            rw [i6 x]
            by_cases ex : x = k
            · rw [if_pos ex, decide_eq_true ex]; rfl
            · rw [if_neg ex, decide_eq_false ex]; rfl
          have h3 : (if (!(none : Option Nat).isNone) = true then 1 else 0) = 0 := rfl
          rw [h3, if_pos rfl] at h1
          omega
      | false =>
        rw [hr] at i6 i7 hnone
        rw [if_neg (by decide)]
        refine ⟨(Y, ld2, fo2, D2, s.2.2.2.2), by rw [nI_1 k], i2, i3, i4, fun x hx hLx hn => ?_, fun x hx => ?_, ?_, hfrm⟩
        · by_cases ex : x = k
          · rw [ex]; exact i7 rfl
          · exact i5 x (p4 x (by omega) hLx ((hnone x).mp hn).2)
        · exact (hnone x).mpr ⟨rfl, p5 x (by omega)⟩
        · show s.2.2.2.2 = fb_ct (fun x => !(ld2 x).isNone) 64
          rw [p6]
          exact fb_ct_cong fun x _ => by rw [i6 x]; rfl) (k := 0) (s := (X2, fun _ => none, fun _ => none, fun _ => false, 0)) (by omega) ⟨hA0, hm0, fun x hx => (by cases hx), fun x hx => absurd hx (Nat.not_lt_zero x), fun x _ => rfl, (fb_ct_zero.mpr fun _ _ => rfl).symm, q3⟩
  have e3' : l_Ch_join_55 67 (nI 0) (nI 0) (hp c X2) = l_Ch_join_55 67 (nI J) (nI 64) (hp c X3) := e3
  have r1' : cAr X3 B L ld fo := r1
  have r2' : mOK L (EBh B) ld fo := r2
  have r3' : Dc L (EBh B) fo D := r3
  have r4' : ∀ x, x < 64 → L x = true → ld x = none → D x = true := r4
  have r6' : J = fb_ct (fun x => !(ld x).isNone) 64 := r6
  have r7' : fRm 67 73 X X3 := r7
  have hh : ∀ x, hdB L ld x = true → D x = true := fun x hx => by
    have := (hdB_iff L ld x).mp hx
    exact r4' x (hL64 x this.1) this.1 this.2
  have hcount : fb_ct L 64 = fb_ct (hdB L ld) 64 + J := by
    rw [r6', ← fb_ct_or (p := hdB L ld) (q := fun x => !(ld x).isNone) (fun k _ hk => by
      have h1 := (hdB_iff L ld k).mp hk.1
      have h2 := hk.2
      rw [h1.2] at h2
      cases h2)]
    refine fb_ct_cong fun x _ => ?_
    unfold hdB
    cases hl : ld x with
    | none => cases L x <;> rfl
    | some y => rw [(r2'.1 x y hl).1]; rfl
  refine ⟨X3, ld, fo, D, x_Ch_join (rc_67 c X) ?_, ⟨r1', r2', r3', hh⟩, W_of hL64 hL64 (EBh_st hw) r2' r3' hh, r7'⟩
  rw [e_Ch_join, kV_of e1, bO (p67_5 c _ _), bO (p67_6 c _ _)]
  rw [show (aJ (aJ X 68 g) 67 (vp_updL ((aJ X 68 g).2 67) 5 (LSt L))).2 67 = vp_updL (X.2 67) 5 (LSt L) from aJ_1 _ _ _, show (aJ X 68 g).2 67 = X.2 67 from rfl, ← hX1, e2', e_Ch_join_21, if_pos (show (64 : Int32) ≤ nI 64 by decide)]
  rw [show ix_bi false = nI 0 from rfl, show (0 : Int32) = nI 0 from rfl, e3', e_Ch_join_55, if_pos (show (64 : Int32) ≤ nI 64 by decide), bO (g67_5 c _), r1'.2.1, kI_of (M_size _ _), hcount, nI_sub (by omega), Nat.add_sub_cancel]
