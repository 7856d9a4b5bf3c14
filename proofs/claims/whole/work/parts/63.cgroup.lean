/-! THE LOWEST GROUP -/
def cloP (L : Nat → Bool) (E : Nat → Nat → Bool) (ld fo : Nat → Option Nat) (R T : Nat → Prop) : Prop := (∀ h, hdB L ld h = true → R h) ∧ (∀ c y, R c → L y = true → E y c = true → T y) ∧ (∀ y z, T y → fo y = some z → R z)
theorem W_low {N : Nat} {L : Nat → Bool} {E : Nat → Nat → Bool} {rk : Nat → Nat} {ld fo : Nat → Option Nat} {R : Nat → Bool} (hN : ∀ x, L x = true → x < N) (hE : stO E rk) (hm : mOK L E ld fo) (hmin : ∀ R' T', cloP L E ld fo R' T' → ∀ x, R x = true → R' x) {A : Nat → Bool} (hA : aC L E A) (hc : fb_ct A N = fb_ct (hdB L ld) N) : ∀ g, R g = true → ∃ k a, A a = true ∧ dnC fo k g = some a := by
  have hhead : ∀ h, hdB L ld h = true → ∃ k a, A a = true ∧ upC ld k a = some h := by
    intro h hh
    obtain ⟨a, _, ha, k, hk⟩ := ct_surj (p := A) (q := hdB L ld) (n := N) (fun a h => ∃ k, upC ld k a = some h) (fun a ha hAa => by
      obtain ⟨k, h, e1, e2⟩ := hd_ex hE hm (rk a + 1) a (by omega) (hA.1 a hAa)
      exact ⟨h, hN h ((hdB_iff L ld h).mp e2).1, e2, k, e1⟩) (fun a a' h ha ha' ⟨k, hk⟩ ⟨k', hk'⟩ => ch_one hE hm hA hk hk' ha ha') (by omega) h (hN h ((hdB_iff L ld h).mp hh).1) hh
    exact ⟨k, a, ha, hk⟩
  refine hmin (fun x => ∃ k a, A a = true ∧ dnC fo k x = some a) (fun y => ∃ k a, A a = true ∧ dnC fo (k + 1) y = some a) ⟨fun h hh => ?_, fun c y ⟨k, ac, hac, hkc⟩ hy he => ?_, fun y z ⟨k, a, ha, hk⟩ hz => ?_⟩
  · obtain ⟨k, a, ha, hk⟩ := hhead h hh
    exact ⟨k, a, ha, (up_dn hm k a h).mp hk⟩
  · obtain ⟨j, h, e1, e2⟩ := hd_ex hE hm (rk y + 1) y (by omega) hy
    obtain ⟨i, ay, hay, hi⟩ := hhead h e2
    have d1 := (up_dn hm j y h).mp e1
    have d2 := (up_dn hm i ay h).mp hi
    rcases Nat.lt_or_ge j i with q | q
    · rw [show i = j + (i - j - 1 + 1) by omega, dn_add, d1] at d2
      exact ⟨i - j - 1, ay, hay, d2⟩
    · exfalso
      rw [show j = i + (j - i) by omega, dn_add, d2] at d1
      have d3 : dnC fo (j - i) ay = some y := d1
      have g1 : E ay c = true := by
        cases hji : j - i with
        | zero =>
          rw [hji] at d3
          have : ay = y := Option.some.inj d3
          rw [this]; exact he
        | succ m =>
          rw [hji] at d3
          exact hE.1 ay y c (dn_E hE hm m ay y d3) he
      have g2 : E ay ac = true := by
        cases k with
        | zero =>
          have : c = ac := Option.some.inj hkc
          rw [← this]; exact g1
        | succ m => exact hE.1 ay c ac g1 (dn_E hE hm m c ac hkc)
      rw [hA.2 ay ac hay hac] at g2
      cases g2
  · rw [show k + 1 = 1 + k by omega, dn_add] at hk
    have hk2 : (fo y).bind (dnC fo k) = some a := hk
    rw [hz] at hk2
    exact ⟨k, a, ha, hk2⟩
def isG (N : Nat) (L : Nat → Bool) (E : Nat → Nat → Bool) (G : Nat → Bool) : Prop := aC L E G ∧ isW N L E (fb_ct G N) ∧ ∀ A, aC L E A → fb_ct A N = fb_ct G N → ∀ i, A i = true → G i = false → ∃ g, G g = true ∧ E g i = true
theorem G_of {N : Nat} {L : Nat → Bool} {E : Nat → Nat → Bool} {rk : Nat → Nat} {ld fo : Nat → Option Nat} {R T : Nat → Bool} (hN : ∀ x, L x = true → x < N) (hrk : ∀ x, L x = true → rk x < N) (hE : stO E rk) (hm : mOK L E ld fo) (hh : ∀ x, hdB L ld x = true → R x = true) (hRL : ∀ x, R x = true → L x = true) (hRT : ∀ c y, R c = true → L y = true → E y c = true → T y = true) (hT : ∀ y, T y = true → ∃ z, fo y = some z ∧ R z = true) (hmin : ∀ R' T', cloP L E ld fo R' T' → ∀ x, R x = true → R' x) : isG N L E (fun x => R x && !T x) := by
  have hA := W_set (E := E) (ld := ld) (fo := fo) hRL hRT
  have l1 := W_le hN hE hm hA
  have l2 := W_ge hN hrk hE hm hh hRL hT
  have hc : fb_ct (fun x => R x && !T x) N = fb_ct (hdB L ld) N := by omega
  refine ⟨hA, ⟨⟨_, hA, rfl⟩, fun A hA' => by rw [hc]; exact W_le hN hE hm hA'⟩, fun A hA' hcA i hi hG => ?_⟩
  obtain ⟨j, h, e1, e2⟩ := hd_ex hE hm (rk i + 1) i (by omega) (hA'.1 i hi)
  obtain ⟨k, g, g1, g2⟩ := W_down hrk hE hm hRL hT N h (by omega) (hh h e2)
  have g3 : (R g && !T g) = true := g1
  rw [Bool.and_eq_true] at g3
  obtain ⟨k', a, ha, hk'⟩ := W_low hN hE hm hmin hA' (hcA.trans hc) g g3.1
  have d1 := (up_dn hm k g h).mp g2
  have d2 : dnC fo (k + k') h = some a := by
    rw [dn_add, d1]
    exact hk'
  have hai : a = i := ch_one hE hm hA' ((up_dn hm _ a h).mpr d2) e1 ha hi
  rw [hai] at hk'
  refine ⟨g, g1, ?_⟩
  cases k' with
  | zero =>
    exfalso
    have : g = i := Option.some.inj hk'
    rw [this] at g1
    have hG2 : (R i && !T i) = false := hG
    rw [g1] at hG2
    cases hG2
  | succ m => exact dn_E hE hm m g i hk'
theorem M_lowestGroup {c : ixK} {X : ixX} {B : bT} (hs : bS B) {L : Nat → Bool} {ld fo : Nat → Option Nat} {D : Nat → Bool} (hL : ∀ x, L x = true → x < bn B) (hJ : cJ X B L ld fo D) : ∃ X2 G, ix_M mCh_lowestGroup [.ref 67] (hp c X) = some ([.long (LSt G)], hp c X2) ∧ isG 64 L (EBh B) G ∧ fRm 67 73 X X2 := by
  have h64 := bS_64 hs
  have hw := bS_w hs
  have hL64 : ∀ x, L x = true → x < 64 := fun x h => by have := hL x h; omega
  obtain ⟨hA, hm, hD, hhD⟩ := hJ
  obtain ⟨A1, A2, A3, A4, A5⟩ := hA
  have hldlt : ∀ x y, ld x = some y → y < 2147483648 := fun x y h => by
    have := hL64 y (hm.1 x y h).2.1
    omega
  -- the heads
  obtain ⟨⟨X1, q1⟩, e1, p1, p2, p3, p4, p5⟩ := lp_up (fun k (s : ixX × List Nat) => l_Ch_lowestGroup_10 67 (LSt (fun x => decide (x ∈ s.2))) 0 (nI s.2.length) (nI k) (hp c s.1)) (fun k s => s.2.Nodup ∧ (∀ x, x ∈ s.2 ↔ x < k ∧ hdB L ld x = true) ∧ cQ s.1 s.2 ∧ s.1.2 = X.2 ∧ ∀ a, ¬ a = 71 → s.1.1 a = X.1 a) (N := 64) (fun k s hk hP => by
    obtain ⟨p1, p2, p3, p4, p5⟩ := hP
    have hlen := nd_len p1 (fun q hq => ((p2 q).mp hq).1)
    show ∃ s' : ixX × List Nat, l_Ch_lowestGroup_10 67 (LSt (fun x => decide (x ∈ s.2))) 0 (nI s.2.length) (nI k) (hp c s.1) = l_Ch_lowestGroup_10 67 (LSt (fun x => decide (x ∈ s'.2))) 0 (nI s'.2.length) (nI (k + 1)) (hp c s'.1) ∧ _
    rw [e_Ch_lowestGroup_10, if_neg (lit_nle (x := 64) (a := 64) (k := k) rfl hk (by omega)), bO (g67_5 c _), p4, A2, kZ_of (M_holds _ hk _)]
    have skip : hdB L ld k = false → ∀ x, x ∈ s.2 ↔ x < k + 1 ∧ hdB L ld x = true := by
      intro hf x
      rw [p2 x]
      constructor
      · rintro ⟨a, b⟩; exact ⟨by omega, b⟩
      · rintro ⟨a, b⟩
        by_cases ex : x = k
        · rw [ex, hf] at b; cases b
        · exact ⟨by omega, b⟩
    cases hLk : L k with
    | false =>
      rw [if_neg (by decide), nI_1 k]
      refine ⟨s, rfl, p1, skip ?_, p3, p4, p5⟩
      unfold hdB
      rw [hLk]; rfl
    | true =>
      rw [if_pos rfl, bO (g67_1 c _), bO (r69 hk), p5 69 (by omega), A4 k hk]
      cases hl : ld k with
      | some y =>
        rw [if_pos (show ¬ oI (some y) = -6 from m6_ne (hldlt k y hl)), nI_1 k]
        refine ⟨s, rfl, p1, skip ?_, p3, p4, p5⟩
        unfold hdB
        rw [hl, hLk]; rfl
      | none =>
        have hhd : hdB L ld k = true := (hdB_iff L ld k).mpr ⟨hLk, hl⟩
        have hknot : ¬ k ∈ s.2 := fun h => by have := ((p2 k).mp h).1; omega
        rw [if_neg (fun n => n rfl), if_neg (lit_nle (x := 64) (a := 64) (k := s.2.length) rfl (by omega) (by omega)), kL_of (M_bit hk _), bO (g67_3 c _), bO (s71 (by omega)), LS_or, nI_1, nI_1]
        refine ⟨(aI s.1 71 (upd (s.1.1 71) s.2.length (nI k)), s.2 ++ [k]), ?_, nd_app p1 hknot, fun x => ?_, cQ_app p3, p4, fun a ha => by rw [aI_o ha]; exact p5 a ha⟩
        · show _ = l_Ch_lowestGroup_10 67 (LSt (fun x => decide (x ∈ s.2 ++ [k]))) 0 (nI (s.2 ++ [k]).length) (nI (k + 1)) _
          rw [List.length_append]
          congr 1
          refine LS_cong (fun i _ => ?_)
          rw [Bool.eq_iff_iff, Bool.or_eq_true, decide_eq_true_eq, decide_eq_true_eq, decide_eq_true_eq, List.mem_append, List.mem_singleton]
        · show x ∈ s.2 ++ [k] ↔ _
          rw [List.mem_append, List.mem_singleton, p2 x]
          constructor
          · rintro (⟨a, b⟩ | a)
            · exact ⟨by omega, b⟩
            · rw [a]; exact ⟨by omega, hhd⟩
          · rintro ⟨a, b⟩
            by_cases ex : x = k
            · exact .inr ex
            · exact .inl ⟨by omega, b⟩) (k := 0) (s := (X, [])) (by omega) ⟨List.nodup_nil, fun x => ⟨fun h => (by cases h), fun h => absurd h.1 (Nat.not_lt_zero x)⟩, fun i hi => absurd hi (Nat.not_lt_zero i), rfl, fun _ _ => rfl⟩
  have e1' : l_Ch_lowestGroup_10 67 (LSt (fun x => decide (x ∈ ([] : List Nat)))) 0 (nI 0) (nI 0) (hp c X) = l_Ch_lowestGroup_10 67 (LSt (fun x => decide (x ∈ q1))) 0 (nI q1.length) (nI 64) (hp c X1) := e1
  have p1' : q1.Nodup := p1
  have p2' : ∀ x, x ∈ q1 ↔ x < 64 ∧ hdB L ld x = true := p2
  have p3' : cQ X1 q1 := p3
  have p4' : X1.2 = X.2 := p4
  have p5' : ∀ a, ¬ a = 71 → X1.1 a = X.1 a := p5
  -- the closure
  obtain ⟨P, hP⟩ : ∃ P : Nat → ((Nat → Bool) × ixX × List Nat) → Prop, P = fun k s => s.2.2.Nodup ∧ (∀ q, q ∈ s.2.2 → L q = true ∧ D q = true) ∧ cQ s.2.1 s.2.2 ∧ (∀ h, hdB L ld h = true → h ∈ s.2.2) ∧ (∀ y, s.1 y = true ↔ L y = true ∧ ∃ j, j < k ∧ j < s.2.2.length ∧ EBh B y (s.2.2.getD j 0) = true) ∧ (∀ y, s.1 y = true → ∃ f, fo y = some f ∧ f ∈ s.2.2) ∧ (∀ q, q ∈ s.2.2 → hdB L ld q = true ∨ ∃ y, s.1 y = true ∧ fo y = some q) ∧ (∀ R' T', cloP L (EBh B) ld fo R' T' → ∀ q, q ∈ s.2.2 → R' q) ∧ k ≤ s.2.2.length ∧ s.2.1.2 = X.2 ∧ (∀ a, ¬ a = 71 → ¬ a = 72 → s.2.1.1 a = X.1 a) := ⟨_, rfl⟩
  obtain ⟨Q, hQ⟩ : ∃ Q : Option (List Value × ixH) → Prop, Q = fun R => ∃ X2 G, R = some ([.long (LSt G)], hp c X2) ∧ isG 64 L (EBh B) G ∧ fRm 67 73 X X2 := ⟨_, rfl⟩
  have hout : ∀ k s, P k s → s.2.2.length ≤ k → Q (l_Ch_lowestGroup_77 67 (LSt (fun x => decide (x ∈ s.2.2))) (LSt s.1) (nI s.2.2.length) (nI k) (hp c s.2.1)) := by
    intro k s hp1 hl
    rw [hP] at hp1
    obtain ⟨f1, f2, f3, f4, f5, f6, f7, f8, f9, f10, f11⟩ := hp1
    have hlen := nd_len f1 (fun q hq => hL64 q (f2 q hq).1)
    rw [hQ]
    refine ⟨s.2.1, fun x => decide (x ∈ s.2.2) && !s.1 x, ?_, G_of (R := fun x => decide (x ∈ s.2.2)) hL64 hL64 (EBh_st hw) hm (fun x hx => decide_eq_true (f4 x hx)) (fun x hx => (f2 x (of_decide_eq_true hx)).1) (fun a y ha hy he => ?_) (fun y hy => ?_) (fun R' T' hcl x hx => f8 R' T' hcl x (of_decide_eq_true hx)), fun a ha => ⟨f11 a (by omega) (by omega), by rw [f10]⟩⟩
    · rw [e_Ch_lowestGroup_77, if_pos (by rw [nI_leI (by omega) (by omega)]; omega), LS_not, LS_and]
    · obtain ⟨j, hj, ej⟩ := mem_gd _ _ (of_decide_eq_true ha)
      exact (f5 y).mpr ⟨hy, j, by omega, hj, by rw [ej]; exact he⟩
    · obtain ⟨f, hf1, hf2⟩ := f6 y hy
      exact ⟨f, hf1, decide_eq_true hf2⟩
  have main := lp_out (fun k (s : (Nat → Bool) × ixX × List Nat) => l_Ch_lowestGroup_77 67 (LSt (fun x => decide (x ∈ s.2.2))) (LSt s.1) (nI s.2.2.length) (nI k) (hp c s.2.1)) P Q (N := 64) (fun k s hk hp1 => by
    by_cases hl : s.2.2.length ≤ k
    · exact .inr (hout k s hp1 hl)
    · refine .inl ?_
      rw [hP] at hp1
      obtain ⟨f1, f2, f3, f4, f5, f6, f7, f8, f9, f10, f11⟩ := hp1
      have hlen := nd_len f1 (fun q hq => hL64 q (f2 q hq).1)
      have hsm := gd_mem s.2.2 k (by omega)
      obtain ⟨sk, hsk⟩ : ∃ z, z = s.2.2.getD k 0 := ⟨_, rfl⟩
      rw [← hsk] at hsm
      have hsLD := f2 sk hsm
      have hsn := hL sk hsLD.1
      obtain ⟨fre, hfre⟩ : ∃ f : Nat → Bool, f = fun y => ((decide (0 < fw B y sk) && !decide (y = sk)) && L y) && !s.1 y := ⟨_, rfl⟩
      have hfi : ∀ y, fre y = true ↔ EBh B y sk = true ∧ L y = true ∧ s.1 y = false := by
        intro y
        rw [hfre, Bool.and_eq_true, Bool.and_eq_true, Bool.not_eq_true']
        exact ⟨fun q => ⟨q.1.1, q.1.2, q.2⟩, fun q => ⟨⟨q.1, q.2.1⟩, q.2.2⟩⟩
      have eF : ((LSt (fun y => decide (0 < fw B y sk)) &&& (LSt (fun i => decide (i = sk)) ^^^ -1)) &&& LSt L) &&& (LSt s.1 ^^^ -1) = LSt fre := by
        rw [LS_not, LS_and, LS_and, LS_not, LS_and, hfre]
      have hqd : ∀ y f, fre y = true → fo y = some f → ¬ f ∈ s.2.2 := by
        intro y f hy hyf hfq
        rcases f7 f hfq with g | ⟨y', g1, g2⟩
        · have := ((hdB_iff L ld f).mp g).2
          rw [hm.2 y f hyf] at this; cases this
        · have := (hm.2 y f hyf).symm.trans (hm.2 y' f g2)
          rw [← Option.some.inj this] at g1
          rw [((hfi y).mp hy).2.2] at g1; cases g1
      have hall : ∀ y, fre y = true → ∃ f, fo y = some f ∧ D f = true := fun y hy => by
        have h1 := (hfi y).mp hy
        exact (hD sk hsLD.2).2 y h1.2.1 h1.1
      obtain ⟨X', z, i1, i2, i3, i4, i5, i6, i7, i8, i9⟩ := M_enq (c := c) (X := s.2.1) hm hL64 (s := sk) (by omega) (rest := fre) f1 (fun q hq => hL64 q (f2 q hq).1) hqd f3 (fun j hj => by rw [f11 70 (by omega) (by omega)]; exact A5 j hj)
      have hlen2 := nd_len i2 i3
      have hgd : ∀ j, j < s.2.2.length → (s.2.2 ++ z).getD j 0 = s.2.2.getD j 0 := fun j hj => gd_app_l _ _ j hj
      have hseen : ∀ y, (s.1 y || fre y) = true ↔ s.1 y = true ∨ fre y = true := fun y => by rw [Bool.or_eq_true]
      have hadd := lp_f (fun j s' => l_Ch_lowestGroup_150 67 s' (LSt (fun y => s.1 y || fre y)) (nI k) (nI (s.2.2 ++ z).length) (nI j) (hp c X')) (fun j => LSt (fun x => decide (x ∈ (s.2.2 ++ z).take j))) (N := (s.2.2 ++ z).length) (fun j hj => by
        show l_Ch_lowestGroup_150 67 (LSt (fun x => decide (x ∈ (s.2.2 ++ z).take j))) (LSt (fun y => s.1 y || fre y)) (nI k) (nI (s.2.2 ++ z).length) (nI j) (hp c X') = l_Ch_lowestGroup_150 67 (LSt (fun x => decide (x ∈ (s.2.2 ++ z).take (j + 1)))) (LSt (fun y => s.1 y || fre y)) (nI k) (nI (s.2.2 ++ z).length) (nI (j + 1)) (hp c X')
        rw [e_Ch_lowestGroup_150, if_neg (by rw [nI_leI (by omega) (by omega)]; omega), bO (g67_3 c _), bO (r71 (by omega)), i4 j hj, kL_of (M_bit (i3 _ (gd_mem _ j hj)) _), LS_or, nI_1]
        congr 1
        refine LS_cong (fun i _ => ?_)
        rw [tk_succ _ j hj, Bool.eq_iff_iff]
        simp only [Bool.or_eq_true, decide_eq_true_eq, List.mem_append, List.mem_singleton]) (k := s.2.2.length) (by rw [List.length_append]; omega)
      have hadd' : l_Ch_lowestGroup_150 67 (LSt (fun x => decide (x ∈ s.2.2))) (LSt (fun y => s.1 y || fre y)) (nI k) (nI (s.2.2 ++ z).length) (nI s.2.2.length) (hp c X') = l_Ch_lowestGroup_150 67 (LSt (fun x => decide (x ∈ s.2.2 ++ z))) (LSt (fun y => s.1 y || fre y)) (nI k) (nI (s.2.2 ++ z).length) (nI (s.2.2 ++ z).length) (hp c X') := by
        have h0 : l_Ch_lowestGroup_150 67 (LSt (fun x => decide (x ∈ (s.2.2 ++ z).take s.2.2.length))) (LSt (fun y => s.1 y || fre y)) (nI k) (nI (s.2.2 ++ z).length) (nI s.2.2.length) (hp c X') = l_Ch_lowestGroup_150 67 (LSt (fun x => decide (x ∈ (s.2.2 ++ z).take (s.2.2 ++ z).length))) (LSt (fun y => s.1 y || fre y)) (nI k) (nI (s.2.2 ++ z).length) (nI (s.2.2 ++ z).length) (hp c X') := hadd
        rw [List.take_left, List.take_length] at h0
        exact h0
      show ∃ s' : (Nat → Bool) × ixX × List Nat, l_Ch_lowestGroup_77 67 (LSt (fun x => decide (x ∈ s.2.2))) (LSt s.1) (nI s.2.2.length) (nI k) (hp c s.2.1) = l_Ch_lowestGroup_77 67 (LSt (fun x => decide (x ∈ s'.2.2))) (LSt s'.1) (nI s'.2.2.length) (nI (k + 1)) (hp c s'.2.1) ∧ P (k + 1) s'
      refine ⟨(fun y => s.1 y || fre y, X', s.2.2 ++ z), ?_, ?_⟩
      · rw [e_Ch_lowestGroup_77, if_neg (by rw [nI_leI (by omega) (by omega)]; omega), if_neg (lit_nle (x := 64) (a := 64) (k := k) rfl hk (by omega)), bO (g67_3 c _), bO (r71 hk), f3 k (by omega), ← hsk, kL_of (M_aheadOf (by omega)), f10, A1 sk hsn, kL_of (M_bit (by omega) _), bO (g67_5 c _), f10, A2, eF, kI_of i1, LS_or, hadd', e_Ch_lowestGroup_150, if_pos (by rw [nI_leI (by omega) (by omega)]; omega), nI_1]
      · rw [hP]
        refine ⟨i2, fun q hq => ?_, i4, fun h hh => List.mem_append.mpr (.inl (f4 h hh)), ?_, ?_, ?_, ?_, by show k + 1 ≤ (s.2.2 ++ z).length; rw [List.length_append]; omega, i5.trans f10, fun a h1 h2 => (i6 a h1 h2).trans (f11 a h1 h2)⟩
        · rcases List.mem_append.mp hq with r | r
          · exact f2 q r
          · obtain ⟨y, _, hyr, hyf⟩ := i9 q r
            obtain ⟨f, hf1, hf2⟩ := hall y hyr
            rw [hyf] at hf1
            rw [Option.some.inj hf1]
            exact ⟨(hD f hf2).1, hf2⟩
        · intro y
          rw [hseen, f5 y, hfi]
          constructor
          · rintro (⟨q1, j, q2, q3, q4⟩ | q)
            · exact ⟨q1, j, by omega, by rw [List.length_append]; omega, by rw [hgd j q3]; exact q4⟩
            · exact ⟨q.2.1, k, by omega, by rw [List.length_append]; omega, by rw [hgd k (by omega), ← hsk]; exact q.1⟩
          · rintro ⟨q1, j, q2, q3, q4⟩
            rw [hgd j (by omega)] at q4
            by_cases ej : j = k
            · rw [ej, ← hsk] at q4
              cases hsy : s.1 y with
              | true => exact .inl ((f5 y).mp hsy)
              | false => exact .inr ⟨q4, q1, rfl⟩
            · exact .inl ⟨q1, j, by omega, by omega, q4⟩
        · intro y hy
          rcases (hseen y).mp hy with q | q
          · obtain ⟨f, q1, q2⟩ := f6 y q
            exact ⟨f, q1, List.mem_append.mpr (.inl q2)⟩
          · obtain ⟨f, hf, _⟩ := hall y q
            exact ⟨f, hf, List.mem_append.mpr (.inr (i7 y f (hL64 y ((hfi y).mp q).2.1) q hf).1)⟩
        · intro q hq
          rcases List.mem_append.mp hq with r | r
          · rcases f7 q r with g | ⟨y, g1, g2⟩
            · exact .inl g
            · exact .inr ⟨y, (hseen y).mpr (.inl g1), g2⟩
          · obtain ⟨y, _, hyr, hyf⟩ := i9 q r
            exact .inr ⟨y, (hseen y).mpr (.inr hyr), hyf⟩
        · intro R' T' hcl q hq
          rcases List.mem_append.mp hq with r | r
          · exact f8 R' T' hcl q r
          · obtain ⟨y, _, hyr, hyf⟩ := i9 q r
            have h1 := (hfi y).mp hyr
            exact hcl.2.2 y q (hcl.2.1 sk y (f8 R' T' hcl sk hsm) h1.2.1 h1.1) hyf) (k := 0) (s := (fun _ => false, X1, q1)) (by omega) (by
    rw [hP]
    refine ⟨p1', fun q hq => ?_, p3', fun h hh => (p2' h).mpr ⟨hL64 h ((hdB_iff L ld h).mp hh).1, hh⟩, fun y => ⟨fun h => (by cases h), fun h => ?_⟩, fun y h => (by cases h), fun q hq => .inl ((p2' q).mp hq).2, fun R' T' hcl q hq => hcl.1 q ((p2' q).mp hq).2, Nat.zero_le _, p4', fun a h1 _ => p5' a h1⟩
    · have := ((p2' q).mp hq).2
      exact ⟨((hdB_iff L ld q).mp this).1, hhD q this⟩
    · obtain ⟨_, j, hj, _⟩ := h
      exact absurd hj (Nat.not_lt_zero j))
  have hQ2 : Q (l_Ch_lowestGroup_77 67 (LSt (fun x => decide (x ∈ q1))) (LSt (fun _ => false)) (nI q1.length) (nI 0) (hp c X1)) := by
    rcases main with ⟨s', e5, hs5⟩ | hq
    · have e5' : l_Ch_lowestGroup_77 67 (LSt (fun x => decide (x ∈ q1))) (LSt (fun _ => false)) (nI q1.length) (nI 0) (hp c X1) = l_Ch_lowestGroup_77 67 (LSt (fun x => decide (x ∈ s'.2.2))) (LSt s'.1) (nI s'.2.2.length) (nI 64) (hp c s'.2.1) := e5
      rw [e5']
      refine hout 64 s' hs5 ?_
      rw [hP] at hs5
      exact nd_len hs5.1 (fun q hq => hL64 q (hs5.2.1 q hq).1)
    · exact hq
  rw [hQ] at hQ2
  obtain ⟨X2, G, w1, w2⟩ := hQ2
  refine ⟨X2, G, x_Ch_lowestGroup (rc_67 c X) ?_, w2⟩
  have e0 : l_Ch_lowestGroup_10 67 0 0 0 0 (hp c X) = l_Ch_lowestGroup_10 67 (LSt (fun x => decide (x ∈ ([] : List Nat)))) 0 (nI 0) (nI 0) (hp c X) := by
    have : LSt (fun x => decide (x ∈ ([] : List Nat))) = 0 := by
      rw [LS_0]
      exact LS_cong (fun i _ => by simp)
    rw [this]; rfl
  have e9 : l_Ch_lowestGroup_77 67 (LSt (fun x => decide (x ∈ q1))) 0 (nI q1.length) 0 (hp c X1) = l_Ch_lowestGroup_77 67 (LSt (fun x => decide (x ∈ q1))) (LSt (fun _ => false)) (nI q1.length) (nI 0) (hp c X1) := by rw [← LS_0]; rfl
  rw [e_Ch_lowestGroup, e0, e1', e_Ch_lowestGroup_10, if_pos (show (64 : Int32) ≤ nI 64 by decide), e9]
  exact w1
