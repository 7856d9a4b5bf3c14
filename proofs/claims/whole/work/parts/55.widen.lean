/-! WIDEN: one route more, and the whole flow of the class -/
theorem arc_cut (B : bT) (q : gT) (x c d : Nat) : arc B (cutq q (fun i => decide (i = x))) c d = if c = x then false else arc B q c d := by
  unfold arc cutq
  by_cases e : c = x
  · rw [if_pos e]
    simp [e]
  · rw [if_neg e]
    simp [e]
def nxs : Option Nat → Nat → Bool
  | none => fun _ => false
  | some y => fun i => decide (i = y)
def nxa (a : Nat → Nat → Bool) (x : Nat) : Option Nat → Nat → Nat → Bool
  | none => a
  | some y => up2 a x y true
theorem ld_arc {B : bT} {q : gT} {x : Nat} {nx : Option Nat} (hy : ∀ y, nx = some y → adjB B x y = true) : arc B (ldq B q x (nxs nx)) = nxa (arc B q) x nx := by
  funext c d
  cases nx with
  | none =>
    unfold arc ldq nxs nxa
    simp
  | some y =>
    have ha := (adjB_iff B x y).mp (hy y rfl)
    show arc B (ldq B q x (fun i => decide (i = y))) c d = up2 (arc B q) x y true c d
    rw [Bool.eq_iff_iff, arc_iff]
    unfold ldq
    simp only [Bool.or_eq_true, Bool.and_eq_true, decide_eq_true_eq, Bool.not_eq_true', decide_eq_false_iff_not]
    by_cases e : c = x ∧ d = y
    · rw [e.1, e.2, up2_1]
      refine ⟨fun _ => rfl, fun _ => ?_⟩
      rcases ha with z | z | z | z
      · exact .inl ⟨.inr ⟨rfl, by rw [← z.1]; exact z.2, z.1.symm⟩, z.1⟩
      · exact .inr (.inl ⟨.inr ⟨rfl, z.2, by omega⟩, z.1⟩)
      · exact .inr (.inr (.inl ⟨.inr ⟨rfl, z.symm⟩, z⟩))
      · exact .inr (.inr (.inr ⟨.inr ⟨rfl, by omega, by omega⟩, z⟩))
    · rw [up2_n _ _ e, arc_iff]
      constructor
      · rintro (z | z | z | z)
        · rcases z.1 with z1 | z1
          · exact .inl ⟨z1, z.2⟩
          · exact absurd ⟨z1.1, by omega⟩ e
        · rcases z.1 with z1 | z1
          · exact .inr (.inl ⟨z1, z.2⟩)
          · exact absurd ⟨z1.1, by omega⟩ e
        · rcases z.1 with z1 | z1
          · exact .inr (.inr (.inl ⟨z1, z.2⟩))
          · exact absurd ⟨z1.1, by omega⟩ e
        · rcases z.1 with z1 | z1
          · exact .inr (.inr (.inr ⟨z1, z.2⟩))
          · exact absurd ⟨z1.1, by omega⟩ e
      · rintro (z | z | z | z)
        · exact .inl ⟨.inl z.1, z.2⟩
        · exact .inr (.inl ⟨.inl z.1, z.2⟩)
        · exact .inr (.inr (.inl ⟨.inl z.1, z.2⟩))
        · exact .inr (.inr (.inr ⟨.inl z.1, z.2⟩))
theorem kOK_cut {B : bT} {q : gT} (hk : kOK B q) (x : Nat → Bool) : kOK B (cutq q x) := by
  intro c
  obtain ⟨k1, k2, k3, k4⟩ := hk c
  unfold cutq
  simp only [Bool.and_eq_true]
  exact ⟨fun z => k1 z.1, fun z => k2 z.1, fun z => k3 z.1, fun z => k4 z.1⟩
theorem kOK_lead {B : bT} {q : gT} (hk : kOK B q) {x : Nat} (hx : x < bn B) {ys : Nat → Bool} (hy : ∀ c, ys c = true → c < bn B) : kOK B (ldq B q x ys) := by
  intro c
  obtain ⟨k1, k2, k3, k4⟩ := hk c
  unfold ldq
  simp only [Bool.or_eq_true, Bool.and_eq_true, decide_eq_true_eq, Bool.not_eq_true', decide_eq_false_iff_not]
  refine ⟨?_, ?_, ?_, ?_⟩
  · rintro (z | z)
    · exact k1 z
    · exact ⟨hy _ z.2.2, z.2.1⟩
  · rintro (z | z)
    · exact k2 z
    · exact ⟨by rw [z.1]; exact hx, z.2.1⟩
  · rintro (z | z)
    · exact k3 z
    · exact hy _ z.2
  · rintro (z | z)
    · exact k4 z
    · exact ⟨by rw [z.1]; exact hx, z.2.1⟩
def FI (B : bT) (O S T : Nat → Bool) (b e : Nat → Bool) (q : gT) (t : Nat → Bool) (v : Nat) : Prop := kOK B q ∧ DF (bn B) b e (arc B q) t v ∧ (∀ c, c < bn B → b c = true → O c = true ∧ S c = true) ∧ (∀ c, c < bn B → e c = true → O c = true ∧ T c = true) ∧ (∀ c d, arc B q c d = true → O c = true ∧ O d = true) ∧ (∀ c, t c = true → O c = true)
theorem FI_Flo {B : bT} {O S T b e : Nat → Bool} {q : gT} {t : Nat → Bool} (h : FI B O S T b e q t 200) : Flo (bn B) O S T (adjB B) b e (arc B q) t := ⟨h.2.1, h.2.2.1, h.2.2.2.1, fun c d _ _ ha => ⟨(h.2.2.2.2.1 c d ha).1, (h.2.2.2.2.1 c d ha).2, (arc_adj h.1 ha).2.2⟩, fun c _ ht => h.2.2.2.2.2 c ht⟩
theorem FI_LyG {B : bT} {O S T b e : Nat → Bool} {q : gT} {t : Nat → Bool} (hs : bS B) (hS : ∀ c, S c = true → O c = true) (hO : ∀ c, O c = true → c < bn B) (h : FI B O S T b e q t 200) : LyG B O S t q := ⟨hs, h.1, hS, hO, h.2.2.2.2.2, fun c d ha => by
  have k := arc_adj h.1 ha
  have := DF_arc (by omega) (bS_64 hs) h.2.1 k.1 k.2.1 ha
  exact ⟨this.1, this.2.1⟩⟩
/-- from the head of a round to its entrance -/
theorem L_ar_step {c : ixK} {X : ixX} {B : bT} {g m : Nat → Int64} {O S T t : Nat → Bool} {q : gT} {b e : Nat → Bool} (h : cG 4 X B) (hL : LyG B O S t q) (hF : FI B O S T b e q t 200) {r x : Nat} (hr : r < 64) (hm : ∀ j, j < r → m j = LSt (fk B O S t q j)) {nx : Option Nat} {b' e' t' : Nat → Bool} {q' : gT} (hg : sG g O S T t' q') (hx : fk B O S t q r x = true) (hu : ∀ j y, j ≤ r → fk B O S t q j y = true → (∀ d, arc B q' y d = arc B q y d) ∧ (t y = false → t' y = false)) (hn : (nx = none ∧ FI B O S T b' e' q' t' (64 + x)) ∨ ∃ y, nx = some y ∧ y < bn B ∧ O y = true ∧ adjB B x y = true ∧ arc B q' x y = false ∧ FI B O S T b' e' q' t' y) : ∃ g2 q2 t2 E, l_Sm_addRoute_38 65 5 (LSt t) (LSt (fun i => decide (i = x))) (LSt (nxs nx)) (nI r) (hp c (sY X g m)) = l_Sm_addRoute_112 65 5 (LSt t) (nI r) (LSt (fun i => decide (i = E))) (if r = 0 then 0 else LSt (fk B O S t q (r - 1))) (hp c (sY X g2 m)) ∧ sG g2 O S T t2 q2 ∧ FI B O S T b' e' q2 t2 E ∧ (ly B O S t q r).1 E = true ∧ E < bn B ∧ (∀ j y, j < r → fk B O S t q j y = true → (∀ d, arc B q2 y d = arc B q y d) ∧ (t y = false → t2 y = false)) := by
  have hs := hL.1
  have h64 := bS_64 hs
  have hxO := fk_O hL (ly_inv hL r) hx
  have hxn := hL.2.2.2.1 x hxO
  have hne : ∀ j y, j < r → fk B O S t q j y = true → ¬ y = x := fun j y hj hy e => by
    rw [e] at hy
    have := fk_once hL hy hx
    omega
  -- at the exit
  have hy1 : ∀ y, nx = some y → y < bn B ∧ O y = true ∧ adjB B x y = true := by
    rintro y rfl
    rcases hn with h1 | ⟨y', h1, h2, h3, h4, _⟩
    · cases h1.1
    · cases h1
      exact ⟨h2, h3, h4⟩
  have hkO : kOK B q' ∧ (∀ c, c < bn B → b' c = true → O c = true ∧ S c = true) ∧ (∀ c, c < bn B → e' c = true → O c = true ∧ T c = true) ∧ (∀ c d, arc B q' c d = true → O c = true ∧ O d = true) ∧ (∀ c, t' c = true → O c = true) := by
    rcases hn with ⟨_, h1⟩ | ⟨_, _, _, _, _, _, h1⟩
    · exact ⟨h1.1, h1.2.2⟩
    · exact ⟨h1.1, h1.2.2⟩
  have hD : DF (bn B) b' e' (nxa (arc B q') x nx) t' (64 + x) := by
    rcases hn with ⟨h1, h2⟩ | ⟨y, h1, h2, h3, h4, h5, h6⟩
    · rw [h1]; exact h2.2.1
    · rw [h1]; exact DF_1 h64 hxn h2 h6.2.1 h5
  have hys : ∀ c, nxs nx c = true → c < bn B := by
    intro c hc
    cases nx with
    | none => cases hc
    | some y =>
      have : c = y := of_decide_eq_true hc
      rw [this]
      exact (hy1 y rfl).1
  have hxu := hu r x (Nat.le_refl r) hx
  have h85 : ∀ (g1 : Nat → Int64) (q1 : gT) (t1 : Nat → Bool) (E : Nat), sG g1 O S T t1 q1 → ∃ g2, l_Sm_addRoute_85 65 5 (LSt t) (LSt (fun i => decide (i = x))) (LSt (nxs nx)) (nI r) (LSt (fun i => decide (i = E))) (hp c (sY X g1 m)) = l_Sm_addRoute_112 65 5 (LSt t) (nI r) (LSt (fun i => decide (i = E))) (if r = 0 then 0 else LSt (fk B O S t q (r - 1))) (hp c (sY X g2 m)) ∧ sG g2 O S T t1 (ldq B q1 x (nxs nx)) := by
    intro g1 q1 t1 E hg1
    obtain ⟨g2, e2, hg2⟩ := M_lead (c := c) (m := m) hs h hg1 hxn hys
    refine ⟨g2, ?_, hg2⟩
    rw [e_Sm_addRoute_85, kV_of e2]
    by_cases h0 : r = 0
    · rw [if_pos h0, h0, if_pos (by decide)]
    · rw [if_neg h0, if_neg (nI_nle (by omega) (by omega)), bO (g65_0 c _), show nI r - 1 = nI (r - 1) from nI_sub (b := 1) (by omega), bO (st_r (by omega)), hm (r - 1) (by omega)]
  cases hz : t x with
  | false =>
    have ht' := hxu.2 hz
    have hen : (ly B O S t q r).1 x = true := by
      rcases ((fk_iff hL.2.1).mp hx).1 with z | ⟨d, hd, z, _⟩
      · exact z.1
      · have := (hL.2.2.2.2.2 x d z).1
        rw [hz] at this
        cases this
    have hg1 : sG (vp_updL g 4 (LSt (up1 t' x true))) O S T (up1 t' x true) q' := by
      obtain ⟨g1, g2, g3, g4, g5, g6, g7, g8⟩ := hg
      exact ⟨by rw [updL_n _ _ (by omega)]; exact g1, by rw [updL_n _ _ (by omega)]; exact g2, by rw [updL_n _ _ (by omega)]; exact g3, by rw [updL_1], by rw [updL_n _ _ (by omega)]; exact g5, by rw [updL_n _ _ (by omega)]; exact g6, by rw [updL_n _ _ (by omega)]; exact g7, by rw [updL_n _ _ (by omega)]; exact g8⟩
    obtain ⟨g2, e2, hg2⟩ := h85 _ _ _ x hg1
    refine ⟨g2, _, _, x, ?_, hg2, ⟨kOK_lead hkO.1 hxn hys, ?_, hkO.2.1, hkO.2.2.1, ?_, ?_⟩, hen, hxn, ?_⟩
    · have z0 : LSt (fun i => decide (i = x)) &&& LSt t = 0 := by
        rw [LS_and]
        refine LS_zero.mpr (fun i _ => ?_)
        by_cases e : i = x
        · rw [e, hz, Bool.and_false]
        · rw [decide_eq_false e]; rfl
      have z1 : LSt t' ||| LSt (fun i => decide (i = x)) = LSt (up1 t' x true) := by
        rw [LS_or]
        refine LS_cong (fun i _ => ?_)
        unfold up1
        by_cases e : i = x
        · rw [if_pos e, decide_eq_true e, Bool.or_true]
        · rw [if_neg e, decide_eq_false e, Bool.or_false]
      rw [e_Sm_addRoute_38, if_neg (nI_pos (by omega)), if_pos z0, bO (st_g4 c X g m), hg.2.2.2.1, z1, bO (st_p4 c X g m _), e2]
    · rw [ld_arc (fun y hy => (hy1 y hy).2.2)]
      exact DF_2 h64 hxn hD ht'
    · intro c1 d1 ha
      rw [ld_arc (fun y hy => (hy1 y hy).2.2)] at ha
      cases nx with
      | none => exact hkO.2.2.2.1 c1 d1 ha
      | some y =>
        have ha2 : up2 (arc B q') x y true c1 d1 = true := ha
        by_cases e : c1 = x ∧ d1 = y
        · rw [e.1, e.2]; exact ⟨hxO, (hy1 y rfl).2.1⟩
        · rw [up2_n _ _ e] at ha2
          exact hkO.2.2.2.1 c1 d1 ha2
    · intro c1 hc1
      by_cases e : c1 = x
      · rw [e]; exact hxO
      · rw [up1_n _ _ e] at hc1
        exact hkO.2.2.2.2 c1 hc1
    · intro j y hj hy
      have hyx := hne j y hj hy
      have hyu := hu j y (by omega) hy
      refine ⟨fun d => ?_, fun ht => ?_⟩
      · rw [ld_arc (fun y hy => (hy1 y hy).2.2), ← hyu.1 d]
        cases nx with
        | none => rfl
        | some z => exact up2_n _ _ (fun q => hyx q.1)
      · rw [up1_n _ _ hyx]
        exact hyu.2 ht
  | true =>
    obtain ⟨y0, hy0, ha0, hen, _⟩ : ∃ d, d < bn B ∧ arc B q x d = true ∧ (ly B O S t q r).1 d = true ∧ t d = true := by
      rcases ((fk_iff hL.2.1).mp hx).1 with z | z
      · rw [hz] at z; cases z.2
      · exact z
    have ha1 : arc B q' x y0 = true := by rw [hxu.1 y0]; exact ha0
    have hun : ∀ d, arc B q' x d = true → d = y0 := by
      intro d hd
      rw [hxu.1 d] at hd
      exact DF_one (by omega) h64 hF.2.1 hxn (arc_adj hL.2.1 hd).2.1 hy0 hd ha0
    obtain ⟨g1, e1, c5, c6, c7, c8, co⟩ := M_cut (c := c) (X := X) (m := m) hg.2.2.2.2.1 hg.2.2.2.2.2.1 hg.2.2.2.2.2.2.1 hg.2.2.2.2.2.2.2 (fun i => decide (i = x))
    have hg1 : sG g1 O S T t' (cutq q' (fun i => decide (i = x))) := ⟨by rw [co 1 (by omega)]; exact hg.1, by rw [co 2 (by omega)]; exact hg.2.1, by rw [co 3 (by omega)]; exact hg.2.2.1, by rw [co 4 (by omega)]; exact hg.2.2.2.1, c5, c6, c7, c8⟩
    obtain ⟨g2, e2, hg2⟩ := h85 _ _ _ y0 hg1
    have hny : ∀ y, nx = some y → ¬ y0 = y := by
      rintro y rfl e
      rcases hn with h1 | ⟨y', h1, h2, h3, h4, h5, h6⟩
      · cases h1.1
      · cases h1
        rw [← e, ha1] at h5
        cases h5
    have hcut : arc B (cutq q' (fun i => decide (i = x))) = up2 (arc B q') x y0 false := by
      funext c1 d1
      rw [arc_cut]
      by_cases e : c1 = x
      · rw [if_pos e]
        by_cases e3 : d1 = y0
        · rw [e, e3, up2_1]
        · rw [up2_n _ _ (fun q => e3 q.2), e]
          cases z : arc B q' x d1 with
          | false => rfl
          | true => exact absurd (hun d1 z) e3
      · rw [if_neg e, up2_n _ _ (fun q => e q.1)]
    have harc : arc B (ldq B (cutq q' (fun i => decide (i = x))) x (nxs nx)) = up2 (nxa (arc B q') x nx) x y0 false := by
      rw [ld_arc (fun y hy => (hy1 y hy).2.2), hcut]
      cases nx with
      | none => rfl
      | some y =>
        have hyy := hny y rfl
        funext c1 d1
        show up2 (up2 (arc B q') x y0 false) x y true c1 d1 = up2 (up2 (arc B q') x y true) x y0 false c1 d1
        unfold up2
        by_cases e : c1 = x
        · rw [if_pos e, if_pos e]
          by_cases e3 : d1 = y
          · have e4 : ¬ d1 = y0 := fun z => hyy (z.symm.trans e3)
            simp only [if_pos e3, if_neg e4, if_pos e]
          · rw [if_neg e3, if_pos e]
            by_cases e4 : d1 = y0
            · rw [if_pos e4, if_pos e4]
            · rw [if_neg e4, if_neg e4, if_pos e, if_neg e3]
        · rw [if_neg e, if_neg e, if_neg e, if_neg e]
    refine ⟨g2, _, _, y0, ?_, hg2, ⟨kOK_lead (kOK_cut hkO.1 _) hxn hys, ?_, hkO.2.1, hkO.2.2.1, ?_, hkO.2.2.2.2⟩, hen, hy0, ?_⟩
    · have z0 : ¬ LSt (fun i => decide (i = x)) &&& LSt t = 0 := by
        rw [LS_and]
        intro z
        have := LS_zero.mp z x (by omega)
        rw [hz, decide_eq_true rfl] at this
        cases this
      rw [e_Sm_addRoute_38, if_neg (nI_pos (by omega)), if_neg z0, kL_of (M_after hs h hkO.1 hg ha1 hun), kV_of e1, e2]
    · rw [harc]
      refine DF_3 h64 hxn hy0 hD ?_
      cases nx with
      | none => exact ha1
      | some y =>
        show up2 (arc B q') x y true x y0 = true
        rw [up2_n _ _ (fun q => hny y rfl q.2)]
        exact ha1
    · intro c1 d1 ha
      rw [harc] at ha
      by_cases e : c1 = x ∧ d1 = y0
      · rw [e.1, e.2, up2_1] at ha; cases ha
      · rw [up2_n _ _ e] at ha
        cases nx with
        | none => exact hkO.2.2.2.1 c1 d1 ha
        | some y =>
          have ha2 : up2 (arc B q') x y true c1 d1 = true := ha
          by_cases e4 : c1 = x ∧ d1 = y
          · rw [e4.1, e4.2]; exact ⟨hxO, (hy1 y rfl).2.1⟩
          · rw [up2_n _ _ e4] at ha2
            exact hkO.2.2.2.1 c1 d1 ha2
    · intro j y hj hy
      have hyx := hne j y hj hy
      have hyu := hu j y (by omega) hy
      refine ⟨fun d => ?_, hyu.2⟩
      rw [harc, up2_n _ _ (fun q => hyx q.1), ← hyu.1 d]
      cases nx with
      | none => rfl
      | some z => exact up2_n _ _ (fun q => hyx q.1)
theorem ct_up1 {b : Nat → Bool} {c n : Nat} (hc : c < n) (h0 : b c = false) : fb_ct (up1 b c true) n = fb_ct b n + 1 := by
  have h := fb_ct_upd b true hc
  rw [h0, if_neg (by decide), if_pos rfl] at h
  exact h
theorem L_addRoute {c : ixK} {X : ixX} {B : bT} {m : Nat → Int64} {O S T t : Nat → Bool} {q : gT} {b e : Nat → Bool} (h : cG 4 X B) (hL : LyG B O S t q) (hF : FI B O S T b e q t 200) {K : Nat} (hK : K < 64) (hm : ∀ j, j < K + 1 → m j = LSt (fk B O S t q j)) : ∀ (r : Nat), r ≤ K → ∀ (x : Nat) (nx : Option Nat) (g : Nat → Int64) (b' e' t' : Nat → Bool) (q' : gT), sG g O S T t' q' → fb_ct b' (bn B) = fb_ct b (bn B) → fk B O S t q r x = true → (∀ j y, j ≤ r → fk B O S t q j y = true → (∀ d, arc B q' y d = arc B q y d) ∧ (t y = false → t' y = false)) → ((nx = none ∧ FI B O S T b' e' q' t' (64 + x)) ∨ ∃ y, nx = some y ∧ y < bn B ∧ O y = true ∧ adjB B x y = true ∧ arc B q' x y = false ∧ FI B O S T b' e' q' t' y) → ∃ g2 b2 e2 t2 q2, l_Sm_addRoute_38 65 5 (LSt t) (LSt (fun i => decide (i = x))) (LSt (nxs nx)) (nI r) (hp c (sY X g m)) = some ([], hp c (sY X g2 m)) ∧ sG g2 O S T t2 q2 ∧ FI B O S T b2 e2 q2 t2 200 ∧ fb_ct b2 (bn B) = fb_ct b (bn B) + 1 := by
  have hs := hL.1
  have h64 := bS_64 hs
  intro r
  induction r with
  | zero =>
    intro hr x nx g b' e' t' q' hg hb hx hu hn
    obtain ⟨g2, q2, t2, E, e1, hg2, hF2, hE, hEn, _⟩ := L_ar_step (c := c) (m := m) h hL hF (r := 0) (by omega) (fun j hj => absurd hj (Nat.not_lt_zero j)) hg hx hu hn
    have hES : S E = true := hE
    refine ⟨g2, up1 b' E true, e', t2, q2, ?_, hg2, ⟨hF2.1, DF_5 h64 (by omega) hEn hF2.2.1, ?_, hF2.2.2.2.1, hF2.2.2.2.2.1, hF2.2.2.2.2.2⟩, ?_⟩
    · rw [e1, if_pos rfl, e_Sm_addRoute_112]
      have z0 : LSt (fun i => decide (i = E)) &&& LSt t &&& 0 = 0 := by
        rw [LS_0, LS_and, LS_and]
        exact LS_cong (fun i _ => by rw [Bool.and_false])
      have hEs : ∀ c, decide (c = E) = true → c < bn B := fun c hc => by rw [of_decide_eq_true hc]; exact hEn
      have z1 : LSt (sar B (fun i => decide (i = E))) &&& 0 = 0 := by
        rw [LS_0, LS_and]
        exact LS_cong (fun i _ => by rw [Bool.and_false])
      rw [if_pos z0, kL_of (M_around hs (sY_G h _ _) hEs), z1, kL_of (M_one0 _), e_Sm_addRoute_38, if_pos (by decide)]
    · intro c1 hc1 hb1
      by_cases e : c1 = E
      · rw [e]; exact ⟨hL.2.2.1 E hES, hES⟩
      · rw [up1_n _ _ e] at hb1
        exact hF2.2.2.1 c1 hc1 hb1
    · rw [ct_up1 hEn (DF_in hEn hF2.2.1).2, hb]
  | succ r ih =>
    intro hr x nx g b' e' t' q' hg hb hx hu hn
    obtain ⟨g2, q2, t2, E, e1, hg2, hF2, hE, hEn, hu2⟩ := L_ar_step (c := c) (m := m) h hL hF (r := r + 1) (by omega) (fun j hj => hm j (by omega)) hg hx hu hn
    have hFr : ∀ x, fk B O S t q r x = true → x < bn B := fun x hx => hL.2.2.2.1 x (fk_O hL (ly_inv hL r) hx)
    have hEO : O E = true := (ly_inv hL (r + 1)).2.2.1 E ((ly_inv hL (r + 1)).2.1 E hE)
    have e3 : nI (r + 1) + (-1) = nI r := nI_m1 (by omega)
    rw [e1, if_neg (by omega), e_Sm_addRoute_112, e3, show r + 1 - 1 = r from rfl]
    by_cases hz : LSt (fun i => decide (i = E)) &&& LSt t &&& LSt (fk B O S t q r) = 0
    · rw [if_pos hz]
      have hz2 : ¬ (fk B O S t q r E = true ∧ t E = true) := by
        rintro ⟨z1, z2⟩
        rw [LS_and, LS_and] at hz
        have := LS_zero.mp hz E (by omega)
        rw [z1, z2, decide_eq_true rfl] at this
        cases this
      have hEs : ∀ c, decide (c = E) = true → c < bn B := fun c hc => by rw [of_decide_eq_true hc]; exact hEn
      obtain ⟨w, hw1, hw2, hw3⟩ : ∃ w, w < bn B ∧ fk B O S t q r w = true ∧ adjB B w E = true := by
        rcases ((en_iff hs hFr).mp hE).1 with z | z
        · exact z.1.2
        · exact absurd z hz2
      have hne : ¬ LSt (fun i => sar B (fun i => decide (i = E)) i && fk B O S t q r i) = 0 := by
        intro z
        have := LS_zero.mp z w (by omega)
        rw [hw2, (sar_iff hs hEs).mpr ⟨hw1, E, hEn, decide_eq_true rfl, adjB_sym hw3⟩] at this
        cases this
      obtain ⟨z, hz3, hz4, hz5⟩ := LS_least hne
      simp only [Bool.and_eq_true] at hz4
      obtain ⟨hzn, E', hE'1, hE'2, hadj⟩ := (sar_iff hs hEs).mp hz4.1
      have hEE : E' = E := of_decide_eq_true hE'2
      rw [hEE] at hadj
      rw [kL_of (M_around hs (sY_G h _ _) hEs), LS_and, kL_of (M_one hz3 (by simp only [Bool.and_eq_true]; exact hz4) hz5 _)]
      have harc : arc B q2 z E = false := by
        rw [(hu2 r z (by omega) hz4.2).1 E]
        cases za : arc B q z E with
        | false => rfl
        | true =>
          exfalso
          have tz := (hL.2.2.2.2.2 z E za).1
          rcases ((fk_iff hL.2.1).mp hz4.2).1 with y1 | ⟨d, hd, y1, y2, y3⟩
          · rw [tz] at y1; cases y1.2
          · have := DF_one (by omega) h64 hF.2.1 hzn hd hEn y1 za
            rw [this] at y2
            have := en_once hL y2 hE
            omega
      exact ih (by omega) z (some E) g2 b' e' t2 q2 hg2 hb hz4.2 (fun j y hj hy => hu2 j y (by omega) hy) (.inr ⟨E, rfl, hEn, hEO, adjB_sym hadj, harc, hF2⟩)
    · rw [if_neg hz, bO (st_g4 c X g2 m), hg2.2.2.2.1, LS_not, LS_and, bO (st_p4 c X g2 m _)]
      have hz2 : t E = true ∧ fk B O S t q r E = true := by
        rw [LS_and, LS_and] at hz
        obtain ⟨i, _, hi, _⟩ := LS_least hz
        simp only [Bool.and_eq_true, decide_eq_true_eq] at hi
        rw [hi.1.1] at hi
        exact ⟨hi.1.2, hi.2⟩
      have z1 : LSt (fun i => t2 i && !decide (i = E)) = LSt (up1 t2 E false) := LS_cong (fun i _ => by
        unfold up1
        by_cases e : i = E
        · rw [if_pos e, decide_eq_true e, Bool.not_true, Bool.and_false]
        · rw [if_neg e, decide_eq_false e, Bool.not_false, Bool.and_true])
      rw [z1, LS_0]
      have hg3 : sG (vp_updL g2 4 (LSt (up1 t2 E false))) O S T (up1 t2 E false) q2 := by
        obtain ⟨g1, g2', g3, g4, g5, g6, g7, g8⟩ := hg2
        exact ⟨by rw [updL_n _ _ (by omega)]; exact g1, by rw [updL_n _ _ (by omega)]; exact g2', by rw [updL_n _ _ (by omega)]; exact g3, by rw [updL_1], by rw [updL_n _ _ (by omega)]; exact g5, by rw [updL_n _ _ (by omega)]; exact g6, by rw [updL_n _ _ (by omega)]; exact g7, by rw [updL_n _ _ (by omega)]; exact g8⟩
      refine ih (by omega) E none _ b' e' _ q2 hg3 hb hz2.2 (fun j y hj hy => ?_) (.inl ⟨rfl, hF2.1, DF_4 h64 hEn hF2.2.1, hF2.2.2.1, hF2.2.2.2.1, hF2.2.2.2.2.1, ?_⟩)
      · have := hu2 j y (by omega) hy
        refine ⟨this.1, fun ht => ?_⟩
        by_cases e : y = E
        · rw [e, up1_1]
        · rw [up1_n _ _ e]
          exact this.2 ht
      · intro c1 hc1
        by_cases e : c1 = E
        · rw [e, up1_1] at hc1; cases hc1
        · rw [up1_n _ _ e] at hc1
          exact hF2.2.2.2.2.2 c1 hc1
theorem M_addRoute {c : ixK} {X : ixX} {B : bT} {g m : Nat → Int64} {O S T t : Nat → Bool} {q : gT} {b e : Nat → Bool} (h : cG 4 X B) (hL : LyG B O S t q) (hF : FI B O S T b e q t 200) (hg : sG g O S T t q) {K : Nat} (hK : K < 64) (hm : ∀ j, j < K + 1 → m j = LSt (fk B O S t q j)) {x0 : Nat} (hx0 : x0 < bn B) (hx1 : fk B O S t q K x0 = true) (hx2 : T x0 = true) : ∃ g2 b2 e2 t2 q2, ix_M mSm_addRoute [.ref 65, .ref 5, .int (nI K)] (hp c (sY X g m)) = some ([], hp c (sY X g2 m)) ∧ sG g2 O S T t2 q2 ∧ FI B O S T b2 e2 q2 t2 200 ∧ fb_ct b2 (bn B) = fb_ct b (bn B) + 1 := by
  have hs := hL.1
  have h64 := bS_64 hs
  have hne : ¬ LSt (fun i => fk B O S t q K i && T i) = 0 := by
    intro z
    have := LS_zero.mp z x0 (by omega)
    rw [hx1, hx2] at this
    cases this
  obtain ⟨x, hx3, hx4, hx5⟩ := LS_least hne
  simp only [Bool.and_eq_true] at hx4
  have hxO := fk_O hL (ly_inv hL K) hx4.1
  have hxn := hL.2.2.2.1 x hxO
  have he : e x = false := by
    cases ht : t x with
    | false =>
      have := (hF.2.1 x hxn).2
      rw [ht, bNt_dec_f (show ¬ 200 = 64 + x by omega), bNt_f] at this
      cases z : e x with
      | false => rfl
      | true => rw [z, bNt_t] at this; omega
    | true =>
      rcases ((fk_iff hL.2.1).mp hx4.1).1 with z | ⟨d, hd, z, _⟩
      · rw [ht] at z; cases z.2
      · exact (DF_arc (by omega) h64 hF.2.1 hxn hd z).2.2.1
  obtain ⟨g2, b2, e2, t2, q2, a1, a2, a3, a4⟩ := L_addRoute (c := c) (X := X) (m := m) h hL hF hK hm K (Nat.le_refl K) x none g b (up1 e x true) t q hg rfl hx4.1 (fun j y _ _ => ⟨fun d => rfl, fun ht => ht⟩) (.inl ⟨rfl, hF.1, DF_0 h64 (by omega) hxn hF.2.1 he, hF.2.2.1, (fun c1 hc1 he1 => by
    by_cases e4 : c1 = x
    · rw [e4]; exact ⟨hxO, hx4.2⟩
    · rw [up1_n _ _ e4] at he1
      exact hF.2.2.2.1 c1 hc1 he1), hF.2.2.2.2.1, hF.2.2.2.2.2⟩)
  refine ⟨g2, b2, e2, t2, q2, x_Sm_addRoute (rc_65 c _) ?_, a2, a3, a4⟩
  have e64 : nI K < (64 : Int32) := by
    show nI K < nI 64
    rw [nI_ltI (by omega) (by omega)]
    omega
  rw [e_Sm_addRoute, if_neg (nI_pos (by omega)), if_pos e64, bO (st_g4 c X g m), bO (g65_0 c _), bO (st_r hK), bO (st_g3 c X g m), hm K (by omega), hg.2.2.1, hg.2.2.2.1, LS_and, kL_of (M_one hx3 (by simp only [Bool.and_eq_true]; exact hx4) hx5 _)]
  rw [show (0 : Int64) = LSt (nxs none) from LS_0]
  exact a1
/-- the answer of a flow: value, entrances and exits that can be reached -/
def FlowR (B : bT) (O S T : Nat → Bool) (r : Nat) (A P : Nat → Bool) : Prop := ∃ b e a t, Flo (bn B) O S T (adjB B) b e a t ∧ FinR (bn B) O S T (adjB B) a t A P ∧ fb_ct b (bn B) = r
theorem FlowR_eq {B : bT} (hs : bS B) {O S T : Nat → Bool} {r r2 : Nat} {A P A2 P2 : Nat → Bool} (h : FlowR B O S T r A P) (h2 : FlowR B O S T r2 A2 P2) : r = r2 ∧ ∀ c, c < bn B → A c = A2 c ∧ P c = P2 c := by
  obtain ⟨b, e, a, t, f1, f2, f3⟩ := h
  obtain ⟨b', e', a', t', f1', f2', f3'⟩ := h2
  have := Fin_eq (bS_64 hs) f1 f2 f1' f2'
  exact ⟨by rw [← f3, ← f3']; exact this.1, this.2⟩
theorem L_widen {c : ixK} {X : ixX} {B : bT} {O S T : Nat → Bool} (hs : bS B) (h : cG 4 X B) (hS : ∀ c, S c = true → O c = true) (hO : ∀ c, O c = true → c < bn B) (hT : ∀ c, T c = true → c < bn B) : ∀ (n v : Nat) (g m : Nat → Int64) (b e t : Nat → Bool) (q : gT) (r : Int32), v + n = 64 → sG g O S T t q → FI B O S T b e q t 200 → fb_ct b (bn B) = v → ((r = -1 ∧ ∃ A P, FinR (bn B) O S T (adjB B) (arc B q) t A P ∧ (∀ c, bn B ≤ c → A c = false) ∧ g 9 = LSt A ∧ g 10 = LSt P) ∨ ∃ k, k < 64 ∧ r = nI k ∧ (∀ j, j < k + 1 → m j = LSt (fk B O S t q j)) ∧ ∃ x, x < bn B ∧ fk B O S t q k x = true ∧ T x = true) → ∃ g' m' v' A P, l_Sm_widen_84 65 5 (nI v) r (hp c (sY X g m)) = some ([.int (nI v')], hp c (sY X g' m')) ∧ FlowR B O S T v' A P ∧ (∀ c, bn B ≤ c → A c = false) ∧ g' 9 = LSt A ∧ g' 10 = LSt P ∧ v' ≤ 64 := by
  have h64 := bS_64 hs
  intro n
  induction n with
  | zero =>
    intro v g m b e t q r hv hg hF hb hr
    rcases hr with ⟨hr, A, P, h1, h2, h3, h4⟩ | ⟨k, hk, hr, hm, x, hx, hx1, hx2⟩
    · refine ⟨g, m, v, A, P, ?_, ⟨b, e, arc B q, t, FI_Flo hF, h1, hb⟩, h2, h3, h4, by omega⟩
      rw [e_Sm_widen_84, if_pos (by rw [hr]; decide)]
    · exfalso
      obtain ⟨_, b2, _, _, _, _, _, _, h5⟩ := M_addRoute (c := (0, 0, 0, 0)) h (FI_LyG hs hS hO hF) hF hg hk hm hx hx1 hx2
      have := fb_ct_le b2 (bn B)
      omega
  | succ n ih =>
    intro v g m b e t q r hv hg hF hb hr
    rcases hr with ⟨hr, A, P, h1, h2, h3, h4⟩ | ⟨k, hk, hr, hm, x, hx, hx1, hx2⟩
    · refine ⟨g, m, v, A, P, ?_, ⟨b, e, arc B q, t, FI_Flo hF, h1, hb⟩, h2, h3, h4, by omega⟩
      rw [e_Sm_widen_84, if_pos (by rw [hr]; decide)]
    · obtain ⟨g2, b2, e2, t2, q2, a1, a2, a3, a4⟩ := M_addRoute (c := c) h (FI_LyG hs hS hO hF) hF hg hk hm hx hx1 hx2
      obtain ⟨g3, m3, r3, s1, s2, s3⟩ := M_search (c := c) (m := m) h (FI_LyG hs hS hO a3) a2 hT
      have hg3 : sG g3 O S T t2 q2 := ⟨by rw [s2 1 (by omega)]; exact a2.1, by rw [s2 2 (by omega)]; exact a2.2.1, by rw [s2 3 (by omega)]; exact a2.2.2.1, by rw [s2 4 (by omega)]; exact a2.2.2.2.1, by rw [s2 5 (by omega)]; exact a2.2.2.2.2.1, by rw [s2 6 (by omega)]; exact a2.2.2.2.2.2.1, by rw [s2 7 (by omega)]; exact a2.2.2.2.2.2.2.1, by rw [s2 8 (by omega)]; exact a2.2.2.2.2.2.2.2⟩
      have s3' : (r3 = -1 ∧ ∃ A P, FinR (bn B) O S T (adjB B) (arc B q2) t2 A P ∧ (∀ c, bn B ≤ c → A c = false) ∧ g3 9 = LSt A ∧ g3 10 = LSt P) ∨ ∃ k, k < 64 ∧ r3 = nI k ∧ (∀ j, j < k + 1 → m3 j = LSt (fk B O S t2 q2 j)) ∧ ∃ x, x < bn B ∧ fk B O S t2 q2 k x = true ∧ T x = true := by
        rcases s3 with ⟨y1, k, y2, y3, y4⟩ | y
        · refine .inl ⟨y1, _, _, y2, ?_, y3, y4⟩
          intro z hz
          cases w : (ly B O S t2 q2 k).2.1 z with
          | false => rfl
          | true =>
            have := hO z ((ly_inv (FI_LyG hs hS hO a3) k).2.2.1 z w)
            omega
        · exact .inr y
      obtain ⟨g', m', v', A, P, i1, i2⟩ := ih (v + 1) g3 m3 b2 e2 t2 q2 r3 (by omega) hg3 a3 (by omega) s3'
      refine ⟨g', m', v', A, P, ?_, i2⟩
      rw [e_Sm_widen_84, hr, if_neg (nI_pos (by omega)), if_neg (lit_nle (x := 64) (a := 64) (k := v) rfl (by omega) (by omega)), kV_of a1, kI_of s1, nI_1, i1]
def opn (B : bT) (wl : Nat → Bool) : Nat → Bool := fun c => decide (c < bn B) && !wl c
def rop (B : bT) (wl : Nat → Bool) (r : Nat) : Nat → Bool := fun c => decide (brl B c = r) && opn B wl c
theorem opn_lt {B : bT} {wl : Nat → Bool} {c : Nat} (h : opn B wl c = true) : c < bn B := by
  unfold opn at h
  simp only [Bool.and_eq_true, decide_eq_true_eq] at h
  exact h.1
theorem rop_opn {B : bT} {wl : Nat → Bool} {r c : Nat} (h : rop B wl r c = true) : opn B wl c = true := by
  unfold rop at h
  simp only [Bool.and_eq_true] at h
  exact h.2
theorem sm_0 (n : Nat) : fb_sm (fun _ => 0) n = 0 := by rw [fb_sm_const, Nat.mul_zero]
theorem L_widen_53 {c : ixK} {X : ixX} {B : bT} {g m : Nat → Int64} {wl : Nat → Bool} (hs : bS B) (h : cG 4 X B) {r1 r2 : Nat} (h1 : 1 ≤ r2) (h2 : r2 < 4) (hg1 : g 1 = LSt (opn B wl)) (hg2 : g 2 = LSt (rop B wl r1)) : ∃ g' m' v A P, l_Sm_widen_53 65 5 65 6 (nI r2) (hp c (sY X g m)) = some ([.int (nI v)], hp c (sY X g' m')) ∧ FlowR B (opn B wl) (rop B wl r1) (rop B wl r2) v A P ∧ (∀ c, bn B ≤ c → A c = false) ∧ g' 9 = LSt A ∧ g' 10 = LSt P ∧ v ≤ 64 := by
  have hS : ∀ c, rop B wl r1 c = true → opn B wl c = true := fun c hc => rop_opn hc
  have hT : ∀ c, rop B wl r2 c = true → c < bn B := fun c hc => opn_lt (rop_opn hc)
  obtain ⟨p5, q5⟩ := LS_any (g 5)
  obtain ⟨p6, q6⟩ := LS_any (g 6)
  obtain ⟨p7, q7⟩ := LS_any (g 7)
  obtain ⟨p8, q8_'⟩ := LS_any (g 8)
  have eT : LSt (fun c => decide (brl B c = r2)) &&& LSt (opn B wl) = LSt (rop B wl r2) := by
    rw [LS_and]
    rfl
  obtain ⟨g1, e1, c5, c6, c7, c8, co⟩ := M_cut (c := c) (X := X) (g := vp_updL (vp_updL g 3 (LSt (rop B wl r2))) 4 0) (m := m) (q := (p5, p6, p7, p8)) (by rw [updL_n _ _ (by omega), updL_n _ _ (by omega)]; exact q5) (by rw [updL_n _ _ (by omega), updL_n _ _ (by omega)]; exact q6) (by rw [updL_n _ _ (by omega), updL_n _ _ (by omega)]; exact q7) (by rw [updL_n _ _ (by omega), updL_n _ _ (by omega)]; exact q8_') (fun _ => true)
  rw [← LS_m1] at e1
  have hsG : sG g1 (opn B wl) (rop B wl r1) (rop B wl r2) (fun _ => false) (cutq (p5, p6, p7, p8) (fun _ => true)) := ⟨by rw [co 1 (by omega), updL_n _ _ (by omega), updL_n _ _ (by omega)]; exact hg1, by rw [co 2 (by omega), updL_n _ _ (by omega), updL_n _ _ (by omega)]; exact hg2, by rw [co 3 (by omega), updL_n _ _ (by omega), updL_1], by rw [co 4 (by omega), updL_1]; exact LS_0, c5, c6, c7, c8⟩
  have harc : ∀ x y, arc B (cutq (p5, p6, p7, p8) (fun _ => true)) x y = false := by
    intro x y
    unfold arc cutq
    simp
  have hFI : FI B (opn B wl) (rop B wl r1) (rop B wl r2) (fun _ => false) (fun _ => false) (cutq (p5, p6, p7, p8) (fun _ => true)) (fun _ => false) 200 := by
    refine ⟨?_, ?_, fun c _ hc => (by cases hc), fun c _ hc => (by cases hc), fun c d hc => (by rw [harc] at hc; cases hc), fun c hc => (by cases hc)⟩
    · intro x
      unfold cutq
      simp
    · intro x hx
      have h64 := bS_64 hs
      have e1 : fb_sm (fun y => bNt (arc B (cutq (p5, p6, p7, p8) (fun _ => true)) y x)) (bn B) = 0 := by
        rw [show (fun y => bNt (arc B (cutq (p5, p6, p7, p8) (fun _ => true)) y x)) = fun _ => 0 from funext fun y => by rw [harc]; rfl]
        exact sm_0 _
      have e2 : fb_sm (fun y => bNt (arc B (cutq (p5, p6, p7, p8) (fun _ => true)) x y)) (bn B) = 0 := by
        rw [show (fun y => bNt (arc B (cutq (p5, p6, p7, p8) (fun _ => true)) x y)) = fun _ => 0 from funext fun y => by rw [harc]; rfl]
        exact sm_0 _
      rw [e1, e2, bNt_dec_f (show ¬ 200 = x by omega), bNt_dec_f (show ¬ 200 = 64 + x by omega)]
      exact ⟨rfl, rfl⟩
  have hLy := FI_LyG hs hS (fun c hc => opn_lt hc) hFI
  obtain ⟨g3, m3, r3, s1, s2, s3⟩ := M_search (c := c) (X := X) (m := m) h hLy hsG hT
  have hg3 : sG g3 (opn B wl) (rop B wl r1) (rop B wl r2) (fun _ => false) (cutq (p5, p6, p7, p8) (fun _ => true)) := ⟨by rw [s2 1 (by omega)]; exact hsG.1, by rw [s2 2 (by omega)]; exact hsG.2.1, by rw [s2 3 (by omega)]; exact hsG.2.2.1, by rw [s2 4 (by omega)]; exact hsG.2.2.2.1, by rw [s2 5 (by omega)]; exact hsG.2.2.2.2.1, by rw [s2 6 (by omega)]; exact hsG.2.2.2.2.2.1, by rw [s2 7 (by omega)]; exact hsG.2.2.2.2.2.2.1, by rw [s2 8 (by omega)]; exact hsG.2.2.2.2.2.2.2⟩
  have s3' : (r3 = -1 ∧ ∃ A P, FinR (bn B) (opn B wl) (rop B wl r1) (rop B wl r2) (adjB B) (arc B (cutq (p5, p6, p7, p8) (fun _ => true))) (fun _ => false) A P ∧ (∀ c, bn B ≤ c → A c = false) ∧ g3 9 = LSt A ∧ g3 10 = LSt P) ∨ ∃ k, k < 64 ∧ r3 = nI k ∧ (∀ j, j < k + 1 → m3 j = LSt (fk B (opn B wl) (rop B wl r1) (fun _ => false) (cutq (p5, p6, p7, p8) (fun _ => true)) j)) ∧ ∃ x, x < bn B ∧ fk B (opn B wl) (rop B wl r1) (fun _ => false) (cutq (p5, p6, p7, p8) (fun _ => true)) k x = true ∧ rop B wl r2 x = true := by
    rcases s3 with ⟨y1, k, y2, y3, y4⟩ | y
    · refine .inl ⟨y1, _, _, y2, ?_, y3, y4⟩
      intro z hz
      cases w : (ly B (opn B wl) (rop B wl r1) (fun _ => false) (cutq (p5, p6, p7, p8) (fun _ => true)) k).2.1 z with
      | false => rfl
      | true =>
        have := opn_lt ((ly_inv hLy k).2.2.1 z w)
        omega
    · exact .inr y
  obtain ⟨g', m', v', A, P, i1, i2⟩ := L_widen (c := c) hs h hS (fun c hc => opn_lt hc) hT 64 0 g3 m3 _ _ _ _ r3 (by omega) hg3 hFI (fb_ct_zero.mpr (fun _ _ => rfl)) s3'
  refine ⟨g', m', v', A, P, ?_, i2⟩
  rw [e_Sm_widen_53, bO (r6 h2), G_r (sY_G h g m) h1 h2, bO (st_g1 c X g m), hg1, eT, bO (st_p3 c X g m _), bO (st_p4 c X _ m _), kV_of e1, kI_of s1]
  exact i1
theorem M_widen {c : ixK} {X : ixX} {B : bT} (hs : bS B) (h : cG 4 X B) (wl : Nat → Bool) (rev : Bool) : ∃ g' m' v A P, ix_M mSm_widen [.ref 65, .ref 5, .long (LSt wl), .int (ix_bi rev)] (hp c X) = some ([.int (nI v)], hp c (sY X g' m')) ∧ FlowR B (opn B wl) (rop B wl (if rev = true then 2 else 1)) (rop B wl (if rev = true then 1 else 2)) v A P ∧ (∀ c, bn B ≤ c → A c = false) ∧ g' 9 = LSt A ∧ g' 10 = LSt P ∧ v ≤ 64 := by
  have eO : LSt (fun c => decide (c < bn B)) &&& (LSt wl ^^^ -1) = LSt (opn B wl) := by
    rw [LS_not, LS_and]
    rfl
  have eS : ∀ r, LSt (fun c => decide (brl B c = r)) &&& LSt (opn B wl) = LSt (rop B wl r) := by
    intro r
    rw [LS_and]
    rfl
  obtain ⟨g0, hg0⟩ : ∃ g0, g0 = X.2 65 := ⟨_, rfl⟩
  obtain ⟨m0, hm0⟩ : ∃ m0, m0 = X.2 66 := ⟨_, rfl⟩
  have hX : hp c X = hp c (sY X g0 m0) := by rw [hg0, hm0, sY_self]
  cases rev with
  | true =>
    obtain ⟨g', m', v, A, P, e1, e2⟩ := L_widen_53 (c := c) (X := X) (g := vp_updL (vp_updL g0 1 (LSt (opn B wl))) 2 (LSt (rop B wl 2))) (m := m0) (wl := wl) hs h (r1 := 2) (r2 := 1) (by omega) (by omega) (by rw [updL_n _ _ (by omega), updL_1]) (by rw [updL_1])
    refine ⟨g', m', v, A, P, x_Sm_widen (rc_65 c _) ?_, e2⟩
    rw [hX, e_Sm_widen, bO (g5_2 c _), G_c (sY_G h _ _), eO, bO (st_p1 c X _ _ _), bO (g5_6 c _), if_pos rfl, bO (show ix_al (hp c _) 6 2 = _ from r6 (i := 2) (by omega)), G_r (sY_G h _ _) (by omega) (by omega), bO (st_g1 c X _ _), updL_1, eS, bO (st_p2 c X _ _ _), bO (g5_6 c _), if_pos rfl]
    exact e1
  | false =>
    obtain ⟨g', m', v, A, P, e1, e2⟩ := L_widen_53 (c := c) (X := X) (g := vp_updL (vp_updL g0 1 (LSt (opn B wl))) 2 (LSt (rop B wl 1))) (m := m0) (wl := wl) hs h (r1 := 1) (r2 := 2) (by omega) (by omega) (by rw [updL_n _ _ (by omega), updL_1]) (by rw [updL_1])
    refine ⟨g', m', v, A, P, x_Sm_widen (rc_65 c _) ?_, e2⟩
    rw [hX, e_Sm_widen, bO (g5_2 c _), G_c (sY_G h _ _), eO, bO (st_p1 c X _ _ _), bO (g5_6 c _), if_neg (by decide), bO (show ix_al (hp c _) 6 1 = _ from r6 (i := 1) (by omega)), G_r (sY_G h _ _) (by omega) (by omega), bO (st_g1 c X _ _), updL_1, eS, bO (st_p2 c X _ _ _), bO (g5_6 c _), if_neg (by decide)]
    exact e1
theorem M_narrowest {c : ixK} {X : ixX} {g m : Nat → Int64} {A P : Nat → Bool} (h9 : g 9 = LSt A) (h10 : g 10 = LSt P) : ix_M mSm_narrowest [.ref 65] (hp c (sY X g m)) = some ([.long (LSt (fun c => A c && !P c))], hp c (sY X g m)) := by
  refine x_Sm_narrowest (rc_65 c _) ?_
  rw [e_Sm_narrowest, bO (st_g9 c X g m), bO (st_g10 c X g m), h9, h10, LS_not, LS_and]
