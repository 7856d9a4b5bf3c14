/-! REFERENCE: a way is turned into routes -/
def alA (B : bT) (a : Nat → Nat → Bool) (c d : Nat) : Bool := match nb B c d with
  | some x => a c x
  | none => false
theorem alA_iff (B : bT) (a : Nat → Nat → Bool) (c d : Nat) : alA B a c d = true ↔ ∃ x, nb B c d = some x ∧ a c x = true := by
  unfold alA
  cases nb B c d with
  | none => exact ⟨fun h => (by cases h), fun ⟨x, h, _⟩ => (by cases h)⟩
  | some x => exact ⟨fun h => ⟨x, rfl, h⟩, fun ⟨y, h, h2⟩ => by
      have : x = y := Option.some.inj h
      rw [this]
      exact h2⟩
def tA (B : bT) (X : ixX) (b e : Nat → Bool) (a : Nat → Nat → Bool) : Prop := ∀ c, c < bn B → X.1 89 c = ix_bi (b c) ∧ X.1 90 c = ix_bi (e c) ∧ ∀ d, d < 4 → X.1 88 (4 * c + d) = ix_bi (alA B a c d)
theorem cm_4 {B : bT} (hs : bS B) {O S T : Nat → Bool} {X : ixX} {b e : Nat → Bool} {a : Nat → Nat → Bool} {t : Nat → Bool} (hf : Flo (bn B) O S T (adjB B) b e a t) (h : rF B X b e a t) {c : Nat} (hc : c < bn B) : X.1 86 c = 4 ↔ b c = true := by
  constructor
  · intro h4
    rcases rF_cm hs hf h hc with ⟨_, g⟩ | ⟨g, _⟩ | ⟨d, x, hd, _, _, _, g⟩
    · rw [g] at h4; exact absurd h4 (by decide)
    · exact g
    · rw [g] at h4
      have h5 : nI d = nI 4 := h4
      rw [nI_eq (by omega) (by omega)] at h5
      omega
  · intro he
    exact (h c hc).2.1 he
theorem go_d {B : bT} (hs : bS B) {O S T : Nat → Bool} {X : ixX} {b e : Nat → Bool} {a : Nat → Nat → Bool} {t : Nat → Bool} (hf : Flo (bn B) O S T (adjB B) b e a t) (h : rF B X b e a t) {c d : Nat} (hc : c < bn B) (hd : d < 4) : X.1 85 c = nI d ↔ alA B a c d = true := by
  rw [alA_iff]
  constructor
  · intro h4
    rcases rF_go hs hf h hc with ⟨_, g⟩ | ⟨_, g⟩ | ⟨d2, x, hd2, g1, _, g2, g⟩
    · exact absurd (h4.symm.trans g) (m6_ne (by omega))
    · have h5 : nI d = nI 4 := h4.symm.trans g
      rw [nI_eq (by omega) (by omega)] at h5
      omega
    · have h5 := h4.symm.trans g
      rw [nI_eq (by omega) (by omega)] at h5
      rw [h5]
      exact ⟨x, g1, g2⟩
  · rintro ⟨x, h1, h2⟩
    exact ((h c hc).2.2.2 d x hd h1 h2).1
theorem ite_bi {α : Type} {p : Prop} [Decidable p] {b : Bool} (h : p ↔ b = true) (x y : α) : (if ¬ p then x else y) = if b = true then y else x := by
  by_cases q : p
  · rw [if_neg (fun n => n q), if_pos (h.mp q)]
  · rw [if_pos q, if_neg (fun n => q (h.mpr n))]
theorem bi_ite (b : Bool) : (if b = true then (1 : Int32) else 0) = ix_bi b := by cases b <;> rfl
theorem xx4 (c d : Nat) : (4 : Int32) * nI c + nI d = nI (4 * c + d) := by
  rw [show (4 : Int32) * nI c = nI (4 * c) from nI_mul 4 c]
  exact nI_add _ _
theorem x4r {c : ixK} {X : ixX} {x d : Nat} (hx : x < 64) (hd : d < 4) : ix_ai (hp c X) 88 ((4 : Int32) * nI x + nI d) = some (X.1 88 (4 * x + d)) := by
  rw [xx4]
  exact r88 (by omega)
theorem x4s {c : ixK} {X : ixX} {x d : Nat} {v : Int32} (hx : x < 64) (hd : d < 4) : ix_si (hp c X) 88 ((4 : Int32) * nI x + nI d) v = some (hp c (aI X 88 (upd (X.1 88) (4 * x + d) v))) := by
  rw [xx4]
  exact s88 (by omega)
/-- the arrays of a way's turning, laid from the routes -/
theorem L_tw2 {c : ixK} {X : ixX} {B : bT} (hs : bS B) (hA : rBd (X.1 76) B) {O S T : Nat → Bool} {b e : Nat → Bool} {a : Nat → Nat → Bool} {t : Nat → Bool} (hf : Flo (bn B) O S T (adjB B) b e a t) (hr : rF B X b e a t) (x1 : Int32) : ∃ Y, l_Mo_turnWay_2 75 x1 0 (hp c X) = l_Mo_turnWay_2 75 x1 (nI (bn B)) (hp c Y) ∧ eX [88, 89, 90] X Y ∧ tA B Y b e a := by
  have h64 := bS_64 hs
  obtain ⟨Y, e1, q1, q2⟩ := lp_up (fun k (Y : ixX) => l_Mo_turnWay_2 75 x1 (nI k) (hp c Y)) (fun k Y => eX [88, 89, 90] X Y ∧ ∀ c, c < k → Y.1 89 c = ix_bi (b c) ∧ Y.1 90 c = ix_bi (e c) ∧ ∀ d, d < 4 → Y.1 88 (4 * c + d) = ix_bi (alA B a c d)) (N := bn B) (fun k Y hk hY => by
    obtain ⟨q1, q2⟩ := hY
    have hA' : rBd (Y.1 76) B := by rw [q1.2 76 (by decide)]; exact hA
    obtain ⟨Y1, hY1⟩ : ∃ Z, Z = aI Y 89 (upd (Y.1 89) k (ix_bi (b k))) := ⟨_, rfl⟩
    obtain ⟨Y2, hY2⟩ : ∃ Z, Z = aI Y1 90 (upd (Y.1 90) k (ix_bi (e k))) := ⟨_, rfl⟩
    have s1 : l_Mo_turnWay_2 75 x1 (nI k) (hp c Y) = l_Mo_turnWay_30 75 x1 (nI k) 89 (nI k) (b k) (hp c Y) := by
      rw [e_Mo_turnWay_2, kI_of (M_mcells hA'), if_neg (by rw [nI_leI (by omega) (by omega)]; omega), bO (g75_16 c _), bO (g75_10 c _), bO (r86 (by omega)), q1.2 86 (by decide), ite_bi (cm_4 hs hf hr hk)]
      cases b k <;> rfl
    have s2 : l_Mo_turnWay_30 75 x1 (nI k) 89 (nI k) (b k) (hp c Y) = l_Mo_turnWay_54 75 x1 (nI k) 0 (hp c Y2) := by
      rw [e_Mo_turnWay_30, bO (s89 (show k < 64 by omega)), ← hY1, bO (g75_17 c _), bO (g75_9 c _), bO (r85 (by omega))]
      have e85 : Y1.1 85 = X.1 85 := by rw [hY1, aI_o (by omega)]; exact q1.2 85 (by decide)
      have e90 : Y1.1 90 = Y.1 90 := by rw [hY1, aI_o (by omega)]
      rw [e85, ite_bi (go_4 hs hf hr hk)]
      cases he : e k with
      | true => rw [if_pos rfl, bO (s90 (show k < 64 by omega)), e90, hY2, he]; rfl
      | false => rw [if_neg (by decide), bO (s90 (show k < 64 by omega)), e90, hY2, he]; rfl
    have x2 : eX [88, 89, 90] X Y2 := by rw [hY2, hY1]; exact eX_aI (eX_aI q1 (by decide)) (by decide)
    obtain ⟨Y3, e3, q3, q4, q5⟩ := lp_up (fun d (Z : ixX) => l_Mo_turnWay_54 75 x1 (nI k) (nI d) (hp c Z)) (fun d Z => eX [88, 89, 90] X Z ∧ (Z.1 89 = Y2.1 89 ∧ Z.1 90 = Y2.1 90 ∧ ∀ j, j < 4 * k → Z.1 88 j = Y2.1 88 j) ∧ ∀ d', d' < d → Z.1 88 (4 * k + d') = ix_bi (alA B a k d')) (N := 4) (fun d Z hd hZ => by
      obtain ⟨q3, q4, q5⟩ := hZ
      refine ⟨aI Z 88 (upd (Z.1 88) (4 * k + d) (ix_bi (alA B a k d))), ?_, eX_aI q3 (by decide), ⟨by rw [aI_o (by omega)]; exact q4.1, by rw [aI_o (by omega)]; exact q4.2.1, fun j hj => ?_⟩, fun d' hd' => ?_⟩
      · show l_Mo_turnWay_54 75 x1 (nI k) (nI d) (hp c Z) = l_Mo_turnWay_54 75 x1 (nI k) (nI (d + 1)) (hp c _)
        rw [e_Mo_turnWay_54, if_neg (lit_nle (x := 4) (a := 4) (k := d) rfl (by omega) (by omega)), bO (g75_15 c _), bO (g75_9 c _), bO (r85 (by omega)), q3.2 85 (by decide), ite_bi (go_d hs hf hr hk hd), nI_1]
        cases hal : alA B a k d with
        | true => rw [if_pos rfl, bO (x4s (by omega) hd)]; rfl
        | false => rw [if_neg (by decide), bO (x4s (by omega) hd)]; rfl
      · rw [aI_1, upd_n _ _ (by omega)]
        exact q4.2.2 j hj
      · rw [aI_1]
        by_cases ed : d' = d
        · rw [ed, upd_1]
        · rw [upd_n _ _ (by omega)]
          exact q5 d' (by omega)) (k := 0) (s := Y2) (by omega) ⟨x2, ⟨rfl, rfl, fun _ _ => rfl⟩, fun d' hd' => absurd hd' (Nat.not_lt_zero d')⟩
    have e3' : l_Mo_turnWay_54 75 x1 (nI k) 0 (hp c Y2) = l_Mo_turnWay_54 75 x1 (nI k) (nI 4) (hp c Y3) := e3
    refine ⟨Y3, ?_, q3, fun y hy => ?_⟩
    · show l_Mo_turnWay_2 75 x1 (nI k) (hp c Y) = l_Mo_turnWay_2 75 x1 (nI (k + 1)) (hp c Y3)
      rw [s1, s2, e3', e_Mo_turnWay_54, if_pos (show (4 : Int32) ≤ nI 4 by decide), nI_1]
    · have e89 : Y2.1 89 = upd (Y.1 89) k (ix_bi (b k)) := by rw [hY2, aI_o (by omega), hY1, aI_1]
      have e90 : Y2.1 90 = upd (Y.1 90) k (ix_bi (e k)) := by rw [hY2, aI_1]
      have e88 : Y2.1 88 = Y.1 88 := by rw [hY2, aI_o (by omega), hY1, aI_o (by omega)]
      rw [q4.1, q4.2.1, e89, e90]
      by_cases ey : y = k
      · rw [ey, upd_1, upd_1]
        exact ⟨rfl, rfl, q5⟩
      · rw [upd_n _ _ ey, upd_n _ _ ey]
        have := q2 y (by omega)
        refine ⟨this.1, this.2.1, fun d hd => ?_⟩
        rw [q4.2.2 _ (by omega), e88]
        exact this.2.2 d hd) (k := 0) (s := X) (by omega) ⟨eX_refl _ _, fun y hy => absurd hy (Nat.not_lt_zero y)⟩
  exact ⟨Y, e1, q1, q2⟩
theorem M_directionTo {c : ixK} {X : ixX} {B : bT} (hs : bS B) (hA : rBd (X.1 76) B) {x y d : Nat} (hx : x < bn B) (hd : d < 4) (hn : nb B x d = some y) : ix_M mMo_directionTo [.ref 75, .int (nI x), .int (nI y)] (hp c X) = some ([.int (nI d)], hp c X) := by
  have h64 := bS_64 hs
  have hy := nb_lt hs hx hn
  refine x_Mo_directionTo (rc_75 c X) ?_
  have e := lp_f (fun k (_ : Unit) => l_Mo_directionTo_2 75 (nI x) (nI y) (nI k) (hp c X)) (fun _ => ()) (N := d) (fun k hk => by
    show l_Mo_directionTo_2 75 (nI x) (nI y) (nI k) (hp c X) = l_Mo_directionTo_2 75 (nI x) (nI y) (nI (k + 1)) (hp c X)
    have hne : ¬ oI (nb B x k) = nI y := by
      cases hq : nb B x k with
      | none => exact fun e => m6_ne (show y < 2147483648 by omega) e.symm
      | some z =>
        have hz := nb_lt hs hx hq
        show ¬ nI z = nI y
        rw [nI_eq (by omega) (by omega)]
        intro ez
        rw [ez] at hq
        have := nb_one hs hx (show k < 4 by omega) hd hq hn
        omega
    rw [e_Mo_directionTo_2, kI_of (M_beside hs hA hx (show k < 4 by omega)), if_neg hne, nI_1]) (k := 0) (by omega)
  have e2 : l_Mo_directionTo_2 75 (nI x) (nI y) 0 (hp c X) = l_Mo_directionTo_2 75 (nI x) (nI y) (nI d) (hp c X) := e
  rw [e_Mo_directionTo, e2, e_Mo_directionTo_2, kI_of (M_beside hs hA hx hd), hn]
  exact if_pos rfl
theorem bq_O {B : bT} {O S T : Nat → Bool} {X : ixX} {b e : Nat → Bool} {a : Nat → Nat → Bool} {t : Nat → Bool} {ns : List Nat} (hs : bS B) (hS : ∀ c, S c = true → O c = true) (hf : Flo (bn B) O S T (adjB B) b e a t) (h : bq B O S a t X ns) : ∀ i, i < ns.length → ∀ c, c < bn B → (ns.getD i 0 = c ∨ ns.getD i 0 = 64 + c) → O c = true := by
  have h64 := bS_64 hs
  intro i
  induction i using Nat.strongRecOn with
  | _ i ih =>
    intro hi c hc hv
    rcases h.2.2.2.2.2 i hi with ⟨_, g1, g2⟩ | ⟨j, hj, _, c1, x1, hc1, hx1, g⟩
    · have : ns.getD i 0 = c := by omega
      rw [this] at g2
      exact hS c g2
    · rcases g with ⟨g1, g2, g3⟩ | ⟨g1, g2, g3⟩ | ⟨g1, g2, g3, g4, g5⟩ | ⟨g1, g2, g3⟩
      · have : c = c1 := by omega
        rw [this]
        exact ih j hj (by omega) c1 hc1 (.inl g1)
      · have : c = x1 := by omega
        rw [this]
        exact (hf.2.2.2.1 x1 c1 hx1 hc1 g3).1
      · have : c = x1 := by omega
        rw [this]
        exact g4
      · have : c = c1 := by omega
        rw [this]
        exact hf.2.2.2.2 c1 hc1 g3
theorem rem_in {x : Nat} (hx : x < 64) : ix_rem (nI x) 64 = nI x := by
  have := nI_rem (a := x) (b := 64) (by omega) (by omega)
  rw [Nat.mod_eq_of_lt hx] at this
  exact this
theorem rem_out {x : Nat} (hx : x < 64) : ix_rem (nI (64 + x)) 64 = nI x := by
  have := nI_rem (a := 64 + x) (b := 64) (by omega) (by omega)
  rw [Nat.add_mod_left, Nat.mod_eq_of_lt hx] at this
  exact this
theorem alA_up2 {B : bT} (hs : bS B) {a : Nat → Nat → Bool} {x y d : Nat} (hx : x < bn B) (hd : d < 4) (hn : nb B x d = some y) (v : Bool) {c k : Nat} (hk : k < 4) : alA B (up2 a x y v) c k = if c = x ∧ k = d then v else alA B a c k := by
  by_cases q : c = x ∧ k = d
  · rw [if_pos q, q.1, q.2]
    unfold alA
    rw [hn]
    exact up2_1 a x y v
  · rw [if_neg q]
    unfold alA
    cases hq : nb B c k with
    | none => rfl
    | some z =>
      show up2 a x y v c z = a c z
      refine up2_n _ _ (fun z2 => q ⟨z2.1, ?_⟩)
      rw [z2.1, z2.2] at hq
      exact nb_one hs hx hk hd hq hn
theorem tA_88 {B : bT} (hs : bS B) {Y : ixX} {b e : Nat → Bool} {a : Nat → Nat → Bool} (h : tA B Y b e a) {x y d : Nat} (hx : x < bn B) (hd : d < 4) (hn : nb B x d = some y) (v : Bool) {w : Int32} (hw : w = ix_bi v) : tA B (aI Y 88 (upd (Y.1 88) (4 * x + d) w)) b e (up2 a x y v) := by
  intro c hc
  obtain ⟨h1, h2, h3⟩ := h c hc
  refine ⟨by rw [aI_o (by omega)]; exact h1, by rw [aI_o (by omega)]; exact h2, fun k hk => ?_⟩
  rw [aI_1, alA_up2 hs hx hd hn v hk]
  by_cases q : c = x ∧ k = d
  · rw [if_pos q, q.1, q.2, upd_1, hw]
  · rw [if_neg q, upd_n _ _ (by omega)]
    exact h3 k hk
/-- back along the way -/
theorem L_walk {c : ixK} {X0 : ixX} {B : bT} (hs : bS B) (hA : rBd (X0.1 76) B) {O S T : Nat → Bool} {b e : Nat → Bool} {a : Nat → Nat → Bool} {t : Nat → Bool} {ns : List Nat} (hS : ∀ c, S c = true → O c = true) (hf : Flo (bn B) O S T (adjB B) b e a t) (h : bq B O S a t X0 ns) {e' : Nat → Bool} (he : ∀ c, c < bn B → e' c = true → O c = true ∧ T c = true) : ∀ i, i < ns.length → ∀ (Y : ixX) (a' : Nat → Nat → Bool) (t' : Nat → Bool), eX [88, 89, 90] X0 Y → tA B Y b e' a' → DF (bn B) b e' a' t' (ns.getD i 0) → (∀ c d, c < bn B → d < bn B → a' c d = true → O c = true ∧ O d = true ∧ adjB B c d = true) → (∀ c, c < bn B → t' c = true → O c = true) → (∀ c x j, c < bn B → x < bn B → j < i → (ns.getD j 0 = c ∨ ns.getD j 0 = 64 + x) → a' x c = a x c) → (∀ c j, c < bn B → j < i → (ns.getD j 0 = c ∨ ns.getD j 0 = 64 + c) → t' c = t c) → ∃ Z b2 a2 t2, l_Mo_turnWay_108 75 (nI (ns.getD i 0)) (hp c Y) = l_Mo_turnWay_232 75 0 (hp c Z) ∧ eX [88, 89, 90] X0 Z ∧ tA B Z b2 e' a2 ∧ Flo (bn B) O S T (adjB B) b2 e' a2 t2 ∧ fb_ct b2 (bn B) = fb_ct b (bn B) + 1 := by
  have h64 := bS_64 hs
  intro i
  induction i using Nat.strongRecOn with
  | _ i ih =>
    intro hi Y a' t' hY htA hD hadm hto hua hut
    have hA' : rBd (Y.1 76) B := by rw [hY.2 76 (by decide)]; exact hA
    have e87 : Y.1 87 = X0.1 87 := hY.2 87 (by decide)
    have hnv := ndOK_lt hs (h.2.2.2.1 _ (gd_mem ns i hi))
    have hdist : ∀ j k, j < k → k < ns.length → ¬ ns.getD j 0 = ns.getD k 0 := fun j k h1 h2 => nd_gd ns h.2.2.1 j k h1 h2
    rcases h.2.2.2.2.2 i hi with ⟨g0, g1, g2⟩ | ⟨j, hj, g0, c1, x1, hc1, hx1, g⟩
    · refine ⟨aI Y 89 (upd (Y.1 89) (ns.getD i 0) 1), up1 b (ns.getD i 0) true, a', t', ?_, eX_aI hY (by decide), ?_, ⟨DF_5 h64 (by omega) g1 hD, ?_, he, hadm, hto⟩, ct_up1 g1 (DF_in g1 hD).2⟩
      · rw [e_Mo_turnWay_108, bO (g75_11 c _), bO (r87 hnv), e87, g0, if_pos (by decide), bO (g75_16 c _), bO (s89 (by omega))]
      · intro y hy
        obtain ⟨t1, t2, t3⟩ := htA y hy
        refine ⟨?_, by rw [aI_o (by omega)]; exact t2, fun d hd => by rw [aI_o (by omega)]; exact t3 d hd⟩
        rw [aI_1]
        by_cases ey : y = ns.getD i 0
        · rw [← ey, upd_1, up1_1]; rfl
        · rw [upd_n _ _ ey, up1_n _ _ ey]; exact t1
      · intro y hy hb
        by_cases ey : y = ns.getD i 0
        · rw [ey]; exact ⟨hS _ g2, g2⟩
        · rw [up1_n _ _ ey] at hb
          exact hf.2.1 y hy hb
    · have hjl : j < ns.length := by omega
      have hnu := ndOK_lt hs (h.2.2.2.1 _ (gd_mem ns j hjl))
      have hgo := ih j hj hjl
      have hne200 : ¬ nI (ns.getD j 0) = 200 := by
        show ¬ nI (ns.getD j 0) = nI 200
        rw [nI_eq (by omega) (by omega)]
        omega
      have start : l_Mo_turnWay_108 75 (nI (ns.getD i 0)) (hp c Y) = if nI (ns.getD j 0) < 64 then l_Mo_turnWay_180 75 (nI (ns.getD i 0)) (nI (ns.getD j 0)) (ix_rem (nI (ns.getD j 0)) 64) (ix_rem (nI (ns.getD i 0)) 64) (hp c Y) else if 64 ≤ nI (ns.getD i 0) then l_Mo_turnWay_180 75 (nI (ns.getD i 0)) (nI (ns.getD j 0)) (ix_rem (nI (ns.getD j 0)) 64) (ix_rem (nI (ns.getD i 0)) 64) (hp c Y) else if ix_rem (nI (ns.getD j 0)) 64 = ix_rem (nI (ns.getD i 0)) 64 then l_Mo_turnWay_180 75 (nI (ns.getD i 0)) (nI (ns.getD j 0)) (ix_rem (nI (ns.getD j 0)) 64) (ix_rem (nI (ns.getD i 0)) 64) (hp c Y) else (ix_gr (hp c Y) 75 11 15).bind fun v7 => (ix_M mMo_directionTo [.ref 75, .int (ix_rem (nI (ns.getD j 0)) 64), .int (ix_rem (nI (ns.getD i 0)) 64)] (hp c Y)).bind fun r => ix_kI r fun v9 h8 => (ix_si h8 v7 ((4 * (ix_rem (nI (ns.getD j 0)) 64)) + v9) 1).bind fun h10 => l_Mo_turnWay_108 75 (nI (ns.getD j 0)) h10 := by
        rw [e_Mo_turnWay_108, bO (g75_11 c _), bO (r87 hnv), e87, g0, if_neg hne200, bO (g75_11 c _), bO (r87 hnv), e87, g0, if_neg (by decide), if_neg (by decide)]
      rw [start]
      have lt64 : ∀ z, z < 64 → nI z < 64 := fun z hz => by
        show nI z < nI 64
        rw [nI_ltI (by omega) (by omega)]
        exact hz
      have nlt64 : ∀ z, z < 64 → ¬ nI (64 + z) < 64 := fun z hz => by
        show ¬ nI (64 + z) < nI 64
        rw [nI_ltI (by omega) (by omega)]
        omega
      have le64 : ∀ z, z < 64 → (64 : Int32) ≤ nI (64 + z) := fun z hz => by
        show nI 64 ≤ nI (64 + z)
        rw [nI_leI (by omega) (by omega)]
        omega
      have nle64 : ∀ z, z < 64 → ¬ (64 : Int32) ≤ nI z := fun z hz => by
        show ¬ nI 64 ≤ nI z
        rw [nI_leI (by omega) (by omega)]
        omega
      rcases g with ⟨g1, g2, g3⟩ | ⟨g1, g2, g3⟩ | ⟨g1, g2, g3, g4, g5⟩ | ⟨g1, g2, g3⟩
      · -- through a cell that no route goes through
        have gi := g2
        rw [g2] at hD
        rw [g1] at hgo
        rw [g1, g2, if_pos (lt64 c1 (by omega)), e_Mo_turnWay_180, if_neg (nle64 c1 (by omega)), if_neg (nlt64 c1 (by omega)), rem_in (by omega), rem_out (by omega), if_pos rfl]
        have ht1 : t' c1 = false := by rw [hut c1 j hc1 hj (.inl g1)]; exact g3
        refine hgo Y a' (up1 t' c1 true) hY htA (DF_2 h64 hc1 hD ht1) hadm ?_ (fun y x k hy hx hk hv => hua y x k hy hx (by omega) hv) ?_
        · intro y hy hty
          by_cases ey : y = c1
          · rw [ey]; exact bq_O hs hS hf h j hjl c1 hc1 (.inl g1)
          · rw [up1_n _ _ ey] at hty
            exact hto y hy hty
        · intro y k hy hk hv
          have ey : ¬ y = c1 := by
            intro ey
            rw [ey] at hv
            rcases hv with hv | hv
            · exact hdist k j hk hjl (hv.trans g1.symm)
            · exact hdist k i (by omega) hi (hv.trans gi.symm)
          rw [up1_n _ _ ey]
          exact hut y k hy (by omega) hv
      · -- back along an arc
        have gi := g2
        have hadj := (hf.2.2.2.1 x1 c1 hx1 hc1 g3).2.2
        obtain ⟨d, hd, hn⟩ := (nb_iff hs hx1 hc1).mp hadj
        have hne : ¬ nI c1 = nI x1 := by
          rw [nI_eq (by omega) (by omega)]
          intro ec
          rw [ec, adjB_iff] at hadj
          have := hs.1
          omega
        rw [g2] at hD
        rw [g1] at hgo
        rw [g1, g2, if_pos (lt64 c1 (by omega)), e_Mo_turnWay_180, if_neg (nle64 c1 (by omega)), if_neg (nlt64 x1 (by omega)), rem_in (by omega), rem_out (by omega), if_neg hne, bO (g75_15 c _), kI_of (M_directionTo hs hA' hx1 hd hn), bO (x4s (by omega) hd)]
        have ha1 : a' x1 c1 = true := by rw [hua c1 x1 j hc1 hx1 hj (.inl g1)]; exact g3
        refine hgo _ (up2 a' x1 c1 false) t' (eX_aI hY (by decide)) (tA_88 hs htA hx1 hd hn false rfl) (DF_3 h64 hx1 hc1 hD ha1) ?_ hto ?_ (fun y k hy hk hv => hut y k hy (by omega) hv)
        · intro y z hy hz hyz
          by_cases ey : y = x1 ∧ z = c1
          · rw [ey.1, ey.2, up2_1] at hyz; cases hyz
          · rw [up2_n _ _ ey] at hyz
            exact hadm y z hy hz hyz
        · intro y x k hy hx hk hv
          have ey : ¬ (x = x1 ∧ y = c1) := by
            rintro ⟨ex, ey⟩
            rw [ex, ey] at hv
            rcases hv with hv | hv
            · exact hdist k j hk hjl (hv.trans g1.symm)
            · exact hdist k i (by omega) hi (hv.trans gi.symm)
          rw [up2_n _ _ ey]
          exact hua y x k hy hx (by omega) hv
      · -- along a new arc
        have gi := g2
        obtain ⟨d, hd, hn⟩ := (nb_iff hs hc1 hx1).mp g3
        have hne : ¬ nI c1 = nI x1 := by
          rw [nI_eq (by omega) (by omega)]
          intro ec
          rw [ec, adjB_iff] at g3
          have := hs.1
          omega
        rw [g2] at hD
        rw [g1] at hgo
        rw [g1, g2, if_neg (nlt64 c1 (by omega)), if_neg (nle64 x1 (by omega)), rem_out (x := c1) (by omega), rem_in (x := x1) (by omega), if_neg hne, bO (g75_15 c _), kI_of (M_directionTo hs hA' hc1 hd hn), bO (x4s (by omega) hd)]
        have ha1 : a' c1 x1 = false := by rw [hua x1 c1 j hx1 hc1 hj (.inr g1)]; exact g5
        refine hgo _ (up2 a' c1 x1 true) t' (eX_aI hY (by decide)) (tA_88 hs htA hc1 hd hn true rfl) (DF_1 h64 hc1 hx1 hD ha1) ?_ hto ?_ (fun y k hy hk hv => hut y k hy (by omega) hv)
        · intro y z hy hz hyz
          by_cases ey : y = c1 ∧ z = x1
          · rw [ey.1, ey.2]; exact ⟨bq_O hs hS hf h j hjl c1 hc1 (.inr g1), g4, g3⟩
          · rw [up2_n _ _ ey] at hyz
            exact hadm y z hy hz hyz
        · intro y x k hy hx hk hv
          have ey : ¬ (x = c1 ∧ y = x1) := by
            rintro ⟨ex, ey⟩
            rw [ex, ey] at hv
            rcases hv with hv | hv
            · exact hdist k i (by omega) hi (hv.trans gi.symm)
            · exact hdist k j hk hjl (hv.trans g1.symm)
          rw [up2_n _ _ ey]
          exact hua y x k hy hx (by omega) hv
      · -- back through a cell
        have gi := g2
        rw [g2] at hD
        rw [g1] at hgo
        rw [g1, g2, if_neg (nlt64 c1 (by omega)), if_neg (nle64 c1 (by omega)), rem_out (x := c1) (by omega), rem_in (x := c1) (by omega), if_pos rfl, e_Mo_turnWay_180, if_pos (le64 c1 (by omega))]
        refine hgo Y a' (up1 t' c1 false) hY htA (DF_4 h64 hc1 hD) hadm ?_ (fun y x k hy hx hk hv => hua y x k hy hx (by omega) hv) ?_
        · intro y hy hty
          by_cases ey : y = c1
          · rw [ey, up1_1] at hty; cases hty
          · rw [up1_n _ _ ey] at hty
            exact hto y hy hty
        · intro y k hy hk hv
          have ey : ¬ y = c1 := by
            intro ey
            rw [ey] at hv
            rcases hv with hv | hv
            · exact hdist k i (by omega) hi (hv.trans gi.symm)
            · exact hdist k j hk hjl (hv.trans g1.symm)
          rw [up1_n _ _ ey]
          exact hut y k hy (by omega) hv
theorem L_tw232 {c : ixK} {X : ixX} {B : bT} (hs : bS B) (hA : rBd (X.1 76) B) {b e : Nat → Bool} {a : Nat → Nat → Bool} (h : tA B X b e a) : ∃ Y, l_Mo_turnWay_232 75 0 (hp c X) = l_Mo_turnWay_292 75 0 (hp c Y) ∧ eX [85, 86] X Y ∧ ∀ x, x < bn B → Y.1 85 x = (if e x = true then 4 else -6) ∧ Y.1 86 x = (if b x = true then 4 else -6) := by
  have h64 := bS_64 hs
  have bi1 : ∀ v : Bool, ix_bi v = 1 ↔ v = true := fun v => ix_bi1 v
  obtain ⟨Y, e1, q1, q2⟩ := lp_up (fun k (Y : ixX) => l_Mo_turnWay_232 75 (nI k) (hp c Y)) (fun k Y => eX [85, 86] X Y ∧ ∀ x, x < k → Y.1 85 x = (if e x = true then 4 else -6) ∧ Y.1 86 x = (if b x = true then 4 else -6)) (N := bn B) (fun k Y hk hY => by
    obtain ⟨q1, q2⟩ := hY
    have hA' : rBd (Y.1 76) B := by rw [q1.2 76 (by decide)]; exact hA
    obtain ⟨t1, t2, _⟩ := h k hk
    have n90 : Y.1 90 k = ix_bi (e k) := by rw [q1.2 90 (by decide)]; exact t2
    have n89 : Y.1 89 k = ix_bi (b k) := by rw [q1.2 89 (by decide)]; exact t1
    refine ⟨aI (aI Y 85 (upd (Y.1 85) k (if e k = true then 4 else -6))) 86 (upd (Y.1 86) k (if b k = true then 4 else -6)), ?_, eX_aI (eX_aI q1 (by decide)) (by decide), fun x hx => ?_⟩
    · show l_Mo_turnWay_232 75 (nI k) (hp c Y) = l_Mo_turnWay_232 75 (nI (k + 1)) (hp c _)
      have s1 : l_Mo_turnWay_232 75 (nI k) (hp c Y) = l_Mo_turnWay_261 75 (nI k) 85 (nI k) (if e k = true then 4 else -6) (hp c Y) := by
        rw [e_Mo_turnWay_232, kI_of (M_mcells hA'), if_neg (by rw [nI_leI (by omega) (by omega)]; omega), bO (g75_9 c _), bO (g75_17 c _), bO (r90 (by omega)), n90, ite_bi (bi1 (e k))]
        cases e k <;> rfl
      rw [s1, e_Mo_turnWay_261, bO (s85 (by omega)), bO (g75_10 c _), bO (g75_16 c _), bO (r89 (by omega)), aI_o (by omega), n89, ite_bi (bi1 (b k)), nI_1]
      cases hb : b k with
      | true => rw [if_pos rfl, bO (s86 (by omega)), aI_o (by omega)]; rfl
      | false => rw [if_neg (by decide), bO (s86 (by omega)), aI_o (by omega)]; rfl
    · rw [aI_1, aI_o (by omega), aI_1]
      by_cases ex : x = k
      · rw [ex, upd_1, upd_1]; exact ⟨rfl, rfl⟩
      · rw [upd_n _ _ ex, upd_n _ _ ex]; exact q2 x (by omega)) (k := 0) (s := X) (by omega) ⟨eX_refl _ _, fun x hx => absurd hx (Nat.not_lt_zero x)⟩
  have e1' : l_Mo_turnWay_232 75 0 (hp c X) = l_Mo_turnWay_232 75 (nI (bn B)) (hp c Y) := e1
  have hA' : rBd (Y.1 76) B := by rw [q1.2 76 (by decide)]; exact hA
  refine ⟨Y, ?_, q1, q2⟩
  rw [e1', e_Mo_turnWay_232, kI_of (M_mcells hA'), if_pos (by rw [nI_leI (by omega) (by omega)]; omega)]
/-- the routes laid anew -/
def gcI (B : bT) (b e : Nat → Bool) (a : Nat → Nat → Bool) (p : Nat → Nat → Prop) (Y : ixX) : Prop := (∀ x d, x < bn B → d < 4 → p x d → alA B a x d = true → Y.1 85 x = nI d) ∧ (∀ x, x < bn B → (∀ d, d < 4 → p x d → alA B a x d = false) → Y.1 85 x = (if e x = true then 4 else -6)) ∧ (∀ x d y, x < bn B → d < 4 → p x d → nb B x d = some y → a x y = true → Y.1 86 y = nI (3 - d)) ∧ (∀ y, y < bn B → (∀ x d, x < bn B → d < 4 → p x d → nb B x d = some y → a x y = false) → Y.1 86 y = (if b y = true then 4 else -6))
theorem gcI_cong {B : bT} {b e : Nat → Bool} {a : Nat → Nat → Bool} {p q : Nat → Nat → Prop} {Y : ixX} (hpq : ∀ x d, x < bn B → d < 4 → (p x d ↔ q x d)) (h : gcI B b e a p Y) : gcI B b e a q Y := ⟨fun x d hx hd hp => h.1 x d hx hd ((hpq x d hx hd).mpr hp), fun x hx hp => h.2.1 x hx (fun d hd hq => hp d hd ((hpq x d hx hd).mp hq)), fun x d y hx hd hp => h.2.2.1 x d y hx hd ((hpq x d hx hd).mpr hp), fun y hy hp => h.2.2.2 y hy (fun x d hx hd hq => hp x d hx hd ((hpq x d hx hd).mp hq))⟩
theorem L_tw292 {c : ixK} {X : ixX} {B : bT} (hs : bS B) (hA : rBd (X.1 76) B) {O S T : Nat → Bool} {b e : Nat → Bool} {a : Nat → Nat → Bool} {t : Nat → Bool} (hf : Flo (bn B) O S T (adjB B) b e a t) (h88 : ∀ x d, x < bn B → d < 4 → X.1 88 (4 * x + d) = ix_bi (alA B a x d)) (h85 : ∀ x, x < bn B → X.1 85 x = (if e x = true then 4 else -6) ∧ X.1 86 x = (if b x = true then 4 else -6)) : ∃ Y, l_Mo_turnWay_292 75 0 (hp c X) = some ([], hp c Y) ∧ eX [85, 86] X Y ∧ rF B Y b e a t := by
  have h64 := bS_64 hs
  have bi1 : ∀ v : Bool, ix_bi v = 1 ↔ v = true := fun v => ix_bi1 v
  obtain ⟨Y, e1, q1, q2⟩ := lp_up (fun k (Y : ixX) => l_Mo_turnWay_292 75 (nI k) (hp c Y)) (fun k Y => eX [85, 86] X Y ∧ gcI B b e a (fun x _ => x < k) Y) (N := bn B) (fun k Y hk hY => by
    obtain ⟨q1, q2⟩ := hY
    have hA' : rBd (Y.1 76) B := by rw [q1.2 76 (by decide)]; exact hA
    obtain ⟨Z, e3, q3, q4⟩ := lp_up (fun d (Z : ixX) => l_Mo_turnWay_303 75 (nI k) (nI d) (hp c Z)) (fun d Z => eX [85, 86] X Z ∧ gcI B b e a (fun x d' => x < k ∨ (x = k ∧ d' < d)) Z) (N := 4) (fun d Z hd hZ => by
      obtain ⟨q3, q4⟩ := hZ
      have hA'' : rBd (Z.1 76) B := by rw [q3.2 76 (by decide)]; exact hA
      show ∃ Z', l_Mo_turnWay_303 75 (nI k) (nI d) (hp c Z) = l_Mo_turnWay_303 75 (nI k) (nI (d + 1)) (hp c Z') ∧ _
      rw [e_Mo_turnWay_303, if_neg (lit_nle (x := 4) (a := 4) (k := d) rfl (by omega) (by omega)), bO (g75_15 c _), bO (x4r (by omega) hd), q3.2 88 (by decide), h88 k d hk hd, ite_bi (bi1 (alA B a k d)), nI_1]
      cases hal : alA B a k d with
      | false =>
        rw [if_neg (by decide)]
        refine ⟨Z, rfl, q3, ?_⟩
        have hno : ∀ y, nb B k d = some y → a k y = false := by
          intro y hn
          unfold alA at hal
          rw [hn] at hal
          exact hal
        obtain ⟨w1, w2, w3, w4⟩ := q4
        refine ⟨fun x d' hx hd' hp ha => ?_, fun x hx hp => w2 x hx (fun d' hd' hp' => hp d' hd' (by omega)), fun x d' y hx hd' hp hn ha => ?_, fun y hy hp => w4 y hy (fun x d' hx hd' hp' => hp x d' hx hd' (by omega))⟩
        · by_cases ed : x = k ∧ d' = d
          · rw [ed.1, ed.2, hal] at ha; cases ha
          · exact w1 x d' hx hd' (by omega) ha
        · by_cases ed : x = k ∧ d' = d
          · rw [ed.1, ed.2] at hn
            rw [ed.1, hno y hn] at ha; cases ha
          · exact w3 x d' y hx hd' (by omega) hn ha
      | true =>
        obtain ⟨y, hn, ha⟩ := (alA_iff B a k d).mp hal
        have hy := nb_lt hs hk hn
        have eb := M_beside (c := c) (X := aI Z 85 (upd (Z.1 85) k (nI d))) hs (by rw [aI_o (by omega)]; exact hA'') hk hd
        rw [hn] at eb
        have eb' : ix_M mMo_beside [.ref 75, .int (nI k), .int (nI d)] (hp c (aI Z 85 (upd (Z.1 85) k (nI d)))) = some ([.int (nI y)], hp c (aI Z 85 (upd (Z.1 85) k (nI d)))) := eb
        have eo : ∀ h, ix_M mMo_opposite [.int (nI d)] h = some ([.int (nI (3 - d))], h) := fun h => x_Mo_opposite (by rw [e_Mo_opposite, show (3 : Int32) - nI d = nI (3 - d) from nI_sub (a := 3) (by omega)])
        rw [if_pos rfl, bO (g75_9 c _), bO (s85 (by omega)), bO (g75_10 c _), kI_of eb', kI_of (eo _), bO (s86 (by omega)), aI_o (by omega)]
        refine ⟨_, rfl, eX_aI (eX_aI q3 (by decide)) (by decide), ?_⟩
        obtain ⟨w1, w2, w3, w4⟩ := q4
        unfold gcI
        rw [aI_1, aI_o (by omega), aI_1]
        refine ⟨fun x d' hx hd' hp ha' => ?_, fun x hx hp => ?_, fun x d' y' hx hd' hp hn' ha' => ?_, fun y' hy' hp => ?_⟩
        · by_cases ex : x = k
          · rw [ex, upd_1]
            rw [ex] at ha'
            obtain ⟨y2, hn2, ha2⟩ := (alA_iff B a k d').mp ha'
            have hy2 := nb_lt hs hk hn2
            have := DF_one (by omega) h64 hf.1 hk hy hy2 ha ha2
            rw [← this] at hn2
            rw [nb_one hs hk hd hd' hn hn2]
          · rw [upd_n _ _ ex]
            exact w1 x d' hx hd' (by omega) ha'
        · have ex : ¬ x = k := by
            intro ex
            have := hp d hd (.inr ⟨ex, by omega⟩)
            rw [ex, hal] at this; cases this
          rw [upd_n _ _ ex]
          exact w2 x hx (fun d' hd' hp' => hp d' hd' (by omega))
        · have hy' := nb_lt hs hx hn'
          by_cases ey : y' = y
          · rw [ey] at hn' ha'
            have exk := DF_one2 (by omega) h64 hf.1 hy hx hk ha' ha
            rw [exk] at hn'
            have edd := nb_one hs hk hd hd' hn hn'
            rw [ey, upd_1, edd]
          · rw [upd_n _ _ ey]
            by_cases ed : x = k ∧ d' = d
            · rw [ed.1, ed.2, hn] at hn'
              exact absurd (Option.some.inj hn').symm ey
            · exact w3 x d' y' hx hd' (by omega) hn' ha'
        · have ey : ¬ y' = y := by
            intro ey
            have := hp k d hk hd (.inr ⟨rfl, by omega⟩) (by rw [ey]; exact hn)
            rw [ey, ha] at this; cases this
          rw [upd_n _ _ ey]
          exact w4 y' hy' (fun x d' hx hd' hp' => hp x d' hx hd' (by omega))) (k := 0) (s := Y) (by omega) ⟨q1, gcI_cong (fun x d hx hd => by omega) q2⟩
    have e3' : l_Mo_turnWay_303 75 (nI k) 0 (hp c Y) = l_Mo_turnWay_303 75 (nI k) (nI 4) (hp c Z) := e3
    refine ⟨Z, ?_, q3, gcI_cong (fun x d hx hd => by omega) q4⟩
    show l_Mo_turnWay_292 75 (nI k) (hp c Y) = l_Mo_turnWay_292 75 (nI (k + 1)) (hp c Z)
    rw [e_Mo_turnWay_292, kI_of (M_mcells hA'), if_neg (by rw [nI_leI (by omega) (by omega)]; omega), e3', e_Mo_turnWay_303, if_pos (show (4 : Int32) ≤ nI 4 by decide), nI_1]) (k := 0) (s := X) (by omega) ⟨eX_refl _ _, fun x d hx hd hp => absurd hp (Nat.not_lt_zero x), fun x hx _ => (h85 x hx).1, fun x d y hx hd hp => absurd hp (Nat.not_lt_zero x), fun y hy _ => (h85 y hy).2⟩
  have e1' : l_Mo_turnWay_292 75 0 (hp c X) = l_Mo_turnWay_292 75 (nI (bn B)) (hp c Y) := e1
  have hA' : rBd (Y.1 76) B := by rw [q1.2 76 (by decide)]; exact hA
  refine ⟨Y, ?_, q1, ?_⟩
  · rw [e1', e_Mo_turnWay_292, kI_of (M_mcells hA'), if_pos (by rw [nI_leI (by omega) (by omega)]; omega)]
  · obtain ⟨w1, w2, w3, w4⟩ := q2
    have noout : ∀ x, x < bn B → (e x = true ∨ t x = false) → ∀ d, d < 4 → x < bn B → alA B a x d = false := by
      intro x hx hq d hd _
      cases hal : alA B a x d with
      | false => rfl
      | true =>
        exfalso
        obtain ⟨y, hn, ha⟩ := (alA_iff B a x d).mp hal
        have := DF_arc (by omega) h64 hf.1 hx (nb_lt hs hx hn) ha
        rcases hq with hq | hq
        · rw [this.2.2.1] at hq; cases hq
        · rw [this.1] at hq; cases hq
    have noin : ∀ y, y < bn B → (b y = true ∨ t y = false) → ∀ x d, x < bn B → d < 4 → x < bn B → nb B x d = some y → a x y = false := by
      intro y hy hq x d hx hd _ hn
      cases ha : a x y with
      | false => rfl
      | true =>
        exfalso
        have := DF_arc (by omega) h64 hf.1 hx hy ha
        rcases hq with hq | hq
        · rw [this.2.2.2] at hq; cases hq
        · rw [this.2.1] at hq; cases hq
    intro x hx
    refine ⟨fun ht => ?_, fun hb => ?_, fun he => ?_, fun d y hd hn ha => ?_⟩
    · have hD := hf.1 x hx
      rw [ht, bNt_f, bNt_dec_f (show ¬ 200 = x by omega), bNt_dec_f (show ¬ 200 = 64 + x by omega)] at hD
      have hb : b x = false := by
        cases q : b x with
        | false => rfl
        | true => rw [q, bNt_t] at hD; omega
      have he : e x = false := by
        cases q : e x with
        | false => rfl
        | true => rw [q, bNt_t] at hD; omega
      refine ⟨?_, ?_⟩
      · rw [w2 x hx (noout x hx (.inr ht)), he]; rfl
      · rw [w4 x hx (noin x hx (.inr ht)), hb]; rfl
    · rw [w4 x hx (noin x hx (.inl hb)), hb]; rfl
    · rw [w2 x hx (noout x hx (.inl he)), he]; rfl
    · exact ⟨w1 x d hx hd hx ((alA_iff B a x d).mpr ⟨y, hn, ha⟩), w3 x d y hx hd hx hn ha⟩
theorem M_turnWay {c : ixK} {X : ixX} {B : bT} (hs : bS B) (hA : rBd (X.1 76) B) {O S T : Nat → Bool} {b e : Nat → Bool} {a : Nat → Nat → Bool} {t : Nat → Bool} {ns : List Nat} (hS : ∀ c, S c = true → O c = true) (hf : Flo (bn B) O S T (adjB B) b e a t) (hr : rF B X b e a t) (h : bq B O S a t X ns) {x : Nat} (hx : x < bn B) (hm : 64 + x ∈ ns) (hT : T x = true) (he : e x = false) : ∃ Y b2 e2 a2 t2, ix_M mMo_turnWay [.ref 75, .int (nI x)] (hp c X) = some ([], hp c Y) ∧ eX [85, 86, 88, 89, 90] X Y ∧ Flo (bn B) O S T (adjB B) b2 e2 a2 t2 ∧ rF B Y b2 e2 a2 t2 ∧ fb_ct b2 (bn B) = fb_ct b (bn B) + 1 := by
  have h64 := bS_64 hs
  obtain ⟨Y1, e1, q1, q2⟩ := L_tw2 (c := c) hs hA hf hr (nI x)
  have hA1 : rBd (Y1.1 76) B := by rw [q1.2 76 (by decide)]; exact hA
  obtain ⟨i, hi, ei⟩ := mem_gd ns _ hm
  obtain ⟨Y2, hY2⟩ : ∃ Z, Z = aI Y1 90 (upd (Y1.1 90) x 1) := ⟨_, rfl⟩
  have x2 : eX [88, 89, 90] X Y2 := by rw [hY2]; exact eX_aI q1 (by decide)
  have hbq : bq B O S a t X ns := h
  have t2 : tA B Y2 b (up1 e x true) a := by
    intro y hy
    obtain ⟨w1, w2, w3⟩ := q2 y hy
    rw [hY2, aI_o (by omega), aI_1, aI_o (by omega)]
    refine ⟨w1, ?_, w3⟩
    by_cases ey : y = x
    · rw [ey, upd_1, up1_1]; rfl
    · rw [upd_n _ _ ey, up1_n _ _ ey]; exact w2
  have hO := bq_O hs hS hf h i hi x hx (.inr ei)
  have hD : DF (bn B) b (up1 e x true) a t (ns.getD i 0) := by
    rw [ei]
    exact DF_0 h64 (by omega) hx hf.1 he
  obtain ⟨Z, b2, a2, t2', e3, q3, q4, q5, q6⟩ := L_walk (c := c) (X0 := X) hs hA hS hf h (e' := up1 e x true) (fun y hy hey => by
    by_cases ey : y = x
    · rw [ey]; exact ⟨hO, hT⟩
    · rw [up1_n _ _ ey] at hey
      exact hf.2.2.1 y hy hey) i hi Y2 a t x2 t2 hD hf.2.2.2.1 hf.2.2.2.2 (fun _ _ _ _ _ _ _ => rfl) (fun _ _ _ _ _ => rfl)
  have hA3 : rBd (Z.1 76) B := by rw [q3.2 76 (by decide)]; exact hA
  obtain ⟨W, e4, q7, q8⟩ := L_tw232 (c := c) hs hA3 q4
  have hA4 : rBd (W.1 76) B := by rw [q7.2 76 (by decide)]; exact hA3
  obtain ⟨V, e5, q9, q10⟩ := L_tw292 (c := c) hs hA4 q5 (fun y d hy hd => by rw [q7.2 88 (by decide)]; exact (q4 y hy).2.2 d hd) q8
  refine ⟨V, b2, up1 e x true, a2, t2', x_Mo_turnWay (rc_75 c X) ?_, ?_, q5, q10, q6⟩
  · rw [e_Mo_turnWay, e1, e_Mo_turnWay_2, kI_of (M_mcells hA1), if_pos (by rw [nI_leI (by omega) (by omega)]; omega), bO (g75_17 c _), bO (s90 (by omega)), ← hY2, show (64 : Int32) + nI x = nI (64 + x) from nI_add 64 x, ← ei, e3, e4, e5]
  · exact eX_trans (eX_mono q3 (by decide)) (eX_trans (eX_mono q7 (by decide)) (eX_mono q9 (by decide)))
theorem L_layFlow {c : ixK} {B : bT} (hs : bS B) (hr4 : ∀ c, brl B c < 4) {X0 : ixX} {r1 r2 : Nat} (h1 : r1 < 4) (h2 : r2 < 4) (hA : rBd (X0.1 76) B) (f12 : X0.1 75 12 = nI r1) (f13 : X0.1 75 13 = nI r2) : ∀ (n v : Nat) (X : ixX) (o : Option Nat) (ns : List Nat) (b e : Nat → Bool) (a : Nat → Nat → Bool) (t : Nat → Bool), v + n = bn B + 1 → eX [75, 84, 85, 86, 87, 88, 89, 90] X0 X → (∀ k, ¬ k = 14 → X.1 75 k = X0.1 75 k) → Flo (bn B) (bop B) (bro B r1) (bro B r2) (adjB B) b e a t → rF B X b e a t → fb_ct b (bn B) = v → bq B (bop B) (bro B r1) a t X ns → nsC B (bop B) (bro B r1) a t ns → ((o = none ∧ ∀ x, x < bn B → 64 + x ∈ ns → bro B r2 x = true → e x = true) ∨ ∃ x, o = some x ∧ x < bn B ∧ 64 + x ∈ ns ∧ bro B r2 x = true ∧ e x = false) → ∃ Y v', ∃ ns' : List Nat, l_Mo_layFlow_48 75 (nI v) (oI o) (hp c X) = some ([.int (nI v')], hp c Y) ∧ eX [75, 84, 85, 86, 87, 88, 89, 90] X0 Y ∧ (∀ k, ¬ k = 14 → Y.1 75 k = X0.1 75 k) ∧ FlowR B (bop B) (bro B r1) (bro B r2) v' (fun c => decide (c ∈ ns')) (fun c => decide (64 + c ∈ ns')) ∧ (∀ w, w < 128 → (Y.1 87 w = -6 ↔ ¬ w ∈ ns')) ∧ v' ≤ 64 := by
  have h64 := bS_64 hs
  have hS : ∀ c, bro B r1 c = true → bop B c = true := fun c hc => by
    unfold bro at hc
    simp only [Bool.and_eq_true] at hc
    exact hc.2
  intro n
  induction n with
  | zero =>
    intro v X o ns b e a t hv _ _ _ _ hb
    have := fb_ct_le b (bn B)
    omega
  | succ n ih =>
    intro v X o ns b e a t hv hX hk hf hr hb hq hC ho
    have hA' : rBd (X.1 76) B := by rw [hX.2 76 (by decide)]; exact hA
    rcases ho with ⟨ho, hT⟩ | ⟨x, ho, hx, hm, hT, he⟩
    · refine ⟨X, v, ns, ?_, hX, hk, ⟨b, e, a, t, hf, bq_fin hs hS hf hq hC hT, hb⟩, fun w hw => bq_iff hs hq hw, ?_⟩
      · rw [e_Mo_layFlow_48, ho, if_pos (show oI none < 0 by decide)]
      · have := fb_ct_le b (bn B)
        omega
    · obtain ⟨Y, b2, e2, a2, t2, w1, w2, w3, w4, w5⟩ := M_turnWay (c := c) hs hA' hS hf hr hq hx hm hT he
      have hY : eX [75, 84, 85, 86, 87, 88, 89, 90] X0 Y := eX_trans hX (eX_mono w2 (by decide))
      have hkY : ∀ k, ¬ k = 14 → Y.1 75 k = X0.1 75 k := fun k hk2 => by rw [w2.2 75 (by decide)]; exact hk k hk2
      obtain ⟨Z, o2, ns2, s1, s2, s3, s4, s5, s6⟩ := M_msearch (c := c) hs hr4 (by rw [hY.2 76 (by decide)]; exact hA) (by rw [hkY 12 (by omega)]; exact f12) (by rw [hkY 13 (by omega)]; exact f13) h1 h2 w3 w4
      have hr2 : rF B Z b2 e2 a2 t2 := by
        unfold rF
        rw [s2.2 85 (by decide), s2.2 86 (by decide)]
        exact w4
      obtain ⟨V, v', ns', i1, i2⟩ := ih (v + 1) Z o2 ns2 b2 e2 a2 t2 (by omega) (eX_trans hY (eX_mono s2 (by decide))) (fun k hk2 => (s3 k hk2).trans (hkY k hk2)) w3 hr2 (by omega) s4 s5 s6
      refine ⟨V, v', ns', ?_, i2⟩
      rw [e_Mo_layFlow_48, ho, show oI (some x) = nI x from rfl, if_neg (nI_pos (by omega)), kV_of w1, kI_of s1, nI_1, i1]
theorem M_layFlow {c : ixK} {X : ixX} {B : bT} (hs : bS B) (hr4 : ∀ c, brl B c < 4) (hA : rBd (X.1 76) B) {r1 r2 : Nat} (h1 : r1 < 4) (h2 : r2 < 4) : ∃ Y v, ∃ ns : List Nat, ix_M mMo_layFlow [.ref 75, .int (nI r1), .int (nI r2)] (hp c X) = some ([.int (nI v)], hp c Y) ∧ eX [75, 84, 85, 86, 87, 88, 89, 90] X Y ∧ Y.1 75 31 = X.1 75 31 ∧ FlowR B (bop B) (bro B r1) (bro B r2) v (fun c => decide (c ∈ ns)) (fun c => decide (64 + c ∈ ns)) ∧ (∀ w, w < 128 → (Y.1 87 w = -6 ↔ ¬ w ∈ ns)) ∧ v ≤ 64 := by
  have h64 := bS_64 hs
  obtain ⟨X1, hX1⟩ : ∃ Y, Y = aI (aI X 75 (upd (X.1 75) 12 (nI r1))) 75 (upd (upd (X.1 75) 12 (nI r1)) 13 (nI r2)) := ⟨_, rfl⟩
  have x1 : eX [75, 84, 85, 86, 87, 88, 89, 90] X X1 := by rw [hX1]; exact eX_aI (eX_aI (eX_refl _ _) (by decide)) (by decide)
  have f12 : X1.1 75 12 = nI r1 := by rw [hX1, aI_1, upd_n _ _ (by omega), upd_1]
  have f13 : X1.1 75 13 = nI r2 := by rw [hX1, aI_1, upd_1]
  have f31 : X1.1 75 31 = X.1 75 31 := by rw [hX1, aI_1, upd_n _ _ (by omega), upd_n _ _ (by omega)]
  have hA1 : rBd (X1.1 76) B := by rw [x1.2 76 (by decide)]; exact hA
  obtain ⟨Y, e1, q1, q2⟩ := lp_up (fun k (Y : ixX) => l_Mo_layFlow_12 75 (nI k) (hp c Y)) (fun k Y => eX [85, 86] X1 Y ∧ ∀ x, x < k → Y.1 85 x = -6 ∧ Y.1 86 x = -6) (N := 64) (fun k Y hk hY => by
    obtain ⟨q1, q2⟩ := hY
    refine ⟨aI (aI Y 85 (upd (Y.1 85) k (-6))) 86 (upd (Y.1 86) k (-6)), ?_, eX_aI (eX_aI q1 (by decide)) (by decide), fun x hx => ?_⟩
    · show l_Mo_layFlow_12 75 (nI k) (hp c Y) = l_Mo_layFlow_12 75 (nI (k + 1)) (hp c _)
      rw [e_Mo_layFlow_12, if_neg (lit_nle (x := 64) (a := 64) (k := k) rfl (by omega) (by omega)), bO (g75_9 c _), bO (s85 hk), bO (g75_10 c _), bO (s86 hk), aI_o (by omega), nI_1]
    · rw [aI_1, aI_o (by omega), aI_1]
      by_cases ex : x = k
      · rw [ex, upd_1, upd_1]; exact ⟨rfl, rfl⟩
      · rw [upd_n _ _ ex, upd_n _ _ ex]; exact q2 x (by omega)) (k := 0) (s := X1) (by omega) ⟨eX_refl _ _, fun x hx => absurd hx (Nat.not_lt_zero x)⟩
  have e1' : l_Mo_layFlow_12 75 0 (hp c X1) = l_Mo_layFlow_12 75 (nI 64) (hp c Y) := e1
  have hf : Flo (bn B) (bop B) (bro B r1) (bro B r2) (adjB B) (fun _ => false) (fun _ => false) (fun _ _ => false) (fun _ => false) := by
    refine ⟨fun x hx => ?_, fun c _ h => (by cases h), fun c _ h => (by cases h), fun c d _ _ h => (by cases h), fun c _ h => (by cases h)⟩
    rw [bNt_dec_f (show ¬ 200 = x by omega), bNt_dec_f (show ¬ 200 = 64 + x by omega)]
    have : fb_sm (fun _ => bNt false) (bn B) = 0 := sm_0 _
    rw [this]
    exact ⟨rfl, rfl⟩
  have hr : rF B Y (fun _ => false) (fun _ => false) (fun _ _ => false) (fun _ => false) := fun x hx => ⟨fun _ => q2 x (by omega), fun h => (by cases h), fun h => (by cases h), fun d y _ _ h => (by cases h)⟩
  have hAY : rBd (Y.1 76) B := by rw [q1.2 76 (by decide)]; exact hA1
  have f75 : Y.1 75 = X1.1 75 := q1.2 75 (by decide)
  obtain ⟨Z, o2, ns2, s1, s2, s3, s4, s5, s6⟩ := M_msearch (c := c) hs hr4 hAY (by rw [f75]; exact f12) (by rw [f75]; exact f13) h1 h2 hf hr
  have hr2 : rF B Z (fun _ => false) (fun _ => false) (fun _ _ => false) (fun _ => false) := by
    unfold rF
    rw [s2.2 85 (by decide), s2.2 86 (by decide)]
    exact hr
  obtain ⟨V, v', ns', i1, i2, i3, i4, i5, i6⟩ := L_layFlow (c := c) hs hr4 h1 h2 hA1 f12 f13 (bn B + 1) 0 Z o2 ns2 _ _ _ _ (by omega) (eX_trans (eX_mono q1 (by decide)) (eX_mono s2 (by decide))) (fun k hk => by rw [s3 k hk, f75]) hf hr2 (fb_ct_zero.mpr fun _ _ => rfl) s4 s5 s6
  refine ⟨V, v', ns', x_Mo_layFlow (rc_75 c X) ?_, eX_trans x1 i2, by rw [i3 31 (by omega)]; exact f31, i4, i5, i6⟩
  rw [e_Mo_layFlow, bO (p75_12 c _ _), bO (p75_13 c _ _), aI_1, ← hX1, e1', e_Mo_layFlow_12, if_pos (show (64 : Int32) ≤ nI 64 by decide), kI_of s1]
  exact i1
