/-! REFERENCE: a way is turned into routes -/
def alB (B : bT) (a : Nat → Nat → Bool) (c d : Nat) : Bool := match nb B c d with
  | some x => a c x
  | none => false
theorem alB_iff (B : bT) (a : Nat → Nat → Bool) (c d : Nat) : alB B a c d = true ↔ ∃ x, nb B c d = some x ∧ a c x = true := by
  unfold alB
  cases nb B c d with
  | none => exact ⟨fun h => (by cases h), fun ⟨x, h, _⟩ => (by cases h)⟩
  | some x => exact ⟨fun h => ⟨x, rfl, h⟩, fun ⟨y, h, h2⟩ => by
      have : x = y := Option.some.inj h
      rw [this]
      exact h2⟩
def tA (B : bT) (X : ixX) (b e : Nat → Bool) (a : Nat → Nat → Bool) : Prop := ∀ c, c < bn B → X.1 89 c = ix_bi (b c) ∧ X.1 90 c = ix_bi (e c) ∧ ∀ d, d < 4 → X.1 88 (4 * c + d) = ix_bi (alB B a c d)
theorem cm_4 {B : bT} (hs : bS B) {O S T : Nat → Bool} {X : ixX} {b e : Nat → Bool} {a : Nat → Nat → Bool} {t : Nat → Bool} (hf : Flo (bn B) O S T (adjB B) b e a t) (h : rF B X b e a t) {c : Nat} (hc : c < bn B) : X.1 86 c = 4 ↔ b c = true := by
  constructor
  · intro h4
    rcases rF_cm hs hf h hc with ⟨_, g⟩ | ⟨g, _⟩ | ⟨d, x, hd, _, _, _, g⟩
    · rw [g] at h4; exact absurd h4 (by decide)
    · exact g
    · rw [g] at h4
      have h5 : nI d = nI 4 := h4
      rw [nI_eq (by omega) (by omega)] at h5
      omega
  · intro he
    exact (h c hc).2.1 he
theorem go_d {B : bT} (hs : bS B) {O S T : Nat → Bool} {X : ixX} {b e : Nat → Bool} {a : Nat → Nat → Bool} {t : Nat → Bool} (hf : Flo (bn B) O S T (adjB B) b e a t) (h : rF B X b e a t) {c d : Nat} (hc : c < bn B) (hd : d < 4) : X.1 85 c = nI d ↔ alB B a c d = true := by
  rw [alB_iff]
  constructor
  · intro h4
    rcases rF_go hs hf h hc with ⟨_, g⟩ | ⟨_, g⟩ | ⟨d2, x, hd2, g1, _, g2, g⟩
    · exact absurd (h4.symm.trans g) (m6_ne (by omega))
    · have h5 : nI d = nI 4 := h4.symm.trans g
      rw [nI_eq (by omega) (by omega)] at h5
      omega
    · have h5 := h4.symm.trans g
      rw [nI_eq (by omega) (by omega)] at h5
      rw [h5]
      exact ⟨x, g1, g2⟩
  · rintro ⟨x, h1, h2⟩
    exact ((h c hc).2.2.2 d x hd h1 h2).1
theorem ite_bi {α : Type} {p : Prop} [Decidable p] {b : Bool} (h : p ↔ b = true) (x y : α) : (if ¬ p then x else y) = if b = true then y else x := by
  by_cases q : p
  · rw [if_neg (fun n => n q), if_pos (h.mp q)]
  · rw [if_pos q, if_neg (fun n => q (h.mpr n))]
theorem bi_ite (b : Bool) : (if b = true then (1 : Int32) else 0) = ix_bi b := by cases b <;> rfl
theorem x4 (c d : Nat) : (4 : Int32) * nI c + nI d = nI (4 * c + d) := by
  rw [show (4 : Int32) * nI c = nI (4 * c) from nI_mul 4 c]
  exact nI_add _ _
theorem x4r {c : ixK} {X : ixX} {x d : Nat} (hx : x < 64) (hd : d < 4) : ix_ai (hp c X) 88 ((4 : Int32) * nI x + nI d) = some (X.1 88 (4 * x + d)) := by
  rw [x4]
  exact r88 (by omega)
theorem x4s {c : ixK} {X : ixX} {x d : Nat} {v : Int32} (hx : x < 64) (hd : d < 4) : ix_si (hp c X) 88 ((4 : Int32) * nI x + nI d) v = some (hp c (aI X 88 (upd (X.1 88) (4 * x + d) v))) := by
  rw [x4]
  exact s88 (by omega)
/-- the arrays of a way's turning, laid from the routes -/
theorem L_tw2 {c : ixK} {X : ixX} {B : bT} (hs : bS B) (hA : rBd (X.1 76) B) {O S T : Nat → Bool} {b e : Nat → Bool} {a : Nat → Nat → Bool} {t : Nat → Bool} (hf : Flo (bn B) O S T (adjB B) b e a t) (hr : rF B X b e a t) (x1 : Int32) : ∃ Y, l_Mo_turnWay_2 75 x1 0 (hp c X) = l_Mo_turnWay_2 75 x1 (nI (bn B)) (hp c Y) ∧ eX [88, 89, 90] X Y ∧ tA B Y b e a := by
  have h64 := bS_64 hs
  obtain ⟨Y, e1, q1, q2⟩ := lp_up (fun k (Y : ixX) => l_Mo_turnWay_2 75 x1 (nI k) (hp c Y)) (fun k Y => eX [88, 89, 90] X Y ∧ ∀ c, c < k → Y.1 89 c = ix_bi (b c) ∧ Y.1 90 c = ix_bi (e c) ∧ ∀ d, d < 4 → Y.1 88 (4 * c + d) = ix_bi (alB B a c d)) (N := bn B) (fun k Y hk hY => by
    obtain ⟨q1, q2⟩ := hY
    have hA' : rBd (Y.1 76) B := by rw [q1.2 76 (by decide)]; exact hA
    obtain ⟨Y1, hY1⟩ : ∃ Z, Z = aI Y 89 (upd (Y.1 89) k (ix_bi (b k))) := ⟨_, rfl⟩
    obtain ⟨Y2, hY2⟩ : ∃ Z, Z = aI Y1 90 (upd (Y.1 90) k (ix_bi (e k))) := ⟨_, rfl⟩
    have s1 : l_Mo_turnWay_2 75 x1 (nI k) (hp c Y) = l_Mo_turnWay_30 75 x1 (nI k) 89 (nI k) (b k) (hp c Y) := by
      rw [e_Mo_turnWay_2, kI_of (M_mcells hA'), if_neg (by rw [nI_leI (by omega) (by omega)]; omega), bO (g75_16 c _), bO (g75_10 c _), bO (r86 (by omega)), q1.2 86 (by decide), ite_bi (cm_4 hs hf hr hk)]
      cases b k <;> rfl
    have s2 : l_Mo_turnWay_30 75 x1 (nI k) 89 (nI k) (b k) (hp c Y) = l_Mo_turnWay_54 75 x1 (nI k) 0 (hp c Y2) := by
      rw [e_Mo_turnWay_30, bO (s89 (show k < 64 by omega)), ← hY1, bO (g75_17 c _), bO (g75_9 c _), bO (r85 (by omega))]
      have e85 : Y1.1 85 = X.1 85 := by rw [hY1, aI_o (by omega)]; exact q1.2 85 (by decide)
      have e90 : Y1.1 90 = Y.1 90 := by rw [hY1, aI_o (by omega)]
      rw [e85, ite_bi (go_4 hs hf hr hk)]
      cases he : e k with
      | true => rw [if_pos rfl, bO (s90 (show k < 64 by omega)), e90, hY2, he]; rfl
      | false => rw [if_neg (by decide), bO (s90 (show k < 64 by omega)), e90, hY2, he]; rfl
    have x2 : eX [88, 89, 90] X Y2 := by rw [hY2, hY1]; exact eX_aI (eX_aI q1 (by decide)) (by decide)
    obtain ⟨Y3, e3, q3, q4, q5⟩ := lp_up (fun d (Z : ixX) => l_Mo_turnWay_54 75 x1 (nI k) (nI d) (hp c Z)) (fun d Z => eX [88, 89, 90] X Z ∧ (Z.1 89 = Y2.1 89 ∧ Z.1 90 = Y2.1 90 ∧ ∀ j, j < 4 * k → Z.1 88 j = Y2.1 88 j) ∧ ∀ d', d' < d → Z.1 88 (4 * k + d') = ix_bi (alB B a k d')) (N := 4) (fun d Z hd hZ => by
      obtain ⟨q3, q4, q5⟩ := hZ
      refine ⟨aI Z 88 (upd (Z.1 88) (4 * k + d) (ix_bi (alB B a k d))), ?_, eX_aI q3 (by decide), ⟨by rw [aI_o (by omega)]; exact q4.1, by rw [aI_o (by omega)]; exact q4.2.1, fun j hj => ?_⟩, fun d' hd' => ?_⟩
      · show l_Mo_turnWay_54 75 x1 (nI k) (nI d) (hp c Z) = l_Mo_turnWay_54 75 x1 (nI k) (nI (d + 1)) (hp c _)
        rw [e_Mo_turnWay_54, if_neg (show ¬ nI 4 ≤ nI d by rw [nI_leI (by omega) (by omega)]; omega), bO (g75_15 c _), bO (g75_9 c _), bO (r85 (by omega)), q3.2 85 (by decide), ite_bi (go_d hs hf hr hk hd), nI_1]
        cases hal : alB B a k d with
        | true => rw [if_pos rfl, bO (x4s (by omega) hd)]; rfl
        | false => rw [if_neg (by decide), bO (x4s (by omega) hd)]; rfl
      · rw [aI_1, upd_n _ _ (by omega)]
        exact q4.2.2 j hj
      · rw [aI_1]
        by_cases ed : d' = d
        · rw [ed, upd_1]
        · rw [upd_n _ _ (by omega)]
          exact q5 d' (by omega)) (k := 0) (s := Y2) (by omega) ⟨x2, ⟨rfl, rfl, fun _ _ => rfl⟩, fun d' hd' => absurd hd' (Nat.not_lt_zero d')⟩
    have e3' : l_Mo_turnWay_54 75 x1 (nI k) 0 (hp c Y2) = l_Mo_turnWay_54 75 x1 (nI k) (nI 4) (hp c Y3) := e3
    refine ⟨Y3, ?_, q3, fun y hy => ?_⟩
    · show l_Mo_turnWay_2 75 x1 (nI k) (hp c Y) = l_Mo_turnWay_2 75 x1 (nI (k + 1)) (hp c Y3)
      rw [s1, s2, e3', e_Mo_turnWay_54, if_pos (show (4 : Int32) ≤ nI 4 by decide), nI_1]
    · have e89 : Y2.1 89 = upd (Y.1 89) k (ix_bi (b k)) := by rw [hY2, aI_o (by omega), hY1, aI_1]
      have e90 : Y2.1 90 = upd (Y.1 90) k (ix_bi (e k)) := by rw [hY2, aI_1]
      have e88 : Y2.1 88 = Y.1 88 := by rw [hY2, aI_o (by omega), hY1, aI_o (by omega)]
      rw [q4.1, q4.2.1, e89, e90]
      by_cases ey : y = k
      · rw [ey, upd_1, upd_1]
        exact ⟨rfl, rfl, q5⟩
      · rw [upd_n _ _ ey, upd_n _ _ ey]
        have := q2 y (by omega)
        refine ⟨this.1, this.2.1, fun d hd => ?_⟩
        rw [q4.2.2 _ (by omega), e88]
        exact this.2.2 d hd) (k := 0) (s := X) (by omega) ⟨eX_refl _ _, fun y hy => absurd hy (Nat.not_lt_zero y)⟩
  exact ⟨Y, e1, q1, q2⟩
theorem M_directionTo {c : ixK} {X : ixX} {B : bT} (hs : bS B) (hA : rBd (X.1 76) B) {x y d : Nat} (hx : x < bn B) (hd : d < 4) (hn : nb B x d = some y) : ix_M mMo_directionTo [.ref 75, .int (nI x), .int (nI y)] (hp c X) = some ([.int (nI d)], hp c X) := by
  have h64 := bS_64 hs
  have hy := nb_lt hs hx hn
  refine x_Mo_directionTo (rc_75 c X) ?_
  have e := lp_f (fun k (_ : Unit) => l_Mo_directionTo_2 75 (nI x) (nI y) (nI k) (hp c X)) (fun _ => ()) (N := d) (fun k hk => by
    show l_Mo_directionTo_2 75 (nI x) (nI y) (nI k) (hp c X) = l_Mo_directionTo_2 75 (nI x) (nI y) (nI (k + 1)) (hp c X)
    have hne : ¬ oI (nb B x k) = nI y := by
      cases hq : nb B x k with
      | none => exact fun e => m6_ne (show y < 2147483648 by omega) e.symm
      | some z =>
        have hz := nb_lt hs hx hq
        show ¬ nI z = nI y
        rw [nI_eq (by omega) (by omega)]
        intro ez
        rw [ez] at hq
        have := nb_one hs hx (show k < 4 by omega) hd hq hn
        omega
    rw [e_Mo_directionTo_2, kI_of (M_beside hs hA hx (show k < 4 by omega)), if_neg hne, nI_1]) (k := 0) (by omega)
  have e2 : l_Mo_directionTo_2 75 (nI x) (nI y) 0 (hp c X) = l_Mo_directionTo_2 75 (nI x) (nI y) (nI d) (hp c X) := e
  rw [e_Mo_directionTo, e2, e_Mo_directionTo_2, kI_of (M_beside hs hA hx hd), hn]
  exact if_pos rfl
theorem bq_O {B : bT} {O S T : Nat → Bool} {X : ixX} {b e : Nat → Bool} {a : Nat → Nat → Bool} {t : Nat → Bool} {ns : List Nat} (hs : bS B) (hS : ∀ c, S c = true → O c = true) (hf : Flo (bn B) O S T (adjB B) b e a t) (h : bq B O S a t X ns) : ∀ i, i < ns.length → ∀ c, c < bn B → (ns.getD i 0 = c ∨ ns.getD i 0 = 64 + c) → O c = true := by
  have h64 := bS_64 hs
  intro i
  induction i using Nat.strongRecOn with
  | _ i ih =>
    intro hi c hc hv
    rcases h.2.2.2.2.2 i hi with ⟨_, g1, g2⟩ | ⟨j, hj, _, c1, x1, hc1, hx1, g⟩
    · have : ns.getD i 0 = c := by omega
      rw [this] at g2
      exact hS c g2
    · rcases g with ⟨g1, g2, g3⟩ | ⟨g1, g2, g3⟩ | ⟨g1, g2, g3, g4, g5⟩ | ⟨g1, g2, g3⟩
      · have : c = c1 := by omega
        rw [this]
        exact ih j hj (by omega) c1 hc1 (.inl g1)
      · have : c = x1 := by omega
        rw [this]
        exact (hf.2.2.2.1 x1 c1 hx1 hc1 g3).1
      · have : c = x1 := by omega
        rw [this]
        exact g4
      · have : c = c1 := by omega
        rw [this]
        exact hf.2.2.2.2 c1 hc1 g3
theorem rem_in {x : Nat} (hx : x < 64) : ix_rem (nI x) 64 = nI x := by
  have := nI_rem (a := x) (b := 64) (by omega) (by omega)
  rw [Nat.mod_eq_of_lt hx] at this
  exact this
theorem rem_out {x : Nat} (hx : x < 64) : ix_rem (nI (64 + x)) 64 = nI x := by
  have := nI_rem (a := 64 + x) (b := 64) (by omega) (by omega)
  rw [Nat.add_mod_left, Nat.mod_eq_of_lt hx] at this
  exact this
theorem alB_up2 {B : bT} (hs : bS B) {a : Nat → Nat → Bool} {x y d : Nat} (hx : x < bn B) (hd : d < 4) (hn : nb B x d = some y) (v : Bool) {c k : Nat} (hk : k < 4) : alB B (up2 a x y v) c k = if c = x ∧ k = d then v else alB B a c k := by
  by_cases q : c = x ∧ k = d
  · rw [if_pos q, q.1, q.2]
    unfold alB
    rw [hn]
    exact up2_1 a x y v
  · rw [if_neg q]
    unfold alB
    cases hq : nb B c k with
    | none => rfl
    | some z =>
      show up2 a x y v c z = a c z
      refine up2_n _ _ (fun z2 => q ⟨z2.1, ?_⟩)
      rw [z2.1, z2.2] at hq
      exact nb_one hs hx hk hd hq hn
theorem tA_88 {B : bT} (hs : bS B) {Y : ixX} {b e : Nat → Bool} {a : Nat → Nat → Bool} (h : tA B Y b e a) {x y d : Nat} (hx : x < bn B) (hd : d < 4) (hn : nb B x d = some y) (v : Bool) {w : Int32} (hw : w = ix_bi v) : tA B (aI Y 88 (upd (Y.1 88) (4 * x + d) w)) b e (up2 a x y v) := by
  intro c hc
  obtain ⟨h1, h2, h3⟩ := h c hc
  refine ⟨by rw [aI_o (by omega)]; exact h1, by rw [aI_o (by omega)]; exact h2, fun k hk => ?_⟩
  rw [aI_1, alB_up2 hs hx hd hn v hk]
  by_cases q : c = x ∧ k = d
  · rw [if_pos q, q.1, q.2, upd_1, hw]
  · rw [if_neg q, upd_n _ _ (by omega)]
    exact h3 k hk
/-- back along the way -/
theorem L_walk {c : ixK} {X0 : ixX} {B : bT} (hs : bS B) (hA : rBd (X0.1 76) B) {O S T : Nat → Bool} {b e : Nat → Bool} {a : Nat → Nat → Bool} {t : Nat → Bool} {ns : List Nat} (hS : ∀ c, S c = true → O c = true) (hf : Flo (bn B) O S T (adjB B) b e a t) (h : bq B O S a t X0 ns) {e' : Nat → Bool} (he : ∀ c, c < bn B → e' c = true → O c = true ∧ T c = true) : ∀ i, i < ns.length → ∀ (Y : ixX) (a' : Nat → Nat → Bool) (t' : Nat → Bool), eX [88, 89, 90] X0 Y → tA B Y b e' a' → DF (bn B) b e' a' t' (ns.getD i 0) → (∀ c d, c < bn B → d < bn B → a' c d = true → O c = true ∧ O d = true ∧ adjB B c d = true) → (∀ c, c < bn B → t' c = true → O c = true) → (∀ c x j, c < bn B → x < bn B → j < i → (ns.getD j 0 = c ∨ ns.getD j 0 = 64 + x) → a' x c = a x c) → (∀ c j, c < bn B → j < i → (ns.getD j 0 = c ∨ ns.getD j 0 = 64 + c) → t' c = t c) → ∃ Z b2 a2 t2, l_Mo_turnWay_108 75 (nI (ns.getD i 0)) (hp c Y) = l_Mo_turnWay_232 75 0 (hp c Z) ∧ eX [88, 89, 90] X0 Z ∧ tA B Z b2 e' a2 ∧ Flo (bn B) O S T (adjB B) b2 e' a2 t2 ∧ fb_ct b2 (bn B) = fb_ct b (bn B) + 1 := by
  have h64 := bS_64 hs
  intro i
  induction i using Nat.strongRecOn with
  | _ i ih =>
    intro hi Y a' t' hY htA hD hadm hto hua hut
    have hA' : rBd (Y.1 76) B := by rw [hY.2 76 (by decide)]; exact hA
    have e87 : Y.1 87 = X0.1 87 := hY.2 87 (by decide)
    have hnv := ndOK_lt hs (h.2.2.2.1 _ (gd_mem ns i hi))
    have hdist : ∀ j k, j < k → k < ns.length → ¬ ns.getD j 0 = ns.getD k 0 := fun j k h1 h2 => nd_gd ns h.2.2.1 j k h1 h2
    rcases h.2.2.2.2.2 i hi with ⟨g0, g1, g2⟩ | ⟨j, hj, g0, c1, x1, hc1, hx1, g⟩
    · refine ⟨aI Y 89 (upd (Y.1 89) (ns.getD i 0) 1), up1 b (ns.getD i 0) true, a', t', ?_, eX_aI hY (by decide), ?_, ⟨DF_5 h64 (by omega) g1 hD, ?_, he, hadm, hto⟩, ct_up1 g1 (DF_in g1 hD).2⟩
      · rw [e_Mo_turnWay_108, bO (g75_11 c _), bO (r87 hnv), e87, g0, if_pos (by decide), bO (g75_16 c _), bO (s89 (by omega))]
      · intro y hy
        obtain ⟨t1, t2, t3⟩ := htA y hy
        refine ⟨?_, by rw [aI_o (by omega)]; exact t2, fun d hd => by rw [aI_o (by omega)]; exact t3 d hd⟩
        rw [aI_1]
        by_cases ey : y = ns.getD i 0
        · rw [← ey, upd_1, up1_1]; rfl
        · rw [upd_n _ _ ey, up1_n _ _ ey]; exact t1
      · intro y hy hb
        by_cases ey : y = ns.getD i 0
        · rw [ey]; exact ⟨hS _ g2, g2⟩
        · rw [up1_n _ _ ey] at hb
          exact hf.2.1 y hy hb
    · have hjl : j < ns.length := by omega
      have hnu := ndOK_lt hs (h.2.2.2.1 _ (gd_mem ns j hjl))
      have hgo := ih j hj hjl
      have hne200 : ¬ nI (ns.getD j 0) = 200 := by
        show ¬ nI (ns.getD j 0) = nI 200
        rw [nI_eq (by omega) (by omega)]
        omega
      have start : l_Mo_turnWay_108 75 (nI (ns.getD i 0)) (hp c Y) = if nI (ns.getD j 0) < 64 then l_Mo_turnWay_180 75 (nI (ns.getD i 0)) (nI (ns.getD j 0)) (ix_rem (nI (ns.getD j 0)) 64) (ix_rem (nI (ns.getD i 0)) 64) (hp c Y) else if 64 ≤ nI (ns.getD i 0) then l_Mo_turnWay_180 75 (nI (ns.getD i 0)) (nI (ns.getD j 0)) (ix_rem (nI (ns.getD j 0)) 64) (ix_rem (nI (ns.getD i 0)) 64) (hp c Y) else if ix_rem (nI (ns.getD j 0)) 64 = ix_rem (nI (ns.getD i 0)) 64 then l_Mo_turnWay_180 75 (nI (ns.getD i 0)) (nI (ns.getD j 0)) (ix_rem (nI (ns.getD j 0)) 64) (ix_rem (nI (ns.getD i 0)) 64) (hp c Y) else (ix_gr (hp c Y) 75 11 15).bind fun v7 => (ix_M mMo_directionTo [.ref 75, .int (ix_rem (nI (ns.getD j 0)) 64), .int (ix_rem (nI (ns.getD i 0)) 64)] (hp c Y)).bind fun r => ix_kI r fun v9 h8 => (ix_si h8 v7 ((4 * (ix_rem (nI (ns.getD j 0)) 64)) + v9) 1).bind fun h10 => l_Mo_turnWay_108 75 (nI (ns.getD j 0)) h10 := by
        rw [e_Mo_turnWay_108, bO (g75_11 c _), bO (r87 hnv), e87, g0, if_neg hne200, bO (g75_11 c _), bO (r87 hnv), e87, g0, if_neg (by decide), if_neg (by decide)]
      rw [start]
      have lt64 : ∀ z, z < 64 → nI z < 64 := fun z hz => by
        show nI z < nI 64
        rw [nI_ltI (by omega) (by omega)]
        exact hz
      have nlt64 : ∀ z, z < 64 → ¬ nI (64 + z) < 64 := fun z hz => by
        show ¬ nI (64 + z) < nI 64
        rw [nI_ltI (by omega) (by omega)]
        omega
      have le64 : ∀ z, z < 64 → (64 : Int32) ≤ nI (64 + z) := fun z hz => by
        show nI 64 ≤ nI (64 + z)
        rw [nI_leI (by omega) (by omega)]
        omega
      have nle64 : ∀ z, z < 64 → ¬ (64 : Int32) ≤ nI z := fun z hz => by
        show ¬ nI 64 ≤ nI z
        rw [nI_leI (by omega) (by omega)]
        omega
      rcases g with ⟨g1, g2, g3⟩ | ⟨g1, g2, g3⟩ | ⟨g1, g2, g3, g4, g5⟩ | ⟨g1, g2, g3⟩
      · -- through a cell that no route goes through
        have gi := g2
        rw [g1, g2] at *
        rw [if_pos (lt64 c1 (by omega)), e_Mo_turnWay_180, if_neg (nle64 c1 (by omega)), if_neg (nlt64 c1 (by omega)), rem_in (by omega), rem_out (by omega), if_pos rfl]
        have ht1 : t' c1 = false := by rw [hut c1 j hc1 hj (.inl g1)]; exact g3
        refine hgo Y a' (up1 t' c1 true) hY htA (DF_2 h64 hc1 hD ht1) hadm ?_ (fun y x k hy hx hk hv => hua y x k hy hx (by omega) hv) ?_
        · intro y hy hty
          by_cases ey : y = c1
          · rw [ey]; exact bq_O hs hS hf h j hjl c1 hc1 (.inl g1)
          · rw [up1_n _ _ ey] at hty
            exact hto y hy hty
        · intro y k hy hk hv
          have ey : ¬ y = c1 := by
            intro ey
            rw [ey] at hv
            rcases hv with hv | hv
            · exact hdist k j hk hjl (hv.trans g1.symm)
            · exact hdist k i (by omega) hi (hv.trans gi.symm)
          rw [up1_n _ _ ey]
          exact hut y k hy (by omega) hv
      · -- back along an arc
        have gi := g2
        have hadj := (hf.2.2.2.1 x1 c1 hx1 hc1 g3).2.2
        obtain ⟨d, hd, hn⟩ := (nb_iff hs hx1 hc1).mp hadj
        have hne : ¬ nI c1 = nI x1 := by
          rw [nI_eq (by omega) (by omega)]
          intro ec
          rw [ec, adjB_iff] at hadj
          have := hs.1
          omega
        rw [g1, g2] at *
        rw [if_pos (lt64 c1 (by omega)), e_Mo_turnWay_180, if_neg (nle64 c1 (by omega)), if_neg (nlt64 x1 (by omega)), rem_in (by omega), rem_out (by omega), if_neg hne, bO (g75_15 c _), kI_of (M_directionTo hs hA' hx1 hd hn), bO (x4s (by omega) hd)]
        have ha1 : a' x1 c1 = true := by rw [hua c1 x1 j hc1 hx1 hj (.inl g1)]; exact g3
        refine hgo _ (up2 a' x1 c1 false) t' (eX_aI hY (by decide)) (tA_88 hs htA hx1 hd hn false rfl) (DF_3 h64 hx1 hc1 hD ha1) ?_ hto ?_ (fun y k hy hk hv => hut y k hy (by omega) hv)
        · intro y z hy hz hyz
          by_cases ey : y = x1 ∧ z = c1
          · rw [ey.1, ey.2, up2_1] at hyz; cases hyz
          · rw [up2_n _ _ ey] at hyz
            exact hadm y z hy hz hyz
        · intro y x k hy hx hk hv
          have ey : ¬ (x = x1 ∧ y = c1) := by
            rintro ⟨ex, ey⟩
            rw [ex, ey] at hv
            rcases hv with hv | hv
            · exact hdist k j hk hjl (hv.trans g1.symm)
            · exact hdist k i (by omega) hi (hv.trans gi.symm)
          rw [up2_n _ _ ey]
          exact hua y x k hy hx (by omega) hv
      · -- along a new arc
        have gi := g2
        obtain ⟨d, hd, hn⟩ := (nb_iff hs hc1 hx1).mp g3
        have hne : ¬ nI c1 = nI x1 := by
          rw [nI_eq (by omega) (by omega)]
          intro ec
          rw [ec, adjB_iff] at g3
          have := hs.1
          omega
        rw [g1, g2] at *
        rw [if_neg (nlt64 c1 (by omega)), if_neg (nle64 x1 (by omega)), rem_in (by omega), rem_out (by omega), if_neg hne, bO (g75_15 c _), kI_of (M_directionTo hs hA' hc1 hd hn), bO (x4s (by omega) hd)]
        have ha1 : a' c1 x1 = false := by rw [hua x1 c1 j hx1 hc1 hj (.inr g1)]; exact g5
        refine hgo _ (up2 a' c1 x1 true) t' (eX_aI hY (by decide)) (tA_88 hs htA hc1 hd hn true rfl) (DF_1 h64 hc1 hx1 hD ha1) ?_ hto ?_ (fun y k hy hk hv => hut y k hy (by omega) hv)
        · intro y z hy hz hyz
          by_cases ey : y = c1 ∧ z = x1
          · rw [ey.1, ey.2]; exact ⟨bq_O hs hS hf h j hjl c1 hc1 (.inr g1), g4, g3⟩
          · rw [up2_n _ _ ey] at hyz
            exact hadm y z hy hz hyz
        · intro y x k hy hx hk hv
          have ey : ¬ (x = c1 ∧ y = x1) := by
            rintro ⟨ex, ey⟩
            rw [ex, ey] at hv
            rcases hv with hv | hv
            · exact hdist k i (by omega) hi (hv.trans gi.symm)
            · exact hdist k j hk hjl (hv.trans g1.symm)
          rw [up2_n _ _ ey]
          exact hua y x k hy hx (by omega) hv
      · -- back through a cell
        have gi := g2
        rw [g1, g2] at *
        rw [if_neg (nlt64 c1 (by omega)), if_neg (nle64 c1 (by omega)), rem_in (by omega), rem_out (by omega), if_pos rfl, e_Mo_turnWay_180, if_pos (le64 c1 (by omega))]
        refine hgo Y a' (up1 t' c1 false) hY htA (DF_4 h64 hc1 hD) hadm ?_ (fun y x k hy hx hk hv => hua y x k hy hx (by omega) hv) ?_
        · intro y hy hty
          by_cases ey : y = c1
          · rw [ey, up1_1] at hty; cases hty
          · rw [up1_n _ _ ey] at hty
            exact hto y hy hty
        · intro y k hy hk hv
          have ey : ¬ y = c1 := by
            intro ey
            rw [ey] at hv
            rcases hv with hv | hv
            · exact hdist k i (by omega) hi (hv.trans gi.symm)
            · exact hdist k j hk hjl (hv.trans g1.symm)
          rw [up1_n _ _ ey]
          exact hut y k hy (by omega) hv
