/-! CALLS that change the board -/
def setW (B : bT) (wl : Nat → Bool) : bT := (B.1, B.2.1, wl, B.2.2.2)
def setR (B : bT) (rl : Nat → Nat) : bT := (B.1, B.2.1, B.2.2.1, rl, B.2.2.2.2)
def setWi (B : bT) (wi : Nat → Nat → Bool) : bT := (B.1, B.2.1, B.2.2.1, B.2.2.2.1, wi, B.2.2.2.2.2)
def setP (B : bT) (pr : List (Nat × Nat)) : bT := (B.1, B.2.1, B.2.2.1, B.2.2.2.1, B.2.2.2.2.1, pr, B.2.2.2.2.2.2)
def setT (B : bT) (rt : Nat → List Nat) : bT := (B.1, B.2.1, B.2.2.1, B.2.2.2.1, B.2.2.2.2.1, B.2.2.2.2.2.1, rt)
theorem cI_b {c : ixK} {X X' : ixX} {S : sT} {B' : bT} (h : cI c X S) (hf : fRm 4 21 X X') (hB : cBd 4 X' B') : cI c X' (B', S.2) := by
  obtain ⟨h1, h2, h3, h4, h5, h6⟩ := h
  refine ⟨hB, ?_, ?_, ?_, ?_, cT_fr hf (by omega) h6⟩
  · intro p hp e
    rw [(hf 56 (by omega)).1]; exact h2 p hp e
  · intro p B hp e
    rw [(hf 56 (by omega)).1]
    exact ⟨(h3 p B hp e).1, cBd_cong (fun a _ _ => hf a (by omega)) (h3 p B hp e).2⟩
  · rw [(hf 57 (by omega)).1]; exact h4
  · intro i hi2
    rw [(hf 58 (by omega)).1]; exact h5 i hi2
theorem rI_b {X X' : ixX} {S : sT} {B' : bT} (h : rI X S) (hf : ∀ a, 75 ≤ a → a < 102 → ¬ a = 76 → (a < 79 ∨ 101 ≤ a) → ¬ a = 75 → X'.1 a = X.1 a) (h75 : X'.1 75 31 = X.1 75 31) (hB : rBd (X'.1 76) B') : rI X' (B', S.2) := by
  obtain ⟨h1, h2, h3, h4, h5⟩ := h
  refine ⟨hB, ?_, ?_, ?_, ?_⟩
  · intro p hp e
    rw [hf 78 (by omega) (by omega) (by omega) (by omega) (by omega)]; exact h2 p hp e
  · intro p B hp e
    rw [hf 78 (by omega) (by omega) (by omega) (by omega) (by omega), hf 77 (by omega) (by omega) (by omega) (by omega) (by omega)]; exact h3 p B hp e
  · rw [h75]; exact h4
  · intro i hi
    rw [hf 101 (by omega) (by omega) (by omega) (by omega) (by omega)]; exact h5 i hi
theorem rI_76 {X X' : ixX} {S : sT} {B' : bT} (h : rI X S) (hf : eX [76] X X') (hB : rBd (X'.1 76) B') : rI X' (B', S.2) := rI_b h (fun a _ _ h3 _ _ => hf.2 a (fun q => h3 (List.mem_singleton.mp q))) (by rw [hf.2 75 (by decide)]) hB
theorem fRm_76 {X X' : ixX} (hf : eX [76] X X') : fRm 75 102 X X' := fun a ha => ⟨hf.2 a (fun q => by have := List.mem_singleton.mp q; omega), by rw [hf.1]⟩
theorem rBd_W {A A' : Nat → Int32} {B : bT} (hs : bS B) (h : rBd A B) {wl : Nat → Bool} (h1 : ∀ c, c < bn B → A' (2 + c) = ix_bi (wl c)) (h2 : ∀ i, (i < 2 ∨ 66 ≤ i) → A' i = A i) : rBd A' (setW B wl) := by
  have h64 := bS_64 hs
  obtain ⟨a1, a2, a3, a4, a5, a6, a7, a8⟩ := h
  exact ⟨by rw [h2 0 (by omega)]; exact a1, by rw [h2 1 (by omega)]; exact a2, h1, fun c hc => by rw [h2 _ (by omega)]; exact a4 c hc, fun l hl c hc => by rw [h2 _ (by omega)]; exact a5 l hl c hc, by rw [h2 _ (by omega)]; exact a6, fun i hi => ⟨by rw [h2 _ (by omega)]; exact (a7 i hi).1, by rw [h2 _ (by omega)]; exact (a7 i hi).2⟩, fun s hs2 => ⟨by rw [h2 _ (by omega)]; exact (a8 s hs2).1, fun k hk => by rw [h2 _ (by omega)]; exact (a8 s hs2).2 k hk⟩⟩
theorem rBd_R {A A' : Nat → Int32} {B : bT} (hs : bS B) (h : rBd A B) {rl : Nat → Nat} (h1 : ∀ c, c < bn B → A' (66 + c) = nI (rl c)) (h2 : ∀ i, (i < 66 ∨ 130 ≤ i) → A' i = A i) : rBd A' (setR B rl) := by
  have h64 := bS_64 hs
  obtain ⟨a1, a2, a3, a4, a5, a6, a7, a8⟩ := h
  exact ⟨by rw [h2 0 (by omega)]; exact a1, by rw [h2 1 (by omega)]; exact a2, fun c hc => by have : c < bn B := hc; rw [h2 _ (by omega)]; exact a3 c hc, h1, fun l hl c hc => by rw [h2 _ (by omega)]; exact a5 l hl c hc, by rw [h2 _ (by omega)]; exact a6, fun i hi => ⟨by rw [h2 _ (by omega)]; exact (a7 i hi).1, by rw [h2 _ (by omega)]; exact (a7 i hi).2⟩, fun s hs2 => ⟨by rw [h2 _ (by omega)]; exact (a8 s hs2).1, fun k hk => by rw [h2 _ (by omega)]; exact (a8 s hs2).2 k hk⟩⟩
theorem rBd_I {A A' : Nat → Int32} {B : bT} (hs : bS B) (h : rBd A B) {wi : Nat → Nat → Bool} (h1 : ∀ l, l < 4 → ∀ c, c < bn B → A' (130 + 64 * l + c) = ix_bi (wi l c)) (h2 : ∀ i, (i < 130 ∨ 386 ≤ i) → A' i = A i) : rBd A' (setWi B wi) := by
  have h64 := bS_64 hs
  obtain ⟨a1, a2, a3, a4, a5, a6, a7, a8⟩ := h
  exact ⟨by rw [h2 0 (by omega)]; exact a1, by rw [h2 1 (by omega)]; exact a2, fun c hc => by have : c < bn B := hc; rw [h2 _ (by omega)]; exact a3 c hc, fun c hc => by have : c < bn B := hc; rw [h2 _ (by omega)]; exact a4 c hc, h1, by rw [h2 _ (by omega)]; exact a6, fun i hi => ⟨by rw [h2 _ (by omega)]; exact (a7 i hi).1, by rw [h2 _ (by omega)]; exact (a7 i hi).2⟩, fun s hs2 => ⟨by rw [h2 _ (by omega)]; exact (a8 s hs2).1, fun k hk => by rw [h2 _ (by omega)]; exact (a8 s hs2).2 k hk⟩⟩
theorem rBd_P {A A' : Nat → Int32} {B : bT} (hs : bS B) (h : rBd A B) {pr : List (Nat × Nat)} (h0 : A' 386 = nI pr.length) (h1 : ∀ i, i < pr.length → A' (387 + 2 * i) = nI (pr.getD i (0, 0)).1 ∧ A' (387 + 2 * i + 1) = nI (pr.getD i (0, 0)).2) (h2 : ∀ i, (i < 386 ∨ 395 ≤ i) → A' i = A i) : rBd A' (setP B pr) := by
  have h64 := bS_64 hs
  obtain ⟨a1, a2, a3, a4, a5, a6, a7, a8⟩ := h
  exact ⟨by rw [h2 0 (by omega)]; exact a1, by rw [h2 1 (by omega)]; exact a2, fun c hc => by have : c < bn B := hc; rw [h2 _ (by omega)]; exact a3 c hc, fun c hc => by have : c < bn B := hc; rw [h2 _ (by omega)]; exact a4 c hc, fun l hl c hc => by have : c < bn B := hc; rw [h2 _ (by omega)]; exact a5 l hl c hc, h0, h1, fun s hs2 => ⟨by rw [h2 _ (by omega)]; exact (a8 s hs2).1, fun k hk => by rw [h2 _ (by omega)]; exact (a8 s hs2).2 k hk⟩⟩
theorem bOK_W {B : bT} (h : bOK B) {wl : Nat → Bool} (hw : ∀ c, bn B ≤ c → wl c = false) : bOK (setW B wl) := ⟨h.1, fun c hc => ⟨hw c hc, (h.2.1 c hc).2⟩, h.2.2⟩
theorem ct_bwl {B : bT} (h : bOK B) : fb_ct (bwl B) 64 = fb_ct (bwl B) (bn B) := ct_64 (bS_64 h.1) (fun c hc => (h.2.1 c hc).1)
theorem sOK_b {S : sT} {B' : bT} (h : sOK S) (hB : bOK B') : sOK (B', S.2) := ⟨hB, h.2⟩
theorem rI_4 {X X' : ixX} {S : sT} (f : fRm 4 21 X X') (h : rI X S) : rI X' S := rI_q f (by omega) h
/-- a class's board with other walls -/
theorem cBd_W {X : ixX} {B : bT} (h : cBd 4 X B) (wl : Nat → Bool) : cBd 4 (aJ X 5 (vp_updL (X.2 5) 5 (LSt wl))) (setW B wl) := by
  obtain ⟨⟨g1, g2, g3, g4, g5, g6, g7, g8⟩, hP, hR⟩ := h
  have e5 : (aJ X 5 (vp_updL (X.2 5) 5 (LSt wl))).2 (4 + 1) = vp_updL (X.2 5) 5 (LSt wl) := aJ_1 _ _ _
  refine ⟨⟨g1, g2, ?_, ?_, ?_, ?_, fun r h1 h2 => ?_, fun l h2 => ?_⟩, hP, fun s hs => ?_⟩
  · rw [e5, updL_n _ _ (by omega)]; exact g3
  · rw [e5, updL_n _ _ (by omega)]; exact g4
  · rw [e5, updL_n _ _ (by omega)]; exact g5
  · rw [e5, updL_1]; rfl
  · exact g7 r h1 h2
  · exact g8 l h2
  · have := hR s hs
    exact cR_cong (X := X) rfl (aJ_o (show ¬ 4 + 5 + 2 * s = 5 by omega) _ _) rfl this
theorem K_setUp {c : ixK} {X : ixX} {S : sT} (h : invK c X S) (x1 x2 : Int32) : okI mRP_setUp mMo_setUp [.int x1, .int x2] c X := by
  by_cases a1 : x1 < 2 ∨ 8 < x1
  · exact ok_0 h (r := -2) (x_RP_setUp (rc_3 c X) (by rw [e_RP_setUp, kZ_of (M_isSide_f a1 _), if_neg (by decide)])) (x_Mo_setUp (rc_75 c X) (by rw [e_Mo_setUp, kZ_of (M_in_f a1 _), if_neg (by decide)]))
  have a1' : ¬ x1 < 2 ∧ ¬ 8 < x1 := ⟨fun q => a1 (.inl q), fun q => a1 (.inr q)⟩
  by_cases a2 : x2 < 2 ∨ 8 < x2
  · exact ok_0 h (r := -2) (x_RP_setUp (rc_3 c X) (by rw [e_RP_setUp, kZ_of (M_isSide a1'.1 a1'.2 _), if_pos rfl, kZ_of (M_isSide_f a2 _), if_neg (by decide)])) (x_Mo_setUp (rc_75 c X) (by rw [e_Mo_setUp, kZ_of (M_in_t a1'.1 a1'.2 _), if_pos rfl, kZ_of (M_in_f a2 _), if_neg (by decide)]))
  have a2' : ¬ x2 < 2 ∧ ¬ 8 < x2 := ⟨fun q => a2 (.inl q), fun q => a2 (.inr q)⟩
  obtain ⟨w, w1, w2, hw⟩ := rng_of (a := 2) (b := 8) (by omega) (by omega) a1'.1 a1'.2
  obtain ⟨t, t1, t2, ht⟩ := rng_of (a := 2) (b := 8) (by omega) (by omega) a2'.1 a2'.2
  obtain ⟨X', e1, e2, e3⟩ := M_begin (c := c) (X := X) w1 w2 t1 t2
  have hB := newB_OK w1 w2 t1 t2
  have f4 : fRm 4 21 X X' := fRm_mono e3 (by omega) (by omega)
  -- the reference
  obtain ⟨A, f1, f2⟩ := lp_up (fun k (A : Nat → Int32) => l_Mo_layGrid_2 75 x1 x2 (nI k) (hp c (aI X' 76 A))) (fun k A => ∀ i, i < k → A i = 0) (N := 720) (fun k A hk hA => by
    refine ⟨upd A k 0, ?_, fun i hi => ?_⟩
    · show l_Mo_layGrid_2 75 x1 x2 (nI k) (hp c (aI X' 76 A)) = l_Mo_layGrid_2 75 x1 x2 (nI (k + 1)) (hp c (aI X' 76 _))
      rw [e_Mo_layGrid_2, if_neg (lit_nle (x := 720) (a := 720) (k := k) rfl hk (by omega)), bO (g75_0 c _), bO (s76 hk), aI_1, aI_aI, nI_1]
    · by_cases ei : i = k
      · rw [ei, upd_1]
      · rw [upd_n _ _ ei]; exact hA i (by omega)) (k := 0) (s := X'.1 76) (by omega) (fun i hi => absurd hi (Nat.not_lt_zero i))
  have f1' : l_Mo_layGrid_2 75 x1 x2 0 (hp c X') = l_Mo_layGrid_2 75 x1 x2 (nI 720) (hp c (aI X' 76 A)) := by
    have q : l_Mo_layGrid_2 75 x1 x2 (nI 0) (hp c (aI X' 76 (X'.1 76))) = l_Mo_layGrid_2 75 x1 x2 (nI 720) (hp c (aI X' 76 A)) := f1
    rw [aI_self] at q
    exact q
  obtain ⟨X'', hX''⟩ : ∃ Y, Y = aI X' 76 (upd (upd A 0 x1) 1 x2) := ⟨_, rfl⟩
  have f3 : ix_M mMo_layGrid [.ref 75, .int x1, .int x2] (hp c X') = some ([], hp c X'') := by
    refine x_Mo_layGrid (rc_75 c X') ?_
    rw [e_Mo_layGrid, f1', e_Mo_layGrid_2, if_pos (show (720 : Int32) ≤ nI 720 by decide), bO (g75_0 c _), bO (show ix_si (hp c _) 76 0 x1 = _ from s76 (i := 0) (by omega)), aI_1, aI_aI, bO (g75_0 c _), bO (show ix_si (hp c _) 76 1 x2 = _ from s76 (i := 1) (by omega)), aI_1, aI_aI, hX'']
  have hr : rBd (X''.1 76) (newB w t) := by
    have h64 := bS_64 hB.1
    rw [hX'', aI_1]
    have z : ∀ i, 2 ≤ i → i < 720 → upd (upd A 0 x1) 1 x2 i = 0 := fun i h1 h2 => by rw [upd_n _ _ (by omega), upd_n _ _ (by omega)]; exact f2 i h2
    refine ⟨by rw [upd_n _ _ (by omega), upd_1]; exact hw, by rw [upd_1]; exact ht, fun i hi => ?_, fun i hi => ?_, fun l hl i hi => ?_, z 386 (by omega) (by omega), fun i hi => absurd hi (Nat.not_lt_zero i), fun s hs => ⟨z _ (by omega) (by omega), fun k hk => absurd hk (Nat.not_lt_zero k)⟩⟩
    · rw [z _ (by omega) (by omega)]; rfl
    · rw [z _ (by omega) (by omega)]; rfl
    · rw [z _ (by omega) (by omega)]; rfl
  have ex76 : eX [76] X' X'' := by rw [hX'']; exact eX_aI (eX_refl _ _) (by decide)
  refine ok_s (S := S) (S' := (newB w t, S.2)) (r := nI (bn (newB w t))) (sOK_b h.1 hB) (x_RP_setUp (rc_3 c X) ?_) (cI_b h.2.1 f4 e2) (x_Mo_setUp (rc_75 c X') ?_) (fRm_76 ex76) (rI_76 (rI_4 f4 h.2.2) ex76 hr) (zF_fr f4 (by omega))
  · rw [e_RP_setUp, kZ_of (M_isSide a1'.1 a1'.2 _), if_pos rfl, kZ_of (M_isSide a2'.1 a2'.2 _), if_pos rfl, bO (g3_0 c X), hw, ht, kV_of e1, bO (g3_0 c X'), bO (g4_0 c X'), kI_of (M_gsize e2.1)]
  · rw [e_Mo_setUp, kZ_of (M_in_t a1'.1 a1'.2 _), if_pos rfl, kZ_of (M_in_t a2'.1 a2'.2 _), if_pos rfl, kV_of f3, kI_of (M_mcells hr)]
theorem K_wall {c : ixK} {X : ixX} {S : sT} (h : invK c X S) (x1 x2 : Int32) : okI mRP_wall mMo_wall [.int x1, .int x2] c X := by
  obtain ⟨hs, hG, hA, hb⟩ := invK_G h
  have h64 := bS_64 hs
  rcases i_cases x1 (n := bn S.1) (by omega) with ⟨k, hk, rfl⟩ | hx
  · have main : ∀ on : Bool, x2 = ix_bi on → okI mRP_wall mMo_wall [.int (nI k), .int x2] c X := by
      intro on hon
      have hB : bOK (setW S.1 (up1 (bwl S.1) k on)) := bOK_W hb (fun c hc => by rw [up1_n _ _ (by omega)]; exact (hb.2.1 c hc).1)
      obtain ⟨X', hX'⟩ : ∃ Y, Y = aJ X 5 (vp_updL (X.2 5) 5 (LSt (up1 (bwl S.1) k on))) := ⟨_, rfl⟩
      have hc1 : cBd 4 X' (setW S.1 (up1 (bwl S.1) k on)) := by rw [hX']; exact cBd_W h.2.1.1 _
      have f4 : fRm 4 21 X X' := by rw [hX']; exact fRm_aJ (fRm_refl _ _ _) (by omega) (by omega)
      obtain ⟨X'', hX''⟩ : ∃ Y, Y = aI X' 76 (upd (X'.1 76) (2 + k) x2) := ⟨_, rfl⟩
      have ex76 : eX [76] X' X'' := by rw [hX'']; exact eX_aI (eX_refl _ _) (by decide)
      have hr0 : rBd (X'.1 76) S.1 := (rI_4 f4 h.2.2).1
      have hr : rBd (X''.1 76) (setW S.1 (up1 (bwl S.1) k on)) := by
        rw [hX'', aI_1]
        refine rBd_W hs hr0 (fun c hc => ?_) (fun i hi => by rw [upd_n _ _ (by omega)])
        by_cases e : c = k
        · rw [e, upd_1, up1_1, hon]
        · rw [upd_n _ _ (by omega), up1_n _ _ e]; exact A_x hr0 hc
      refine ok_s (S := S) (S' := (setW S.1 (up1 (bwl S.1) k on), S.2)) (r := nI (fb_ct (up1 (bwl S.1) k on) 64)) (sOK_b h.1 hB) (x_RP_wall (rc_3 c X) ?_) (cI_b h.2.1 f4 hc1) (x_Mo_wall (rc_75 c X') ?_) (fRm_76 ex76) (rI_76 (rI_4 f4 h.2.2) ex76 hr) (zF_fr f4 (by omega))
      · rw [e_RP_wall, bO (g3_0 c X), bO (g4_0 c X), kZ_of (M_has_t hs hG hk), if_pos rfl]
        cases on with
        | false =>
          have hx2 : x2 = 0 := hon
          have e1 : LSt (bwl S.1) &&& (LSt (fun i => decide (i = k)) ^^^ -1) = LSt (up1 (bwl S.1) k false) := by
            rw [LS_not, LS_and]
            refine LS_cong (fun i _ => ?_)
            by_cases e : i = k
            · rw [e, up1_1, decide_eq_true rfl]; exact Bool.and_false _
            · rw [up1_n _ _ e, decide_eq_false e]; exact Bool.and_true _
          rw [hx2, kZ_of (M_isFlag_0 _), if_pos rfl, if_pos (by decide), bO (g5_5 c X), G_x hG, kL_of (M_bit (by omega) _), e1, bO (p5_5 c X _), ← hX', bO (g5_5 c X'), G_x hc1.1, kI_of (M_size _ _)]
          rfl
        | true =>
          have hx2 : x2 = 1 := hon
          have e1 : LSt (bwl S.1) ||| LSt (fun i => decide (i = k)) = LSt (up1 (bwl S.1) k true) := by
            rw [LS_or]
            refine LS_cong (fun i _ => ?_)
            by_cases e : i = k
            · rw [e, up1_1, decide_eq_true rfl]; exact Bool.or_true _
            · rw [up1_n _ _ e, decide_eq_false e]; exact Bool.or_false _
          rw [hx2, kZ_of (M_isFlag_1 _), if_pos rfl, if_neg (by decide), bO (g5_5 c X), G_x hG, kL_of (M_bit (by omega) _), e1, bO (p5_5 c X _), ← hX', bO (g5_5 c X'), G_x hc1.1, kI_of (M_size _ _)]
          rfl
      · have hin : ix_M mMo_in [.int x2, .int 0, .int 1] (hp c X') = some ([.int (ix_bi true)], hp c X') := by
          rw [hon]
          cases on with
          | false => exact M_in_t (by decide) (by decide) _
          | true => exact M_in_t (by decide) (by decide) _
        rw [e_Mo_wall, kZ_of (M_isCell_t hs hr0 hk), if_pos rfl, kZ_of hin, if_pos rfl, bO (g75_0 c _), bO (y76 (jx2 k) (by omega)), ← hX'', kI_of (M_walls hB.1 hr), ← ct_bwl hB]
        rfl
    rcases flag_of x2 with q | q | ⟨q1, q2, q3⟩
    · exact main false q
    · exact main true q
    · exact ok_0 h (r := -2) (x_RP_wall (rc_3 c X) (by rw [e_RP_wall, bO (g3_0 c X), bO (g4_0 c X), kZ_of (M_has_t hs hG hk), if_pos rfl, kZ_of (M_isFlag_f q1 q2 _), if_neg (by decide)])) (x_Mo_wall (rc_75 c X) (by rw [e_Mo_wall, kZ_of (M_isCell_t hs hA hk), if_pos rfl, kZ_of (M_in_f q3 _), if_neg (by decide)]))
  · exact ok_0 h (r := -1) (x_RP_wall (rc_3 c X) (by rw [e_RP_wall, bO (g3_0 c X), bO (g4_0 c X), kZ_of (M_has_f hG hx), if_neg (by decide)])) (x_Mo_wall (rc_75 c X) (by rw [e_Mo_wall, kZ_of (M_isCell_f hs hA hx), if_neg (by decide)]))
theorem K_role {c : ixK} {X : ixX} {S : sT} (h : invK c X S) (x1 x2 : Int32) : okI mRP_role mMo_role [.int x1, .int x2] c X := by
  obtain ⟨hs, hG, hA, hb⟩ := invK_G h
  have h64 := bS_64 hs
  rcases i_cases x1 (n := bn S.1) (by omega) with ⟨k, hk, rfl⟩ | hx
  · rcases i_cases x2 (n := 4) (by omega) with ⟨n, hn, rfl⟩ | hq
    · have hlt4 : nI n < (4 : Int32) := by
        show nI n < nI 4
        rw [nI_ltI (by omega) (by omega)]; exact hn
      obtain ⟨g, e1, e2⟩ := M_give (c := c) (X := X) (q := fun r c => decide (brl S.1 c = r)) (fun r h1 h2 => G_r hG h1 h2) (x := k) (n := n) (by omega) hn
      obtain ⟨B', hB'⟩ : ∃ B', B' = setR S.1 (fun c => if c = k then n else brl S.1 c) := ⟨_, rfl⟩
      have hB : bOK B' := by
        rw [hB']
        refine ⟨hs, fun c hc => ⟨(hb.2.1 c hc).1, ?_, (hb.2.1 c hc).2.2⟩, fun c => ?_, hb.2.2.2⟩
        · have hc2 : bn S.1 ≤ c := hc
          show (if c = k then n else brl S.1 c) = 0
          rw [if_neg (by omega)]; exact (hb.2.1 c hc).2.1
        · show (if c = k then n else brl S.1 c) < 4
          by_cases e : c = k
          · rw [if_pos e]; exact hn
          · rw [if_neg e]; exact hb.2.2.1 c
      have f4 : fRm 4 21 X (aJ X 6 g) := fRm_aJ (fRm_refl _ _ _) (by omega) (by omega)
      have hc1 : cBd 4 (aJ X 6 g) B' := by
        obtain ⟨⟨g1, g2, g3, g4, g5, g6, g7, g8⟩, hP, hR⟩ := h.2.1.1
        rw [hB']
        refine ⟨⟨g1, g2, g3, g4, g5, g6, fun r h1 h2 => ?_, g8⟩, hP, fun s hs2 => cR_cong (X := X) rfl (aJ_o (show ¬ 4 + 5 + 2 * s = 6 by omega) _ _) rfl (hR s hs2)⟩
        show (aJ X 6 g).2 6 r = LSt (fun c => decide ((if c = k then n else brl S.1 c) = r))
        rw [aJ_1, e2 r h1 h2]
        refine LS_cong (fun i _ => ?_)
        by_cases e : i = k
        · rw [if_pos e, if_pos e, decide_eq_decide]
          exact ⟨fun q => q.symm, fun q => q.symm⟩
        · rw [if_neg e, if_neg e]
      obtain ⟨X'', hX''⟩ : ∃ Y, Y = aI (aJ X 6 g) 76 (upd (X.1 76) (66 + k) (nI n)) := ⟨_, rfl⟩
      have ex76 : eX [76] (aJ X 6 g) X'' := by rw [hX'']; exact eX_aI (eX_refl _ _) (by decide)
      have hr : rBd (X''.1 76) B' := by
        rw [hX'', aI_1, hB']
        refine rBd_R hs hA (fun c hc => ?_) (fun i hi => by rw [upd_n _ _ (by omega)])
        by_cases e : c = k
        · rw [e, upd_1, if_pos rfl]
        · rw [upd_n _ _ (by omega), if_neg e]; exact A_r hA hc
      refine ok_s (S := S) (S' := (B', S.2)) (r := nI (brl S.1 k)) (sOK_b h.1 hB) (x_RP_role (rc_3 c X) ?_) (cI_b h.2.1 f4 hc1) (x_Mo_role (rc_75 c _) ?_) (fRm_76 ex76) (rI_76 (rI_4 f4 h.2.2) ex76 hr) (zF_fr f4 (by omega))
      · rw [e_RP_role, bO (g3_0 c X), bO (g4_0 c X), kZ_of (M_has_t hs hG hk), if_pos rfl, if_neg (nI_pos (by omega)), if_pos hlt4, kI_of (M_groleOf hG hb.2.2.1 (by omega)), kV_of e1]
      · have hA2 : rBd ((aJ X 6 g).1 76) S.1 := hA
        have hin : ix_M mMo_in [.int (nI n), .int 0, .int 3] (hp c (aJ X 6 g)) = some ([.int (ix_bi true)], hp c (aJ X 6 g)) := M_in0_t (n := 4) hn (by omega) _
        rw [e_Mo_role, kZ_of (M_isCell_t hs hA2 hk), if_pos rfl, kZ_of hin, if_pos rfl, bO (g75_0 c _), bO (x76 (i66 k) (by omega)), bO (g75_0 c _), bO (y76 (i66 k) (by omega))]
        rw [show (aJ X 6 g).1 76 = X.1 76 from rfl, A_r hA hk, ← hX'']
    · have hn4 : ¬ x2 < 0 → ¬ x2 < 4 := by
        intro q1 q2
        obtain ⟨j, hj, rfl⟩ := nI_of q1
        have q3 := (nI_leI (by omega) hj).mp (hq.resolve_left q1)
        have q4 := (nI_ltI (a := j) (b := 4) hj (by omega)).mp q2
        omega
      have hin : ix_M mMo_in [.int x2, .int 0, .int 3] (hp c X) = some ([.int (ix_bi false)], hp c X) := M_in0_f (n := 4) (by omega) (by omega) hq _
      refine ok_0 h (r := -2) (x_RP_role (rc_3 c X) ?_) (x_Mo_role (rc_75 c X) (by rw [e_Mo_role, kZ_of (M_isCell_t hs hA hk), if_pos rfl, kZ_of hin, if_neg (by decide)]))
      rw [e_RP_role, bO (g3_0 c X), bO (g4_0 c X), kZ_of (M_has_t hs hG hk), if_pos rfl]
      by_cases q : x2 < 0
      · rw [if_pos q]
      · rw [if_neg q, if_neg (hn4 q)]
  · exact ok_0 h (r := -1) (x_RP_role (rc_3 c X) (by rw [e_RP_role, bO (g3_0 c X), bO (g4_0 c X), kZ_of (M_has_f hG hx), if_neg (by decide)])) (x_Mo_role (rc_75 c X) (by rw [e_Mo_role, kZ_of (M_isCell_f hs hA hx), if_neg (by decide)]))
