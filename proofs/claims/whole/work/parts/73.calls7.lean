/-! CALLS: routes by hand -/
theorem rBd_T {A A' : Nat → Int32} {B : bT} (hs : bS B) (h : rBd A B) {rt : Nat → List Nat} (h1 : ∀ s, s < 5 → A' (395 + 65 * s) = nI (rt s).length ∧ ∀ k, k < (rt s).length → A' (395 + 65 * s + 1 + k) = nI ((rt s).getD k 0)) (h2 : ∀ i, i < 395 → A' i = A i) (hpl : (bpr B).length ≤ 4) : rBd A' (setT B rt) := by
  have h64 := bS_64 hs
  obtain ⟨a1, a2, a3, a4, a5, a6, a7, a8⟩ := h
  exact ⟨by rw [h2 0 (by omega)]; exact a1, by rw [h2 1 (by omega)]; exact a2, fun c hc => by have : c < bn B := hc; rw [h2 _ (by omega)]; exact a3 c hc, fun c hc => by have : c < bn B := hc; rw [h2 _ (by omega)]; exact a4 c hc, fun l hl c hc => by have : c < bn B := hc; rw [h2 _ (by omega)]; exact a5 l hl c hc, by rw [h2 _ (by omega)]; exact a6, fun i hi => by have : i < (bpr B).length := hi; exact ⟨by rw [h2 _ (by omega)]; exact (a7 i hi).1, by rw [h2 _ (by omega)]; exact (a7 i hi).2⟩, h1⟩
def upTs (rt : Nat → List Nat) (s : Nat) (l : List Nat) : Nat → List Nat := fun t => if t = s then l else rt t
theorem upTs_1 (rt : Nat → List Nat) (s : Nat) (l : List Nat) : upTs rt s l s = l := if_pos rfl
theorem upTs_n (rt : Nat → List Nat) {s t : Nat} (l : List Nat) (h : ¬ t = s) : upTs rt s l t = rt t := if_neg h
theorem cBd_T {X X' : ixX} {B : bT} (h : cBd 4 X B) {s : Nat} (hs : s < 5) {l : List Nat} (hf : fRm (9 + 2 * s) (9 + 2 * s + 2) X X') (hl : cR (9 + 2 * s) X' l) : cBd 4 X' (setT B (upTs (brt B) s l)) := by
  have hg : cG 4 X' B := cG_cong (hf _ (by omega)).1 (hf _ (by omega)).2 (hf _ (by omega)).2 (hf _ (by omega)).2 h.1
  have hp : cP 4 X' B := cP_cong (hf _ (by omega)).1 (hf _ (by omega)).1 (hf _ (by omega)).1 h.2.1
  refine ⟨hg, hp, fun t ht => ?_⟩
  show cR (4 + 5 + 2 * t) X' (upTs (brt B) s l t)
  by_cases e : t = s
  · rw [e, upTs_1]; exact hl
  · rw [upTs_n _ _ e]
    exact cR_cong (hf _ (by omega)).1 (hf _ (by omega)).2 (hf _ (by omega)).1 (h.2.2 t ht)
theorem bOK_T {B : bT} (h : bOK B) {s : Nat} {l : List Nat} (h1 : l.Nodup) (h2 : ∀ c, c ∈ l → c < bn B) : bOK (setT B (upTs (brt B) s l)) := ⟨h.1, h.2.1, h.2.2.1, h.2.2.2.1, h.2.2.2.2.1, fun t => by
  show (upTs (brt B) s l t).Nodup ∧ ∀ c, c ∈ upTs (brt B) s l t → c < bn B
  by_cases e : t = s
  · rw [e, upTs_1]; exact ⟨h1, h2⟩
  · rw [upTs_n _ _ e]; exact h.2.2.2.2.2 t⟩
theorem c_rt {X : ixX} {B : bT} (h : cBd 4 X B) {s : Nat} (hs : s < 5) : cR (9 + 2 * s) X (brt B s) := h.2.2 s hs
theorem M_areAdjacent {c : ixK} {X : ixX} {B : bT} (hs : bS B) (h : rBd (X.1 76) B) {x y : Nat} (hx : x < bn B) (hy : y < bn B) : ix_M mMo_areAdjacent [.ref 75, .int (nI x), .int (nI y)] (hp c X) = some ([.int (ix_bi (adjB B x y))], hp c X) := by
  have h64 := bS_64 hs
  refine x_Mo_areAdjacent (rc_75 c X) ?_
  have e := lp_f (fun d s => l_Mo_areAdjacent_5 75 (nI x) (nI y) s (nI d) (hp c X)) (fun d => !allB (fun d => !decide (nb B x d = some y)) d) (N := 4) (fun d hd => by
    show l_Mo_areAdjacent_5 75 (nI x) (nI y) (!allB (fun d => !decide (nb B x d = some y)) d) (nI d) (hp c X) = l_Mo_areAdjacent_5 75 (nI x) (nI y) (!(allB (fun d => !decide (nb B x d = some y)) d && !decide (nb B x d = some y))) (nI (d + 1)) (hp c X)
    rw [e_Mo_areAdjacent_5, if_neg (lit_nle (x := 4) (a := 4) (k := d) rfl hd (by omega)), nI_1]
    cases ha : allB (fun d => !decide (nb B x d = some y)) d with
    | false => rw [if_pos (by decide)]; rfl
    | true =>
      rw [if_neg (by decide), kI_of (M_beside hs h hx hd)]
      cases hq : nb B x d with
      | none =>
        rw [if_pos (show ¬ oI none = nI y from fun e => m6_ne (show y < 2147483648 by omega) e.symm), decide_eq_false (fun e => by cases e)]
        rfl
      | some z =>
        have hz := nb_lt hs hx hq
        by_cases ez : z = y
        · rw [ez, if_neg (fun n => n rfl), decide_eq_true rfl]; rfl
        · rw [if_pos (show ¬ oI (some z) = nI y by show ¬ nI z = nI y; rw [nI_eq (by omega) (by omega)]; exact ez), decide_eq_false (fun e => ez (Option.some.inj e))]
          rfl) (k := 0) (by omega)
  have e' : l_Mo_areAdjacent_5 75 (nI x) (nI y) false 0 (hp c X) = l_Mo_areAdjacent_5 75 (nI x) (nI y) (!allB (fun d => !decide (nb B x d = some y)) 4) (nI 4) (hp c X) := e
  have hv : (!allB (fun d => !decide (nb B x d = some y)) 4) = adjB B x y := by
    rw [Bool.eq_iff_iff, Bool.not_eq_true', nb_iff hs hx hy]
    constructor
    · intro hf
      refine Classical.byContradiction fun hn => ?_
      have := (allB_iff (fun d => !decide (nb B x d = some y)) 4).mpr (fun d hd => by
        show (!decide (nb B x d = some y)) = true
        rw [decide_eq_false (fun e => hn ⟨d, hd, e⟩)]; rfl)
      rw [this] at hf; cases hf
    · rintro ⟨d, hd, e⟩
      exact allB_f hd (by rw [decide_eq_true e]; rfl)
  rw [e_Mo_areAdjacent, e', hv, e_Mo_areAdjacent_5, if_pos (show (4 : Int32) ≤ nI 4 by decide)]
theorem K_step {c : ixK} {X : ixX} {S : sT} (h : invK c X S) (x1 x2 : Int32) : okI mRP_step mMo_step [.int x1, .int x2] c X := by
  obtain ⟨hs, hG, hA, hb⟩ := invK_G h
  have h64 := bS_64 hs
  rcases i_cases x1 (n := 5) (by omega) with ⟨s, hs5, rfl⟩ | hx
  · rcases i_cases x2 (n := bn S.1) (by omega) with ⟨k, hk, rfl⟩ | hy
    · have hR := c_rt h.2.1.1 hs5
      have hlen := bOK_len hb s
      have hra := rtA_4 hs5
      obtain ⟨l, hl⟩ : ∃ l, l = brt S.1 s := ⟨_, rfl⟩
      rw [← hl] at hR hlen
      have hln : ∀ c, c ∈ l → c < bn S.1 := fun c hc => (hb.2.2.2.2.2 s).2 c (by rw [← hl]; exact hc)
      have hnd : l.Nodup := by rw [hl]; exact (hb.2.2.2.2.2 s).1
      -- what the class does before it decides
      have cstart : ix_D mRP_step 0 [some (.ref 3), some (.int (nI s)), some (.int (nI k)), none, none, none] [] (hp c X) = l_RP_step_66 3 (nI k) (9 + 2 * s) (bop S.1 k && !decide (k ∈ l)) (hp c X) := by
        rw [e_RP_step, kZ_of (M_isSlot_t hs5 _), if_pos rfl, bO (g3_0 c X), bO (g4_0 c X), kZ_of (M_has_t hs hG hk), if_pos rfl, bO (g3_0 c X), bO (g4_1 c X), bO (q8_ hs5), bO (g3_0 c X), bO (g4_0 c X), kL_of (M_gopen hG), kZ_of (M_holds _ (by omega) _)]
        cases hbo : bop S.1 k with
        | false => rw [if_neg (by decide)]; rfl
        | true =>
          rw [if_pos rfl, bO (rt_g2 hra c X), hR.2.1, kZ_of (M_holds _ (by omega) _)]
          by_cases hm : k ∈ l
          · rw [decide_eq_true hm, if_pos rfl]; rfl
          · rw [decide_eq_false hm, if_neg (by decide)]; rfl
      have rstart : ix_D mMo_step 0 [some (.ref 75), some (.int (nI s)), some (.int (nI k)), none] [] (hp c X) = if bop S.1 k = true then (if k ∈ l then some ([.int (-5)], hp c X) else if nI l.length ≤ 0 then l_Mo_step_63 75 (nI s) (nI k) (nI l.length) (hp c X) else (ix_M mMo_cellOf [.ref 75, .int (nI s), .int (nI l.length - 1)] (hp c X)).bind fun r => ix_kI r fun v12 h11 => (ix_M mMo_areAdjacent [.ref 75, .int v12, .int (nI k)] h11).bind fun r => ix_kZ r fun v14 h13 => if v14 = true then l_Mo_step_63 75 (nI s) (nI k) (nI l.length) h13 else some ([.int (-5)], h13)) else some ([.int (-5)], hp c X) := by
        rw [e_Mo_step, kZ_of (M_misSlot_t hs5 _), if_pos rfl, kZ_of (M_isCell_t hs hA hk), if_pos rfl, kI_of (M_mlength hA hs5), kZ_of (M_misOpen hs hA hk), ← hl]
        cases hbo : bop S.1 k with
        | false => rw [if_neg (by decide), if_neg (by decide)]
        | true =>
          rw [if_pos rfl, if_pos rfl]
          by_cases hm : k ∈ l
          · obtain ⟨i, hi, e⟩ := mem_gd l k hm
            rw [hl] at hi e
            rw [kI_of (M_mindexOf_t hb hA hs5 (by omega) hi e), if_pos hm, if_pos (nI_pos' (by have := bOK_len hb s; omega))]
          · rw [kI_of (M_mindexOf_f hb hA hs5 (by omega) (by rw [← hl]; exact hm)), if_neg hm, if_neg (by decide)]
      have fail : (ix_D mRP_step 0 [some (.ref 3), some (.int (nI s)), some (.int (nI k)), none, none, none] [] (hp c X) = some ([.int (-5)], hp c X)) → (ix_D mMo_step 0 [some (.ref 75), some (.int (nI s)), some (.int (nI k)), none] [] (hp c X) = some ([.int (-5)], hp c X)) → okI mRP_step mMo_step [.int (nI s), .int (nI k)] c X := fun e1 e2 => ok_0 h (r := -5) (x_RP_step (rc_3 c X) e1) (x_Mo_step (rc_75 c X) e2)
      have succeed : ¬ k ∈ l → (ix_D mRP_step 0 [some (.ref 3), some (.int (nI s)), some (.int (nI k)), none, none, none] [] (hp c X) = l_RP_step_99 (nI k) (9 + 2 * s) true (hp c X)) → (∀ Y : ixX, rBd (Y.1 76) S.1 → ix_D mMo_step 0 [some (.ref 75), some (.int (nI s)), some (.int (nI k)), none] [] (hp c Y) = l_Mo_step_63 75 (nI s) (nI k) (nI l.length) (hp c Y)) → okI mRP_step mMo_step [.int (nI s), .int (nI k)] c X := by
        intro hm e1 e2
        have hnd2 := nd_app hnd hm
        have hln2 : ∀ c, c ∈ l ++ [k] → c < bn S.1 := fun c hc => by
          rcases List.mem_append.mp hc with r | r
          · exact hln c r
          · rw [List.mem_singleton.mp r]; exact hk
        have hl2 := nd_len hnd2 hln2
        rw [List.length_append] at hl2
        have hl3 : l.length + 1 ≤ bn S.1 := hl2
        obtain ⟨X', f1, f2, f3⟩ := M_rappend hra (c := c) hR (by omega) (x := k) (by omega)
        have f4 : fRm 4 21 X X' := fRm_mono f3 (by omega) (by omega)
        have hr0 : rBd (X'.1 76) S.1 := (rI_4 f4 h.2.2).1
        obtain ⟨X'', hX''⟩ : ∃ Y, Y = aI X' 76 (upd (upd (X'.1 76) (395 + 65 * s + 1 + l.length) (nI k)) (395 + 65 * s) (nI (l.length + 1))) := ⟨_, rfl⟩
        have ex76 : eX [76] X' X'' := by rw [hX'']; exact eX_aI (eX_refl _ _) (by decide)
        have hr : rBd (X''.1 76) (setT S.1 (upTs (brt S.1) s (l ++ [k]))) := by
          rw [hX'', aI_1]
          refine rBd_T hs hr0 (fun t ht => ?_) (fun i hi => by rw [upd_n _ _ (by omega), upd_n _ _ (by omega)]) hb.2.2.2.1
          by_cases et : t = s
          · rw [et, upTs_1, upd_1, List.length_append]
            refine ⟨rfl, fun i hi => ?_⟩
            have hi2 : i < l.length + 1 := hi
            rw [upd_n _ _ (by omega)]
            rcases Nat.lt_or_ge i l.length with q | q
            · rw [upd_n _ _ (by omega), gd_app_l l [k] i q]
              have := A_tk hr0 hs5 (k := i) (by rw [← hl]; exact q)
              rw [← hl] at this
              exact this
            · have ei : i = l.length := by omega
              rw [ei, upd_1]
              exact congrArg nI (gd_app_r l [k] 0).symm
          · have ht64 := bOK_len hb t
            rw [upTs_n _ _ et, upd_n _ _ (by omega), upd_n _ _ (by omega)]
            refine ⟨A_t hr0 ht, fun i hi => ?_⟩
            rw [upd_n _ _ (by omega), upd_n _ _ (by omega)]
            exact A_tk hr0 ht hi
        refine ok_s (S := S) (S' := (setT S.1 (upTs (brt S.1) s (l ++ [k])), S.2)) (r := nI (l.length + 1)) (sOK_b h.1 (bOK_T hb hnd2 hln2)) (x_RP_step (rc_3 c X) ?_) (cI_b h.2.1 f4 (cBd_T h.2.1.1 hs5 f3 f2)) (x_Mo_step (rc_75 c X') ?_) (fRm_76 ex76) (rI_76 (rI_4 f4 h.2.2) ex76 hr) (zF_fr f4 (by omega))
        · rw [e1, e_RP_step_99, if_pos rfl, if_pos (by decide), kV_of f1, bO (rt_g1 hra c X'), f2.1, List.length_append]
          rfl
        · rw [e2 X' hr0, e_Mo_step_63, bO (g75_0 c _), bO (y76 (i396k s l.length) (by omega)), bO (g75_0 c _), bO (y76 (i395 s) (by omega)), aI_1, aI_aI, nI_1, ← hX'']
      cases hbo : bop S.1 k with
      | false =>
        refine fail ?_ (by rw [rstart, hbo, if_neg (by decide)])
        rw [cstart, hbo, e_RP_step_66, bO (rt_g1 hra c X), hR.1]
        by_cases h0 : nI l.length = 0
        · rw [if_pos h0, e_RP_step_99]; rfl
        · have hpos : 0 < l.length := by
            rcases Nat.eq_zero_or_pos l.length with z | z
            · rw [z] at h0; exact absurd rfl h0
            · exact z
          have hll := hln _ (gd_mem l (l.length - 1) (by omega))
          have hEs : ∀ c, decide (c = l.getD (l.length - 1) 0) = true → c < bn S.1 := fun c hc => by rw [of_decide_eq_true hc]; exact hll
          rw [if_neg h0, bO (g3_0 c X), bO (g4_0 c X), kI_of (M_rlast hra hR hlen hpos), kL_of (M_bit (by omega) _), kL_of (M_around hs hG hEs), kZ_of (M_holds _ (by omega) _)]
          cases sar S.1 (fun i => decide (i = l.getD (l.length - 1) 0)) k with
          | true => rw [if_pos rfl, e_RP_step_99]; rfl
          | false => rw [if_neg (by decide), if_neg (by simp)]
      | true =>
        by_cases hm : k ∈ l
        · refine fail ?_ (by rw [rstart, hbo, if_pos rfl, if_pos hm])
          rw [cstart, hbo, decide_eq_true hm, e_RP_step_66, bO (rt_g1 hra c X), hR.1]
          by_cases h0 : nI l.length = 0
          · rw [if_pos h0, e_RP_step_99]; rfl
          · have hpos : 0 < l.length := by
              rcases Nat.eq_zero_or_pos l.length with z | z
              · rw [z] at h0; exact absurd rfl h0
              · exact z
            have hll := hln _ (gd_mem l (l.length - 1) (by omega))
            have hEs : ∀ c, decide (c = l.getD (l.length - 1) 0) = true → c < bn S.1 := fun c hc => by rw [of_decide_eq_true hc]; exact hll
            rw [if_neg h0, bO (g3_0 c X), bO (g4_0 c X), kI_of (M_rlast hra hR hlen hpos), kL_of (M_bit (by omega) _), kL_of (M_around hs hG hEs), kZ_of (M_holds _ (by omega) _)]
            cases sar S.1 (fun i => decide (i = l.getD (l.length - 1) 0)) k with
            | true => rw [if_pos rfl, e_RP_step_99]; rfl
            | false => rw [if_neg (by decide), if_neg (by decide)]
        · have cst2 : ix_D mRP_step 0 [some (.ref 3), some (.int (nI s)), some (.int (nI k)), none, none, none] [] (hp c X) = l_RP_step_66 3 (nI k) (9 + 2 * s) true (hp c X) := by rw [cstart, hbo, decide_eq_false hm]; rfl
          have rgen : ∀ Y : ixX, rBd (Y.1 76) S.1 → ix_D mMo_step 0 [some (.ref 75), some (.int (nI s)), some (.int (nI k)), none] [] (hp c Y) = if nI l.length ≤ 0 then l_Mo_step_63 75 (nI s) (nI k) (nI l.length) (hp c Y) else (ix_M mMo_cellOf [.ref 75, .int (nI s), .int (nI l.length - 1)] (hp c Y)).bind fun r => ix_kI r fun v12 h11 => (ix_M mMo_areAdjacent [.ref 75, .int v12, .int (nI k)] h11).bind fun r => ix_kZ r fun v14 h13 => if v14 = true then l_Mo_step_63 75 (nI s) (nI k) (nI l.length) h13 else some ([.int (-5)], h13) := by
            intro Y hY
            rw [e_Mo_step, kZ_of (M_misSlot_t hs5 _), if_pos rfl, kZ_of (M_isCell_t hs hY hk), if_pos rfl, kI_of (M_mlength hY hs5), kZ_of (M_misOpen hs hY hk), ← hl, hbo, if_pos rfl, kI_of (M_mindexOf_f hb hY hs5 (by omega) (by rw [← hl]; exact hm)), if_neg (by decide)]
          rcases Nat.eq_zero_or_pos l.length with z | z
          · refine succeed hm ?_ (fun Y hY => ?_)
            · rw [cst2, e_RP_step_66, bO (rt_g1 hra c X), hR.1, z, if_pos (show nI 0 = 0 from rfl)]
            · rw [rgen Y hY, z, if_pos (by decide)]
          · have hll := hln _ (gd_mem l (l.length - 1) (by omega))
            have hEs : ∀ c, decide (c = l.getD (l.length - 1) 0) = true → c < bn S.1 := fun c hc => by rw [of_decide_eq_true hc]; exact hll
            have hsar : sar S.1 (fun i => decide (i = l.getD (l.length - 1) 0)) k = adjB S.1 (l.getD (l.length - 1) 0) k := by
              rw [Bool.eq_iff_iff, sar_iff hs hEs]
              constructor
              · rintro ⟨_, z, _, q2, q3⟩
                rw [of_decide_eq_true q2] at q3
                exact q3
              · intro q
                exact ⟨hk, _, hll, decide_eq_true rfl, q⟩
            have cst3 : ix_D mRP_step 0 [some (.ref 3), some (.int (nI s)), some (.int (nI k)), none, none, none] [] (hp c X) = if adjB S.1 (l.getD (l.length - 1) 0) k = true then l_RP_step_99 (nI k) (9 + 2 * s) true (hp c X) else some ([.int (-5)], hp c X) := by
              rw [cst2, e_RP_step_66, bO (rt_g1 hra c X), hR.1, if_neg (nI_ne0 z (by omega)), bO (g3_0 c X), bO (g4_0 c X), kI_of (M_rlast hra hR hlen z), kL_of (M_bit (by omega) _), kL_of (M_around hs hG hEs), kZ_of (M_holds _ (by omega) _), hsar]
              cases adjB S.1 (l.getD (l.length - 1) 0) k with
              | true => rw [if_pos rfl, if_pos rfl]
              | false => rw [if_neg (by decide), if_pos rfl, if_neg (by decide), if_neg (by decide)]
            have rst3 : ∀ Y : ixX, rBd (Y.1 76) S.1 → ix_D mMo_step 0 [some (.ref 75), some (.int (nI s)), some (.int (nI k)), none] [] (hp c Y) = if adjB S.1 (l.getD (l.length - 1) 0) k = true then l_Mo_step_63 75 (nI s) (nI k) (nI l.length) (hp c Y) else some ([.int (-5)], hp c Y) := by
              intro Y hY
              have hco : ix_M mMo_cellOf [.ref 75, .int (nI s), .int (nI (l.length - 1))] (hp c Y) = some ([.int (nI (l.getD (l.length - 1) 0))], hp c Y) := by
                have := M_mcellOf (c := c) hY hs5 (k := l.length - 1) (by rw [← hl]; omega) (by rw [← hl]; exact hlen)
                rw [← hl] at this
                exact this
              rw [rgen Y hY, if_neg (nI_nle z (by omega)), show nI l.length - 1 = nI (l.length - 1) from nI_sub (b := 1) (by omega), kI_of hco, kZ_of (M_areAdjacent hs hY hll hk)]
            cases hadj : adjB S.1 (l.getD (l.length - 1) 0) k with
            | true => exact succeed hm (by rw [cst3, hadj, if_pos rfl]) (fun Y hY => by rw [rst3 Y hY, hadj, if_pos rfl])
            | false => exact fail (by rw [cst3, hadj, if_neg (by decide)]) (by rw [rst3 X hA, hadj, if_neg (by decide)])
    · exact ok_0 h (r := -1) (x_RP_step (rc_3 c X) (by rw [e_RP_step, kZ_of (M_isSlot_t hs5 _), if_pos rfl, bO (g3_0 c X), bO (g4_0 c X), kZ_of (M_has_f hG hy), if_neg (by decide)])) (x_Mo_step (rc_75 c X) (by rw [e_Mo_step, kZ_of (M_misSlot_t hs5 _), if_pos rfl, kZ_of (M_isCell_f hs hA hy), if_neg (by decide)]))
  · exact ok_0 h (r := -1) (x_RP_step (rc_3 c X) (by rw [e_RP_step, kZ_of (M_isSlot_f hx _), if_neg (by decide)])) (x_Mo_step (rc_75 c X) (by rw [e_Mo_step, kZ_of (M_misSlot_f hx _), if_neg (by decide)]))
theorem K_back {c : ixK} {X : ixX} {S : sT} (h : invK c X S) (x1 : Int32) : okI mRP_back mMo_back [.int x1] c X := by
  obtain ⟨hs, hG, hA, hb⟩ := invK_G h
  have h64 := bS_64 hs
  rcases i_cases x1 (n := 5) (by omega) with ⟨s, hs5, rfl⟩ | hx
  · have hR := c_rt h.2.1.1 hs5
    have hlen := bOK_len hb s
    have hra := rtA_4 hs5
    obtain ⟨l, hl⟩ : ∃ l, l = brt S.1 s := ⟨_, rfl⟩
    rw [← hl] at hR hlen
    have hln : ∀ c, c ∈ l → c < bn S.1 := fun c hc => (hb.2.2.2.2.2 s).2 c (by rw [← hl]; exact hc)
    have hnd : l.Nodup := by rw [hl]; exact (hb.2.2.2.2.2 s).1
    rcases Nat.eq_zero_or_pos l.length with z | z
    · refine ok_0 h (r := -5) (x_RP_back (rc_3 c X) ?_) (x_Mo_back (rc_75 c X) ?_)
      · rw [e_RP_back, kZ_of (M_isSlot_t hs5 _), if_pos rfl, bO (g3_0 c X), bO (g4_1 c X), bO (q8_ hs5), bO (rt_g1 hra c X), hR.1, z, if_neg (fun n => n rfl)]
      · rw [e_Mo_back, kZ_of (M_misSlot_t hs5 _), if_pos rfl, kI_of (M_mlength hA hs5), ← hl, z, if_neg (fun n => n rfl)]
    · obtain ⟨X', f1, f2, f3⟩ := M_rkeep hra (c := c) hR hlen (fun c hc => by have := hln c hc; omega) (n := l.length - 1) (by omega)
      have htl : (l.take (l.length - 1)).length = l.length - 1 := by rw [List.length_take]; omega
      have hnd2 : (l.take (l.length - 1)).Nodup := gd_nd _ (fun i j hij hj => by
        rw [htl] at hj
        rw [gd_take l _ i (by omega), gd_take l _ j hj]
        exact nd_gd l hnd i j hij (by omega))
      have hln2 : ∀ c, c ∈ l.take (l.length - 1) → c < bn S.1 := fun c hc => hln c (List.mem_of_mem_take hc)
      have f4 : fRm 4 21 X X' := fRm_mono f3 (by omega) (by omega)
      have hr0 : rBd (X'.1 76) S.1 := (rI_4 f4 h.2.2).1
      obtain ⟨X'', hX''⟩ : ∃ Y, Y = aI X' 76 (upd (X'.1 76) (395 + 65 * s) (nI (l.length - 1))) := ⟨_, rfl⟩
      have ex76 : eX [76] X' X'' := by rw [hX'']; exact eX_aI (eX_refl _ _) (by decide)
      have hr : rBd (X''.1 76) (setT S.1 (upTs (brt S.1) s (l.take (l.length - 1)))) := by
        rw [hX'', aI_1]
        refine rBd_T hs hr0 (fun t ht => ?_) (fun i hi => by rw [upd_n _ _ (by omega)]) hb.2.2.2.1
        by_cases et : t = s
        · rw [et, upTs_1, upd_1, htl]
          refine ⟨rfl, fun i hi => ?_⟩
          rw [upd_n _ _ (by omega), gd_take l _ i hi]
          have := A_tk hr0 hs5 (k := i) (by rw [← hl]; omega)
          rw [← hl] at this
          exact this
        · have ht64 := bOK_len hb t
          rw [upTs_n _ _ et, upd_n _ _ (by omega)]
          refine ⟨A_t hr0 ht, fun i hi => ?_⟩
          rw [upd_n _ _ (by omega)]
          exact A_tk hr0 ht hi
      have hlen2 : ix_M mMo_length [.ref 75, .int (nI s)] (hp c X'') = some ([.int (nI (l.length - 1))], hp c X'') := by
        have := M_mlength (c := c) hr hs5
        rw [show brt (setT S.1 (upTs (brt S.1) s (l.take (l.length - 1)))) s = l.take (l.length - 1) from upTs_1 _ _ _, htl] at this
        exact this
      have e395 : X'.1 76 (395 + 65 * s) = nI l.length := by rw [A_t hr0 hs5, ← hl]
      refine ok_s (S := S) (S' := (setT S.1 (upTs (brt S.1) s (l.take (l.length - 1))), S.2)) (r := nI (l.length - 1)) (sOK_b h.1 (bOK_T hb hnd2 hln2)) (x_RP_back (rc_3 c X) ?_) (cI_b h.2.1 f4 (cBd_T h.2.1.1 hs5 f3 f2)) (x_Mo_back (rc_75 c X') ?_) (fRm_76 ex76) (rI_76 (rI_4 f4 h.2.2) ex76 hr) (zF_fr f4 (by omega))
      · rw [e_RP_back, kZ_of (M_isSlot_t hs5 _), if_pos rfl, bO (g3_0 c X), bO (g4_1 c X), bO (q8_ hs5), bO (rt_g1 hra c X), hR.1, if_pos (nI_ne0 z (by omega)), bO (rt_g1 hra c X), hR.1, show nI l.length - 1 = nI (l.length - 1) from nI_sub (b := 1) (by omega), kV_of f1, bO (rt_g1 hra c X'), f2.1, htl]
      · rw [e_Mo_back, kZ_of (M_misSlot_t hs5 _), if_pos rfl, kI_of (M_mlength hr0 hs5), ← hl, if_pos (nI_ne0 z (by omega)), bO (g75_0 c _), bO (x76 (i395 s) (by omega)), e395, show nI l.length - 1 = nI (l.length - 1) from nI_sub (b := 1) (by omega), bO (y76 (i395 s) (by omega)), ← hX'', kI_of hlen2]
  · exact ok_0 h (r := -1) (x_RP_back (rc_3 c X) (by rw [e_RP_back, kZ_of (M_isSlot_f hx _), if_neg (by decide)])) (x_Mo_back (rc_75 c X) (by rw [e_Mo_back, kZ_of (M_misSlot_f hx _), if_neg (by decide)]))
theorem K_route {c : ixK} {X : ixX} {S : sT} (h : invK c X S) (x1 x2 : Int32) : okI mRP_route mMo_route [.int x1, .int x2] c X := by
  obtain ⟨hs, hG, hA, hb⟩ := invK_G h
  have h64 := bS_64 hs
  rcases i_cases x1 (n := 5) (by omega) with ⟨s, hs5, rfl⟩ | hx
  · have hR := c_rt h.2.1.1 hs5
    have hlen := bOK_len hb s
    have hra := rtA_4 hs5
    by_cases h1 : x2 = -1
    · exact ok_0 h (r := nI (brt S.1 s).length) (x_RP_route (rc_3 c X) (by rw [e_RP_route, kZ_of (M_isSlot_t hs5 _), if_pos rfl, bO (g3_0 c X), bO (g4_1 c X), bO (q8_ hs5), if_neg (fun n => n h1), bO (rt_g1 hra c X), hR.1])) (x_Mo_route (rc_75 c X) (by rw [e_Mo_route, kZ_of (M_misSlot_t hs5 _), if_pos rfl, if_neg (fun n => n h1), kI_of (M_mlength hA hs5)]))
    · rcases i_cases x2 (n := (brt S.1 s).length) (by omega) with ⟨k, hk, rfl⟩ | hy
      · exact ok_0 h (r := nI ((brt S.1 s).getD k 0)) (x_RP_route (rc_3 c X) (by rw [e_RP_route, kZ_of (M_isSlot_t hs5 _), if_pos rfl, bO (g3_0 c X), bO (g4_1 c X), bO (q8_ hs5), if_pos h1, kI_of (M_rat hra hR hlen hk)])) (x_Mo_route (rc_75 c X) (by rw [e_Mo_route, kZ_of (M_misSlot_t hs5 _), if_pos rfl, if_pos h1, kI_of (M_mlength hA hs5), kZ_of (M_in0_t hk (by omega) _), if_pos rfl, kI_of (M_mcellOf hA hs5 hk hlen)]))
      · have hin : ix_M mMo_in [.int x2, .int 0, .int (nI (brt S.1 s).length - 1)] (hp c X) = some ([.int (ix_bi false)], hp c X) := by
          rcases Nat.eq_zero_or_pos (brt S.1 s).length with z | z
          · refine M_in_f ?_ _
            rw [z]
            by_cases h2 : x2 < 0
            · exact .inl h2
            · refine .inr ?_
              obtain ⟨j, hj, rfl⟩ := nI_of h2
              show zI (-1) < nI j
              rw [nI_z, zI_lt (by omega) (by omega) (by omega) (by omega)]
              omega
          · exact M_in0_f z (by omega) hy _
        exact ok_0 h (r := -6) (x_RP_route (rc_3 c X) (by rw [e_RP_route, kZ_of (M_isSlot_t hs5 _), if_pos rfl, bO (g3_0 c X), bO (g4_1 c X), bO (q8_ hs5), if_pos h1, kI_of (M_rat_out hra hR hy)])) (x_Mo_route (rc_75 c X) (by rw [e_Mo_route, kZ_of (M_misSlot_t hs5 _), if_pos rfl, if_pos h1, kI_of (M_mlength hA hs5), kZ_of hin, if_neg (by decide)]))
  · exact ok_0 h (r := -1) (x_RP_route (rc_3 c X) (by rw [e_RP_route, kZ_of (M_isSlot_f hx _), if_neg (by decide)])) (x_Mo_route (rc_75 c X) (by rw [e_Mo_route, kZ_of (M_misSlot_f hx _), if_neg (by decide)]))
