/-! CALLS: bestTurns -/
def pcB (b : Nat) : Nat := fb_ct (fun i => bt (nI b) i) 31
theorem M_JIbc {b : Nat} (hb : b < 16) (h : ixH) : ix_M mJI_bitCount [.int (nI b)] h = some ([.int (nI (pcB b))], h) := by
  refine x_JI_bitCount ?_
  rw [e_JI_bitCount]
  rcases (show b = 0 ∨ b = 1 ∨ b = 2 ∨ b = 3 ∨ b = 4 ∨ b = 5 ∨ b = 6 ∨ b = 7 ∨ b = 8 ∨ b = 9 ∨ b = 10 ∨ b = 11 ∨ b = 12 ∨ b = 13 ∨ b = 14 ∨ b = 15 by omega) with rfl | rfl | rfl | rfl | rfl | rfl | rfl | rfl | rfl | rfl | rfl | rfl | rfl | rfl | rfl | rfl <;> rfl
theorem M_mbits {b : Nat} (h : ixH) : ix_M mMo_bits [.int (nI b)] h = some ([.int (nI (pcB b))], h) := by
  refine x_Mo_bits ?_
  have e := lp_f (fun k v => l_Mo_bits_4 (nI b) v (nI k) h) (fun k => nI (fb_ct (fun i => bt (nI b) i) k)) (N := 31) (fun k hk => by
    show l_Mo_bits_4 (nI b) (nI (fb_ct (fun i => bt (nI b) i) k)) (nI k) h = l_Mo_bits_4 (nI b) (nI (fb_ct (fun i => bt (nI b) i) (k + 1))) (nI (k + 1)) h
    rw [e_Mo_bits_4, if_neg (lit_nle (x := 31) (a := 31) (k := k) rfl hk (by omega)), sh1 _ (by omega), ← ct_step, nI_1 k]) (k := 0) (by omega)
  have e' : l_Mo_bits_4 (nI b) 0 0 h = l_Mo_bits_4 (nI b) (nI (pcB b)) (nI 31) h := e
  rw [e_Mo_bits, e', e_Mo_bits_4, if_pos (show (31 : Int32) ≤ nI 31 by decide)]
def bestS (V : Nat → Nat) : Nat → Nat × Int32
  | 0 => (0, -1)
  | k + 1 => if (bestS V k).2 < nI (V k) then (k, nI (V k)) else if ¬ nI (V k) = (bestS V k).2 then bestS V k else if nI (pcB (bestS V k).1) ≤ nI (pcB k) then bestS V k else (k, nI (V k))
theorem bestS_lt (V : Nat → Nat) : ∀ k, (bestS V k).1 ≤ k - 1
  | 0 => Nat.le_refl 0
  | k + 1 => by
    have ih := bestS_lt V k
    show (if (bestS V k).2 < nI (V k) then (k, nI (V k)) else if ¬ nI (V k) = (bestS V k).2 then bestS V k else if nI (pcB (bestS V k).1) ≤ nI (pcB k) then bestS V k else (k, nI (V k))).1 ≤ k + 1 - 1
    by_cases q1 : (bestS V k).2 < nI (V k)
    · rw [if_pos q1]; show k ≤ k + 1 - 1; omega
    · rw [if_neg q1]
      by_cases q2 : ¬ nI (V k) = (bestS V k).2
      · rw [if_pos q2]; omega
      · rw [if_neg q2]
        by_cases q3 : nI (pcB (bestS V k).1) ≤ nI (pcB k)
        · rw [if_pos q3]; omega
        · rw [if_neg q3]; show k ≤ k + 1 - 1; omega
def vOf (B : bT) (m : Nat) (v : Nat) : Prop := ∃ A P, FlowR B (opn B (twl B (nI m) 4)) (rop B (twl B (nI m) 4) 1) (rop B (twl B (nI m) 4) 2) v A P
theorem L_cbest {c : ixK} {X : ixX} {B : bT} (hs : bS B) (hG : cG 4 X B) {V : Nat → Nat} (hV : ∀ m, m < 16 → ∀ v, vOf B m v → v = V m) (x1 : Int32) : ∃ X', l_RP_bestTurns_17 3 x1 0 (-1) 0 (hp c X) = (if ¬ x1 = 0 then some ([.int (bestS V 16).2], hp c X') else some ([.int (nI (bestS V 16).1)], hp c X')) ∧ fRm 59 75 X X' := by
  obtain ⟨X', e, hf⟩ := lp_up (fun k (Y : ixX) => l_RP_bestTurns_17 3 x1 (nI (bestS V k).1) (bestS V k).2 (nI k) (hp c Y)) (fun k Y => fRm 59 75 X Y) (N := 16) (fun k Y hk hf => by
    have hb := bestS_lt V k
    have hG' : cG 4 Y B := cG_cong (hf _ (by omega)).1 (hf _ (by omega)).2 (hf _ (by omega)).2 (hf _ (by omega)).2 hG
    obtain ⟨Z, v, A, P, g, m, hZ, e1, e2, _, _, _, e3⟩ := C_widen (c := c) hs hG' (twl B (nI k) 4) false
    have hv : v = V k := hV k hk v ⟨A, P, e2⟩
    refine ⟨Z, ?_, fRm_trans hf e3⟩
    show l_RP_bestTurns_17 3 x1 (nI (bestS V k).1) (bestS V k).2 (nI k) (hp c Y) = l_RP_bestTurns_17 3 x1 (nI (bestS V (k + 1)).1) (bestS V (k + 1)).2 (nI (k + 1)) (hp c Z)
    have e1' : ix_M mSm_widen [.ref 65, .ref 5, .long (LSt (twl B (nI k) 4)), .int 0] (hp c Y) = some ([.int (nI (V k))], hp c Z) := by rw [← hv]; exact e1
    have st : ∀ b : Bool, l_RP_bestTurns_70 3 x1 (nI (bestS V k).1) (bestS V k).2 (nI k) (nI (V k)) b (hp c Z) = if (bestS V k).2 < nI (V k) then l_RP_bestTurns_17 3 x1 (nI k) (nI (V k)) (nI (k + 1)) (hp c Z) else if ¬ nI (V k) = (bestS V k).2 then l_RP_bestTurns_17 3 x1 (nI (bestS V k).1) (bestS V k).2 (nI (k + 1)) (hp c Z) else if b = true then l_RP_bestTurns_17 3 x1 (nI k) (nI (V k)) (nI (k + 1)) (hp c Z) else l_RP_bestTurns_17 3 x1 (nI (bestS V k).1) (bestS V k).2 (nI (k + 1)) (hp c Z) := fun b => by rw [e_RP_bestTurns_70, nI_1 k]
    rw [e_RP_bestTurns_17, if_neg (lit_nle (x := 16) (a := 16) (k := k) rfl hk (by omega)), bO (g3_6 c _), bO (g3_0 c _), bO (g4_0 c _), bO (g3_0 c _), bO (g4_0 c _), kL_of (M_wallsTurned hG' _), kI_of e1', kI_of (M_JIbc hk _), kI_of (M_JIbc (by omega) _), st, st]
    have eb : bestS V (k + 1) = if (bestS V k).2 < nI (V k) then (k, nI (V k)) else if ¬ nI (V k) = (bestS V k).2 then bestS V k else if nI (pcB (bestS V k).1) ≤ nI (pcB k) then bestS V k else (k, nI (V k)) := rfl
    rw [eb]
    by_cases q3 : nI (pcB (bestS V k).1) ≤ nI (pcB k)
    · rw [if_pos q3, if_pos q3]
      by_cases q1 : (bestS V k).2 < nI (V k)
      · rw [if_pos q1, if_pos q1]
      · rw [if_neg q1, if_neg q1]
        by_cases q2 : ¬ nI (V k) = (bestS V k).2
        · rw [if_pos q2, if_pos q2]
        · rw [if_neg q2, if_neg q2, if_neg (by decide)]
    · rw [if_neg q3, if_neg q3]
      by_cases q1 : (bestS V k).2 < nI (V k)
      · rw [if_pos q1, if_pos q1]
      · rw [if_neg q1, if_neg q1]
        by_cases q2 : ¬ nI (V k) = (bestS V k).2
        · rw [if_pos q2, if_pos q2]
        · rw [if_neg q2, if_neg q2, if_pos rfl]) (k := 0) (s := X) (by omega) (fRm_refl _ _ _)
  have e' : l_RP_bestTurns_17 3 x1 0 (-1) 0 (hp c X) = l_RP_bestTurns_17 3 x1 (nI (bestS V 16).1) (bestS V 16).2 (nI 16) (hp c X') := e
  refine ⟨X', ?_, hf⟩
  rw [e', e_RP_bestTurns_17, if_pos (show (16 : Int32) ≤ nI 16 by decide)]
theorem M_turnAll {c : ixK} {X : ixX} {B : bT} (hs : bS B) (hA : rBd (X.1 76) B) (m : Int32) : ∃ Y, ix_M mMo_turnAll [.ref 75, .int m] (hp c X) = some ([], hp c Y) ∧ eX [76] X Y ∧ rBd (Y.1 76) (setW B (twl B m 4)) := by
  obtain ⟨Y, e, hf, hr⟩ := lp_up (fun k (Y : ixX) => l_Mo_turnAll_2 75 m (nI k) (hp c Y)) (fun k Y => eX [76] X Y ∧ rBd (Y.1 76) (setW B (twl B m k))) (N := 4) (fun k Y hk ⟨q1, q2⟩ => by
    show ∃ Z : ixX, l_Mo_turnAll_2 75 m (nI k) (hp c Y) = l_Mo_turnAll_2 75 m (nI (k + 1)) (hp c Z) ∧ _
    rw [e_Mo_turnAll_2, if_neg (lit_nle (x := 4) (a := 4) (k := k) rfl hk (by omega)), nI_1 k]
    have et : twl B m (k + 1) = fun c => if bt m k = true then twl B m k c ^^ bwi B k c else twl B m k c := rfl
    rcases bt_cases m (k := k) (by omega) with ⟨q, r1, r2⟩ | ⟨q, r1, r2⟩
    · obtain ⟨Z, z1, z2, z3⟩ := M_turnOne (c := c) (B := setW B (twl B m k)) hs q2 hk
      refine ⟨Z, ?_, eX_trans q1 z2, ?_⟩
      · rw [if_neg (fun n => n r1), kV_of z1]
      · rw [et, q]
        exact z3
    · refine ⟨Y, ?_, q1, ?_⟩
      · rw [if_pos r1]
      · rw [et, q]
        exact q2) (k := 0) (s := X) (by omega) ⟨eX_refl _ _, hA⟩
  have e' : l_Mo_turnAll_2 75 m 0 (hp c X) = l_Mo_turnAll_2 75 m (nI 4) (hp c Y) := e
  refine ⟨Y, x_Mo_turnAll (rc_75 c X) ?_, hf, hr⟩
  rw [e_Mo_turnAll, e', e_Mo_turnAll_2, if_pos (show (4 : Int32) ≤ nI 4 by decide)]
theorem twl_x (B : bT) (w : Nat → Bool) (m : Int32) (x : Nat) : ∀ k, twl (setW B w) m k x = (w x ^^ (twl B m k x ^^ bwl B x))
  | 0 => by
    show w x = (w x ^^ (bwl B x ^^ bwl B x))
    rw [Bool.xor_self, Bool.xor_false]
  | k + 1 => by
    have ih := twl_x B w m x k
    show (if bt m k = true then twl (setW B w) m k x ^^ bwi B k x else twl (setW B w) m k x) = (w x ^^ ((if bt m k = true then twl B m k x ^^ bwi B k x else twl B m k x) ^^ bwl B x))
    rw [ih]
    cases bt m k <;> cases w x <;> cases twl B m k x <;> cases bwl B x <;> cases bwi B k x <;> rfl
theorem twl_2 (B : bT) (m : Int32) : twl (setW B (twl B m 4)) m 4 = bwl B := by
  funext x
  rw [twl_x]
  cases twl B m 4 x <;> cases bwl B x <;> rfl
theorem L_rbest {c : ixK} {X : ixX} {B : bT} (hs : bS B) (hr4 : ∀ c, brl B c < 4) (hA : rBd (X.1 76) B) {V : Nat → Nat} (hV : ∀ m, m < 16 → ∀ v, vOf B m v → v = V m) (x1 : Int32) : ∃ Y, l_Mo_bestTurns_19 75 x1 0 (-1) 0 (hp c X) = (if ¬ x1 = 0 then some ([.int (bestS V 16).2], hp c Y) else some ([.int (nI (bestS V 16).1)], hp c Y)) ∧ rBd (Y.1 76) B ∧ (∀ a, (a < 75 ∨ (76 < a ∧ a < 79) ∨ 101 ≤ a) → Y.1 a = X.1 a ∧ Y.2 a = X.2 a) ∧ Y.1 75 31 = X.1 75 31 := by
  obtain ⟨Y, e, hr, hf, h31⟩ := lp_up (fun k (Y : ixX) => l_Mo_bestTurns_19 75 x1 (nI (bestS V k).1) (bestS V k).2 (nI k) (hp c Y)) (fun k Y => rBd (Y.1 76) B ∧ (∀ a, (a < 75 ∨ (76 < a ∧ a < 79) ∨ 101 ≤ a) → Y.1 a = X.1 a ∧ Y.2 a = X.2 a) ∧ Y.1 75 31 = X.1 75 31) (N := 16) (fun k Y hk ⟨hr, hf, h31⟩ => by
    have hb := bestS_lt V k
    obtain ⟨Z1, a1, a2, a3⟩ := M_turnAll (c := c) hs hr (nI k)
    obtain ⟨Z2, v, A, P, b1, b2, b3⟩ := R_flow (c := c) (B := setW B (twl B (nI k) 4)) hs hr4 a3
    have hv : v = V k := hV k hk v ⟨A, P, b3⟩
    have hr2 : rBd (Z2.1 76) (setW B (twl B (nI k) 4)) := by rw [rS_76 b2]; exact a3
    obtain ⟨Z3, d1, d2, d3⟩ := M_turnAll (c := c) (B := setW B (twl B (nI k) 4)) hs hr2 (nI k)
    rw [twl_2] at d3
    have d3' : rBd (Z3.1 76) B := d3
    refine ⟨Z3, ?_, d3', fun a ha => ?_, ?_⟩
    · show l_Mo_bestTurns_19 75 x1 (nI (bestS V k).1) (bestS V k).2 (nI k) (hp c Y) = l_Mo_bestTurns_19 75 x1 (nI (bestS V (k + 1)).1) (bestS V (k + 1)).2 (nI (k + 1)) (hp c Z3)
      rw [hv] at b1
      rw [e_Mo_bestTurns_19, if_neg (lit_nle (x := 16) (a := 16) (k := k) rfl hk (by omega)), kV_of a1, kI_of b1, kV_of d1, kI_of (M_mbits _), kI_of (M_mbits _), nI_1 k]
      have eb : bestS V (k + 1) = if (bestS V k).2 < nI (V k) then (k, nI (V k)) else if ¬ nI (V k) = (bestS V k).2 then bestS V k else if nI (pcB (bestS V k).1) ≤ nI (pcB k) then bestS V k else (k, nI (V k)) := rfl
      rw [eb]
      by_cases q1 : (bestS V k).2 < nI (V k)
      · rw [if_pos q1, if_pos q1]
      · rw [if_neg q1, if_neg q1]
        by_cases q2 : ¬ nI (V k) = (bestS V k).2
        · rw [if_pos q2, if_pos q2]
        · rw [if_neg q2, if_neg q2]
          by_cases q3 : nI (pcB (bestS V k).1) ≤ nI (pcB k)
          · rw [if_pos q3, if_pos q3]
          · rw [if_neg q3, if_neg q3]
    · have m1 : ¬ a ∈ [76] := fun q => by have := List.mem_singleton.mp q; omega
      refine ⟨((d2.2 a m1).trans ((b2.1 a (by omega)).1.trans (a2.2 a m1))).trans (hf a ha).1, ?_⟩
      rw [d2.1, (b2.1 a (by omega)).2, a2.1]
      exact (hf a ha).2
    · rw [d2.2 75 (by decide), b2.2, a2.2 75 (by decide)]
      exact h31) (k := 0) (s := X) (by omega) ⟨hA, fun _ _ => ⟨rfl, rfl⟩, rfl⟩
  have e' : l_Mo_bestTurns_19 75 x1 0 (-1) 0 (hp c X) = l_Mo_bestTurns_19 75 x1 (nI (bestS V 16).1) (bestS V 16).2 (nI 16) (hp c Y) := e
  refine ⟨Y, ?_, hr, hf, h31⟩
  rw [e', e_Mo_bestTurns_19, if_pos (show (16 : Int32) ≤ nI 16 by decide)]
theorem vOf_ex {c : ixK} {X : ixX} {B : bT} (hs : bS B) (hG : cG 4 X B) : ∃ V : Nat → Nat, ∀ m, m < 16 → ∀ v, vOf B m v → v = V m := by
  have h1 : ∀ m, ∃ v, vOf B m v := fun m => by
    obtain ⟨Z, v, A, P, g, m, hZ, e1, e2, _⟩ := C_widen (c := c) hs hG (twl B (nI m) 4) false
    exact ⟨v, A, P, e2⟩
  refine ⟨fun m => Classical.choose (h1 m), fun m _ v hv => ?_⟩
  obtain ⟨A, P, q⟩ := hv
  obtain ⟨A2, P2, q2⟩ := Classical.choose_spec (h1 m)
  exact (FlowR_eq hs q q2).1
theorem K_bestTurns {c : ixK} {X : ixX} {S : sT} (h : invK c X S) (x1 : Int32) : okI mRP_bestTurns mMo_bestTurns [.int x1] c X := by
  obtain ⟨hs, hG, hA, hb⟩ := invK_G h
  obtain ⟨V, hV⟩ := vOf_ex (c := c) hs hG
  obtain ⟨X', e1, f1⟩ := L_cbest (c := c) hs hG hV x1
  have hr' : rI X' S := rI_q f1 (by omega) h.2.2
  obtain ⟨Y, e2, r1, r2, r3⟩ := L_rbest (c := c) hs hb.2.2.1 hr'.1 hV x1
  have go : ∀ r : Int32, ix_M mRP_bestTurns [.ref 3, .int x1] (hp c X) = some ([.int r], hp c X') → ix_M mMo_bestTurns [.ref 75, .int x1] (hp c X') = some ([.int r], hp c Y) → okI mRP_bestTurns mMo_bestTurns [.int x1] c X := fun r q1 q2 => ok_s (S := S) (S' := S) (r := r) h.1 q1 (cI_fr f1 (by omega) (by omega) h.2.1) q2 (fun a ha => r2 a (by omega)) (rI_b (B' := S.1) hr' (fun a _ _ h3 h4 h5 => (r2 a (by omega)).1) r3 r1) (zF_fr f1 (by omega))
  rcases flag_of x1 with rfl | rfl | ⟨f0, fn1, f2⟩
  · refine go (nI (bestS V 16).1) (x_RP_bestTurns (rc_3 c X) ?_) (x_Mo_bestTurns (rc_75 c X') ?_)
    · rw [e_RP_bestTurns, kZ_of (M_isFlag_0 _), if_pos rfl, e1, if_neg (fun n => n rfl)]
    · rw [e_Mo_bestTurns, kZ_of (M_in_t (by decide) (by decide) _), if_pos rfl, e2, if_neg (fun n => n rfl)]
  · refine go (bestS V 16).2 (x_RP_bestTurns (rc_3 c X) ?_) (x_Mo_bestTurns (rc_75 c X') ?_)
    · rw [e_RP_bestTurns, kZ_of (M_isFlag_1 _), if_pos rfl, e1, if_pos (by decide)]
    · rw [e_Mo_bestTurns, kZ_of (M_in_t (by decide) (by decide) _), if_pos rfl, e2, if_pos (by decide)]
  · exact ok_0 h (r := -2) (x_RP_bestTurns (rc_3 c X) (by rw [e_RP_bestTurns, kZ_of (M_isFlag_f f0 fn1 _), if_neg (by decide)])) (x_Mo_bestTurns (rc_75 c X) (by rw [e_Mo_bestTurns, kZ_of (M_in_f f2 _), if_neg (by decide)]))
