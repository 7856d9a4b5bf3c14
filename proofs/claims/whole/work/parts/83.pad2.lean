/-! PAD: what signs mean, fault -/
def kdO (k : Nat) : Option Nat := if k = 46 then some 0 else if k = 35 then some 1 else if k = 115 then some 2 else if k = 83 then some 3 else if k = 116 then some 4 else if k = 84 then some 5 else if k = 109 then some 6 else if k = 77 then some 7 else none
def oKi : Option Nat → Int32
  | none => -1
  | some k => nI k
def tbF : Nat → Int32 := fun j => ix_byL.getD j 0
theorem kdO_lt {k m : Nat} (h : kdO k = some m) : m < 8 ∧ ¬ k = 47 := by
  unfold kdO at h
  by_cases q0 : k = 46
  · rw [if_pos q0] at h; have := Option.some.inj h; omega
  rw [if_neg q0] at h
  by_cases q1 : k = 35
  · rw [if_pos q1] at h; have := Option.some.inj h; omega
  rw [if_neg q1] at h
  by_cases q2 : k = 115
  · rw [if_pos q2] at h; have := Option.some.inj h; omega
  rw [if_neg q2] at h
  by_cases q3 : k = 83
  · rw [if_pos q3] at h; have := Option.some.inj h; omega
  rw [if_neg q3] at h
  by_cases q4 : k = 116
  · rw [if_pos q4] at h; have := Option.some.inj h; omega
  rw [if_neg q4] at h
  by_cases q5 : k = 84
  · rw [if_pos q5] at h; have := Option.some.inj h; omega
  rw [if_neg q5] at h
  by_cases q6 : k = 109
  · rw [if_pos q6] at h; have := Option.some.inj h; omega
  rw [if_neg q6] at h
  by_cases q7 : k = 77
  · rw [if_pos q7] at h; have := Option.some.inj h; omega
  rw [if_neg q7] at h
  cases h
theorem rc_1 (c : ixK) (X : ixX) : ix_rc (hp c X) 1 = some 12 := by unfold ix_rc; exact if_pos rfl
theorem an_2 (c : ixK) (X : ixX) : ix_an (hp c X) 2 = some 8 := hp_an (t := 3) (n := 0) (v := (8, .inl (X.1 2))) (by omega) rfl
theorem M_JSlat (c : ixK) (X : ixX) : ix_M mJS_isLatin1 [.ref 1] (hp c X) = some ([.int (ix_bi true)], hp c X) := x_JS_isLatin1 (rc_1 c X) (by rw [e_JS_isLatin1, if_neg (by decide), if_neg (by decide)])
theorem M_JScod (c : ixK) (X : ixX) : ix_M mJS_coder [.ref 1] (hp c X) = some ([.int 0], hp c X) := x_JS_coder (rc_1 c X) (by rw [e_JS_coder, if_neg (by decide), if_pos (by rfl)])
theorem M_JSlen (c : ixK) (X : ixX) : ix_M mJS_length [.ref 1] (hp c X) = some ([.int (nI 8)], hp c X) := x_JS_length (rc_1 c X) (by
  rw [e_JS_length, bO (an_2 c X), kI_of (M_JScod c X)]
  rfl)
theorem L_char {c : ixK} {X : ixX} (hz : X.1 2 = tbF) {j : Nat} (hj : j < 8) (x : Int32) : l_JT_indexOfChar_7 2 (nI 8) x (nI j) (hp c X) = if tbF j = x then some ([.int (nI j)], hp c X) else l_JT_indexOfChar_7 2 (nI 8) x (nI (j + 1)) (hp c X) := by
  rw [e_JT_indexOfChar_7, if_neg (by rw [nI_leI (by omega) (by omega)]; omega), bO (hp_ab (n := 8) (by omega) rfl hj (by omega)), hz, nI_1 j]
  by_cases e : tbF j = x
  · rw [if_neg (fun n => n e), if_pos e]
  · rw [if_pos e, if_neg e]
theorem L_chars {c : ixK} {X : ixX} (hz : X.1 2 = tbF) {k : Nat} (hk : k < 127) : l_JT_indexOfChar_7 2 (nI 8) (nI k) (nI 0) (hp c X) = some ([.int (oKi (kdO k))], hp c X) := by
  have nq : ∀ t : Nat, t < 127 → (nI t = nI k ↔ k = t) := fun t ht => by
    rw [nI_eq (by omega) (by omega)]
    exact ⟨fun e => e.symm, fun e => e.symm⟩
  unfold kdO
  by_cases q0 : k = 46
  · rw [if_pos q0, L_char hz (by omega), if_pos (show tbF 0 = nI k from (nq 46 (by omega)).mpr q0)]; rfl
  rw [if_neg q0, L_char hz (by omega), if_neg (show ¬ tbF 0 = nI k from fun e => q0 ((nq 46 (by omega)).mp e))]
  by_cases q1 : k = 35
  · rw [if_pos q1, L_char hz (by omega), if_pos (show tbF (0 + 1) = nI k from (nq 35 (by omega)).mpr q1)]; rfl
  rw [if_neg q1, L_char hz (by omega), if_neg (show ¬ tbF (0 + 1) = nI k from fun e => q1 ((nq 35 (by omega)).mp e))]
  by_cases q2 : k = 115
  · rw [if_pos q2, L_char hz (by omega), if_pos (show tbF (0 + 1 + 1) = nI k from (nq 115 (by omega)).mpr q2)]; rfl
  rw [if_neg q2, L_char hz (by omega), if_neg (show ¬ tbF (0 + 1 + 1) = nI k from fun e => q2 ((nq 115 (by omega)).mp e))]
  by_cases q3 : k = 83
  · rw [if_pos q3, L_char hz (by omega), if_pos (show tbF (0 + 1 + 1 + 1) = nI k from (nq 83 (by omega)).mpr q3)]; rfl
  rw [if_neg q3, L_char hz (by omega), if_neg (show ¬ tbF (0 + 1 + 1 + 1) = nI k from fun e => q3 ((nq 83 (by omega)).mp e))]
  by_cases q4 : k = 116
  · rw [if_pos q4, L_char hz (by omega), if_pos (show tbF (0 + 1 + 1 + 1 + 1) = nI k from (nq 116 (by omega)).mpr q4)]; rfl
  rw [if_neg q4, L_char hz (by omega), if_neg (show ¬ tbF (0 + 1 + 1 + 1 + 1) = nI k from fun e => q4 ((nq 116 (by omega)).mp e))]
  by_cases q5 : k = 84
  · rw [if_pos q5, L_char hz (by omega), if_pos (show tbF (0 + 1 + 1 + 1 + 1 + 1) = nI k from (nq 84 (by omega)).mpr q5)]; rfl
  rw [if_neg q5, L_char hz (by omega), if_neg (show ¬ tbF (0 + 1 + 1 + 1 + 1 + 1) = nI k from fun e => q5 ((nq 84 (by omega)).mp e))]
  by_cases q6 : k = 109
  · rw [if_pos q6, L_char hz (by omega), if_pos (show tbF (0 + 1 + 1 + 1 + 1 + 1 + 1) = nI k from (nq 109 (by omega)).mpr q6)]; rfl
  rw [if_neg q6, L_char hz (by omega), if_neg (show ¬ tbF (0 + 1 + 1 + 1 + 1 + 1 + 1) = nI k from fun e => q6 ((nq 109 (by omega)).mp e))]
  by_cases q7 : k = 77
  · rw [if_pos q7, L_char hz (by omega), if_pos (show tbF (0 + 1 + 1 + 1 + 1 + 1 + 1 + 1) = nI k from (nq 77 (by omega)).mpr q7)]; rfl
  rw [if_neg q7, L_char hz (by omega), if_neg (show ¬ tbF (0 + 1 + 1 + 1 + 1 + 1 + 1 + 1) = nI k from fun e => q7 ((nq 77 (by omega)).mp e)), e_JT_indexOfChar_7, if_pos (by rw [nI_leI (by omega) (by omega)]; omega)]
  rfl
theorem d_i2b : ∀ k, k < 127 → ix_i2b (nI k) = nI k ∧ ix_i2c (nI k) = nI k := by decide +kernel
theorem M_indexOf {c : ixK} {X : ixX} (hz : X.1 2 = tbF) {k : Nat} (hk : k < 127) : ix_M mJS_indexOf [.ref 1, .int (nI k)] (hp c X) = some ([.int (oKi (kdO k))], hp c X) := by
  have h1 : ix_M mJT_indexOfChar [.ref 2, .int (nI k), .int (ix_mx 0 0), .int (ix_mn (nI 8) (Int32.ofNat 8))] (hp c X) = some ([.int (oKi (kdO k))], hp c X) := by
    refine x_JT_indexOfChar ?_
    rw [e_JT_indexOfChar, (d_i2b k hk).1, show ix_mx 0 0 = nI 0 from by decide, show ix_mn (nI 8) (Int32.ofNat 8) = nI 8 from by decide]
    exact L_chars hz hk
  have hce : ix_M mJT_canEncode [.int (nI k)] (hp c X) = some ([.int (ix_bi true)], hp c X) := x_JT_canEncode (by rw [e_JT_canEncode, if_neg (nI_pos (by omega)), if_neg (show ¬ (255 : Int32) < nI k from fun e => by
    have := (nI_ltI (a := 255) (by omega) (by omega)).mp e
    omega)])
  have h2 : ix_M mJT_indexOf [.ref 2, .int (nI k), .int 0, .int (nI 8)] (hp c X) = some ([.int (oKi (kdO k))], hp c X) := by
    refine x_JT_indexOf ?_
    rw [e_JT_indexOf, kZ_of hce, if_pos rfl, bO (an_2 c X), if_pos (by decide), kI_of h1]
  have h3 : ix_M mJS_indexOf_II [.ref 1, .int (nI k), .int 0] (hp c X) = some ([.int (oKi (kdO k))], hp c X) := by
    refine x_JS_indexOf_II (rc_1 c X) ?_
    rw [e_JS_indexOf_II, kZ_of (M_JSlat c X), if_pos rfl, kI_of (M_JSlen c X), kI_of h2]
  refine x_JS_indexOf (rc_1 c X) ?_
  rw [e_JS_indexOf, kI_of h3]
/-! the reference's signs -/
def ofKd : Option Nat → Int
  | none => 93
  | some 0 => 75
  | some 1 => 83
  | some 2 => 77
  | some 3 => 85
  | some 4 => 79
  | some 5 => 87
  | some 6 => 81
  | some _ => 90
theorem d_off : ∀ k, k < 127 → Op.lookupswitch.offset [(35, 83), (46, 75), (77, 90), (83, 85), (84, 87), (109, 81), (115, 77), (116, 79)] 93 (nI k).toInt = ofKd (kdO k) := by decide +kernel
def rlV : Option Nat → Int32
  | none => -6
  | some j => nI (j / 2 + 4 * (j % 2))
theorem sw_roleOf {k tgt : Nat} {o : Int} {h : ixH} {R : Option (List Value × ixH)} (ho : Op.lookupswitch.offset [(35, 83), (46, 75), (77, 90), (83, 85), (84, 87), (109, 81), (115, 77), (116, 79)] 93 (nI k).toInt = o) (ht : ix_br 1 76 o [some (.int (nI k))] [] true = some (tgt, [some (.int (nI k))], [])) (kk : ix_D mMo_roleOf tgt [some (.int (nI k))] [] h = R) : ix_D mMo_roleOf 0 [some (.int (nI k))] [] h = R := by
  refine ix_K_px kq_Mo_roleOf i_Mo_roleOf_0 rfl rfl ?_
  refine ix_K_px (pc2 := tgt) (L2 := [some (.int (nI k))]) (st2 := []) kq_Mo_roleOf i_Mo_roleOf_1 rfl ?_ kk
  show ix_br 1 76 (Op.lookupswitch.offset [(35, 83), (46, 75), (77, 90), (83, 85), (84, 87), (109, 81), (115, 77), (116, 79)] 93 (nI k).toInt) [some (.int (nI k))] [] true = _
  rw [ho]
  exact ht
theorem x_Mo_roleOf {x0 : Int32} {h h1 : ixH} {v : Int32} (hd : ix_D mMo_roleOf 0 [some (.int x0)] [] h = some ([.int v], h1)) : ix_M mMo_roleOf [.int x0] h = some ([.int v], h1) := ix_M_of (ix_ent_s kq_Mo_roleOf rfl rfl (Nat.le_of_ble_eq_true rfl) rfl) hd (ix_okrI (Or.inl rfl) v)
theorem M_mroleOf {k : Nat} (hk : k < 127) (h : ixH) : ix_M mMo_roleOf [.int (nI k)] h = some ([.int (rlV (kdO k))], h) := by
  refine x_Mo_roleOf ?_
  have ho := d_off k hk
  cases q : kdO k with
  | none =>
    rw [q] at ho
    refine sw_roleOf (tgt := 94) ho rfl ?_
    refine ix_K_cb kq_Mo_roleOf i_Mo_roleOf_94 rfl kcb_m6 ?_
    exact ix_D_ret kq_Mo_roleOf i_Mo_roleOf_96 (ix_rtI rfl _)
  | some m =>
    have hm := (kdO_lt q).1
    rw [q] at ho
    rcases (show m = 0 ∨ m = 1 ∨ m = 2 ∨ m = 3 ∨ m = 4 ∨ m = 5 ∨ m = 6 ∨ m = 7 by omega) with rfl | rfl | rfl | rfl | rfl | rfl | rfl | rfl
    · refine sw_roleOf (tgt := 76) ho rfl ?_
      refine ix_K_ci kq_Mo_roleOf i_Mo_roleOf_76 rfl kci_0 ?_
      exact ix_D_ret kq_Mo_roleOf i_Mo_roleOf_77 (ix_rtI rfl _)
    · refine sw_roleOf (tgt := 84) ho rfl ?_
      refine ix_K_ci kq_Mo_roleOf i_Mo_roleOf_84 rfl kci_4 ?_
      exact ix_D_ret kq_Mo_roleOf i_Mo_roleOf_85 (ix_rtI rfl _)
    · refine sw_roleOf (tgt := 78) ho rfl ?_
      refine ix_K_ci kq_Mo_roleOf i_Mo_roleOf_78 rfl kci_1 ?_
      exact ix_D_ret kq_Mo_roleOf i_Mo_roleOf_79 (ix_rtI rfl _)
    · refine sw_roleOf (tgt := 86) ho rfl ?_
      refine ix_K_ci kq_Mo_roleOf i_Mo_roleOf_86 rfl kci_5 ?_
      exact ix_D_ret kq_Mo_roleOf i_Mo_roleOf_87 (ix_rtI rfl _)
    · refine sw_roleOf (tgt := 80) ho rfl ?_
      refine ix_K_ci kq_Mo_roleOf i_Mo_roleOf_80 rfl kci_2 ?_
      exact ix_D_ret kq_Mo_roleOf i_Mo_roleOf_81 (ix_rtI rfl _)
    · refine sw_roleOf (tgt := 88) ho rfl ?_
      refine ix_K_cb kq_Mo_roleOf i_Mo_roleOf_88 rfl kcb_6 ?_
      exact ix_D_ret kq_Mo_roleOf i_Mo_roleOf_90 (ix_rtI rfl _)
    · refine sw_roleOf (tgt := 82) ho rfl ?_
      refine ix_K_ci kq_Mo_roleOf i_Mo_roleOf_82 rfl kci_3 ?_
      exact ix_D_ret kq_Mo_roleOf i_Mo_roleOf_83 (ix_rtI rfl _)
    · refine sw_roleOf (tgt := 91) ho rfl ?_
      refine ix_K_cb kq_Mo_roleOf i_Mo_roleOf_91 rfl kcb_7 ?_
      exact ix_D_ret kq_Mo_roleOf i_Mo_roleOf_93 (ix_rtI rfl _)
/-! the pad -/
def cPd (X : ixX) (l : List Nat) : Prop := X.1 57 1 = nI l.length ∧ (∀ i, i < l.length → X.1 58 i = nI (l.getD i 0)) ∧ padOK l ∧ X.1 2 = tbF
def rPd (X : ixX) (l : List Nat) : Prop := X.1 75 31 = nI l.length ∧ (∀ i, i < l.length → X.1 101 i = nI (l.getD i 0)) ∧ padOK l
theorem M_codeAt {c : ixK} {X : ixX} {l : List Nat} (h : cPd X l) {i : Nat} (hi : i < l.length) : ix_M mPa_codeAt [.ref 57, .int (nI i)] (hp c X) = some ([.int (nI (l.getD i 0))], hp c X) := by
  have hl := h.2.2.1.1
  refine x_Pa_codeAt (rc_57 c X) ?_
  rw [e_Pa_codeAt, if_neg (nI_pos (by omega)), bO (g57_1 c _), h.1, if_neg (by rw [nI_leI (by omega) (by omega)]; omega), if_neg (lit_nle (x := 80) (a := 80) (k := i) rfl (by omega) (by omega)), bO (g57_0 c _), bO (r58 (by omega)), h.2.1 i hi]
theorem M_kindAt {c : ixK} {X : ixX} {l : List Nat} (h : cPd X l) {i : Nat} (hi : i < l.length) : ix_M mPa_kindAt [.ref 57, .int (nI i)] (hp c X) = some ([.int (oKi (kdO (l.getD i 0)))], hp c X) := by
  have hk := (h.2.2.1.2 i hi).2
  refine x_Pa_kindAt (rc_57 c X) ?_
  rw [e_Pa_kindAt, kI_of (M_codeAt h hi), (d_i2b _ (by omega)).2, kI_of (M_indexOf h.2.2.2 (by omega))]
def ffS (l : List Nat) : Nat → Nat → Nat → Nat → Nat → Option Nat × Nat × Nat
  | 0, _, w, r, q => (if r < 2 ∨ q < w then some l.length else none, w, r)
  | n + 1, i, w, r, q => if l.getD i 0 = 47 then (if ((r = 1 ∧ 2 ≤ q) ∨ (¬ r = 1 ∧ q = w)) ∧ ¬ r = 8 then ffS l n (i + 1) (if r = 1 then q else w) (r + 1) 0 else (some i, w, r)) else (if kdO (l.getD i 0) = none ∨ q = w then (some i, w, r) else ffS l n (i + 1) w r (q + 1))
theorem lit_eq {x : Int32} {a k : Nat} (hx : x = nI a) (ha : a < 2147483648) (hk : k < 2147483648) : nI k = x ↔ k = a := by rw [hx, nI_eq hk ha]
theorem oKi_neg {o : Option Nat} (h : ∀ m, o = some m → m < 8) : oKi o < 0 ↔ o = none := by
  cases o with
  | none => exact ⟨fun _ => rfl, fun _ => by decide⟩
  | some m =>
    have := h m rfl
    exact ⟨fun q => absurd q (nI_pos (by omega)), fun q => by cases q⟩
theorem L_cfault {c : ixK} {X : ixX} {l : List Nat} (h : cPd X l) : ∀ n i w r q, i + n = l.length → w ≤ 8 → 1 ≤ r → r ≤ 8 → q ≤ w → l_Pa_firstFault_10 57 (nI w) (nI r) (nI q) (nI i) (hp c X) = some ([.int (oI (ffS l n i w r q).1)], hp c X) := by
  have hl := h.2.2.1.1
  intro n
  induction n with
  | zero =>
    intro i w r q hi hw hr1 hr8 hq
    rw [e_Pa_firstFault_10, bO (g57_1 c _), h.1, if_pos (by rw [nI_leI (by omega) (by omega)]; omega)]
    show _ = some ([Value.int (oI (if r < 2 ∨ q < w then some l.length else none))], hp c X)
    by_cases a1 : r < 2
    · rw [if_pos (show nI r < (2 : Int32) from (nI_ltI (b := 2) (by omega) (by omega)).mpr a1), bO (g57_1 c _), h.1, if_pos (.inl a1)]; rfl
    · rw [if_neg (show ¬ nI r < (2 : Int32) from fun e => a1 ((nI_ltI (b := 2) (by omega) (by omega)).mp e))]
      by_cases a2 : q < w
      · rw [if_neg (by rw [nI_leI (by omega) (by omega)]; omega), bO (g57_1 c _), h.1, if_pos (.inr a2)]; rfl
      · rw [if_pos (by rw [nI_leI (by omega) (by omega)]; omega), if_neg (by omega)]; rfl
  | succ n ih =>
    intro i w r q hi hw hr1 hr8 hq
    have hk := (h.2.2.1.2 i (by omega)).2
    have hff : ffS l (n + 1) i w r q = if l.getD i 0 = 47 then (if ((r = 1 ∧ 2 ≤ q) ∨ (¬ r = 1 ∧ q = w)) ∧ ¬ r = 8 then ffS l n (i + 1) (if r = 1 then q else w) (r + 1) 0 else (some i, w, r)) else (if kdO (l.getD i 0) = none ∨ q = w then (some i, w, r) else ffS l n (i + 1) w r (q + 1)) := rfl
    rw [hff, e_Pa_firstFault_10, bO (g57_1 c _), h.1, if_neg (by rw [nI_leI (by omega) (by omega)]; omega), kI_of (M_codeAt h (by omega))]
    by_cases a0 : l.getD i 0 = 47
    · rw [if_neg (fun e => e ((lit_eq (x := 47) (a := 47) rfl (by omega) (by omega)).mpr a0)), if_pos a0]
      have st : ∀ b : Bool, l_Pa_firstFault_58 57 (nI w) (nI r) (nI q) (nI i) b (hp c X) = if b = true then if ¬ nI r = 8 then if ¬ nI r = 1 then l_Pa_firstFault_10 57 (nI w) (nI (r + 1)) (nI 0) (nI (i + 1)) (hp c X) else l_Pa_firstFault_10 57 (nI q) (nI (r + 1)) (nI 0) (nI (i + 1)) (hp c X) else some ([.int (nI i)], hp c X) else some ([.int (nI i)], hp c X) := fun b => by
        rw [e_Pa_firstFault_58, nI_1 r, nI_1 i]
        rfl
      rw [st, st]
      by_cases a1 : r = 1
      · have e8 : ¬ r = 8 := by omega
        rw [if_neg (fun e => e ((lit_eq (x := 1) (a := 1) rfl (by omega) (by omega)).mpr a1)), if_pos (show ¬ nI r = 8 from fun e => e8 ((lit_eq (x := 8) (a := 8) rfl (by omega) (by omega)).mp e)), if_neg (show ¬ ¬ nI r = 1 from fun e => e ((lit_eq (x := 1) (a := 1) rfl (by omega) (by omega)).mpr a1))]
        by_cases a2 : q < 2
        · rw [if_pos (show nI q < (2 : Int32) from (nI_ltI (b := 2) (by omega) (by omega)).mpr a2), if_neg (by decide), if_neg (show ¬ (((r = 1 ∧ 2 ≤ q) ∨ (¬ r = 1 ∧ q = w)) ∧ ¬ r = 8) by omega)]; rfl
        · rw [if_neg (show ¬ nI q < (2 : Int32) from fun e => a2 ((nI_ltI (b := 2) (by omega) (by omega)).mp e)), if_pos rfl, if_pos (show ((r = 1 ∧ 2 ≤ q) ∨ (¬ r = 1 ∧ q = w)) ∧ ¬ r = 8 by omega), if_pos a1, ih (i + 1) q (r + 1) 0 (by omega) (by omega) (by omega) (by omega) (by omega)]
      · have e1 : ¬ nI r = 1 := fun e => a1 ((lit_eq (x := 1) (a := 1) rfl (by omega) (by omega)).mp e)
        rw [if_pos e1, if_pos e1]
        by_cases a2 : q = w
        · rw [if_neg (fun e => e (by rw [a2])), if_pos rfl]
          by_cases a8 : r = 8
          · rw [if_neg (fun e => e ((lit_eq (x := 8) (a := 8) rfl (by omega) (by omega)).mpr a8)), if_neg (show ¬ (((r = 1 ∧ 2 ≤ q) ∨ (¬ r = 1 ∧ q = w)) ∧ ¬ r = 8) by omega)]; rfl
          · rw [if_pos (show ¬ nI r = 8 from fun e => a8 ((lit_eq (x := 8) (a := 8) rfl (by omega) (by omega)).mp e)), if_pos (show ((r = 1 ∧ 2 ≤ q) ∨ (¬ r = 1 ∧ q = w)) ∧ ¬ r = 8 by omega), if_neg a1, ih (i + 1) w (r + 1) 0 (by omega) (by omega) (by omega) (by omega) (by omega)]
        · rw [if_pos (by rw [nI_eq (by omega) (by omega)]; exact a2), if_neg (by decide), if_neg (show ¬ (((r = 1 ∧ 2 ≤ q) ∨ (¬ r = 1 ∧ q = w)) ∧ ¬ r = 8) by omega)]; rfl
    · rw [if_pos (show ¬ nI (l.getD i 0) = 47 from fun e => a0 ((lit_eq (x := 47) (a := 47) rfl (by omega) (by omega)).mp e)), if_neg a0, kI_of (M_kindAt h (by omega))]
      have hng := oKi_neg (o := kdO (l.getD i 0)) (fun m hm => (kdO_lt hm).1)
      by_cases a1 : kdO (l.getD i 0) = none
      · rw [if_pos (hng.mpr a1), if_pos (.inl a1)]; rfl
      · rw [if_neg (fun e => a1 (hng.mp e))]
        by_cases a2 : q = w
        · rw [if_neg (fun e => e (by rw [a2])), if_pos (.inr a2)]; rfl
        · rw [if_pos (by rw [nI_eq (by omega) (by omega)]; exact a2), if_neg (fun e => e.elim a1 a2), nI_1 q, nI_1 i, ih (i + 1) w r (q + 1) (by omega) (by omega) (by omega) (by omega) (by omega)]
theorem M_firstFault {c : ixK} {X : ixX} {l : List Nat} (h : cPd X l) : ix_M mPa_firstFault [.ref 57] (hp c X) = some ([.int (oI (ffS l l.length 0 8 1 0).1)], hp c X) := by
  refine x_Pa_firstFault (rc_57 c X) ?_
  rw [e_Pa_firstFault]
  exact L_cfault h l.length 0 8 1 0 (by omega) (by omega) (by omega) (by omega) (by omega)
def eF (X Y : ixX) : Prop := eX [75] X Y ∧ ∀ k, ¬ k = 32 → ¬ k = 33 → Y.1 75 k = X.1 75 k
theorem L_rfault {c : ixK} {X : ixX} {l : List Nat} (h : rPd X l) : ∀ n i w r q Y, i + n = l.length → w ≤ 8 → 1 ≤ r → r ≤ 8 → q ≤ w → (r = 1 → w = 8) → eF X Y → Y.1 75 33 = nI r → (¬ r = 1 → Y.1 75 32 = nI w) → ∃ Z, l_Mo_fault_14 75 (nI q) (nI i) (hp c Y) = some ([.int (oI (ffS l n i w r q).1)], hp c Z) ∧ eF X Z ∧ ((ffS l n i w r q).1 = none → Z.1 75 32 = nI (ffS l n i w r q).2.1 ∧ Z.1 75 33 = nI (ffS l n i w r q).2.2) := by
  have hl := h.2.2.1
  intro n
  induction n with
  | zero =>
    intro i w r q Y hi hw hr1 hr8 hq hw8 hY h33 h32
    have h31 : Y.1 75 31 = nI l.length := by rw [hY.2 31 (by omega) (by omega)]; exact h.1
    refine ⟨Y, ?_, hY, ?_⟩
    · rw [e_Mo_fault_14, bO (g75_31 c _), h31, if_pos (by rw [nI_leI (by omega) (by omega)]; omega), bO (g75_33 c _), h33]
      show _ = some ([Value.int (oI (if r < 2 ∨ q < w then some l.length else none))], hp c Y)
      by_cases a1 : r < 2
      · rw [if_pos (show nI r ≤ (1 : Int32) from (nI_leI (b := 1) (by omega) (by omega)).mpr (by omega)), bO (g75_31 c _), h31, if_pos (.inl a1)]; rfl
      · rw [if_neg (show ¬ nI r ≤ (1 : Int32) from fun e => by
          have := (nI_leI (b := 1) (by omega) (by omega)).mp e
          omega), bO (g75_32 c _), h32 (by omega)]
        by_cases a2 : q < w
        · rw [if_pos (by rw [nI_eq (by omega) (by omega)]; omega), bO (g75_31 c _), h31, if_pos (.inr a2)]; rfl
        · rw [if_neg (fun e => e (by rw [show q = w by omega])), if_neg (by omega)]; rfl
    · intro hn
      have hn' : (if r < 2 ∨ q < w then some l.length else none) = none := hn
      by_cases a1 : r < 2 ∨ q < w
      · rw [if_pos a1] at hn'; cases hn'
      · exact ⟨h32 (by omega), h33⟩
  | succ n ih =>
    intro i w r q Y hi hw hr1 hr8 hq hw8 hY h33 h32
    have hk := (h.2.2.2 i (by omega)).2
    have h31 : Y.1 75 31 = nI l.length := by rw [hY.2 31 (by omega) (by omega)]; exact h.1
    have h101 : Y.1 101 i = nI (l.getD i 0) := by rw [hY.1.2 101 (by decide)]; exact h.2.1 i (by omega)
    have hff : ffS l (n + 1) i w r q = if l.getD i 0 = 47 then (if ((r = 1 ∧ 2 ≤ q) ∨ (¬ r = 1 ∧ q = w)) ∧ ¬ r = 8 then ffS l n (i + 1) (if r = 1 then q else w) (r + 1) 0 else (some i, w, r)) else (if kdO (l.getD i 0) = none ∨ q = w then (some i, w, r) else ffS l n (i + 1) w r (q + 1)) := rfl
    have bad : ∀ R, ffS l (n + 1) i w r q = (some i, w, r) → R = some ([Value.int (nI i)], hp c Y) → ∃ Z, R = some ([.int (oI (ffS l (n + 1) i w r q).1)], hp c Z) ∧ eF X Z ∧ ((ffS l (n + 1) i w r q).1 = none → Z.1 75 32 = nI (ffS l (n + 1) i w r q).2.1 ∧ Z.1 75 33 = nI (ffS l (n + 1) i w r q).2.2) := fun R e1 e2 => by
      rw [e1]
      exact ⟨Y, e2, hY, fun e => by cases e⟩
    rw [e_Mo_fault_14, bO (g75_31 c _), h31, if_neg (by rw [nI_leI (by omega) (by omega)]; omega), bO (g75_30 c _), bO (r101 (by omega)), h101]
    by_cases a0 : l.getD i 0 = 47
    · rw [if_neg (fun e => e ((lit_eq (x := 47) (a := 47) rfl (by omega) (by omega)).mpr a0)), e_Mo_fault_38, if_pos rfl, bO (g75_33 c _), h33]
      rw [if_pos a0] at hff
      have f81 : l_Mo_fault_81 75 (nI q) (nI i) false (hp c Y) = some ([.int (nI i)], hp c Y) := by rw [e_Mo_fault_81, if_neg (by decide)]
      have good : ((r = 1 ∧ 2 ≤ q) ∨ (¬ r = 1 ∧ q = w)) → ¬ r = 8 → ∃ Z, l_Mo_fault_81 75 (nI q) (nI i) true (hp c Y) = some ([.int (oI (ffS l (n + 1) i w r q).1)], hp c Z) ∧ eF X Z ∧ ((ffS l (n + 1) i w r q).1 = none → Z.1 75 32 = nI (ffS l (n + 1) i w r q).2.1 ∧ Z.1 75 33 = nI (ffS l (n + 1) i w r q).2.2) := fun g1 g2 => by
        rw [if_pos ⟨g1, g2⟩] at hff
        have hqw : (if r = 1 then q else w) = q := by
          by_cases a1 : r = 1
          · rw [if_pos a1]
          · rw [if_neg a1]; omega
        rw [hqw] at hff
        obtain ⟨Y2, hY2⟩ : ∃ Y2, Y2 = aI Y 75 (upd (upd (Y.1 75) 32 (nI q)) 33 (nI (r + 1))) := ⟨_, rfl⟩
        have hE : eF X Y2 := by
          rw [hY2]
          refine ⟨eX_aI hY.1 (by decide), fun k k1 k2 => ?_⟩
          rw [aI_1, upd_n _ _ k2, upd_n _ _ k1]
          exact hY.2 k k1 k2
        obtain ⟨Z, z1, z2, z3⟩ := ih (i + 1) q (r + 1) 0 Y2 (by omega) (by omega) (by omega) (by omega) (by omega) (by omega) hE (by rw [hY2, aI_1, upd_1]) (fun _ => by rw [hY2, aI_1, upd_n _ _ (by decide), upd_1])
        rw [hff]
        refine ⟨Z, ?_, z2, z3⟩
        rw [e_Mo_fault_81, if_pos rfl, bO (p75_32 c _ _), bO (g75_33 c _), aI_1, upd_n _ _ (by decide), h33, bO (p75_33 c _ _), aI_1, aI_aI, nI_1 r, nI_1 i, ← hY2]
        exact z1
      by_cases a8 : r = 8
      · rw [if_pos (lit_le (x := 8) (a := 8) rfl (by omega) (by omega)), f81]
        exact bad _ (by rw [hff, if_neg (by omega)]) rfl
      · rw [if_neg (lit_nle (x := 8) (a := 8) (k := r) rfl (by omega) (by omega)), bO (g75_33 c _), h33]
        by_cases a1 : r = 1
        · rw [if_neg (fun e => e ((lit_eq (x := 1) (a := 1) rfl (by omega) (by omega)).mpr a1))]
          by_cases a2 : q < 2
          · rw [if_pos (show nI q < (2 : Int32) from (nI_ltI (b := 2) (by omega) (by omega)).mpr a2), f81]
            exact bad _ (by rw [hff, if_neg (by omega)]) rfl
          · rw [if_neg (show ¬ nI q < (2 : Int32) from fun e => a2 ((nI_ltI (b := 2) (by omega) (by omega)).mp e))]
            exact good (.inl ⟨a1, by omega⟩) a8
        · rw [if_pos (show ¬ nI r = 1 from fun e => a1 ((lit_eq (x := 1) (a := 1) rfl (by omega) (by omega)).mp e)), bO (g75_32 c _), h32 a1]
          by_cases a2 : q = w
          · rw [if_neg (fun e => e (by rw [a2]))]
            exact good (.inr ⟨a1, a2⟩) a8
          · rw [if_pos (by rw [nI_eq (by omega) (by omega)]; exact a2), f81]
            exact bad _ (by rw [hff, if_neg (by omega)]) rfl
    · rw [if_pos (show ¬ nI (l.getD i 0) = 47 from fun e => a0 ((lit_eq (x := 47) (a := 47) rfl (by omega) (by omega)).mp e)), e_Mo_fault_38, if_neg (by decide), bO (g75_30 c _), bO (r101 (by omega)), h101, kI_of (M_mroleOf (by omega) _)]
      rw [if_neg a0] at hff
      have next : ¬ kdO (l.getD i 0) = none → ¬ q = w → ∃ Z, l_Mo_fault_14 75 (nI q + 1) (nI i + 1) (hp c Y) = some ([.int (oI (ffS l (n + 1) i w r q).1)], hp c Z) ∧ eF X Z ∧ ((ffS l (n + 1) i w r q).1 = none → Z.1 75 32 = nI (ffS l (n + 1) i w r q).2.1 ∧ Z.1 75 33 = nI (ffS l (n + 1) i w r q).2.2) := fun g1 g2 => by
        rw [if_neg (fun e => e.elim g1 g2)] at hff
        rw [hff, nI_1 q, nI_1 i]
        exact ih (i + 1) w r (q + 1) Y (by omega) hw hr1 hr8 (by omega) hw8 hY h33 h32
      cases hkd : kdO (l.getD i 0) with
      | none =>
        rw [if_pos (show rlV none < 0 by decide)]
        exact bad _ (by rw [hff, if_pos (.inl hkd)]) rfl
      | some m =>
        have hm := (kdO_lt hkd).1
        have hne : ¬ kdO (l.getD i 0) = none := by rw [hkd]; intro e; cases e
        rw [if_neg (show ¬ rlV (some m) < 0 from nI_pos (by omega)), bO (g75_33 c _), h33]
        by_cases a1 : r = 1
        · rw [if_neg (fun e => e ((lit_eq (x := 1) (a := 1) rfl (by omega) (by omega)).mpr a1))]
          by_cases a2 : q = w
          · rw [if_neg (fun e => e ((lit_eq (x := 8) (a := 8) rfl (by omega) (by omega)).mpr (by have := hw8 a1; omega)))]
            exact bad _ (by rw [hff, if_pos (.inr a2)]) rfl
          · rw [if_pos (show ¬ nI q = 8 from fun e => a2 (by
              have := (lit_eq (x := 8) (a := 8) rfl (by omega) (by omega)).mp e
              have := hw8 a1
              omega))]
            exact next hne a2
        · rw [if_pos (show ¬ nI r = 1 from fun e => a1 ((lit_eq (x := 1) (a := 1) rfl (by omega) (by omega)).mp e)), bO (g75_32 c _), h32 a1]
          by_cases a2 : q = w
          · rw [if_neg (fun e => e (by rw [a2]))]
            exact bad _ (by rw [hff, if_pos (.inr a2)]) rfl
          · rw [if_pos (by rw [nI_eq (by omega) (by omega)]; exact a2)]
            exact next hne a2
theorem M_mfault {c : ixK} {X : ixX} {l : List Nat} (h : rPd X l) : ∃ Z, ix_M mMo_fault [.ref 75] (hp c X) = some ([.int (oI (ffS l l.length 0 8 1 0).1)], hp c Z) ∧ eF X Z ∧ ((ffS l l.length 0 8 1 0).1 = none → Z.1 75 32 = nI (ffS l l.length 0 8 1 0).2.1 ∧ Z.1 75 33 = nI (ffS l l.length 0 8 1 0).2.2) := by
  obtain ⟨Y, hY⟩ : ∃ Y, Y = aI X 75 (upd (upd (X.1 75) 32 0) 33 1) := ⟨_, rfl⟩
  have hE : eF X Y := by
    rw [hY]
    refine ⟨eX_aI (eX_refl _ _) (by decide), fun k k1 k2 => ?_⟩
    rw [aI_1, upd_n _ _ k2, upd_n _ _ k1]
  obtain ⟨Z, z1, z2, z3⟩ := L_rfault (c := c) h l.length 0 8 1 0 Y (by omega) (by omega) (by omega) (by omega) (by omega) (fun _ => rfl) hE (by rw [hY, aI_1, upd_1]; rfl) (fun e => absurd rfl e)
  refine ⟨Z, x_Mo_fault (rc_75 c X) ?_, z2, z3⟩
  rw [e_Mo_fault, bO (p75_32 c _ _), bO (p75_33 c _ _), aI_1, aI_aI, ← hY]
  exact z1
theorem rS_eF {X Y : ixX} (h : eF X Y) : rS X Y := rS_eX h.1 (fun a ha => by simp at ha; omega) (h.2 31 (by omega) (by omega))
theorem cPd_of {c : ixK} {X : ixX} {S : sT} (h : invK c X S) (hz : X.1 2 = tbF) : cPd X S.2.2 := ⟨h.2.1.2.2.2.1, h.2.1.2.2.2.2.1, h.1.2.2, hz⟩
theorem rPd_of {c : ixK} {X : ixX} {S : sT} (h : invK c X S) : rPd X S.2.2 := ⟨h.2.2.2.2.2.1, h.2.2.2.2.2.2, h.1.2.2⟩
theorem K_fault {c : ixK} {X : ixX} {S : sT} (h : invK c X S) (hz : X.1 2 = tbF) : okI mRP_fault mMo_fault [] c X := by
  obtain ⟨Z, z1, z2, z3⟩ := M_mfault (c := c) (rPd_of h)
  exact ok_q h (x_RP_fault (rc_3 c X) (by rw [e_RP_fault, bO (g3_3 c _), kI_of (M_firstFault (cPd_of h hz))])) (fRm_refl _ _ _) z1 (rS_eF z2)
