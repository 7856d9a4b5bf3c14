/-! CALLS: what routes are like, where they meet -/
def fnd (u : List Nat) : List Nat → Option Nat
  | [] => none
  | a :: l => if a ∈ u then some a else fnd u l
theorem fnd_none (u : List Nat) : ∀ l, fnd u l = none ↔ ∀ c, c ∈ l → ¬ c ∈ u
  | [] => ⟨fun _ c hc => (by cases hc), fun _ => rfl⟩
  | a :: l => by
    show (if a ∈ u then some a else fnd u l) = none ↔ _
    by_cases h : a ∈ u
    · rw [if_pos h]
      exact ⟨fun q => (by cases q), fun q => absurd h (q a List.mem_cons_self)⟩
    · rw [if_neg h, fnd_none u l]
      constructor
      · intro q c hc
        rcases List.mem_cons.mp hc with r | r
        · rw [r]; exact h
        · exact q c r
      · intro q c hc
        exact q c (List.mem_cons_of_mem a hc)
theorem fnd_some (u : List Nat) : ∀ l c, fnd u l = some c → c ∈ l ∧ c ∈ u
  | [], c, h => by cases h
  | a :: l, c, h => by
    have h' : (if a ∈ u then some a else fnd u l) = some c := h
    by_cases q : a ∈ u
    · rw [if_pos q] at h'
      have : a = c := Option.some.inj h'
      rw [← this]
      exact ⟨List.mem_cons_self, q⟩
    · rw [if_neg q] at h'
      have := fnd_some u l c h'
      exact ⟨List.mem_cons_of_mem a this.1, this.2⟩
theorem drop_c (l : List Nat) {k : Nat} (hk : k < l.length) : l.drop k = l.getD k 0 :: l.drop (k + 1) := by
  have t := tk_succ l k hk
  have u1 := List.take_append_drop k l
  have u2 := List.take_append_drop (k + 1) l
  rw [t, List.append_assoc] at u2
  exact List.append_cancel_left (u1.trans u2.symm)
/-- the first cell of the lower of two routes that is on the other -/
def mtO (B : bT) (s t : Nat) : Option Nat := if s < t then fnd (brt B t) (brt B s) else fnd (brt B s) (brt B t)
theorem mtO_none (B : bT) (s t : Nat) : mtO B s t = none ↔ ∀ c, c ∈ brt B s → ¬ c ∈ brt B t := by
  unfold mtO
  by_cases h : s < t
  · rw [if_pos h]; exact fnd_none _ _
  · rw [if_neg h, fnd_none]
    exact ⟨fun q c h1 h2 => q c h2 h1, fun q c h1 h2 => q c h2 h1⟩
theorem mtO_lt {B : bT} (hb : bOK B) {s t c : Nat} (h : mtO B s t = some c) : c < bn B ∧ c ∈ brt B s ∧ c ∈ brt B t := by
  unfold mtO at h
  by_cases q : s < t
  · rw [if_pos q] at h
    have := fnd_some _ _ c h
    exact ⟨(hb.2.2.2.2.2 s).2 c this.1, this.1, this.2⟩
  · rw [if_neg q] at h
    have := fnd_some _ _ c h
    exact ⟨(hb.2.2.2.2.2 t).2 c this.1, this.2, this.1⟩
theorem L_cmeet {c : ixK} {X : ixX} {B : bT} (hb : bOK B) (h : cBd 4 X B) {s t : Nat} (hs : s < 5) (ht : t < 5) : ∀ n k, k + n = (brt B s).length → l_RP_meetingOf_32 (9 + 2 * s) (9 + 2 * t) (nI k) (hp c X) = some ([.int (oI (fnd (brt B t) ((brt B s).drop k)))], hp c X) := by
  have hlen := bOK_len hb s
  have hR := c_rt h hs
  have hR2 := c_rt h ht
  intro n
  induction n with
  | zero =>
    intro k hk
    rw [e_RP_meetingOf_32, bO (rt_g1 (rtA_4 hs) c _), hR.1, if_pos (by rw [nI_leI (by omega) (by omega)]; omega), List.drop_eq_nil_of_le (by omega)]
    rfl
  | succ n ih =>
    intro k hk
    have hc64 := bOK_64 hb (gd_mem (brt B s) k (by omega))
    rw [e_RP_meetingOf_32, bO (rt_g1 (rtA_4 hs) c _), hR.1, if_neg (by rw [nI_leI (by omega) (by omega)]; omega), bO (rt_g2 (rtA_4 ht) c _), hR2.2.1, kI_of (M_rat (rtA_4 hs) hR hlen (by omega)), kZ_of (M_holds _ hc64 _), drop_c _ (show k < (brt B s).length by omega)]
    show _ = some ([Value.int (oI (if (brt B s).getD k 0 ∈ brt B t then some ((brt B s).getD k 0) else fnd (brt B t) ((brt B s).drop (k + 1))))], hp c X)
    by_cases q : (brt B s).getD k 0 ∈ brt B t
    · rw [if_pos (decide_eq_true q), kI_of (M_rat (rtA_4 hs) hR hlen (by omega)), if_pos q]; rfl
    · rw [if_neg (by rw [decide_eq_false q]; decide), nI_1, ih (k + 1) (by omega), if_neg q]
theorem L_rmeet {c : ixK} {X : ixX} {B : bT} (hb : bOK B) (h : rBd (X.1 76) B) {s t : Nat} (hs : s < 5) (ht : t < 5) : ∀ n k, k + n = (brt B s).length → l_Mo_meetingOf_26 75 (nI s) (nI t) (nI k) (hp c X) = some ([.int (oI (fnd (brt B t) ((brt B s).drop k)))], hp c X) := by
  have hlen := bOK_len hb s
  intro n
  induction n with
  | zero =>
    intro k hk
    rw [e_Mo_meetingOf_26, kI_of (M_mlength h hs), if_pos (by rw [nI_leI (by omega) (by omega)]; omega), List.drop_eq_nil_of_le (by omega)]
    rfl
  | succ n ih =>
    intro k hk
    have hc64 := bOK_64 hb (gd_mem (brt B s) k (by omega))
    rw [e_Mo_meetingOf_26, kI_of (M_mlength h hs), if_neg (by rw [nI_leI (by omega) (by omega)]; omega), kI_of (M_mcellOf h hs (by omega) hlen), drop_c _ (show k < (brt B s).length by omega)]
    show _ = some ([Value.int (oI (if (brt B s).getD k 0 ∈ brt B t then some ((brt B s).getD k 0) else fnd (brt B t) ((brt B s).drop (k + 1))))], hp c X)
    by_cases q : (brt B s).getD k 0 ∈ brt B t
    · obtain ⟨i, hi, e⟩ := mem_gd _ _ q
      have hlt := bOK_len hb t
      rw [kI_of (M_mindexOf_t hb h ht hc64 hi e), if_neg (nI_pos (by omega)), kI_of (M_mcellOf h hs (by omega) hlen), if_pos q]; rfl
    · rw [kI_of (M_mindexOf_f hb h ht hc64 q), if_pos (by decide), nI_1, ih (k + 1) (by omega), if_neg q]
theorem M_cmeetingOf {c : ixK} {X : ixX} {B : bT} (hb : bOK B) (h : cBd 4 X B) {s t : Nat} (hs : s < 5) (ht : t < 5) (hne : ¬ s = t) : ix_M mRP_meetingOf [.ref 3, .int (nI s), .int (nI t)] (hp c X) = some ([.int (oI (mtO B s t))], hp c X) := by
  refine x_RP_meetingOf (rc_3 c X) ?_
  unfold mtO
  by_cases q : s < t
  · have e1 : ix_mn (nI s) (nI t) = nI s := by
      unfold ix_mn
      rw [if_neg (by rw [nI_ltI (by omega) (by omega)]; omega)]
    have e2 : ix_mx (nI s) (nI t) = nI t := by
      unfold ix_mx
      rw [if_pos (by rw [nI_ltI (by omega) (by omega)]; omega)]
    rw [e_RP_meetingOf, bO (g3_0 c X), bO (g4_1 c X), e1, bO (q8_ hs), bO (g3_0 c X), bO (g4_1 c X), e2, bO (q8_ ht), if_pos q, show (0 : Int32) = nI 0 from rfl, L_cmeet hb h hs ht (brt B s).length 0 (by omega)]
    rfl
  · have e1 : ix_mn (nI s) (nI t) = nI t := by
      unfold ix_mn
      rw [if_pos (by rw [nI_ltI (by omega) (by omega)]; omega)]
    have e2 : ix_mx (nI s) (nI t) = nI s := by
      unfold ix_mx
      rw [if_neg (by rw [nI_ltI (by omega) (by omega)]; omega)]
    rw [e_RP_meetingOf, bO (g3_0 c X), bO (g4_1 c X), e1, bO (q8_ ht), bO (g3_0 c X), bO (g4_1 c X), e2, bO (q8_ hs), if_neg q, show (0 : Int32) = nI 0 from rfl, L_cmeet hb h ht hs (brt B t).length 0 (by omega)]
    rfl
theorem M_rmeetingOf {c : ixK} {X : ixX} {B : bT} (hb : bOK B) (h : rBd (X.1 76) B) {s t : Nat} (hs : s < 5) (ht : t < 5) (hne : ¬ s = t) : ix_M mMo_meetingOf [.ref 75, .int (nI s), .int (nI t)] (hp c X) = some ([.int (oI (mtO B s t))], hp c X) := by
  refine x_Mo_meetingOf (rc_75 c X) ?_
  unfold mtO
  by_cases q : s < t
  · rw [e_Mo_meetingOf, if_neg (by rw [nI_leI (by omega) (by omega)]; omega), if_neg (by rw [nI_leI (by omega) (by omega)]; omega), if_pos q, show (0 : Int32) = nI 0 from rfl, L_rmeet hb h hs ht (brt B s).length 0 (by omega)]
    rfl
  · rw [e_Mo_meetingOf, if_pos (by rw [nI_leI (by omega) (by omega)]; omega), if_pos (by rw [nI_leI (by omega) (by omega)]; omega), if_neg q, show (0 : Int32) = nI 0 from rfl, L_rmeet hb h ht hs (brt B t).length 0 (by omega)]
    rfl
theorem K_meeting {c : ixK} {X : ixX} {S : sT} (h : invK c X S) (x1 x2 : Int32) : okI mRP_meeting mMo_meeting [.int x1, .int x2] c X := by
  obtain ⟨hs, hG, hA, hb⟩ := invK_G h
  rcases i_cases x1 (n := 5) (by omega) with ⟨s, hs5, rfl⟩ | hx
  · rcases i_cases x2 (n := 5) (by omega) with ⟨t, ht5, rfl⟩ | hy
    · by_cases e : s = t
      · rw [e]
        exact ok_0 h (r := -2) (x_RP_meeting (rc_3 c X) (by rw [e_RP_meeting, kZ_of (M_isSlot_t ht5 _), if_pos rfl, kZ_of (M_isSlot_t ht5 _), if_pos rfl, if_neg (fun n => n rfl)])) (x_Mo_meeting (rc_75 c X) (by rw [e_Mo_meeting, kZ_of (M_misSlot_t ht5 _), if_pos rfl, kZ_of (M_misSlot_t ht5 _), if_pos rfl, if_neg (fun n => n rfl)]))
      · have hne : ¬ nI s = nI t := by rw [nI_eq (by omega) (by omega)]; exact e
        exact ok_0 h (r := oI (mtO S.1 s t)) (x_RP_meeting (rc_3 c X) (by rw [e_RP_meeting, kZ_of (M_isSlot_t hs5 _), if_pos rfl, kZ_of (M_isSlot_t ht5 _), if_pos rfl, if_pos hne, kI_of (M_cmeetingOf hb h.2.1.1 hs5 ht5 e)])) (x_Mo_meeting (rc_75 c X) (by rw [e_Mo_meeting, kZ_of (M_misSlot_t hs5 _), if_pos rfl, kZ_of (M_misSlot_t ht5 _), if_pos rfl, if_pos hne, kI_of (M_rmeetingOf hb hA hs5 ht5 e)]))
    · exact ok_0 h (r := -1) (x_RP_meeting (rc_3 c X) (by rw [e_RP_meeting, kZ_of (M_isSlot_t hs5 _), if_pos rfl, kZ_of (M_isSlot_f hy _), if_neg (by decide)])) (x_Mo_meeting (rc_75 c X) (by rw [e_Mo_meeting, kZ_of (M_misSlot_t hs5 _), if_pos rfl, kZ_of (M_misSlot_f hy _), if_neg (by decide)]))
  · exact ok_0 h (r := -1) (x_RP_meeting (rc_3 c X) (by rw [e_RP_meeting, kZ_of (M_isSlot_f hx _), if_neg (by decide)])) (x_Mo_meeting (rc_75 c X) (by rw [e_Mo_meeting, kZ_of (M_misSlot_f hx _), if_neg (by decide)]))
/-! about -/
def vld (B : bT) (s : Nat) : Bool := allB (fun k => bop B ((brt B s).getD k 0)) (brt B s).length
theorem vld_iff (B : bT) (s : Nat) : vld B s = true ↔ ∀ c, c ∈ brt B s → bop B c = true := by
  unfold vld
  rw [allB_iff]
  constructor
  · intro h c hc
    obtain ⟨k, hk, e⟩ := mem_gd _ _ hc
    rw [← e]; exact h k hk
  · intro h k hk
    exact h _ (gd_mem _ k hk)
theorem M_cisValid {c : ixK} {X : ixX} {B : bT} (hb : bOK B) (h : cBd 4 X B) {s : Nat} (hs : s < 5) : ix_M mRP_isValid [.ref 3, .ref (9 + 2 * s)] (hp c X) = some ([.int (ix_bi (vld B s))], hp c X) := by
  have hR := c_rt h hs
  refine x_RP_isValid (rc_3 c X) ?_
  rw [e_RP_isValid, bO (rt_g2 (rtA_4 hs) c _), hR.2.1, bO (g3_0 c X), bO (g4_0 c X), bO (g5_5 c X), G_x h.1, LS_and]
  by_cases q : vld B s = true
  · have q2 := (vld_iff B s).mp q
    rw [if_pos (LS_zero.mpr (fun i _ => by
      by_cases hm : i ∈ brt B s
      · have := q2 i hm
        unfold bop at this
        rw [Bool.and_eq_true, Bool.not_eq_true'] at this
        rw [this.2, Bool.and_false]
      · rw [decide_eq_false hm, Bool.false_and])), q]
  · have q3 : vld B s = false := by cases hv : vld B s with
      | false => rfl
      | true => exact absurd hv q
    rw [if_neg (fun hz => q ((vld_iff B s).mpr (fun i hm => by
      have := LS_zero.mp hz i (bOK_64 hb hm)
      rw [decide_eq_true hm, Bool.true_and] at this
      unfold bop
      rw [decide_eq_true ((hb.2.2.2.2.2 s).2 i hm), this]; rfl))), q3]
theorem M_risValid {c : ixK} {X : ixX} {B : bT} (hb : bOK B) (h : rBd (X.1 76) B) {s : Nat} (hs : s < 5) : ix_M mMo_isValid [.ref 75, .int (nI s)] (hp c X) = some ([.int (ix_bi (vld B s))], hp c X) := by
  have hlen := bOK_len hb s
  refine x_Mo_isValid (rc_75 c X) ?_
  have e := lp_f (fun k b => l_Mo_isValid_4 75 (nI s) b (nI k) (hp c X)) (fun k => allB (fun k => bop B ((brt B s).getD k 0)) k) (N := (brt B s).length) (fun k hk => by
    show l_Mo_isValid_4 75 (nI s) (allB (fun k => bop B ((brt B s).getD k 0)) k) (nI k) (hp c X) = l_Mo_isValid_4 75 (nI s) (allB (fun k => bop B ((brt B s).getD k 0)) k && bop B ((brt B s).getD k 0)) (nI (k + 1)) (hp c X)
    rw [e_Mo_isValid_4, kI_of (M_mlength h hs), if_neg (by rw [nI_leI (by omega) (by omega)]; omega), nI_1]
    cases allB (fun k => bop B ((brt B s).getD k 0)) k with
    | false => rw [if_neg (by decide)]; rfl
    | true =>
      rw [if_pos rfl, kI_of (M_mcellOf h hs hk hlen), kZ_of (M_misOpen hb.1 h ((hb.2.2.2.2.2 s).2 _ (gd_mem _ k hk)))]
      cases bop B ((brt B s).getD k 0) with
      | true => rw [if_pos rfl]; rfl
      | false => rw [if_neg (by decide)]; rfl) (k := 0) (by omega)
  have e' : l_Mo_isValid_4 75 (nI s) true 0 (hp c X) = l_Mo_isValid_4 75 (nI s) (vld B s) (nI (brt B s).length) (hp c X) := e
  rw [e_Mo_isValid, e', e_Mo_isValid_4, kI_of (M_mlength h hs), if_pos (by rw [nI_leI (by omega) (by omega)]; omega)]
/-- proof of a part of the flow -/
def prf (B : bT) (s : Nat) : Bool := decide (0 < (brt B s).length) && (vld B s && (decide (brl B ((brt B s).getD 0 0) = 1) && decide (brl B ((brt B s).getD ((brt B s).length - 1) 0) = 2)))
theorem M_cisProof {c : ixK} {X : ixX} {B : bT} (hb : bOK B) (h : cBd 4 X B) {s : Nat} (hs : s < 5) : ix_M mRP_isProof [.ref 3, .ref (9 + 2 * s)] (hp c X) = some ([.int (ix_bi (prf B s))], hp c X) := by
  have hR := c_rt h hs
  have hlen := bOK_len hb s
  refine x_RP_isProof (rc_3 c X) ?_
  unfold prf
  rw [e_RP_isProof, bO (rt_g1 (rtA_4 hs) c _), hR.1]
  rcases Nat.eq_zero_or_pos (brt B s).length with z | z
  · rw [z, if_pos (by decide), decide_eq_false (by omega)]; rfl
  · have r1 := hb.2.2.1 ((brt B s).getD 0 0)
    have r2 := hb.2.2.1 ((brt B s).getD ((brt B s).length - 1) 0)
    rw [if_neg (nI_nle z (by omega)), kZ_of (M_cisValid hb h hs), decide_eq_true z, Bool.true_and]
    cases vld B s with
    | false => rw [if_neg (by decide)]; rfl
    | true =>
      rw [if_pos rfl, bO (g3_0 c X), bO (g4_0 c X), show (0 : Int32) = nI 0 from rfl, kI_of (M_rat (rtA_4 hs) hR hlen z), kI_of (M_groleOf h.1 hb.2.2.1 (bOK_64 hb (gd_mem _ 0 z))), Bool.true_and]
      by_cases q1 : brl B ((brt B s).getD 0 0) = 1
      · rw [if_neg (fun n => n (by rw [q1]; rfl)), decide_eq_true q1, bO (g3_0 c X), bO (g4_0 c X), kI_of (M_rlast (rtA_4 hs) hR hlen z), kI_of (M_groleOf h.1 hb.2.2.1 (bOK_64 hb (gd_mem _ _ (show (brt B s).length - 1 < (brt B s).length by omega)))), Bool.true_and]
        by_cases q2 : brl B ((brt B s).getD ((brt B s).length - 1) 0) = 2
        · rw [if_neg (fun n => n (by rw [q2]; rfl)), decide_eq_true q2]
        · rw [if_pos (show ¬ nI (brl B ((brt B s).getD ((brt B s).length - 1) 0)) = (2 : Int32) from (show ¬ nI (brl B ((brt B s).getD ((brt B s).length - 1) 0)) = nI 2 by rw [nI_eq (by omega) (by omega)]; exact q2)), decide_eq_false q2]
      · rw [if_pos (show ¬ nI (brl B ((brt B s).getD 0 0)) = (1 : Int32) from (show ¬ nI (brl B ((brt B s).getD 0 0)) = nI 1 by rw [nI_eq (by omega) (by omega)]; exact q1)), decide_eq_false q1]; rfl
theorem M_risFromTo {c : ixK} {X : ixX} {B : bT} (hb : bOK B) (h : rBd (X.1 76) B) {s : Nat} (hs : s < 5) : ix_M mMo_isFromTo [.ref 75, .int (nI s)] (hp c X) = some ([.int (ix_bi (prf B s))], hp c X) := by
  have hlen := bOK_len hb s
  refine x_Mo_isFromTo (rc_75 c X) ?_
  unfold prf
  rw [e_Mo_isFromTo, kI_of (M_mlength h hs)]
  rcases Nat.eq_zero_or_pos (brt B s).length with z | z
  · rw [z, if_pos (by decide), decide_eq_false (by omega)]; rfl
  · have hm0 := gd_mem (brt B s) 0 z
    have hm1 := gd_mem (brt B s) ((brt B s).length - 1) (by omega)
    have l0 := (hb.2.2.2.2.2 s).2 _ hm0
    have l1 := (hb.2.2.2.2.2 s).2 _ hm1
    rw [if_neg (nI_nle z (by omega)), kZ_of (M_risValid hb h hs), decide_eq_true z, Bool.true_and]
    cases hv : vld B s with
    | false => rw [if_neg (by decide)]; rfl
    | true =>
      have o0 := (vld_iff B s).mp hv _ hm0
      have o1 := (vld_iff B s).mp hv _ hm1
      have hb0 : bro B 1 ((brt B s).getD 0 0) = decide (brl B ((brt B s).getD 0 0) = 1) := by
        unfold bro
        rw [o0, Bool.and_true]
      have hb1 : bro B 2 ((brt B s).getD ((brt B s).length - 1) 0) = decide (brl B ((brt B s).getD ((brt B s).length - 1) 0) = 2) := by
        unfold bro
        rw [o1, Bool.and_true]
      rw [if_pos rfl, show (0 : Int32) = nI 0 from rfl, kI_of (M_mcellOf h hs z hlen), show (1 : Int32) = nI 1 from rfl, kZ_of (M_mhas hb.1 hb.2.2.1 h l0 (by omega)), hb0, Bool.true_and]
      cases decide (brl B ((brt B s).getD 0 0) = 1) with
      | false => rw [if_neg (by decide)]; rfl
      | true =>
        rw [if_pos rfl, show nI (brt B s).length - nI 1 = nI ((brt B s).length - 1) from nI_sub (by omega), kI_of (M_mcellOf h hs (by omega) hlen), show (2 : Int32) = nI 2 from rfl, kZ_of (M_mhas hb.1 hb.2.2.1 h l1 (by omega)), hb1, Bool.true_and]
        cases decide (brl B ((brt B s).getD ((brt B s).length - 1) 0) = 2) with
        | true => rw [if_pos rfl]
        | false => rw [if_neg (by decide)]
/-- the slots met by one -/
def mtS (B : bT) (s : Nat) : Nat → Bool := fun t => !decide (t = s) && !(mtO B s t).isNone
theorem M_slotsMet {c : ixK} {X : ixX} {B : bT} (hb : bOK B) (h : cBd 4 X B) {s : Nat} (hs : s < 5) : ix_M mRP_slotsMet [.ref 3, .int (nI s)] (hp c X) = some ([.int (iS (fun t => decide (t < 5) && mtS B s t))], hp c X) := by
  have hR := c_rt h hs
  refine x_RP_slotsMet (rc_3 c X) ?_
  have e := lp_f (fun t v => l_RP_slotsMet_19 3 (nI s) (LSt (fun x => decide (x ∈ brt B s))) v (nI t) (hp c X)) (fun k => iS (fun t => decide (t < k) && mtS B s t)) (N := 5) (fun k hk => by
    show l_RP_slotsMet_19 3 (nI s) (LSt (fun x => decide (x ∈ brt B s))) (iS (fun t => decide (t < k) && mtS B s t)) (nI k) (hp c X) = l_RP_slotsMet_19 3 (nI s) (LSt (fun x => decide (x ∈ brt B s))) (iS (fun t => decide (t < k + 1) && mtS B s t)) (nI (k + 1)) (hp c X)
    have skip : mtS B s k = false → iS (fun t => decide (t < k) && mtS B s t) = iS (fun t => decide (t < k + 1) && mtS B s t) := fun hf => iS_cong (fun i hi => by
      by_cases hi2 : i = k
      · subst hi2; simp [hf]
      · have : (i < k + 1) ↔ (i < k) := by omega
        simp [this])
    rw [e_RP_slotsMet_19, if_neg (lit_nle (x := 5) (a := 5) (k := k) rfl hk (by omega)), nI_1]
    by_cases ek : k = s
    · rw [if_pos (by rw [ek]), skip (by unfold mtS; rw [decide_eq_true ek]; rfl)]
    · rw [if_neg (by rw [nI_eq (by omega) (by omega)]; exact ek), bO (g3_0 c X), bO (g4_1 c X), bO (q8_ hk), bO (rt_g2 (rtA_4 hk) c _), (c_rt h hk).2.1, LS_and]
      cases hm : mtS B s k with
      | false =>
        have hn : mtO B s k = none := by
          unfold mtS at hm
          rw [decide_eq_false ek, Bool.not_false, Bool.true_and] at hm
          cases ho : mtO B s k with
          | none => rfl
          | some z => rw [ho] at hm; cases hm
        rw [if_pos (LS_zero.mpr (fun i _ => by
          by_cases h1 : i ∈ brt B s
          · rw [decide_eq_false ((mtO_none B s k).mp hn i h1)]; rfl
          · rw [decide_eq_false h1, Bool.and_false])), skip hm]
      | true =>
        have hn : ∃ z, mtO B s k = some z := by
          unfold mtS at hm
          rw [decide_eq_false ek, Bool.not_false, Bool.true_and] at hm
          cases ho : mtO B s k with
          | none => rw [ho] at hm; cases hm
          | some z => exact ⟨z, rfl⟩
        obtain ⟨z, hz⟩ := hn
        have hz2 := mtO_lt hb hz
        rw [if_neg (fun q => by
          have := LS_zero.mp q z (by have := bS_64 hb.1; omega)
          rw [decide_eq_true hz2.2.1, decide_eq_true hz2.2.2] at this
          cases this), iS_add (by omega)]
        congr 1
        refine iS_cong (fun i hi => ?_)
        by_cases hi2 : i = k
        · subst hi2; simp [hm]
        · have : (i < k + 1) ↔ (i < k) := by omega
          simp [hi2, this]) (k := 0) (by omega)
  have e2 : l_RP_slotsMet_19 3 (nI s) (LSt (fun x => decide (x ∈ brt B s))) (iS (fun t => decide (t < 0) && mtS B s t)) (nI 0) (hp c X) = l_RP_slotsMet_19 3 (nI s) (LSt (fun x => decide (x ∈ brt B s))) (iS (fun t => decide (t < 5) && mtS B s t)) (nI 5) (hp c X) := e
  have e3 : (0 : Int32) = iS (fun t => decide (t < 0) && mtS B s t) := by
    rw [iS_0]
    exact iS_cong (fun i hi => by simp)
  have e4 : l_RP_slotsMet_19 3 (nI s) (LSt (fun x => decide (x ∈ brt B s))) 0 0 (hp c X) = l_RP_slotsMet_19 3 (nI s) (LSt (fun x => decide (x ∈ brt B s))) (iS (fun t => decide (t < 0) && mtS B s t)) (nI 0) (hp c X) := by rw [← e3]; rfl
  rw [e_RP_slotsMet, bO (g3_0 c X), bO (g4_1 c X), bO (q8_ hs), bO (rt_g2 (rtA_4 hs) c _), hR.2.1, e4, e2, e_RP_slotsMet_19, if_pos (show (5 : Int32) ≤ nI 5 by decide)]
theorem M_meets {c : ixK} {X : ixX} {B : bT} (hb : bOK B) (h : rBd (X.1 76) B) {s : Nat} (hs : s < 5) : ix_M mMo_meets [.ref 75, .int (nI s)] (hp c X) = some ([.int (iS (fun t => decide (t < 5) && mtS B s t))], hp c X) := by
  refine x_Mo_meets (rc_75 c X) ?_
  have e := lp_f (fun t v => l_Mo_meets_4 75 (nI s) v (nI t) (hp c X)) (fun k => iS (fun t => decide (t < k) && mtS B s t)) (N := 5) (fun k hk => by
    show l_Mo_meets_4 75 (nI s) (iS (fun t => decide (t < k) && mtS B s t)) (nI k) (hp c X) = l_Mo_meets_4 75 (nI s) (iS (fun t => decide (t < k + 1) && mtS B s t)) (nI (k + 1)) (hp c X)
    have skip : mtS B s k = false → iS (fun t => decide (t < k) && mtS B s t) = iS (fun t => decide (t < k + 1) && mtS B s t) := fun hf => iS_cong (fun i hi => by
      by_cases hi2 : i = k
      · subst hi2; simp [hf]
      · have : (i < k + 1) ↔ (i < k) := by omega
        simp [this])
    rw [e_Mo_meets_4, if_neg (lit_nle (x := 5) (a := 5) (k := k) rfl hk (by omega)), nI_1]
    by_cases ek : k = s
    · rw [if_pos (by rw [ek]), or_0, skip (by unfold mtS; rw [decide_eq_true ek]; rfl)]
    · rw [if_neg (by rw [nI_eq (by omega) (by omega)]; exact ek), kI_of (M_rmeetingOf hb h hs hk (fun q => ek q.symm))]
      cases ho : mtO B s k with
      | none =>
        rw [if_pos (show oI none < 0 by decide), or_0, skip (by unfold mtS; rw [ho]; exact Bool.and_false _)]
      | some z =>
        have hz2 := mtO_lt hb ho
        have h64 := bS_64 hb.1
        have hm : mtS B s k = true := by
          unfold mtS
          rw [ho, decide_eq_false ek]; rfl
        rw [if_neg (show ¬ oI (some z) < 0 from nI_pos (by omega)), iS_add (by omega)]
        congr 1
        refine iS_cong (fun i hi => ?_)
        by_cases hi2 : i = k
        · subst hi2; simp [hm]
        · have : (i < k + 1) ↔ (i < k) := by omega
          simp [hi2, this]) (k := 0) (by omega)
  have e2 : l_Mo_meets_4 75 (nI s) (iS (fun t => decide (t < 0) && mtS B s t)) (nI 0) (hp c X) = l_Mo_meets_4 75 (nI s) (iS (fun t => decide (t < 5) && mtS B s t)) (nI 5) (hp c X) := e
  have e3 : (0 : Int32) = iS (fun t => decide (t < 0) && mtS B s t) := by
    rw [iS_0]
    exact iS_cong (fun i hi => by simp)
  have e4 : l_Mo_meets_4 75 (nI s) 0 0 (hp c X) = l_Mo_meets_4 75 (nI s) (iS (fun t => decide (t < 0) && mtS B s t)) (nI 0) (hp c X) := by rw [← e3]; rfl
  rw [e_Mo_meets, e4, e2, e_Mo_meets_4, if_pos (show (5 : Int32) ≤ nI 5 by decide)]
