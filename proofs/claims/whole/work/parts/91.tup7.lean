/-! TUPLES: a route brought to a diagonal; one that is left out -/
def avF (B : bT) (p d : Nat) (f : Nat → Nat) (s : Nat) : Nat := (if tAb B p d (tR0 B p d (dec8 s)) = true ∧ tTk B d (dec8 s) (tR0 B p d (dec8 s)) p = false then f (wr8 s p (tR0 B p d (dec8 s))) else 0) + (if tAb B p d (tR0 B p d (dec8 s) + 1) = true ∧ tTk B d (dec8 s) (tR0 B p d (dec8 s) + 1) p = false then f (wr8 s p (tR0 B p d (dec8 s) + 1)) else 0)
theorem avF_le (B : bT) (p d s : Nat) : avF B p d (fun _ => 1) s ≤ 2 := by
  unfold avF
  have h : ∀ (q : Prop) [Decidable q], (if q then 1 else 0) ≤ 1 := fun q _ => by
    by_cases e : q
    · rw [if_pos e]; exact Nat.le_refl _
    · rw [if_neg e]; exact Nat.zero_le _
  exact Nat.add_le_add (h _) (h _)
theorem frT {a b : Nat} (h : (a = 106 ∧ b = 109) ∨ (a = 109 ∧ b = 106)) {X Y : ixX} {W : Nat → Nat} {m : Nat} {L : Nat → Nat} (hf : fRm b (b + 3) X Y) (hT : tly a X W m L) : tly a Y W m L := tly_cong (hf a (by omega)).1 (hf (a + 2) (by omega)).1 (hf (a + 1) (by omega)).2 hT
theorem fr_lo {b : Nat} (h : 106 ≤ b) {X Y : ixX} (hf : fRm b (b + 3) X Y) {x : Nat} (hx : x < 106) : Y.1 x = X.1 x ∧ Y.2 x = X.2 x := hf x (by omega)
theorem bnOK_fr {b : Nat} (h : 106 ≤ b) {X Y : ixX} {B : bT} {k : Nat} (hf : fRm b (b + 3) X Y) (hX : bnOK X B k) : bnOK Y B k := by
  unfold bnOK
  rw [(fr_lo h hf (x := 104) (by omega)).1, (fr_lo h hf (x := 105) (by omega)).1, (fr_lo h hf (x := 103) (by omega)).2]
  exact hX
/-- what one tally gets from another, place by place: no place overflows -/
theorem sm_le1 {V : Nat → Nat} {N M t : Nat} (hs : ∀ s, 0 < V s → s < N) (h : fb_sm (fun x => V x * 1) N ≤ M) : V t ≤ M := by
  rw [sm_mul, Nat.mul_one] at h
  rcases Nat.eq_zero_or_pos (V t) with z | z
  · omega
  · have := fb_sm_part V (hs t z)
    omega
theorem M_avLoop {c : ixK} {a b : Nat} (hc : cBn c a b) {X : ixX} {B : bT} (hb : bOK B) {p d : Nat} (pn : p < (bpr B).length) {W : Nat → Nat} {m : Nat} {L : Nat → Nat} (T1 : tly a X W m L) {bg : Bool} {sr : Nat} (hsr : sr < 8) (hr0 : ∀ s, tR0 B p d (dec8 s) = if bg = true then sr else dec8 s p) {N : Nat} (hN : N = 4096) (hW : fb_sm W N ≤ 2 ^ 60) (T2 : tly b X (fun _ => 0) 0 (fun _ => 0)) :
    ∃ Y V mv Lv, l_Bn_advance_62 102 (nI p) (iS (tAb B p d)) (iS (fun q => decide (q < p) && decide (tOn B q d))) bg (nI sr) 0 (hp c X) = some ([], hp (swK c) Y) ∧ tly b Y V mv Lv ∧ fRm b (b + 3) X Y ∧ (∀ f, fb_sm (fun t => V t * f t) N = fb_sm (fun s => W s * avF B p d f s) N) ∧ ∀ t, 0 < V t → ∃ s r, 0 < W s ∧ t = wr8 s p r ∧ r < 8 ∧ tAl B p d r := by
  have h4 := hb.2.2.2.1
  have ta := cBn_a hc
  have tb := cBn_b hc
  have hab := cBn_ne hc
  have h8 := hb.1.2.2.2
  have m4 := T1.2.1
  have S1 := tly_sum T1 (fun _ => 1) hN
  rw [sm_mul, Nat.mul_one, sm_mul, Nat.mul_one] at S1
  have al8 : ∀ r, tAb B p d r = true → r < 8 := fun r e => by have := (tAb_iff.mp e).1.2.2; omega
  obtain ⟨Y, e, V, mv, Lv, y1, y2, y3, y4⟩ := lp_up (fun i (Y : ixX) => l_Bn_advance_62 102 (nI p) (iS (tAb B p d)) (iS (fun q => decide (q < p) && decide (tOn B q d))) bg (nI sr) (nI i) (hp c Y)) (fun i Y => ∃ V mv Lv, tly b Y V mv Lv ∧ fRm b (b + 3) X Y ∧ (∀ f, fb_sm (fun t => V t * f t) N = fb_sm (fun k => W (L k) * avF B p d f (L k)) i) ∧ ∀ t, 0 < V t → ∃ s r, 0 < W s ∧ t = wr8 s p r ∧ r < 8 ∧ tAl B p d r) (N := m) (fun i Y hi ⟨V, mv, Lv, y1, y2, y3, y4⟩ => by
    obtain ⟨s, hs⟩ : ∃ s, s = L i := ⟨_, rfl⟩
    have TY := frT hab y2 T1
    have q1 := TY.2.2.2.1 i hi
    rw [← hs] at q1
    obtain ⟨r0, hr⟩ : ∃ r0, r0 = tR0 B p d (dec8 s) := ⟨_, rfl⟩
    have hr8 : r0 < 8 := by
      rw [hr, hr0 s]
      have := dec8_lt s p
      cases bg with
      | true => rw [if_pos rfl]; exact hsr
      | false => rw [if_neg (by decide)]; exact this
    -- what has come to the other tally stays small
    have small : ∀ x, x ≤ 1 → fb_sm (fun t => V t * 1) N + W s * x ≤ 2 ^ 61 := fun x hx => by
      have e1 := y3 (fun _ => 1)
      have e2 : fb_sm (fun k => W (L k) * avF B p d (fun _ => 1) (L k)) i ≤ fb_sm (fun k => W (L k) * 2) i := fb_sm_le (fun k _ => Nat.mul_le_mul_left _ (avF_le B p d (L k)))
      rw [sm_mul (fun k => W (L k))] at e2
      have e3 := fb_sm_part (fun k => W (L k)) hi
      rw [S1] at e3
      have e3' : fb_sm (fun k => W (L k)) i + W (L i) ≤ fb_sm W N := e3
      rw [← hs] at e3'
      have e4 : W s * x ≤ W s * 1 := Nat.mul_le_mul_left _ hx
      rw [Nat.mul_one] at e4
      have e1' : fb_sm (fun t => V t * 1) N = fb_sm (fun k => W (L k) * avF B p d (fun _ => 1) (L k)) i := e1
      omega
    have ww : ix_M mTa_waysAt [.ref a, .int (nI i)] (hp c Y) = some ([.long (lN (W s))], hp c Y) := by rw [hs]; exact M_waysAt ta TY hi
    have bitF : ∀ r, r < 16 → ((((ix_ishr ((iS (tAb B p d)) &&& ((iS (tkP (fun q => decide (q < p) && decide (tOn B q d)) s 4)) ^^^ (-1))) (nI r)) &&& 1) = 1) ↔ (tAb B p d r = true ∧ tTk B d (dec8 s) r p = false)) := fun r h16 => by
      rw [sh1_1 _ (by omega), b_and, b_xor, b_iS _ (by omega), b_iS _ (by omega), b_m1 r (by omega), decide_eq_true h16, Bool.true_and, Bool.true_and, tkP_tTk (by omega), Bool.and_eq_true, Bool.xor_true, Bool.not_eq_true']
    -- one candidate
    have one : ∀ (r : Nat) (Y2 : ixX) (V2 : Nat → Nat) (m2 : Nat) (L2 : Nat → Nat), tly b Y2 V2 m2 L2 → fRm b (b + 3) X Y2 → (∀ t, 0 < V2 t → ∃ s r, 0 < W s ∧ t = wr8 s p r ∧ r < 8 ∧ tAl B p d r) → fb_sm (fun t => V2 t * 1) N ≤ 2 ^ 61 → tAb B p d r = true → ∃ Y3 V3 m3 L3, ix_M mTa_add [.ref b, .int (nI (wr8 s p r)), .long (lN (W s))] (hp c Y2) = some ([], hp c Y3) ∧ tly b Y3 V3 m3 L3 ∧ fRm b (b + 3) X Y3 ∧ (∀ t, 0 < V3 t → ∃ s r, 0 < W s ∧ t = wr8 s p r ∧ r < 8 ∧ tAl B p d r) ∧ ∀ f : Nat → Nat, fb_sm (fun t => V3 t * f t) N = fb_sm (fun t => V2 t * f t) N + W s * f (wr8 s p r) := fun r Y2 V2 m2 L2 z1 z2 z3 z4 z5 => by
      have hv : V2 (wr8 s p r) ≤ 2 ^ 61 := sm_le1 (fun x hx => by rw [hN]; exact (z1.2.2.2.2.2 x hx).1) z4
      obtain ⟨Y3, m3, L3, a1, a2, a3⟩ := M_tadd (c := c) tb z1 (wr8_lt s p r) q1.2.2 (by omega)
      refine ⟨Y3, bumpW V2 (wr8 s p r) (W s), m3, L3, a1, a2, fRm_trans z2 a3, fun t ht => ?_, fun f => sm_bump V2 f (t := wr8 s p r) (N := N) (W s) (by rw [hN]; exact wr8_lt s p r)⟩
      by_cases e : t = wr8 s p r
      · exact ⟨s, r, q1.2.2, e, al8 r z5, tAb_iff.mp z5⟩
      · rw [bumpW_n _ _ e] at ht
        exact z3 t ht
    show ∃ Y', l_Bn_advance_62 102 (nI p) (iS (tAb B p d)) (iS (fun q => decide (q < p) && decide (tOn B q d))) bg (nI sr) (nI i) (hp c Y) = l_Bn_advance_62 102 (nI p) (iS (tAb B p d)) (iS (fun q => decide (q < p) && decide (tOn B q d))) bg (nI sr) (nI (i + 1)) (hp c Y') ∧ _
    have eA : l_Bn_advance_62 102 (nI p) (iS (tAb B p d)) (iS (fun q => decide (q < p) && decide (tOn B q d))) bg (nI sr) (nI i) (hp c Y) = l_Bn_advance_101 102 (nI p) (iS (tAb B p d)) (iS (fun q => decide (q < p) && decide (tOn B q d))) bg (nI sr) (nI i) (nI s) (nI r0) (hp c Y) := by
      rw [e_Bn_advance_62, bO (gb_3 hc Y), bO (gt_2 ta Y), TY.1, if_neg (fun e => by have := (nI_leI (by omega) (by omega)).mp e; omega), bO (gb_3 hc Y), kI_of (M_rowsAt ta TY.1 m4 hi q1.1 q1.2.1)]
      have hr' := hr0 s
      rw [← hr] at hr'
      cases bg with
      | true => rw [if_pos rfl] at hr' ⊢; rw [hr']
      | false => rw [if_neg (by decide)] at hr' ⊢; rw [kI_of (M_rowIn q1.2.1 (by omega) _), hr']
    -- the second candidate
    have two : ∀ (Y2 : ixX) (V2 : Nat → Nat) (m2 : Nat) (L2 : Nat → Nat), tly b Y2 V2 m2 L2 → fRm b (b + 3) X Y2 → (∀ t, 0 < V2 t → ∃ s r, 0 < W s ∧ t = wr8 s p r ∧ r < 8 ∧ tAl B p d r) → fb_sm (fun t => V2 t * 1) N ≤ 2 ^ 61 → ∃ Y3 V3 m3 L3, l_Bn_advance_152 102 (nI p) (iS (tAb B p d)) (iS (fun q => decide (q < p) && decide (tOn B q d))) bg (nI sr) (nI i) (nI s) (nI r0) ((iS (tAb B p d)) &&& ((iS (tkP (fun q => decide (q < p) && decide (tOn B q d)) s 4)) ^^^ (-1))) (hp c Y2) = l_Bn_advance_62 102 (nI p) (iS (tAb B p d)) (iS (fun q => decide (q < p) && decide (tOn B q d))) bg (nI sr) (nI (i + 1)) (hp c Y3) ∧ tly b Y3 V3 m3 L3 ∧ fRm b (b + 3) X Y3 ∧ (∀ t, 0 < V3 t → ∃ s r, 0 < W s ∧ t = wr8 s p r ∧ r < 8 ∧ tAl B p d r) ∧ ∀ f : Nat → Nat, fb_sm (fun t => V3 t * f t) N = fb_sm (fun t => V2 t * f t) N + W s * (if tAb B p d (r0 + 1) = true ∧ tTk B d (dec8 s) (r0 + 1) p = false then f (wr8 s p (r0 + 1)) else 0) := fun Y2 V2 m2 L2 z1 z2 z3 z4 => by
      rw [e_Bn_advance_152, nI_1 r0, nI_1 i]
      by_cases g : tAb B p d (r0 + 1) = true ∧ tTk B d (dec8 s) (r0 + 1) p = false
      · obtain ⟨Y3, V3, m3, L3, a1, a2, a3, a4, a5⟩ := one (r0 + 1) Y2 V2 m2 L2 z1 z2 z3 z4 g.1
        have ww2 : ix_M mTa_waysAt [.ref a, .int (nI i)] (hp c Y2) = some ([.long (lN (W s))], hp c Y2) := by rw [hs]; exact M_waysAt ta (frT hab z2 T1) hi
        refine ⟨Y3, V3, m3, L3, ?_, a2, a3, a4, fun f => by rw [if_pos g]; exact a5 f⟩
        rw [if_neg (fun e => e ((bitF (r0 + 1) (by omega)).mpr g)), bO (gb_4 hc Y2), kI_of (M_withRow q1.2.1 (by omega) (al8 _ g.1) _), bO (gb_3 hc Y2), kL_of ww2, kV_of a1]
      · refine ⟨Y2, V2, m2, L2, ?_, z1, z2, z3, fun f => by rw [if_neg g, Nat.mul_zero, Nat.add_zero]⟩
        rw [if_pos (fun e => g ((bitF (r0 + 1) (by omega)).mp e))]
    rw [eA, e_Bn_advance_101, kI_of (M_rowsTaken q1.2.1 _ _)]
    by_cases g : tAb B p d r0 = true ∧ tTk B d (dec8 s) r0 p = false
    · have sm0 := small 1 (Nat.le_refl _)
      obtain ⟨Y2, V2, m2, L2, a1, a2, a3, a4, a5⟩ := one r0 Y V mv Lv y1 y2 y4 (by omega) g.1
      obtain ⟨Y3, V3, m3, L3, b1, b2, b3, b4, b5⟩ := two Y2 V2 m2 L2 a2 a3 a4 (by rw [a5 (fun _ => 1)]; exact sm0)
      refine ⟨Y3, ?_, V3, m3, L3, b2, b3, fun f => ?_, b4⟩
      · rw [if_neg (fun e => e ((bitF r0 (by omega)).mpr g)), bO (gb_4 hc Y), kI_of (M_withRow q1.2.1 (by omega) hr8 _), bO (gb_3 hc Y), kL_of ww, kV_of a1, b1]
      · rw [fb_sm_succ, b5 f, a5 f, y3 f, ← hs]
        unfold avF
        rw [← hr, if_pos g, Nat.mul_add, Nat.add_assoc]
    · have sm0 := small 0 (Nat.zero_le _)
      obtain ⟨Y3, V3, m3, L3, b1, b2, b3, b4, b5⟩ := two Y V mv Lv y1 y2 y4 (by omega)
      refine ⟨Y3, ?_, V3, m3, L3, b2, b3, fun f => ?_, b4⟩
      · rw [if_pos (fun e => g ((bitF r0 (by omega)).mp e)), b1]
      · rw [fb_sm_succ, b5 f, y3 f, ← hs]
        unfold avF
        rw [← hr, if_neg g, Nat.zero_add]) (k := 0) (s := X) (by omega) ⟨fun _ => 0, 0, fun _ => 0, T2, fRm_refl _ _ _, fun f => sm_z (fun i => Nat.zero_mul _) N, fun t ht => absurd ht (Nat.lt_irrefl 0)⟩
  have e' : l_Bn_advance_62 102 (nI p) (iS (tAb B p d)) (iS (fun q => decide (q < p) && decide (tOn B q d))) bg (nI sr) (nI 0) (hp c X) = l_Bn_advance_62 102 (nI p) (iS (tAb B p d)) (iS (fun q => decide (q < p) && decide (tOn B q d))) bg (nI sr) (nI m) (hp c Y) := e
  refine ⟨Y, V, mv, Lv, ?_, y1, y2, fun f => (y3 f).trans (tly_sum T1 (fun s => avF B p d f s) hN), y4⟩
  rw [show (0 : Int32) = nI 0 from rfl, e', e_Bn_advance_62, bO (gb_3 hc Y), bO (gt_2 ta Y), (frT hab y2 T1).1, if_pos ((nI_leI (by omega) (by omega)).mpr (by omega)), kV_of (M_exch hc Y)]
theorem M_advance {c : ixK} {a b : Nat} (hc : cBn c a b) {X : ixX} {B : bT} (hb : bOK B) (hG : cG 4 X B) (hP : cP 4 X B) (hX : bnOK X B (bpr B).length) {p d : Nat} (pn : p < (bpr B).length) (hd : d < 31) {W : Nat → Nat} {m : Nat} {L : Nat → Nat} (T1 : tly a X W m L) (T2 : tOK b X) {N : Nat} (hN : N = 4096) (hW : fb_sm W N ≤ 2 ^ 60) :
    ∃ Y V mv Lv, ix_M mBn_advance [.ref 102, .ref 4, .int (nI p), .int (nI d)] (hp c X) = some ([], hp (swK c) Y) ∧ tly b Y V mv Lv ∧ tly a Y W m L ∧ fRm b (b + 3) X Y ∧ (∀ f, fb_sm (fun t => V t * f t) N = fb_sm (fun s => W s * avF B p d f s) N) ∧ ∀ t, 0 < V t → ∃ s r, 0 < W s ∧ t = wr8 s p r ∧ r < 8 ∧ tAl B p d r := by
  have h4 := hb.2.2.2.1
  obtain ⟨q1, q2, _, _⟩ := pen_D hb pn
  have g1 := dgB_le hb.1 q1
  have hrow := bn_div q1
  have h8 := hb.1.2.2.2
  obtain ⟨X2, e1, t1, f1⟩ := M_tempty (c := c) (cBn_b hc) T2
  have T1' := frT (cBn_ne hc) f1 T1
  have hst : X.1 19 p = nI (pst B p) := (hP.2 p pn).1
  have go : ∀ bg : Bool, (bg = true ↔ d = dgB B (pst B p)) → ∃ Y V mv Lv, l_Bn_advance_62 102 (nI p) (iS (tAb B p d)) (iS (fun q => decide (q < p) && decide (tOn B q d))) bg (nI (pst B p / bw B)) 0 (hp c X2) = some ([], hp (swK c) Y) ∧ tly b Y V mv Lv ∧ fRm b (b + 3) X2 Y ∧ (∀ f, fb_sm (fun t => V t * f t) N = fb_sm (fun s => W s * avF B p d f s) N) ∧ ∀ t, 0 < V t → ∃ s r, 0 < W s ∧ t = wr8 s p r ∧ r < 8 ∧ tAl B p d r := fun bg hbg => M_avLoop hc hb pn T1' (by omega) (fun s => by
    unfold tR0
    by_cases e : d = dgB B (pst B p)
    · rw [if_pos e, if_pos (hbg.mpr e)]
    · rw [if_neg e, if_neg (fun q => e (hbg.mp q))]) hN hW t1
  have head : ix_D mBn_advance 0 [some (.ref 102), some (.ref 4), some (.int (nI p)), some (.int (nI d)), none, none, none, none, none, none, none, none] [] (hp c X) = l_Bn_advance_62 102 (nI p) (iS (tAb B p d)) (iS (fun q => decide (q < p) && decide (tOn B q d))) (decide (d = dgB B (pst B p))) (nI (pst B p / bw B)) 0 (hp c X2) := by
    rw [e_Bn_advance, bO (g4_0 c X), kI_of (M_rowsAllowed hc hb hG hX pn hd), kI_of (M_presentBefore hc hb hX pn hd), bO (gb_1 hc X), bO (r104 hc (by omega)), (hX p pn).1]
    by_cases e : d = dgB B (pst B p)
    · rw [if_neg (fun n => n (by rw [← e])), bO (g4_0 c X), bO (g4_2 c X), bO (r19 (by omega)), hst, kI_of (M_rowOf hb.1 hG q1), bO (gb_4 hc X), kV_of e1, decide_eq_true e]
    · rw [if_pos (fun n => e ((nI_eq (by omega) (by omega)).mp n)), bO (g4_0 c X), bO (g4_2 c X), bO (r19 (by omega)), hst, kI_of (M_rowOf hb.1 hG q1), bO (gb_4 hc X), kV_of e1, decide_eq_false e]
  obtain ⟨Y, V, mv, Lv, y1, y2, y3, y4, y5⟩ := go (decide (d = dgB B (pst B p))) decide_eq_true_iff
  exact ⟨Y, V, mv, Lv, x_Bn_advance (rc_102 hc X) (head.trans y1), y2, frT (cBn_ne hc) y3 T1', fRm_trans f1 y3, y4, y5⟩
theorem M_forget {c : ixK} {a b : Nat} (hc : cBn c a b) {X : ixX} {p : Nat} (hp4 : p < 4) {W : Nat → Nat} {m : Nat} {L : Nat → Nat} (T1 : tly a X W m L) (T2 : tOK b X) {N : Nat} (hN : N = 4096) (hW : fb_sm W N ≤ 2 ^ 60) :
    ∃ Y V mv Lv, ix_M mBn_forget [.ref 102, .int (nI p)] (hp c X) = some ([], hp (swK c) Y) ∧ tly b Y V mv Lv ∧ tly a Y W m L ∧ fRm b (b + 3) X Y ∧ (∀ f : Nat → Nat, fb_sm (fun t => V t * f t) N = fb_sm (fun s => W s * f (wr8 s p 0)) N) ∧ ∀ t, 0 < V t → ∃ s, 0 < W s ∧ t = wr8 s p 0 := by
  have ta := cBn_a hc
  have tb := cBn_b hc
  have hab := cBn_ne hc
  have m4 := T1.2.1
  have S1 := tly_sum T1 (fun _ => 1) hN
  rw [sm_mul, Nat.mul_one, sm_mul, Nat.mul_one] at S1
  obtain ⟨X2, e1, t1, f1⟩ := M_tempty (c := c) tb T2
  have T1' := frT hab f1 T1
  obtain ⟨Y, e, V, mv, Lv, y1, y2, y3, y4⟩ := lp_up (fun i (Y : ixX) => l_Bn_forget_9 102 (nI p) (nI i) (hp c Y)) (fun i Y => ∃ V mv Lv, tly b Y V mv Lv ∧ fRm b (b + 3) X2 Y ∧ (∀ f : Nat → Nat, fb_sm (fun t => V t * f t) N = fb_sm (fun k => W (L k) * f (wr8 (L k) p 0)) i) ∧ ∀ t, 0 < V t → ∃ s, 0 < W s ∧ t = wr8 s p 0) (N := m) (fun i Y hi ⟨V, mv, Lv, y1, y2, y3, y4⟩ => by
    have TY := frT hab y2 T1'
    have q1 := TY.2.2.2.1 i hi
    have hv : V (wr8 (L i) p 0) ≤ 2 ^ 60 := sm_le1 (N := N) (fun x hx => by rw [hN]; exact (y1.2.2.2.2.2 x hx).1) (by
      rw [y3 (fun _ => 1)]
      show fb_sm (fun k => W (L k) * 1) i ≤ 2 ^ 60
      have q0 := fb_sm_mono (fun k => W (L k)) i (m - i)
      rw [show i + (m - i) = m by omega, S1] at q0
      rw [sm_mul (fun k => W (L k)), Nat.mul_one]
      exact Nat.le_trans q0 hW)
    obtain ⟨Y3, m3, L3, a1, a2, a3⟩ := M_tadd (c := c) tb y1 (wr8_lt (L i) p 0) q1.2.2 (by omega)
    refine ⟨Y3, ?_, bumpW V (wr8 (L i) p 0) (W (L i)), m3, L3, a2, fRm_trans y2 a3, fun f => ?_, fun t ht => ?_⟩
    · show l_Bn_forget_9 102 (nI p) (nI i) (hp c Y) = l_Bn_forget_9 102 (nI p) (nI (i + 1)) (hp c Y3)
      rw [e_Bn_forget_9, bO (gb_3 hc Y), bO (gt_2 ta Y), TY.1, if_neg (fun e => by have := (nI_leI (by omega) (by omega)).mp e; omega), bO (gb_4 hc Y), bO (gb_3 hc Y), kI_of (M_rowsAt ta TY.1 m4 hi q1.1 q1.2.1), show (0 : Int32) = nI 0 from rfl, kI_of (M_withRow q1.2.1 hp4 (by omega) _), bO (gb_3 hc Y), kL_of (M_waysAt ta TY hi), kV_of a1, nI_1]
    · rw [fb_sm_succ, ← y3 f]
      exact sm_bump V f (t := wr8 (L i) p 0) (N := N) (W (L i)) (by rw [hN]; exact wr8_lt _ _ _)
    · by_cases e : t = wr8 (L i) p 0
      · exact ⟨L i, q1.2.2, e⟩
      · rw [bumpW_n _ _ e] at ht
        exact y4 t ht) (k := 0) (s := X2) (by omega) ⟨fun _ => 0, 0, fun _ => 0, t1, fRm_refl _ _ _, fun f => sm_z (fun i => Nat.zero_mul _) N, fun t ht => absurd ht (Nat.lt_irrefl 0)⟩
  have e' : l_Bn_forget_9 102 (nI p) (nI 0) (hp c X2) = l_Bn_forget_9 102 (nI p) (nI m) (hp c Y) := e
  refine ⟨Y, V, mv, Lv, x_Bn_forget (rc_102 hc X) ?_, y1, frT hab y2 T1', fRm_trans f1 y2, fun f => (y3 f).trans (tly_sum T1 (fun s => f (wr8 s p 0)) hN), y4⟩
  rw [e_Bn_forget, bO (gb_4 hc X), kV_of e1, show (0 : Int32) = nI 0 from rfl, e', e_Bn_forget_9, bO (gb_3 hc Y), bO (gt_2 ta Y), (frT hab y2 T1').1, if_pos ((nI_leI (by omega) (by omega)).mpr (by omega)), kV_of (M_exch hc Y)]
theorem M_prepare {c : ixK} {a b : Nat} (hc : cBn c a b) {X : ixX} {B : bT} (hb : bOK B) (hG : cG 4 X B) (hP : cP 4 X B) {p : Nat} (pn : p < (bpr B).length) (hX : bnOK X B p) : ∃ Y, ix_M mBn_prepare [.ref 102, .ref 4, .int (nI p)] (hp c X) = some ([], hp c Y) ∧ bnOK Y B (p + 1) ∧ fRm 103 106 X Y := by
  have h4 := hb.2.2.2.1
  have h64 := bS_64 hb.1
  obtain ⟨q1, q2, _, _⟩ := pen_D hb pn
  have hst : X.1 19 p = nI (pst B p) := (hP.2 p pn).1
  have hen : X.1 20 p = nI (pen B p) := (hP.2 p pn).2
  obtain ⟨X1, hX1⟩ : ∃ X1, X1 = aJ X 103 (vp_updL (X.2 103) p (LSt (sit B false (bon B (pst B p)) 16) &&& LSt (sit B true (bon B (pen B p)) 16))) := ⟨_, rfl⟩
  obtain ⟨X2, hX2⟩ : ∃ X2, X2 = aI X1 104 (upd (X1.1 104) p (nI (pst B p % bw B + pst B p / bw B))) := ⟨_, rfl⟩
  have G1 : cG 4 X1 B := by rw [hX1]; exact cG_cong rfl rfl rfl rfl hG
  have G2 : cG 4 X2 B := by rw [hX2]; exact cG_cong rfl rfl rfl rfl G1
  refine ⟨aI X2 105 (upd (X2.1 105) p (nI (pen B p % bw B + pen B p / bw B))), x_Bn_prepare (rc_102 hc X) ?_, fun q hq => ?_, ?_⟩
  · rw [e_Bn_prepare, bO (g4_0 c X), bO (g4_2 c X), bO (r19 (by omega)), hst, bO (g4_3 c X), bO (r20 (by omega)), hen, bO (gb_0 hc X), kL_of (M_behind hb.1 hG (by omega)), kL_of (M_ahead hb.1 hG (by omega)), bO (s103 hc (by omega)), ← hX1, bO (gb_1 hc X1), kI_of (M_diagonalOf hb.1 G1 q1), bO (s104 hc (by omega)), ← hX2, bO (gb_2 hc X2), kI_of (M_diagonalOf hb.1 G2 q2), bO (s105 hc (by omega))]
  · have e4 : (aI X2 105 (upd (X2.1 105) p (nI (pen B p % bw B + pen B p / bw B)))).1 104 = upd (X.1 104) p (nI (pst B p % bw B + pst B p / bw B)) := by
      rw [aI_n _ _ (by decide), hX2, aI_1, hX1]; rfl
    have e5 : (aI X2 105 (upd (X2.1 105) p (nI (pen B p % bw B + pen B p / bw B)))).1 105 = upd (X.1 105) p (nI (pen B p % bw B + pen B p / bw B)) := by
      rw [aI_1, hX2, aI_n _ _ (by decide), hX1]; rfl
    have e3 : (aI X2 105 (upd (X2.1 105) p (nI (pen B p % bw B + pen B p / bw B)))).2 103 = vp_updL (X.2 103) p (LSt (sit B false (bon B (pst B p)) 16) &&& LSt (sit B true (bon B (pen B p)) 16)) := by
      show X2.2 103 = _
      rw [hX2]
      show X1.2 103 = _
      rw [hX1, aJ_1]
    rw [e3, e4, e5]
    by_cases e : q = p
    · rw [e, upd_1, upd_1, updL_1, LS_and]
      refine ⟨rfl, rfl, LS_cong (fun i _ => ?_)⟩
      rw [sit_fall hb.1, sit_rise hb.1]
    · rw [upd_n _ _ e, upd_n _ _ e, updL_n _ _ e]
      exact hX q (by omega)
  · rw [hX2, hX1]
    exact fRm_aI (fRm_aI (fRm_aJ (fRm_refl _ _ _) (by omega) (by omega)) (by omega) (by omega)) (by omega) (by omega)
