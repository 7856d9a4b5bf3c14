/-! TUPLES: the reference from diagonal to diagonal -/
def tX (X : ixX) (g g2 : Nat → Int64) : ixX := aJ (aJ X 80 g) 81 g2
theorem tX_80 (X : ixX) (g g2 g3 : Nat → Int64) : aJ (tX X g g2) 80 g3 = tX X g3 g2 := by
  show (X.1, fun b => if b = 80 then g3 else if b = 81 then g2 else if b = 80 then g else X.2 b) = (X.1, fun b => if b = 81 then g2 else if b = 80 then g3 else X.2 b)
  congr 1
  funext b
  by_cases e : b = 80
  · rw [if_pos e, if_neg (by omega), if_pos e]
  · rw [if_neg e]
    by_cases e2 : b = 81
    · rw [if_pos e2, if_pos e2]
    · rw [if_neg e2, if_neg e, if_neg e2, if_neg e]
theorem tX_81 (X : ixX) (g g2 g3 : Nat → Int64) : aJ (tX X g g2) 81 g3 = tX X g g3 := aJ_aJ _ _ _ _
theorem tX_a (X : ixX) (g g2 : Nat → Int64) : (tX X g g2).2 80 = g := by
  unfold tX
  rw [aJ_n _ _ (by decide), aJ_1]
theorem tX_b (X : ixX) (g g2 : Nat → Int64) : (tX X g g2).2 81 = g2 := aJ_1 _ _ _
theorem tX_self (X : ixX) : tX X (X.2 80) (X.2 81) = X := by
  unfold tX
  rw [aJ_self, aJ_self]
theorem tX_rS (X : ixX) (g g2 : Nat → Int64) : rS X (tX X g g2) := rS_aJ (rS_aJ (rS_refl X) (by omega) (by omega)) (by omega) (by omega)
theorem sm_mul (W : Nat → Nat) (a : Nat) : ∀ n, fb_sm (fun i => W i * a) n = fb_sm W n * a
  | 0 => (Nat.zero_mul a).symm
  | n + 1 => by rw [fb_sm_succ, fb_sm_succ, sm_mul W a n, Nat.add_mul]
/-- what one array holds -/
def hW (g : Nat → Int64) (W : Nat → Nat) : Prop := ∀ s, s < 6561 → g s = lN (W s)
def vW (B : bT) (d : Nat) (W : Nat → Nat) : Prop := ∀ s, 0 < W s → s < 6561 ∧ vl9 B d s
theorem R_steps {c : ixK} {X : ixX} {B : bT} (hb : bOK B) (hA : rBd (X.1 76) B) {d : Nat} (hd : d < 31) {g : Nat → Int64} {W : Nat → Nat} (h1 : hW g W) (h2 : vW B d W) (h3 : ∀ s, W s < 2 ^ 63) (x1 : Int32) {s N : Nat} (hs : s < N) (hN : N = 6561) {g2 : Nat → Int64} {V : Nat → Nat} (v1 : hW g2 V) (v2 : vW B (d + 1) V) :
    ∃ g2' V', l_Mo_tuples_86 75 x1 (nI d) (nI s) (hp c (tX X g g2)) = l_Mo_tuples_86 75 x1 (nI d) (nI (s + 1)) (hp c (tX X g g2')) ∧ hW g2' V' ∧ vW B (d + 1) V' ∧ ∀ f, fb_sm (fun t => V' t * f t) N = fb_sm (fun t => V t * f t) N + W s * nxF B d f s (2 ^ (bpr B).length) := by
  have h4 := hb.2.2.2.1
  have h16 : 2 ^ (bpr B).length ≤ 2 ^ 4 := Nat.pow_le_pow_right (by decide) h4
  have h17 : (2 : Nat) ^ 4 = 16 := by decide
  have hp2 : 0 < 2 ^ (bpr B).length := Nat.pow_pos (by decide)
  have sh := d_sh1 (bpr B).length (by omega)
  have h86 : l_Mo_tuples_86 75 x1 (nI d) (nI s) (hp c (tX X g g2)) = l_Mo_tuples_96 75 x1 (nI d) (nI s) (nI 0) (hp c (tX X g g2)) := by
    rw [e_Mo_tuples_86, if_neg (lit_nle (x := 6561) (a := 6561) (k := s) rfl (by omega) (by omega))]
    rfl
  have hA' : ∀ g2, rBd ((tX X g g2).1 76) B := fun _ => hA
  rcases Nat.eq_zero_or_pos (W s) with z | z
  · refine ⟨g2, V, ?_, v1, v2, fun f => by rw [z, Nat.zero_mul, Nat.add_zero]⟩
    rw [h86, e_Mo_tuples_96, bO (g75_0 c _), bO x76_p, A_p (hA' g2), sh, if_neg (fun e => by have := (nI_leI (by omega) (by omega)).mp e; omega), bO (g75_4 c _), bO (r80 (by omega)), tX_a, h1 s (by omega), z, if_pos (by decide), nI_1]
  · have hpos : ¬ lN (W s) ≤ 0 := fun e => by have := (lN_le63 (h3 s)).mp e; omega
    obtain ⟨g3, e3, V3, q1, q2, q3⟩ := lp_up (fun j (g2 : Nat → Int64) => l_Mo_tuples_96 75 x1 (nI d) (nI s) (nI j) (hp c (tX X g g2))) (fun j g2 => ∃ V', hW g2 V' ∧ vW B (d + 1) V' ∧ ∀ f, fb_sm (fun t => V' t * f t) N = fb_sm (fun t => V t * f t) N + W s * nxF B d f s j) (N := 2 ^ (bpr B).length) (fun j g3 hj ⟨V3, q1, q2, q3⟩ => by
      show ∃ g4, l_Mo_tuples_96 75 x1 (nI d) (nI s) (nI j) (hp c (tX X g g3)) = l_Mo_tuples_96 75 x1 (nI d) (nI s) (nI (j + 1)) (hp c (tX X g g4)) ∧ _
      rw [e_Mo_tuples_96, bO (g75_0 c _), bO x76_p, A_p (hA' g3), sh, if_neg (fun e => by have := (nI_leI (by omega) (by omega)).mp e; omega), bO (g75_4 c _), bO (r80 (by omega)), tX_a, h1 s (by omega), if_neg hpos, kI_of (M_nextState hb (hA' g3) hd (by omega) (h2 s z).2 j)]
      have hF : ∀ f, nxF B d f s (j + 1) = nxF B d f s j + (nxS B d s j).elim 0 f := fun f => rfl
      cases hn : nxS B d s j with
      | none =>
        rw [if_pos (show oI none < 0 by decide), nI_1]
        refine ⟨g3, rfl, V3, q1, q2, fun f => ?_⟩
        rw [q3 f, hF f, hn]
        rfl
      | some t =>
        obtain ⟨t1, t2⟩ := nxS_ok hb (h2 s z).2 hn
        rw [show oI (some t) = nI t from rfl, if_neg (nI_pos (by omega)), bO (g75_5 c _), bO (r81 (by omega)), tX_b, q1 t t1, bO (g75_4 c _), bO (r80 (by omega)), tX_a, h1 s (by omega), lN_add, bO (s81 (by omega)), tX_b, tX_81, nI_1]
        refine ⟨_, rfl, fun x => if x = t then V3 t + W s else V3 x, fun x hx => ?_, fun x hx => ?_, fun f => ?_⟩
        · show vp_updL g3 t (lN (V3 t + W s)) x = lN (if x = t then V3 t + W s else V3 x)
          by_cases e : x = t
          · rw [e, updL_1, if_pos rfl]
          · rw [updL_n _ _ e, if_neg e]; exact q1 x hx
        · by_cases e : x = t
          · rw [e]; exact ⟨t1, t2⟩
          · have hx' : 0 < (if x = t then V3 t + W s else V3 x) := hx
            rw [if_neg e] at hx'
            exact q2 x hx'
        · rw [sm_bump V3 f (W s) (show t < N by omega), q3 f, hF f, hn, Nat.add_assoc, ← Nat.mul_add]
          rfl) (k := 0) (s := g2) (by omega) ⟨V, v1, v2, fun f => by show _ = _ + W s * 0; rw [Nat.mul_zero, Nat.add_zero]⟩
    have e3' : l_Mo_tuples_96 75 x1 (nI d) (nI s) (nI 0) (hp c (tX X g g2)) = l_Mo_tuples_96 75 x1 (nI d) (nI s) (nI (2 ^ (bpr B).length)) (hp c (tX X g g3)) := e3
    refine ⟨g3, V3, ?_, q1, q2, q3⟩
    rw [h86, e3', e_Mo_tuples_96, bO (g75_0 c _), bO x76_p, A_p (hA' g3), sh, if_pos ((nI_leI (by omega) (by omega)).mpr (by omega)), nI_1]
theorem R_diag {c : ixK} {X : ixX} {B : bT} (hb : bOK B) (hA : rBd (X.1 76) B) {d : Nat} (hd : d < 31) {g : Nat → Int64} {W : Nat → Nat} (h1 : hW g W) (h2 : vW B d W) (h3 : ∀ s, W s < 2 ^ 63) (x1 : Int32) {N : Nat} (hN : N = 6561) (g2 : Nat → Int64) :
    ∃ g' g2' V, l_Mo_tuples_64 75 x1 (nI d) 0 (hp c (tX X g g2)) = l_Mo_tuples_57 75 x1 (nI (d + 1)) (hp c (tX X g' g2')) ∧ hW g' V ∧ vW B (d + 1) V ∧ ∀ f, fb_sm (fun t => V t * f t) N = fb_sm (fun i => W i * nxF B d f i (2 ^ (bpr B).length)) N := by
  obtain ⟨ga, ea, za⟩ := lp_up (fun k (g2 : Nat → Int64) => l_Mo_tuples_64 75 x1 (nI d) (nI k) (hp c (tX X g g2))) (fun k g2 => ∀ t, t < k → g2 t = 0) (N := N) (fun k g2 hk hz => by
    refine ⟨vp_updL g2 k 0, ?_, fun t ht => ?_⟩
    · show l_Mo_tuples_64 75 x1 (nI d) (nI k) (hp c (tX X g g2)) = l_Mo_tuples_64 75 x1 (nI d) (nI (k + 1)) (hp c (tX X g _))
      rw [e_Mo_tuples_64, if_neg (lit_nle (x := 6561) (a := 6561) (k := k) rfl (by omega) (by omega)), bO (g75_5 c _), bO (s81 (by omega)), tX_b, tX_81, nI_1]
    · by_cases e : t = k
      · rw [e, updL_1]
      · rw [updL_n _ _ e]; exact hz t (by omega)) (k := 0) (s := g2) (by omega) (fun t ht => absurd ht (Nat.not_lt_zero t))
  have ea' : l_Mo_tuples_64 75 x1 (nI d) (nI 0) (hp c (tX X g g2)) = l_Mo_tuples_64 75 x1 (nI d) (nI N) (hp c (tX X g ga)) := ea
  have eb : l_Mo_tuples_64 75 x1 (nI d) (nI N) (hp c (tX X g ga)) = l_Mo_tuples_86 75 x1 (nI d) (nI 0) (hp c (tX X g ga)) := by
    rw [e_Mo_tuples_64, if_pos (show (6561 : Int32) ≤ nI N by rw [hN]; decide)]
    rfl
  obtain ⟨gc, ec, V, c1, c2, c3⟩ := lp_up (fun s (g2 : Nat → Int64) => l_Mo_tuples_86 75 x1 (nI d) (nI s) (hp c (tX X g g2))) (fun s g2 => ∃ V, hW g2 V ∧ vW B (d + 1) V ∧ ∀ f, fb_sm (fun t => V t * f t) N = fb_sm (fun i => W i * nxF B d f i (2 ^ (bpr B).length)) s) (N := N) (fun s g2 hs ⟨V, v1, v2, v3⟩ => by
    obtain ⟨g3, V3, e3, q1, q2, q3⟩ := R_steps (c := c) hb hA hd h1 h2 h3 x1 hs hN v1 v2
    exact ⟨g3, e3, V3, q1, q2, fun f => by rw [q3 f, v3 f, fb_sm_succ]⟩) (k := 0) (s := ga) (by omega) ⟨fun _ => 0, fun t ht => by rw [za t (by omega)]; rfl, fun t ht => absurd ht (Nat.lt_irrefl 0), fun f => sm_z (fun i => Nat.zero_mul _) N⟩
  have ec' : l_Mo_tuples_86 75 x1 (nI d) (nI 0) (hp c (tX X g ga)) = l_Mo_tuples_86 75 x1 (nI d) (nI N) (hp c (tX X g gc)) := ec
  have ed : l_Mo_tuples_86 75 x1 (nI d) (nI N) (hp c (tX X g gc)) = l_Mo_tuples_167 75 x1 (nI d) (nI 0) (hp c (tX X g gc)) := by
    rw [e_Mo_tuples_86, if_pos (show (6561 : Int32) ≤ nI N by rw [hN]; decide)]
    rfl
  obtain ⟨ge, ee, ze⟩ := lp_up (fun k (g : Nat → Int64) => l_Mo_tuples_167 75 x1 (nI d) (nI k) (hp c (tX X g gc))) (fun k g => ∀ t, t < k → g t = gc t) (N := N) (fun k g hk hz => by
    refine ⟨vp_updL g k (gc k), ?_, fun t ht => ?_⟩
    · show l_Mo_tuples_167 75 x1 (nI d) (nI k) (hp c (tX X g gc)) = l_Mo_tuples_167 75 x1 (nI d) (nI (k + 1)) (hp c (tX X _ gc))
      rw [e_Mo_tuples_167, if_neg (lit_nle (x := 6561) (a := 6561) (k := k) rfl (by omega) (by omega)), bO (g75_4 c _), bO (g75_5 c _), bO (r81 (by omega)), tX_b, bO (s80 (by omega)), tX_a, tX_80, nI_1]
    · by_cases e : t = k
      · rw [e, updL_1]
      · rw [updL_n _ _ e]; exact hz t (by omega)) (k := 0) (s := g) (by omega) (fun t ht => absurd ht (Nat.not_lt_zero t))
  have ee' : l_Mo_tuples_167 75 x1 (nI d) (nI 0) (hp c (tX X g gc)) = l_Mo_tuples_167 75 x1 (nI d) (nI N) (hp c (tX X ge gc)) := ee
  refine ⟨ge, gc, V, ?_, fun t ht => by rw [ze t (by omega)]; exact c1 t ht, c2, c3⟩
  rw [show (0 : Int32) = nI 0 from rfl, ea', eb, ec', ed, ee', e_Mo_tuples_167, if_pos (show (6561 : Int32) ≤ nI N by rw [hN]; decide), nI_1]
theorem p16 (d : Nat) (h : d ≤ 15) : 16 ^ d < 2 ^ 63 := by
  have h1 : (16 : Nat) ^ d ≤ 16 ^ 15 := Nat.pow_le_pow_right (by decide) h
  have h2 : (16 : Nat) ^ 15 = 2 ^ 60 := by decide
  omega
theorem W_lt {B : bT} {d N : Nat} {W : Nat → Nat} (hN : N = 6561) (h2 : vW B d W) (hd : d ≤ 15) (h : fb_sm W N ≤ 16 ^ d) : ∀ s, W s < 2 ^ 63 := fun s => by
  rcases Nat.eq_zero_or_pos (W s) with z | z
  · rw [z]; decide
  · have := fb_sm_part W (show s < N by have := (h2 s z).1; omega)
    have := p16 d hd
    omega
theorem tD_le {B : bT} (hs : bS B) : 3 ≤ tD B ∧ tD B ≤ 15 ∧ tD B = bw B + bh B - 2 + 1 := by
  obtain ⟨h1, h2, h3, h4⟩ := hs
  unfold tD
  omega
theorem M_mtuples {c : ixK} {X : ixX} {B : bT} (hb : bOK B) (hA : rBd (X.1 76) B) : ∃ Y, ix_M mMo_tuples [.ref 75] (hp c X) = some ([.long (lN (if tCf B (bpr B).length = true then tPh B (tD B) 0 (fun _ => 0) else 0))], hp c Y) ∧ rS X Y := by
  obtain ⟨d1, d2, d3⟩ := tD_le hb.1
  obtain ⟨s1, s2, s3, s4⟩ := hb.1
  cases hcf : tCf B (bpr B).length with
  | false =>
    refine ⟨X, x_Mo_tuples (rc_75 c X) ?_, rS_refl X⟩
    rw [e_Mo_tuples, kZ_of (M_canFall hb hA), hcf, if_neg (by decide), if_neg (by decide)]
    rfl
  | true =>
    have hc := (tCf_iff _).mp hcf
    obtain ⟨N, hN⟩ : ∃ N, N = 6561 := ⟨_, rfl⟩
    obtain ⟨ga, ea, za⟩ := lp_up (fun k (g : Nat → Int64) => l_Mo_tuples_11 75 (nI k) (hp c (tX X g (X.2 81)))) (fun k g => ∀ t, t < k → g t = lN (if t = 0 then 1 else 0)) (N := N) (fun k g hk hz => by
      refine ⟨vp_updL g k (lN (if k = 0 then 1 else 0)), ?_, fun t ht => ?_⟩
      · show l_Mo_tuples_11 75 (nI k) (hp c (tX X g (X.2 81))) = l_Mo_tuples_11 75 (nI (k + 1)) (hp c (tX X _ (X.2 81)))
        rw [e_Mo_tuples_11, if_neg (lit_nle (x := 6561) (a := 6561) (k := k) rfl (by omega) (by omega)), bO (g75_4 c _)]
        by_cases e : k = 0
        · rw [if_neg (fun n => n (by rw [e]; rfl)), bO (s80 (by omega)), tX_a, tX_80, nI_1, if_pos e]
          rfl
        · rw [if_pos (nI_ne0 (by omega) (by omega)), bO (s80 (by omega)), tX_a, tX_80, nI_1, if_neg e]
          rfl
      · by_cases e : t = k
        · rw [e, updL_1]
        · rw [updL_n _ _ e]; exact hz t (by omega)) (k := 0) (s := X.2 80) (by omega) (fun t ht => absurd ht (Nat.not_lt_zero t))
    have ea' : l_Mo_tuples_11 75 (nI 0) (hp c X) = l_Mo_tuples_11 75 (nI N) (hp c (tX X ga (X.2 81))) := by
      have q : l_Mo_tuples_11 75 (nI 0) (hp c (tX X (X.2 80) (X.2 81))) = l_Mo_tuples_11 75 (nI N) (hp c (tX X ga (X.2 81))) := ea
      rw [tX_self] at q
      exact q
    have hA' : ∀ g g2, rBd ((tX X g g2).1 76) B := fun _ _ => hA
    have eb : l_Mo_tuples_11 75 (nI N) (hp c (tX X ga (X.2 81))) = l_Mo_tuples_57 75 (nI (tD B - 1)) (nI 0) (hp c (tX X ga (X.2 81))) := by
      rw [e_Mo_tuples_11, if_pos (show (6561 : Int32) ≤ nI N by rw [hN]; decide), bO (g75_0 c _), bO x76_0, A_w (hA' _ _), bO (g75_0 c _), bO x76_1, A_h (hA' _ _), nI_add, show nI (bw B + bh B) - 2 = nI (bw B + bh B - 2) from nI_sub (b := 2) (by omega), show bw B + bh B - 2 = tD B - 1 by omega]
      rfl
    have st0 : fb_sm (fun s => (if s = 0 then 1 else 0) * tPh B (tD B - 0) 0 (dec9 0 s)) N = tPh B (tD B) 0 (fun _ => 0) := by
      have e1 := sm_bump (fun _ => 0) (fun s => tPh B (tD B - 0) 0 (dec9 0 s)) (t := 0) (N := N) 1 (by omega)
      rw [sm_z (H := fun x => (fun _ => 0) x * tPh B (tD B - 0) 0 (dec9 0 x)) (fun i => Nat.zero_mul _) N, Nat.zero_add, Nat.one_mul] at e1
      rw [show dec9 0 0 = fun _ => 0 from funext fun p => Nat.zero_sub _, Nat.zero_add] at e1
      exact e1
    have st1 : fb_sm (fun s => if s = 0 then 1 else 0) N ≤ 16 ^ 0 := by
      have e1 := fb_sm_upd (fun _ => 0) 1 (i := 0) (n := N) (by omega)
      rw [sm_z (H := fun _ => 0) (fun _ => rfl) N] at e1
      have e2 : fb_sm (fun s => if s = 0 then 1 else 0) N + 0 = 0 + 1 := e1
      show _ ≤ 1
      omega
    obtain ⟨⟨gz, gz2⟩, ez, W, w1, w2, w3, w4⟩ := lp_up (fun d (gg : (Nat → Int64) × (Nat → Int64)) => l_Mo_tuples_57 75 (nI (tD B - 1)) (nI d) (hp c (tX X gg.1 gg.2))) (fun d gg => ∃ W, hW gg.1 W ∧ vW B d W ∧ fb_sm (fun s => W s * tPh B (tD B - d) d (dec9 d s)) N = tPh B (tD B) 0 (fun _ => 0) ∧ fb_sm W N ≤ 16 ^ d) (N := tD B) (fun d gg hd ⟨W, w1, w2, w3, w4⟩ => by
      obtain ⟨g', g2', V, e1, v1, v2, v3⟩ := R_diag (c := c) hb hA (d := d) (by omega) w1 w2 (W_lt hN w2 (by omega) w4) (nI (tD B - 1)) hN gg.2
      refine ⟨(g', g2'), ?_, V, v1, v2, ?_, ?_⟩
      · show l_Mo_tuples_57 75 (nI (tD B - 1)) (nI d) (hp c (tX X gg.1 gg.2)) = l_Mo_tuples_57 75 (nI (tD B - 1)) (nI (d + 1)) (hp c (tX X g' g2'))
        rw [e_Mo_tuples_57, if_neg (fun e => by have := (nI_ltI (by omega) (by omega)).mp e; omega), e1]
      · obtain ⟨m, hm⟩ : ∃ m, tD B = d + 1 + m := ⟨tD B - (d + 1), by omega⟩
        rw [show tD B - (d + 1) = m by omega, v3 (fun t => tPh B m (d + 1) (dec9 (d + 1) t)), ← w3, show tD B - d = m + 1 by omega]
        refine fb_sm_cong (fun i _ => ?_)
        rcases Nat.eq_zero_or_pos (W i) with z | z
        · rw [z, Nat.zero_mul, Nat.zero_mul]
        · rw [nxF_ph hb.1 hc (w2 i z).2 m]
      · have e1 := v3 (fun _ => 1)
        have e2 : fb_sm (fun t => V t * 1) N = fb_sm V N := by rw [sm_mul, Nat.mul_one]
        have e3 : fb_sm (fun i => W i * nxF B d (fun _ => 1) i (2 ^ (bpr B).length)) N ≤ fb_sm (fun i => W i * 16) N := fb_sm_le (fun i _ => by
          refine Nat.mul_le_mul_left _ ?_
          have q1 := nxF_le B d i (2 ^ (bpr B).length)
          have q2 : 2 ^ (bpr B).length ≤ 2 ^ 4 := Nat.pow_le_pow_right (by decide) hb.2.2.2.1
          have q3 : (2 : Nat) ^ 4 = 16 := by decide
          omega)
        rw [sm_mul] at e3
        have e4 : fb_sm W N * 16 ≤ 16 ^ d * 16 := Nat.mul_le_mul_right _ w4
        rw [Nat.pow_succ]
        omega) (k := 0) (s := (ga, X.2 81)) (by omega) ⟨fun s => if s = 0 then 1 else 0, fun s hs => za s (by omega), fun s hs => by
          have hs0 : s = 0 := by
            rcases Nat.eq_zero_or_pos s with q | q
            · exact q
            · have hs' : 0 < (if s = 0 then 1 else 0) := hs
              rw [if_neg (by omega)] at hs'
              omega
          exact ⟨by omega, fun q _ a _ => absurd a (Nat.not_lt_zero _)⟩, st0, st1⟩
    have ez' : l_Mo_tuples_57 75 (nI (tD B - 1)) (nI 0) (hp c (tX X ga (X.2 81))) = l_Mo_tuples_57 75 (nI (tD B - 1)) (nI (tD B)) (hp c (tX X gz gz2)) := ez
    have w1' : hW gz W := w1
    have hsum : fb_sm W N = tPh B (tD B) 0 (fun _ => 0) := by
      rw [← w3, Nat.sub_self]
      exact fb_sm_cong (fun i _ => (Nat.mul_one _).symm)
    have ey := lp_f (fun k (x : Int64) => l_Mo_tuples_203 75 x (nI k) (hp c (tX X gz gz2))) (fun k => lN (fb_sm W k)) (N := N) (fun k hk => by
      show l_Mo_tuples_203 75 (lN (fb_sm W k)) (nI k) (hp c (tX X gz gz2)) = l_Mo_tuples_203 75 (lN (fb_sm W k + W k)) (nI (k + 1)) (hp c (tX X gz gz2))
      rw [e_Mo_tuples_203, if_neg (lit_nle (x := 6561) (a := 6561) (k := k) rfl (by omega) (by omega)), bO (g75_4 c _), bO (r80 (by omega)), tX_a, w1' k (by omega), lN_add, nI_1]) (k := 0) (by omega)
    have ey' : l_Mo_tuples_203 75 (lN 0) (nI 0) (hp c (tX X gz gz2)) = l_Mo_tuples_203 75 (lN (fb_sm W N)) (nI N) (hp c (tX X gz gz2)) := ey
    refine ⟨tX X gz gz2, x_Mo_tuples (rc_75 c X) ?_, tX_rS _ _ _⟩
    rw [e_Mo_tuples, kZ_of (M_canFall hb hA), hcf, if_pos rfl, if_pos rfl, show (0 : Int32) = nI 0 from rfl, ea', eb, ez', e_Mo_tuples_57, if_pos ((nI_ltI (by omega) (by omega)).mpr (by omega)), show (0 : Int32) = nI 0 from rfl, show (0 : Int64) = lN 0 from rfl, ey', e_Mo_tuples_203, if_pos (show (6561 : Int32) ≤ nI N by rw [hN]; decide), hsum]
