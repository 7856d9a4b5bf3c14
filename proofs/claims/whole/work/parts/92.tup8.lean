/-! TUPLES: the class from diagonal to diagonal -/
theorem tSt_zero {B : bT} {d : Nat} {f : (Nat → Nat) → Nat} (hf : ∀ σ, f σ = 0) : ∀ k p σ, tSt B d f k p σ = 0 := by
  intro k
  induction k with
  | zero => intro p σ; exact hf σ
  | succ k ih =>
    intro p σ
    rw [tSt_s]
    have ec : ∀ r, tCd B d (tSt B d f k (p + 1)) p σ r = 0 := fun r => by
      unfold tCd
      by_cases a : tAt B p d r ∧ tTk B d σ r p = false
      · rw [if_pos a]; exact ih _ _
      · rw [if_neg a]
    rw [ec, ec]
    by_cases o : tOn B p d
    · rw [if_pos o]
    · rw [if_neg o]; exact ih _ _
theorem tSt_start {B : bT} (hb : bOK B) {p d : Nat} (pn : p < (bpr B).length) (hd : d = dgB B (pst B p)) (o : tOn B p d) (hz : fw B (pst B p) (pen B p) = 0) {f : (Nat → Nat) → Nat} (hf : ∀ σ, tDead B p d σ → f σ = 0) : ∀ k q σ, q ≤ p → p < q + k → tSt B d f k q σ = 0 := by
  intro k
  induction k with
  | zero => intro q σ h1 h2; omega
  | succ k ih =>
    intro q σ h1 h2
    rw [tSt_s]
    have ec : ∀ r, tCd B d (tSt B d f k (q + 1)) q σ r = 0 := fun r => by
      unfold tCd
      by_cases a : tAt B q d r ∧ tTk B d σ r q = false
      · rw [if_pos a]
        by_cases e : q = p
        · subst e
          refine tSt_dead1 hf k (q + 1) _ (by omega) (tAt_dead hb.1 o a.1 ?_)
          have e1 := a.1.2.2.2 hd
          have e2 := (cl_of hb.1 (pen_D hb pn).1).2
          rw [← hd, ← e1] at e2
          rw [e2]; exact hz
        · exact ih (q + 1) _ (by omega) (by omega)
      · rw [if_neg a]
    rw [ec, ec]
    by_cases oq : tOn B q d
    · rw [if_pos oq]
    · rw [if_neg oq]
      by_cases e : q = p
      · subst e; exact absurd o oq
      · exact ih (q + 1) _ (by omega) (by omega)
theorem tPh_start {B : bT} (hb : bOK B) {p : Nat} (pn : p < (bpr B).length) (hle : dgB B (pst B p) ≤ dgB B (pen B p)) (hz : fw B (pst B p) (pen B p) = 0) : ∀ m d σ, d + m = tD B → d ≤ dgB B (pst B p) → tPh B m d σ = 0 := by
  intro m
  induction m with
  | zero =>
    intro d σ h1 h2
    have := (pen_D hb pn).2.2.1
    omega
  | succ m ih =>
    intro d σ h1 h2
    rw [tPh_s]
    by_cases e : d = dgB B (pst B p)
    · exact tSt_start hb pn e ⟨by omega, by omega⟩ hz (fun τ hτ => tPh_dead hb pn m d τ (by omega) hτ) _ 0 σ (by omega) (by omega)
    · exact tSt_zero (fun τ => ih (d + 1) τ (by omega) (by omega)) _ 0 σ
theorem avF_tSt {B : bT} (hb : bOK B) {m d p k s : Nat} (pn : p < (bpr B).length) (hk : p + 1 + k = (bpr B).length) (hd : d + 1 + m = tD B) (o : tOn B p d) (hv : tVl B d p (dec8 s)) : avF B p d (fun t => tSt B d (tPh B m (d + 1)) k (p + 1) (dec8 t)) s = tSt B d (tPh B m (d + 1)) (k + 1) p (dec8 s) := by
  have h4 := hb.2.2.2.1
  have h8 := hb.1.2.2.2
  have key : ∀ r, (r = tR0 B p d (dec8 s) ∨ r = tR0 B p d (dec8 s) + 1) → (if tAb B p d r = true ∧ tTk B d (dec8 s) r p = false then tSt B d (tPh B m (d + 1)) k (p + 1) (dec8 (wr8 s p r)) else 0) = tCd B d (tSt B d (tPh B m (d + 1)) k (p + 1)) p (dec8 s) r := fun r hr => by
    by_cases al : tAb B p d r = true
    · have al2 := tAb_iff.mp al
      have hr8 : r < 8 := by have := al2.1.2.2; omega
      unfold tCd
      by_cases t : tTk B d (dec8 s) r p = false
      · rw [if_pos ⟨al, t⟩, if_pos ⟨tAl_at hb.1 al2, t⟩]
        have eq : ∀ q, q < (bpr B).length → dec8 (wr8 s p r) q = upS (dec8 s) p r q := fun q hq => wr8_dg hr8 (by omega) (by omega)
        exact tSt_cong (tPh_f m d) k (p + 1) _ _ hk (fun q hq => ⟨fun _ _ => eq q hq, fun _ _ _ => eq q hq⟩)
      · rw [if_neg (fun e => t e.2), if_neg (fun e => t e.2)]
    · rw [if_neg (fun e => al e.1), tCd_al hb pn hk hd o (fun h => (hv p pn).2 (Nat.le_refl _) h o.2) hr (fun e => al (tAb_iff.mpr e))]
  rw [tSt_s, if_pos o, ← key _ (.inl rfl), ← key _ (.inr rfl)]
  rfl
theorem fgF_tSt {B : bT} (hb : bOK B) {m d p k s : Nat} (pn : p < (bpr B).length) (hk : p + 1 + k = (bpr B).length) (o : ¬ tOn B p d) : tSt B d (tPh B m (d + 1)) k (p + 1) (dec8 (wr8 s p 0)) = tSt B d (tPh B m (d + 1)) (k + 1) p (dec8 s) := by
  have h4 := hb.2.2.2.1
  rw [tSt_s, if_neg o]
  have eq : ∀ q, q < (bpr B).length → ¬ q = p → dec8 (wr8 s p 0) q = dec8 s q := fun q hq e => by
    have := wr8_dg (s := s) (p := p) (r := 0) (q := q) (by omega) (by omega) (by omega)
    rw [if_neg e] at this
    exact this
  refine tSt_cong (tPh_f m d) k (p + 1) _ _ hk (fun q hq => ⟨fun h1 h2 => eq q hq (fun e => o (by rw [← e]; exact h2)), fun h1 _ _ => eq q hq (by omega)⟩)
theorem tVl_up {B : bT} (hb : bOK B) {d p s r : Nat} (pn : p < (bpr B).length) (hr : r < 8) (hv : tVl B d p (dec8 s)) (h : tOn B p d → tAl B p d r) : tVl B d (p + 1) (dec8 (wr8 s p r)) := by
  have h4 := hb.2.2.2.1
  intro q hq
  have e : dec8 (wr8 s p r) q = if q = p then r else dec8 s q := wr8_dg hr (by omega) (by omega)
  rw [e]
  refine ⟨fun h1 h2 => ?_, fun h1 h2 h3 => ?_⟩
  · by_cases e2 : q = p
    · rw [if_pos e2, e2]; rw [e2] at h2; exact h h2
    · rw [if_neg e2]; exact (hv q hq).1 (by omega) h2
  · rw [if_neg (by omega)]; exact (hv q hq).2 (by omega) h2 h3
theorem tVl_no {B : bT} {d p : Nat} {σ : Nat → Nat} (o : ¬ tOn B p d) (hv : tVl B d p σ) : tVl B d (p + 1) σ := fun q hq => ⟨fun h1 h2 => (by
  by_cases e : q = p
  · rw [e] at h2; exact absurd h2 o
  · exact (hv q hq).1 (by omega) h2), fun h1 h2 h3 => (hv q hq).2 (by omega) h2 h3⟩
theorem tVl_next {B : bT} {d : Nat} {σ : Nat → Nat} (hv : tVl B d (bpr B).length σ) : tVl B (d + 1) 0 σ := fun q hq => ⟨fun h1 => absurd h1 (Nat.not_lt_zero q), fun _ h2 h3 => (hv q hq).1 hq ⟨by omega, by omega⟩⟩
/-- what is kept while the class goes on; f: in how many ways each state can be gone on from -/
def tIv (B : bT) (X0 : ixX) (c0 : ixK) (N T d p e : Nat) (f : (Nat → Nat) → Nat) (S : ixK × ixX) : Prop := ∃ a b W m L, cBn S.1 a b ∧ S.1.2.1 = c0.2.1 ∧ S.1.2.2.1 = c0.2.2.1 ∧ bnOK S.2 B (bpr B).length ∧ fRm 102 112 X0 S.2 ∧ tly a S.2 W m L ∧ tOK b S.2 ∧ fb_sm (fun s => W s * f (dec8 s)) N = T ∧ (∀ s, 0 < W s → tVl B d p (dec8 s)) ∧ fb_sm W N ≤ 2 ^ e
theorem cG_102 {X0 Y : ixX} {B : bT} (hf : fRm 102 112 X0 Y) (h : cG 4 X0 B) : cG 4 Y B := cG_cong (hf 5 (by omega)).1 (hf 5 (by omega)).2 (hf 6 (by omega)).2 (hf 7 (by omega)).2 h
theorem cP_102 {X0 Y : ixX} {B : bT} (hf : fRm 102 112 X0 Y) (h : cP 4 X0 B) : cP 4 Y B := cP_cong (hf 4 (by omega)).1 (hf 19 (by omega)).1 (hf 20 (by omega)).1 h
theorem T_pair {X0 : ixX} {c0 : ixK} {B : bT} (hb : bOK B) (hG : cG 4 X0 B) (hP : cP 4 X0 B) {N T d p k m : Nat} (hN : N = 4096) (hd : d + 1 + m = tD B) (pn : p < (bpr B).length) (hk : p + 1 + k = (bpr B).length) {S : ixK × ixX} (h : tIv B X0 c0 N T d p (4 * d + p) (tSt B d (tPh B m (d + 1)) (k + 1) p) S) (x3 : Int32) : ∃ S', l_Bn_tally_91 102 4 (nI (bpr B).length) x3 (nI d) (nI p) (hp S.1 S.2) = l_Bn_tally_91 102 4 (nI (bpr B).length) x3 (nI d) (nI (p + 1)) (hp S'.1 S'.2) ∧ tIv B X0 c0 N T d (p + 1) (4 * d + (p + 1)) (tSt B d (tPh B m (d + 1)) k (p + 1)) S' := by
  obtain ⟨c, X⟩ := S
  obtain ⟨a, b, W, mw, L, hc, s1, s2, hX, hf, T1, T2, sm, vl, bd⟩ := h
  have hc : cBn c a b := hc
  have hX : bnOK X B (bpr B).length := hX
  have hf : fRm 102 112 X0 X := hf
  have T1 : tly a X W mw L := T1
  have T2 : tOK b X := T2
  have h4 := hb.2.2.2.1
  have d15 := (tD_le hb.1).2.1
  have hab := cBn_ne hc
  have p60 : fb_sm W N ≤ 2 ^ 60 := by
    have : (2 : Nat) ^ (4 * d + p) ≤ 2 ^ 60 := Nat.pow_le_pow_right (by decide) (by omega)
    omega
  have b1 : 106 ≤ b := by omega
  have b2 : b + 3 ≤ 112 := by omega
  have w2 : (2 : Nat) ^ (4 * d + (p + 1)) = 2 ^ (4 * d + p) * 2 := Nat.pow_succ 2 (4 * d + p)
  show ∃ S', l_Bn_tally_91 102 4 (nI (bpr B).length) x3 (nI d) (nI p) (hp c X) = _ ∧ _
  rw [e_Bn_tally_91, if_neg (fun e => by have := (nI_leI (by omega) (by omega)).mp e; omega), kZ_of (M_isOn hc hb hX pn (by omega))]
  by_cases o : tOn B p d
  · obtain ⟨Y, V, mv, Lv, y1, y2, y3, y4, y5, y6⟩ := M_advance hc hb (cG_102 hf hG) (cP_102 hf hP) hX pn (d := d) (by omega) T1 T2 hN p60
    refine ⟨(swK c, Y), ?_, b, a, V, mv, Lv, swK_Bn hc, s1, s2, bnOK_fr b1 y4 hX, fRm_trans hf (fRm_mono y4 (by omega) b2), y2, tly_OK y3, ?_, fun t ht => ?_, ?_⟩
    · rw [if_pos (decide_eq_true o), kV_of y1, nI_1]
    · rw [y5 (fun t => tSt B d (tPh B m (d + 1)) k (p + 1) (dec8 t)), ← sm]
      refine fb_sm_cong (fun s _ => ?_)
      rcases Nat.eq_zero_or_pos (W s) with z | z
      · rw [z, Nat.zero_mul, Nat.zero_mul]
      · rw [avF_tSt hb pn hk hd o (vl s z)]
    · obtain ⟨s, r, q1, q2, q3, q4⟩ := y6 t ht
      rw [q2]
      exact tVl_up hb pn q3 (vl s q1) (fun _ => q4)
    · have e1 := y5 (fun _ => 1)
      have e2 : fb_sm (fun s => W s * avF B p d (fun _ => 1) s) N ≤ fb_sm (fun s => W s * 2) N := fb_sm_le (fun s _ => Nat.mul_le_mul_left _ (avF_le B p d s))
      rw [sm_mul] at e2
      have e3 : fb_sm (fun t => V t * 1) N = fb_sm V N := by rw [sm_mul, Nat.mul_one]
      have e1' : fb_sm (fun t => V t * 1) N = fb_sm (fun s => W s * avF B p d (fun _ => 1) s) N := e1
      omega
  · obtain ⟨v, hv⟩ := M_isOn1 hc hb hX pn (d := d) (by omega)
    rw [if_neg (fun e => o (of_decide_eq_true e)), kZ_of hv]
    cases v with
    | true =>
      obtain ⟨Y, V, mv, Lv, y1, y2, y3, y4, y5, y6⟩ := M_forget (p := p) hc (by omega) T1 T2 hN p60
      refine ⟨(swK c, Y), ?_, b, a, V, mv, Lv, swK_Bn hc, s1, s2, bnOK_fr b1 y4 hX, fRm_trans hf (fRm_mono y4 (by omega) b2), y2, tly_OK y3, ?_, fun t ht => ?_, ?_⟩
      · rw [if_pos rfl, kV_of y1, nI_1]
      · rw [y5 (fun t => tSt B d (tPh B m (d + 1)) k (p + 1) (dec8 t)), ← sm]
        exact fb_sm_cong (fun s _ => by rw [fgF_tSt hb pn hk o])
      · obtain ⟨s, q1, q2⟩ := y6 t ht
        rw [q2]
        exact tVl_up hb pn (by omega) (vl s q1) (fun q => absurd q o)
      · have e1 := y5 (fun _ => 1)
        rw [sm_mul, Nat.mul_one, sm_mul, Nat.mul_one] at e1
        rw [e1]
        omega
    | false =>
      refine ⟨(c, X), ?_, a, b, W, mw, L, hc, s1, s2, hX, hf, T1, T2, ?_, fun s hs => tVl_no o (vl s hs), by omega⟩
      · rw [if_neg (by decide), nI_1]
      · rw [← sm]
        exact fb_sm_cong (fun s _ => by rw [tSt_s, if_neg o])
theorem T_diag {X0 : ixX} {c0 : ixK} {B : bT} (hb : bOK B) (hG : cG 4 X0 B) (hP : cP 4 X0 B) {N T d m : Nat} (hN : N = 4096) (hd : d + 1 + m = tD B) {S : ixK × ixX} (h : tIv B X0 c0 N T d 0 (4 * d) (tPh B (m + 1) d) S) (x3 : Int32) : ∃ S', l_Bn_tally_91 102 4 (nI (bpr B).length) x3 (nI d) (nI 0) (hp S.1 S.2) = l_Bn_tally_82 102 4 (nI (bpr B).length) x3 (nI (d + 1)) (hp S'.1 S'.2) ∧ tIv B X0 c0 N T (d + 1) 0 (4 * (d + 1)) (tPh B m (d + 1)) S' := by
  have h4 := hb.2.2.2.1
  obtain ⟨S', e, h'⟩ := lp_up (fun p (S : ixK × ixX) => l_Bn_tally_91 102 4 (nI (bpr B).length) x3 (nI d) (nI p) (hp S.1 S.2)) (fun p S => tIv B X0 c0 N T d p (4 * d + p) (tSt B d (tPh B m (d + 1)) ((bpr B).length - p) p) S) (N := (bpr B).length) (fun p S pn hS => by
    have e1 : (bpr B).length - p = ((bpr B).length - (p + 1)) + 1 := by omega
    rw [e1] at hS
    exact T_pair hb hG hP hN hd pn (by omega) hS x3) (k := 0) (s := S) (by omega) h
  have e' : l_Bn_tally_91 102 4 (nI (bpr B).length) x3 (nI d) (nI 0) (hp S.1 S.2) = l_Bn_tally_91 102 4 (nI (bpr B).length) x3 (nI d) (nI (bpr B).length) (hp S'.1 S'.2) := e
  refine ⟨S', ?_, ?_⟩
  · rw [e', e_Bn_tally_91, if_pos ((nI_leI (by omega) (by omega)).mpr (by omega)), nI_1]
  · rw [Nat.sub_self] at h'
    obtain ⟨a, b, W, mw, L, hc, s1, s2, hX, hf, T1, T2, sm, vl, bd⟩ := h'
    refine ⟨a, b, W, mw, L, hc, s1, s2, hX, hf, T1, T2, sm, fun s hs => tVl_next (vl s hs), ?_⟩
    have : (2 : Nat) ^ (4 * d + (bpr B).length) ≤ 2 ^ (4 * (d + 1)) := Nat.pow_le_pow_right (by decide) (by omega)
    omega
theorem d_mx : ∀ n, n < 5 → ix_mx 0 (ix_mn (nI n) 4) = nI n := by decide +kernel
def tAns (B : bT) : Nat := if tCf B (bpr B).length = true then tPh B (tD B) 0 (fun _ => 0) else 0
theorem tAns_0 {B : bT} (hb : bOK B) {p : Nat} (pn : p < (bpr B).length) (h : ∀ x, x < 64 → ¬ (0 < fw B (pst B p) x ∧ 0 < fw B x (pen B p))) : tAns B = 0 := by
  unfold tAns
  by_cases e : tCf B (bpr B).length = true
  · rw [if_pos e]
    refine tPh_start hb pn ((tCf_iff _).mp e p pn) ?_ (tD B) 0 _ (by omega) (Nat.zero_le _)
    rcases Nat.eq_zero_or_pos (fw B (pst B p) (pen B p)) with z | z
    · exact z
    · have h64 := bS_64 hb.1
      have h1 := (pen_D hb pn).1
      exact absurd ⟨rc_self (bS_w hb.1) (rc_open (bS_w hb.1) _ _ z), z⟩ (h (pst B p) (by omega))
  · rw [if_neg e]
theorem tAns_1 {B : bT} (hb : bOK B) (h : ∀ p, p < (bpr B).length → ∃ x, 0 < fw B (pst B p) x ∧ 0 < fw B x (pen B p)) : tAns B = tPh B (tD B) 0 (fun _ => 0) := by
  unfold tAns
  have hw := bS_w hb.1
  rw [if_pos ((tCf_iff _).mpr (fun p pn => by
    obtain ⟨x, h1, h2⟩ := h p pn
    have e1 := fw_dg hw _ _ h1
    have e2 := fw_dg hw _ _ h2
    rcases e1 with e1 | e1 <;> rcases e2 with e2 | e2
    · rw [e2, e1]; exact Nat.le_refl _
    · rw [← e1]; omega
    · rw [e2]; omega
    · omega))]
theorem M_tally {c : ixK} {a b : Nat} (hc : cBn c a b) {X : ixX} {B : bT} (hb : bOK B) (hG : cG 4 X B) (hP : cP 4 X B) (Ta : tOK a X) (Tb : tOK b X) : ∃ c' Y a' b', ix_M mBn_tally [.ref 102, .ref 4] (hp c X) = some ([.long (lN (tAns B))], hp c' Y) ∧ cBn c' a' b' ∧ c'.2.1 = c.2.1 ∧ c'.2.2.1 = c.2.2.1 ∧ tOK a' Y ∧ tOK b' Y ∧ fRm 102 112 X Y := by
  have h4 := hb.2.2.2.1
  have hab := cBn_ne hc
  obtain ⟨d1, d2, d3⟩ := tD_le hb.1
  obtain ⟨N, hN⟩ : ∃ N, N = 4096 := ⟨_, rfl⟩
  have hn : X.1 4 4 = nI (bpr B).length := hP.1
  have fin : (∃ Y, l_Bn_tally_15 102 4 (nI (bpr B).length) (nI 0) (hp c X) = l_Bn_tally_15 102 4 (nI (bpr B).length) (nI (bpr B).length) (hp c Y) ∧ (bnOK Y B (bpr B).length ∧ fRm 103 106 X Y ∧ ∀ p, p < (bpr B).length → ∃ x, 0 < fw B (pst B p) x ∧ 0 < fw B x (pen B p))) ∨ (∃ Y, l_Bn_tally_15 102 4 (nI (bpr B).length) (nI 0) (hp c X) = some ([.long 0], hp c Y) ∧ tAns B = 0 ∧ fRm 103 106 X Y) := lp_out (fun k (Y : ixX) => l_Bn_tally_15 102 4 (nI (bpr B).length) (nI k) (hp c Y)) (fun k Y => bnOK Y B k ∧ fRm 103 106 X Y ∧ ∀ p, p < k → ∃ x, 0 < fw B (pst B p) x ∧ 0 < fw B x (pen B p)) (fun R => ∃ Y, R = some ([.long 0], hp c Y) ∧ tAns B = 0 ∧ fRm 103 106 X Y) (N := (bpr B).length) (fun k Y hk ⟨y1, y2, y3⟩ => by
    have f2 : fRm 102 112 X Y := fRm_mono y2 (by omega) (by omega)
    obtain ⟨Y2, e2, z1, z2⟩ := M_prepare hc hb (cG_102 f2 hG) (cP_102 f2 hP) hk y1
    have hal := (z1 k (by omega)).2.2
    have st : l_Bn_tally_15 102 4 (nI (bpr B).length) (nI k) (hp c Y) = if LSt (fun c => decide (0 < fw B (pst B k) c) && decide (0 < fw B c (pen B k))) = 0 then some ([.long 0], hp c Y2) else l_Bn_tally_15 102 4 (nI (bpr B).length) (nI (k + 1)) (hp c Y2) := by
      rw [e_Bn_tally_15, if_neg (fun e => by have := (nI_leI (by omega) (by omega)).mp e; omega), kV_of e2, bO (gb_0 hc Y2), bO (r103 hc (by omega)), hal, nI_1]
    by_cases z : LSt (fun c => decide (0 < fw B (pst B k) c) && decide (0 < fw B c (pen B k))) = 0
    · right
      refine ⟨Y2, by show l_Bn_tally_15 102 4 (nI (bpr B).length) (nI k) (hp c Y) = _; rw [st, if_pos z], tAns_0 hb hk (fun x hx e => ?_), fRm_trans y2 z2⟩
      have := LS_zero.mp z x hx
      rw [decide_eq_true e.1, decide_eq_true e.2] at this
      cases this
    · left
      refine ⟨Y2, by show l_Bn_tally_15 102 4 (nI (bpr B).length) (nI k) (hp c Y) = l_Bn_tally_15 102 4 (nI (bpr B).length) (nI (k + 1)) (hp c Y2); rw [st, if_neg z], z1, fRm_trans y2 z2, fun p hp2 => ?_⟩
      by_cases e : p = k
      · obtain ⟨x, x1, x2, _⟩ := LS_least z
        rw [Bool.and_eq_true, decide_eq_true_iff, decide_eq_true_iff] at x2
        rw [e]
        exact ⟨x, x2⟩
      · exact y3 p (by omega)) (k := 0) (s := X) (by omega) ⟨fun p hp2 => absurd hp2 (Nat.not_lt_zero p), fRm_refl _ _ _, fun p hp2 => absurd hp2 (Nat.not_lt_zero p)⟩
  have hh : ix_D mBn_tally 0 [some (.ref 102), some (.ref 4), none, none, none, none] [] (hp c X) = l_Bn_tally_15 102 4 (nI (bpr B).length) (nI 0) (hp c X) := by
    rw [e_Bn_tally, bO (g4_4 c X), hn, d_mx _ (by omega)]
    rfl
  rcases fin with ⟨Y, e1, y1, y2, y3⟩ | ⟨Y, e1, y1, y2⟩
  · have Ta2 : tOK a Y := tOK_cong (y2 a (by omega)).1 (y2 (a + 2) (by omega)).1 (y2 (a + 1) (by omega)).2 Ta
    obtain ⟨Y2, e2, t2, f2⟩ := M_tempty (c := c) (cBn_a hc) Ta2
    obtain ⟨Y3, m3, L3, e3, t3, f3⟩ := M_tadd (c := c) (cBn_a hc) t2 (s := 0) (v := 1) (by omega) (by omega) (by decide)
    have fr3 : fRm 102 112 X Y3 := fRm_trans (fRm_mono y2 (by omega) (by omega)) (fRm_trans (fRm_mono f2 (by omega) (by omega)) (fRm_mono f3 (by omega) (by omega)))
    have Tb3 : tOK b Y3 := by
      have g1 : fRm 103 106 X Y := y2
      refine tOK_cong ?_ ?_ ?_ Tb
      · rw [(f3 b (by omega)).1, (f2 b (by omega)).1, (g1 b (by omega)).1]
      · rw [(f3 (b + 2) (by omega)).1, (f2 (b + 2) (by omega)).1, (g1 (b + 2) (by omega)).1]
      · rw [(f3 (b + 1) (by omega)).2, (f2 (b + 1) (by omega)).2, (g1 (b + 1) (by omega)).2]
    have bn3 : bnOK Y3 B (bpr B).length := bnOK_fr (by omega) f3 (bnOK_fr (by omega) f2 y1)
    have ini : tIv B X c N (tPh B (tD B) 0 (fun _ => 0)) 0 0 (4 * 0) (tPh B (tD B - 0) 0) (c, Y3) := by
      refine ⟨a, b, _, m3, L3, hc, rfl, rfl, bn3, fr3, t3, Tb3, ?_, fun s _ => fun q hq => ⟨fun h1 => absurd h1 (Nat.not_lt_zero q), fun _ h2 => absurd h2 (Nat.not_lt_zero _)⟩, ?_⟩
      · have q1 := sm_bump (fun _ => 0) (fun s => tPh B (tD B - 0) 0 (dec8 s)) (t := 0) (N := N) 1 (by omega)
        rw [sm_z (H := fun x => (fun _ => 0) x * tPh B (tD B - 0) 0 (dec8 x)) (fun i => Nat.zero_mul _) N, Nat.zero_add, Nat.one_mul, show dec8 0 = fun _ => 0 from funext fun p => by unfold dec8; rw [Nat.zero_div]] at q1
        rw [Nat.zero_add] at q1
        exact q1
      · have q1 := sm_bump (fun _ => 0) (fun _ => 1) (t := 0) (N := N) 1 (by omega)
        rw [sm_z (H := fun x => (fun _ => 0) x * 1) (fun i => Nat.zero_mul _) N] at q1
        have q2 : fb_sm (fun x => bumpW (fun _ => 0) 0 1 x * 1) N = 0 + 1 * 1 := q1
        rw [sm_mul (bumpW (fun _ => 0) 0 1), Nat.mul_one] at q2
        rw [q2]
        decide
    obtain ⟨S', e4, h5⟩ := lp_up (fun d (S : ixK × ixX) => l_Bn_tally_82 102 4 (nI (bpr B).length) (nI (tD B)) (nI d) (hp S.1 S.2)) (fun d S => tIv B X c N (tPh B (tD B) 0 (fun _ => 0)) d 0 (4 * d) (tPh B (tD B - d) d) S) (N := tD B) (fun d S hd hS => by
      obtain ⟨m, hm⟩ : ∃ m, tD B - d = m + 1 := ⟨tD B - d - 1, by omega⟩
      rw [hm] at hS
      obtain ⟨S', e5, h6⟩ := T_diag hb hG hP hN (d := d) (m := m) (by omega) hS (nI (tD B))
      refine ⟨S', ?_, by rw [show tD B - (d + 1) = m by omega]; exact h6⟩
      show l_Bn_tally_82 102 4 (nI (bpr B).length) (nI (tD B)) (nI d) (hp S.1 S.2) = l_Bn_tally_82 102 4 (nI (bpr B).length) (nI (tD B)) (nI (d + 1)) (hp S'.1 S'.2)
      rw [e_Bn_tally_82, if_neg (fun e => by have := (nI_leI (by omega) (by omega)).mp e; omega), show (0 : Int32) = nI 0 from rfl, e5]) (k := 0) (s := (c, Y3)) (by omega) ini
    have e4' : l_Bn_tally_82 102 4 (nI (bpr B).length) (nI (tD B)) (nI 0) (hp c Y3) = l_Bn_tally_82 102 4 (nI (bpr B).length) (nI (tD B)) (nI (tD B)) (hp S'.1 S'.2) := e4
    obtain ⟨a5, b5, W, mw, L, hc5, s1, s2, hX5, hf5, T5, T6, sm5, _, _⟩ := h5
    rw [Nat.sub_self] at sm5
    have sm6 : fb_sm W N = tAns B := by
      rw [tAns_1 hb y3, ← sm5]
      exact fb_sm_cong (fun s _ => (Nat.mul_one _).symm)
    refine ⟨S'.1, S'.2, a5, b5, x_Bn_tally (rc_102 hc X) ?_, hc5, s1, s2, tly_OK T5, T6, hf5⟩
    have w0 : Y3.1 5 0 = nI (bw B) := G_w (cG_102 fr3 hG)
    have w1 : Y3.1 5 1 = nI (bh B) := G_h (cG_102 fr3 hG)
    rw [hh, e1, e_Bn_tally_15, if_pos ((nI_leI (by omega) (by omega)).mpr (by omega)), bO (gb_3 hc Y), kV_of e2, bO (gb_3 hc Y2), show (0 : Int32) = nI 0 from rfl, show (1 : Int64) = lN 1 from rfl, kV_of e3, bO (g4_0 c Y3), bO (g5_0 c Y3), w0, bO (g4_0 c Y3), bO (g5_1 c Y3), w1, nI_add, show nI (bw B + bh B) - 1 = nI (tD B) from nI_sub (b := 1) (by omega), e4', e_Bn_tally_82, if_pos ((nI_leI (by omega) (by omega)).mpr (by omega)), bO (gb_3 hc5 _), kL_of (M_ttotal (cBn_a hc5) T5 hN), sm6]
  · refine ⟨c, Y, a, b, x_Bn_tally (rc_102 hc X) ?_, hc, rfl, rfl, ?_, ?_, fRm_mono y2 (by omega) (by omega)⟩
    · rw [hh, e1, y1]; rfl
    · exact tOK_cong (y2 a (by omega)).1 (y2 (a + 2) (by omega)).1 (y2 (a + 1) (by omega)).2 Ta
    · exact tOK_cong (y2 b (by omega)).1 (y2 (b + 2) (by omega)).1 (y2 (b + 1) (by omega)).2 Tb
