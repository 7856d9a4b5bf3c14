/-! CALLS: passes, cover, group -/
theorem R_nth {c : ixK} {Y : ixX} {B : bT} (hs : bS B) (hA : rBd (Y.1 76) B) {q : Nat → Bool} (hq : ∀ x, x < bn B → Y.1 91 x = ix_bi (q x)) (x2 : Int32) : (∃ x, x < bn B ∧ q x = true ∧ x2 = nI (fb_ct q x) ∧ l_Mo_pass_22 75 x2 0 0 (hp c Y) = some ([.int (nI x)], hp c Y)) ∨ ((∀ x, x < bn B → q x = true → ¬ x2 = nI (fb_ct q x)) ∧ l_Mo_pass_22 75 x2 0 0 (hp c Y) = some ([.int (-6)], hp c Y)) := by
  have h64 := bS_64 hs
  have main := lp_out (fun k (_ : Unit) => l_Mo_pass_22 75 x2 (nI (fb_ct q k)) (nI k) (hp c Y)) (fun k _ => ∀ x, x < k → q x = true → ¬ x2 = nI (fb_ct q x)) (fun R => ∃ x, x < bn B ∧ q x = true ∧ x2 = nI (fb_ct q x) ∧ R = some ([.int (nI x)], hp c Y)) (N := bn B) (fun k _ hk hP => by
    show (∃ _ : Unit, l_Mo_pass_22 75 x2 (nI (fb_ct q k)) (nI k) (hp c Y) = l_Mo_pass_22 75 x2 (nI (fb_ct q (k + 1))) (nI (k + 1)) (hp c Y) ∧ _) ∨ ∃ x, x < bn B ∧ q x = true ∧ x2 = nI (fb_ct q x) ∧ l_Mo_pass_22 75 x2 (nI (fb_ct q k)) (nI k) (hp c Y) = some ([.int (nI x)], hp c Y)
    rw [e_Mo_pass_22, kI_of (M_mcells hA), if_neg (by rw [nI_leI (by omega) (by omega)]; omega), bO (g75_18 c _), bO (r91 (by omega)), hq k hk, fb_ct_succ]
    cases hqk : q k with
    | false =>
      rw [if_pos (by decide)]
      refine .inl ⟨(), by rw [nI_1 k]; rfl, fun x hx hqx => ?_⟩
      by_cases ex : x = k
      · rw [ex, hqk] at hqx; cases hqx
      · exact hP x (by omega) hqx
    | true =>
      rw [if_neg (by decide)]
      by_cases he : nI (fb_ct q k) = x2
      · rw [if_neg (fun n => n he)]
        exact .inr ⟨k, hk, hqk, he.symm, rfl⟩
      · rw [if_pos he, nI_1, nI_1, if_pos rfl]
        refine .inl ⟨(), rfl, fun x hx hqx => ?_⟩
        by_cases ex : x = k
        · rw [ex]; exact fun q2 => he q2.symm
        · exact hP x (by omega) hqx) (k := 0) (s := ()) (by omega) (fun x hx => absurd hx (Nat.not_lt_zero x))
  rcases main with ⟨_, e, h⟩ | h
  · refine .inr ⟨h, ?_⟩
    have e' : l_Mo_pass_22 75 x2 0 0 (hp c Y) = l_Mo_pass_22 75 x2 (nI (fb_ct q (bn B))) (nI (bn B)) (hp c Y) := e
    rw [e', e_Mo_pass_22, kI_of (M_mcells hA), if_pos (by rw [nI_leI (by omega) (by omega)]; omega)]
  · exact .inl h
theorem K_pass {c : ixK} {X : ixX} {S : sT} (h : invK c X S) (x1 x2 : Int32) : okI mRP_pass mMo_pass [.int x1, .int x2] c X := by
  obtain ⟨hs, hG, hA, hb⟩ := invK_G h
  have h64 := bS_64 hs
  have main : ∀ far : Bool, x1 = ix_bi far → okI mRP_pass mMo_pass [.int x1, .int x2] c X := by
    intro far hf
    obtain ⟨X', v, A, P, e1, e2, e3, e4⟩ := C_pass (c := c) hs hG far
    have hr : rBd (X'.1 76) S.1 := by rw [(e4 76 (by omega)).1]; exact hA
    obtain ⟨Y, v2, ns, f1, f2, f3, f4⟩ := R_pass (c := c) hs hb.2.2.1 hr far
    have heq := (FlowR_eq hs e2 f2).2
    have hAY : rBd (Y.1 76) S.1 := by rw [rS_76 f4]; exact hr
    have hcl : ∀ r, ix_M mRP_member [.long (LSt (fun c => A c && !P c)), .int x2] (hp c X') = some ([.int r], hp c X') → ix_M mRP_pass [.ref 3, .int x1, .int x2] (hp c X) = some ([.int r], hp c X') := by
      intro r hm
      refine x_RP_pass (rc_3 c X) ?_
      cases far with
      | false =>
        have hx : x1 = 0 := hf
        rw [hx, e_RP_pass, kZ_of (M_isFlag_0 _), if_pos rfl, if_pos (by decide), show (0 : Int32) = ix_bi false from rfl, kL_of e1, kI_of hm]
      | true =>
        have hx : x1 = 1 := hf
        rw [hx, e_RP_pass, kZ_of (M_isFlag_1 _), if_pos rfl, if_neg (by decide), show (1 : Int32) = ix_bi true from rfl, kL_of e1, kI_of hm]
    have hre : ∀ r, l_Mo_pass_22 75 x2 0 0 (hp c Y) = some ([.int r], hp c Y) → ix_M mMo_pass [.ref 75, .int x1, .int x2] (hp c X') = some ([.int r], hp c Y) := by
      intro r hm
      refine x_Mo_pass (rc_75 c X') ?_
      have hin : ix_M mMo_in [.int x1, .int 0, .int 1] (hp c X') = some ([.int (ix_bi true)], hp c X') := by
        rw [hf]
        cases far with
        | false => exact M_in_t (by decide) (by decide) _
        | true => exact M_in_t (by decide) (by decide) _
      rw [e_Mo_pass, kZ_of hin, if_pos rfl, hf, kV_of f1]
      exact hm
    have hq : ∀ x, x < bn S.1 → Y.1 91 x = ix_bi (A x && !P x) := fun x hx => by rw [f3 x hx, ← (heq x hx).1, ← (heq x hx).2]
    rcases R_nth (c := c) hs hAY (q := fun x => A x && !P x) hq x2 with ⟨x, hx, hx1, hx2, hx3⟩ | ⟨hx1, hx3⟩
    · exact ok_q h (hcl (nI x) (by rw [hx2]; exact M_member (p := fun c => A c && !P c) (by omega) hx1 rfl _)) e4 (hre _ hx3) f4
    · refine ok_q h (hcl (-6) (M_member_f ?_ _)) e4 (hre _ hx3) f4
      rcases i_cases x2 (n := fb_ct (fun c => A c && !P c) 64) (by have := fb_ct_le (fun c => A c && !P c) 64; omega) with ⟨k, hk, hk2⟩ | hq
      · exfalso
        obtain ⟨x, y1, y2, y3⟩ := fb_ct_kth hk
        have hxn : x < bn S.1 := by
          rcases Nat.lt_or_ge x (bn S.1) with q | q
          · exact q
          · have y4 : (A x && !P x) = true := y2
            rw [e3 x q] at y4; cases y4
        exact hx1 x hxn y2 (by rw [hk2, y3])
      · exact hq
  rcases flag_of x1 with hx | hx | ⟨hx1, hx2, hx3⟩
  · exact main false hx
  · exact main true hx
  · exact ok_0 h (r := -2) (x_RP_pass (rc_3 c X) (by rw [e_RP_pass, kZ_of (M_isFlag_f hx1 hx2 _), if_neg (by decide)])) (x_Mo_pass (rc_75 c X) (by rw [e_Mo_pass, kZ_of (M_in_f hx3 _), if_neg (by decide)]))
theorem C_join {c : ixK} {X : ixX} {B : bT} (hs : bS B) (hG : cG 4 X B) {L : Nat → Bool} (hL : ∀ x, L x = true → x < bn B) : ∃ X2 k, ix_M mCh_join [.ref 67, .ref 5, .long (LSt L)] (hp c X) = some ([.int (nI k)], hp c X2) ∧ isW 64 L (EBh B) k ∧ k ≤ 64 ∧ fRm 59 75 X X2 := by
  obtain ⟨X2, ld, fo, D, e1, _, e3, e4⟩ := M_join (c := c) hs hG hL
  exact ⟨X2, _, e1, e3, fb_ct_le _ _, fRm_mono e4 (by omega) (by omega)⟩
theorem bro_lt {B : bT} {r x : Nat} (h : bro B r x = true) : x < bn B := by
  unfold bro at h
  simp only [Bool.and_eq_true] at h
  exact bop_lt h.2
theorem K_cover {c : ixK} {X : ixX} {S : sT} (h : invK c X S) : okI mRP_cover mMo_cover [] c X := by
  obtain ⟨hs, hG, hA, hb⟩ := invK_G h
  obtain ⟨X', k, e1, e2, _, e3⟩ := C_join (c := c) hs hG (L := bro S.1 3) (fun x hx => bro_lt hx)
  have hr : rBd (X'.1 76) S.1 := by rw [(e3 76 (by omega)).1]; exact hA
  obtain ⟨Y, k2, f1, f2, f3⟩ := M_cover (c := c) hs hb.2.2.1 hr
  have hk := isW_eq e2 f2
  refine ok_q h (r := nI k) (X' := X') (x_RP_cover (rc_3 c X) ?_) e3 (X'' := Y) (by rw [hk]; exact f1) f3
  rw [e_RP_cover, bO (g3_7 c X), bO (g3_0 c X), bO (g4_0 c X), bO (g3_0 c X), bO (g4_0 c X), show (3 : Int32) = nI 3 from rfl, kL_of (M_openWith hG (by omega) (by omega)), kI_of e1]
theorem C_firstGroup {c : ixK} {X : ixX} {B : bT} (hs : bS B) (hG : cG 4 X B) : ∃ X2 G, ix_M mRP_firstGroup [.ref 3] (hp c X) = some ([.long (LSt G)], hp c X2) ∧ isG 64 (bro B 3) (EBh B) G ∧ fRm 59 75 X X2 := by
  have hL : ∀ x, bro B 3 x = true → x < bn B := fun x hx => bro_lt hx
  obtain ⟨X1, ld, fo, D, e1, e2, _, e4⟩ := M_join (c := c) hs hG hL
  obtain ⟨X2, G, f1, f2, f3⟩ := M_lowestGroup (c := c) hs hL e2
  refine ⟨X2, G, x_RP_firstGroup (rc_3 c X) ?_, f2, fRm_trans (fRm_mono e4 (by omega) (by omega)) (fRm_mono f3 (by omega) (by omega))⟩
  rw [e_RP_firstGroup, bO (g3_7 c X), bO (g3_0 c X), bO (g4_0 c X), bO (g3_0 c X), bO (g4_0 c X), show (3 : Int32) = nI 3 from rfl, kL_of (M_openWith hG (by omega) (by omega)), kI_of e1, bO (g3_7 c X1), kL_of f1]
theorem srt_ct {l : List Nat} {G : Nat → Bool} (hs : ∀ i j, i < j → j < l.length → l.getD i 0 < l.getD j 0) (hG : ∀ x, G x = true ↔ x ∈ l) (hl : l.length ≤ 64) {k : Nat} (hk : k < l.length) (h64 : l.getD k 0 < 64) : fb_ct G (l.getD k 0) = k := by
  have hlt : ∀ i j, i < l.length → j < l.length → l.getD i 0 < l.getD j 0 → i < j := by
    intro i j hi hj h
    rcases Nat.lt_trichotomy i j with q | q | q
    · exact q
    · rw [q] at h; omega
    · have := hs j i q hi; omega
  have h1 : fb_ct (fun i => decide (i < k)) 64 = k := ct_below (by omega)
  have h2 : fb_ct (fun x => G x && decide (x < l.getD k 0)) 64 = fb_ct G (l.getD k 0) := by
    rw [ct_64 (p := fun x => G x && decide (x < l.getD k 0)) (n := l.getD k 0) (by omega) (fun x hx => by rw [decide_eq_false (by omega), Bool.and_false])]
    exact fb_ct_cong fun x hx => by rw [decide_eq_true hx, Bool.and_true]
  have l1 := ct_inj (p := fun x => G x && decide (x < l.getD k 0)) (q := fun i => decide (i < k)) (n := 64) (fun x i => l.getD i 0 = x) (fun x _ hx => by
    simp only [Bool.and_eq_true, decide_eq_true_eq] at hx
    obtain ⟨i, hi, e⟩ := mem_gd l x ((hG x).mp hx.1)
    exact ⟨i, by omega, decide_eq_true (hlt i k hi hk (by rw [e]; exact hx.2)), e⟩) (fun x x' i _ _ a b => a.symm.trans b)
  have l2 := ct_inj (p := fun i => decide (i < k)) (q := fun x => G x && decide (x < l.getD k 0)) (n := 64) (fun i x => l.getD i 0 = x) (fun i _ hi => by
    have hi := of_decide_eq_true hi
    have := hs i k hi hk
    exact ⟨l.getD i 0, by omega, by rw [(hG _).mpr (gd_mem l i (by omega)), decide_eq_true this]; rfl, rfl⟩) (fun i i' x hi hi' a b => by
    have hi := of_decide_eq_true hi
    have hi' := of_decide_eq_true hi'
    rcases Nat.lt_trichotomy i i' with q | q | q
    · have := hs i i' q (by omega); omega
    · exact q
    · have := hs i' i q (by omega); omega)
  omega
theorem map_gd (f : Nat → Nat) : ∀ (l : List Nat) (k : Nat), k < l.length → (l.map f).getD k 0 = f (l.getD k 0)
  | [], k, h => absurd h (Nat.not_lt_zero k)
  | a :: l, 0, _ => rfl
  | a :: l, k + 1, h => map_gd f l k (Nat.lt_of_succ_lt_succ h)
/-- the group as the reference holds it, in ascending order -/
theorem G_list {B : bT} (hs : bS B) {ml ch : List Nat} (hml : mLs B ml) {G : Nat → Bool} (hG : isG 64 (bro B 3) (EBh B) G) (hc2 : ∀ i j, i < j → j < ch.length → ch.getD i 0 < ch.getD j 0) (hc3 : ∀ t, t ∈ ch ↔ t < ml.length ∧ G (ml.getD t 0) = true) : (∀ k, k < ch.length → G (ml.getD (ch.getD k 0) 0) = true ∧ ml.getD (ch.getD k 0) 0 < bn B ∧ fb_ct G (ml.getD (ch.getD k 0) 0) = k) ∧ ch.length = fb_ct G 64 ∧ ∀ x, G x = true ↔ ∃ k, k < ch.length ∧ ml.getD (ch.getD k 0) 0 = x := by
  have h64 := bS_64 hs
  have hlen := mL_len hs hml
  have hcl : ∀ k, k < ch.length → ch.getD k 0 < ml.length := fun k hk => ((hc3 _).mp (gd_mem ch k hk)).1
  have hnd : ch.Nodup := gd_nd ch (fun i j hij hj e => by have := hc2 i j hij hj; omega)
  have hclen : ch.length ≤ 64 := Nat.le_trans (nd_len hnd (fun t ht => ((hc3 t).mp ht).1)) hlen
  have hGi : ∀ x, G x = true ↔ ∃ k, k < ch.length ∧ ml.getD (ch.getD k 0) 0 = x := by
    intro x
    constructor
    · intro hx
      obtain ⟨t, ht, e⟩ := mem_gd ml x ((hml.2.2 x).mpr ⟨bro_lt (hG.1.1 x hx), hG.1.1 x hx⟩)
      obtain ⟨k, hk, ek⟩ := mem_gd ch t ((hc3 t).mpr ⟨ht, by rw [e]; exact hx⟩)
      exact ⟨k, hk, by rw [ek]; exact e⟩
    · rintro ⟨k, hk, e⟩
      rw [← e]
      exact ((hc3 _).mp (gd_mem ch k hk)).2
  have hmem : ∀ x, G x = true ↔ x ∈ ch.map (fun t => ml.getD t 0) := by
    intro x
    rw [hGi x, List.mem_map]
    constructor
    · rintro ⟨k, hk, e⟩
      exact ⟨ch.getD k 0, gd_mem ch k hk, e⟩
    · rintro ⟨t, ht, e⟩
      obtain ⟨k, hk, ek⟩ := mem_gd ch t ht
      exact ⟨k, hk, by rw [ek]; exact e⟩
  have hsrt : ∀ i j, i < j → j < (ch.map (fun t => ml.getD t 0)).length → (ch.map (fun t => ml.getD t 0)).getD i 0 < (ch.map (fun t => ml.getD t 0)).getD j 0 := by
    intro i j hij hj
    rw [List.length_map] at hj
    rw [map_gd _ ch i (by omega), map_gd _ ch j hj]
    exact hml.2.1 _ _ (hc2 i j hij hj) (hcl j hj)
  have hbn : ∀ k, k < ch.length → ml.getD (ch.getD k 0) 0 < bn B := fun k hk => ((hml.2.2 _).mp (gd_mem ml _ (hcl k hk))).1
  refine ⟨fun k hk => ⟨(hGi _).mpr ⟨k, hk, rfl⟩, hbn k hk, ?_⟩, ?_, hGi⟩
  · have := srt_ct (l := ch.map (fun t => ml.getD t 0)) hsrt hmem (by rw [List.length_map]; exact hclen) (k := k) (by rw [List.length_map]; exact hk) (by rw [map_gd _ ch k hk]; have := hbn k hk; omega)
    rw [map_gd _ ch k hk] at this
    exact this
  · have h1 := ct_list (l := ch.map (fun t => ml.getD t 0)) (gd_nd _ (fun i j hij hj e => by have := hsrt i j hij hj; omega)) (fun x hx => by
      obtain ⟨k, hk, e⟩ := (hGi x).mp ((hmem x).mpr hx)
      have := hbn k hk
      omega)
    rw [List.length_map] at h1
    rw [← h1]
    exact (fb_ct_cong fun x _ => by rw [Bool.eq_iff_iff, hmem x, decide_eq_true_eq])
theorem K_group {c : ixK} {X : ixX} {S : sT} (h : invK c X S) (x1 : Int32) : okI mRP_group mMo_group [.int x1] c X := by
  obtain ⟨hs, hG4, hA, hb⟩ := invK_G h
  have h64 := bS_64 hs
  obtain ⟨X', G, e1, e2, e3⟩ := C_firstGroup (c := c) hs hG4
  have hr : rBd (X'.1 76) S.1 := by rw [(e3 76 (by omega)).1]; exact hA
  obtain ⟨Y, ml, ch, f1, f2, f3, f4, f5, f6, f7, f8⟩ := M_layGroup (c := c) hs hb.2.2.1 hr e2
  obtain ⟨g1, g2, g3⟩ := G_list hs f2 e2 f6 f7
  have hlen := mL_len hs f2
  have hc64 := fb_ct_le G 64
  have hcl : ∀ r, ix_M mRP_member [.long (LSt G), .int x1] (hp c X') = some ([.int r], hp c X') → ix_M mRP_group [.ref 3, .int x1] (hp c X) = some ([.int r], hp c X') := fun r hm => x_RP_group (rc_3 c X) (by rw [e_RP_group, kL_of e1, kI_of hm])
  rcases i_cases x1 (n := ch.length) (by omega) with ⟨k, hk, hk2⟩ | hq
  · have hck := ((f7 _).mp (gd_mem ch k hk)).1
    obtain ⟨q1, q2, q3⟩ := g1 k hk
    refine ok_q h (r := nI (ml.getD (ch.getD k 0) 0)) (hcl _ (by rw [hk2]; exact M_member (by omega) q1 q3 _)) e3 (X'' := Y) (x_Mo_group (rc_75 c X') ?_) f8
    rw [hk2, e_Mo_group, kV_of f1, bO (g75_27 c _), f4.1, kZ_of (M_in0_t hk (by omega) _), if_pos rfl, bO (g75_19 c _), bO (g75_26 c _), bO (r98 (by omega)), f4.2 k hk, bO (r92 (by omega)), f3.2.1 _ hck]
  · refine ok_q h (r := -6) (hcl _ (M_member_f (by rw [← g2]; exact hq) _)) e3 (X'' := Y) (x_Mo_group (rc_75 c X') ?_) f8
    have hin : ix_M mMo_in [.int x1, .int 0, .int (nI ch.length - 1)] (hp c Y) = some ([.int (ix_bi false)], hp c Y) := by
      rcases Nat.eq_zero_or_pos ch.length with z | z
      · refine M_in_f ?_ _
        rw [z]
        by_cases h1 : x1 < 0
        · exact .inl h1
        · refine .inr ?_
          obtain ⟨j, hj, rfl⟩ := nI_of h1
          show zI (-1) < nI j
          rw [nI_z, zI_lt (by omega) (by omega) (by omega) (by omega)]
          omega
      · exact M_in0_f z (by omega) hq _
    rw [e_Mo_group, kV_of f1, bO (g75_27 c _), f4.1, kZ_of hin, if_neg (by decide)]
