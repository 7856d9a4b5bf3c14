def ix_e5 (q : ixM) (i : Instr) (aux : List Nat) : Bool := match aux with
  | [kd, w] => (match ix_CT[w]? with
    | some x => decide (x.1 = q.2.2.2.2.1) && ix_iop i x.2.1 x.2.2.1 && decide (x.2.2.1 = kd) && decide (7 ≤ kd) && decide (1 ≤ q.2.2.2.2.2.2.2.2.1) && decide (26 ≤ q.2.2.2.2.2.2.2.2.2.1)
    | none => false)
  | _ => false
def ix_e3 (q : ixM) (i : Instr) (aux : List Nat) : Bool := match aux with
  | [kd, mj, w] => (match ix_CT[w]? with
    | some x => decide (x.1 = q.2.2.2.2.1) && ix_iop i x.2.1 x.2.2.1 && decide (x.2.2.1 = kd) && decide (x.2.2.2.1 = mj) && decide (kd < 7) && (decide (kd ≠ 6) || (decide (1 ≤ q.2.2.2.2.2.2.2.2.1) && decide (20 ≤ q.2.2.2.2.2.2.2.2.2.1)))
    | none => false)
  | _ => false
theorem ix_e5_s {q : ixM} {i : Instr} {aux : List Nat} (h : ix_e5 q i aux = true) : ∃ kd w x1 x2 x4 x5, aux = [kd, w] ∧ ix_CT[w]? = some (x1, x2, kd, x4, x5) ∧ x1 = q.2.2.2.2.1 ∧ ix_iop i x2 kd = true ∧ 7 ≤ kd ∧ 1 ≤ q.2.2.2.2.2.2.2.2.1 ∧ 26 ≤ q.2.2.2.2.2.2.2.2.2.1 := by
  unfold ix_e5 at h
  split at h
  · split at h
    · rename_i x9 hw
      obtain ⟨x1, x2, x3, x4, x5⟩ := x9
      simp only [Bool.and_eq_true, decide_eq_true_eq] at h
      obtain ⟨⟨⟨⟨⟨f1, f2⟩, f3⟩, f4⟩, f5⟩, f6⟩ := h
      try dsimp only at f1 f2 f3
      subst f3
      exact ⟨_, _, _, _, _, _, rfl, hw, f1, f2, f4, f5, f6⟩
    · cases h
  · cases h
theorem ix_e3_s {q : ixM} {i : Instr} {aux : List Nat} (h : ix_e3 q i aux = true) : ∃ kd mj w x1 x2 x5, aux = [kd, mj, w] ∧ ix_CT[w]? = some (x1, x2, kd, mj, x5) ∧ x1 = q.2.2.2.2.1 ∧ ix_iop i x2 kd = true ∧ kd < 7 ∧ (kd ≠ 6 ∨ 1 ≤ q.2.2.2.2.2.2.2.2.1 ∧ 20 ≤ q.2.2.2.2.2.2.2.2.2.1) := by
  unfold ix_e3 at h
  split at h
  · split at h
    · rename_i x9 hw
      obtain ⟨x1, x2, x3, x4, x5⟩ := x9
      simp only [Bool.and_eq_true, decide_eq_true_eq, Bool.or_eq_true] at h
      obtain ⟨⟨⟨⟨⟨f1, f2⟩, f3⟩, f4⟩, f5⟩, f6⟩ := h
      try dsimp only at f1 f2 f3 f4
      subst f3 f4
      exact ⟨_, _, _, _, _, _, rfl, hw, f1, f2, f5, f6⟩
    · cases h
  · cases h
set_option maxHeartbeats 8000000 in
set_option maxRecDepth 100000 in
/-- THE RUN IS SOUND: what the interpreter answers, the machine does -/
theorem ix_snd (n : Nat) : ix_Snd n := by
  induction n with
  | zero =>
    unfold ix_Snd
    intro mi pc L st rs h h' e0
    cases e0
  | succ n IH =>
    unfold ix_Snd
    intro mi pc L st rs h h' hrun p l e R s m args below meth c Q dC dI E q hq hcx H locs cells slots ls hH hlo hlc hc1 hc2 hret
    rw [ix_run] at hrun
    obtain ⟨hx, hb, hr, hml, hown, hts, hlk, hin, hkn, hvk, hnw, hfr, hlo2⟩ := id hcx
    cases hn : ix_nx mi pc with
    | none =>
      have : ix_stp mi pc L st h = none := by unfold ix_stp; rw [hn]
      rw [this] at hrun; cases hrun
    | some en =>
      have hok := ix_entry_ok hq hn
      obtain ⟨kc, i, pc', k, aux, z⟩ := en
      simp only [ix_eok, Bool.and_eq_true, decide_eq_true_eq, Bool.or_eq_true] at hok
      obtain ⟨⟨⟨⟨d1, d2⟩, d3⟩, d4⟩, d5⟩ := hok
      have hpc : pc' = pc + (pc' - pc) := by omega
      have hlm := ix_lo_mk hlo k
      cases hs : ix_stp mi pc L st h with
      | none => rw [hs] at hrun; cases hrun
      | some x =>
        rw [hs] at hrun
        unfold ix_stp at hs
        rw [hn, hq] at hs
        dsimp only at hs
        split at hs
        -- plain
        · obtain ⟨⟨pc2, L2, st2⟩, e1, e2⟩ := Option.map_eq_some_iff.mp hs
          cases e2
          dsimp only at hrun
          exact ix_px_snd (z := z) hx hb hown (fun k9 hk9 => by subst hk9; exact hts _ (ix_okf_l2 d4)) (fun k9 hk9 => by subst hk9; exact hts _ (ix_okf_l1 d4)) (fun d9 p9 hp9 => by subst hp9; exact d4) d1 hpc d3 e1 hlm (fun ls2 hl2 => IH hrun hq hcx hH hl2 hlc hc1 hc2 hret)
        -- reads
        · obtain ⟨st2, e1, e2⟩ := Option.map_eq_some_iff.mp hs
          cases e2
          dsimp only at hrun
          exact ix_rd_snd (z := z) hx hb hown hts hkn hvk d4 d1 hpc d3 e1 hH (IH hrun hq hcx hH hlm hlc hc1 hc2 hret)
        -- writes
        · obtain ⟨⟨st2, h2⟩, e1, e2⟩ := Option.map_eq_some_iff.mp hs
          cases e2
          dsimp only at hrun
          have g1 := ix_wr_grow e1
          have g2 := ix_run_grow n hrun
          have ec : cells + (h2.1 - h.1) + (h'.1 - h2.1) = cells + (h'.1 - h.1) := by omega
          have es : slots + (h2.2.1 - h.2.1) + (h'.2.1 - h2.2.1) = slots + (h'.2.1 - h.2.1) := by omega
          refine ix_wr_snd (z := z) hx hb hown hts hkn hin d4 d1 hpc d3 e1 hH hlc (by omega) (by omega) (fun H2 locs2 f1 f2 => ?_)
          refine IH hrun hq hcx f1 hlm f2 (by omega) (by omega) (fun pcR iR lsR H3 locs3 a1 a2 a3 a4 => ?_)
          rw [ec, es]
          exact hret pcR iR lsR H3 locs3 a1 a2 a3 a4
        -- calls
        · obtain ⟨x3, x4, w, x1, x2, x5, rfl, hw, f1, f2, f5, f6⟩ := ix_e3_s (show ix_e3 q i aux = true from d5)
          have hl3 : ix_len i = some 3 := by
            unfold ix_iop at f2
            split at f2 <;> first | rfl | cases f2
          have hd3 : decode q.2.1 pc = .ok (i, 3) := by
            rcases d3 with d3 | d3
            · rw [hl3] at d3; cases d3
            · rw [hl3] at d3
              rw [d1, ← Option.some.inj d3]
          have hpc3 : pc' = pc + 3 := by
            rcases d3 with d3 | d3
            · rw [hl3] at d3; cases d3
            · rw [hl3] at d3
              have := Option.some.inj d3
              omega
          subst hpc3
          by_cases h66 : x3 = 6
          · subst h66
            cases st with
            | nil => exact absurd (show (none : Option ixS) = some x from hs) (fun z9 => by cases z9)
            | cons v st9 =>
              cases v with
              | ref a0 =>
                have hs2 : (if (st9.map fun v => v.category).sum ≤ 8 then some (Sum.inl (pc + 3, ix_mk k L, st9, h)) else none : Option ixS) = some x := hs
                split at hs2
                · rename_i h8
                  cases hs2
                  dsimp only at hrun
                  obtain ⟨sp6, -⟩ := ix_CT_spec hw
                  obtain rfl := ix_iopI (Or.inr (Or.inr rfl)) f2
                  rcases f6 with f6 | f6
                  · exact absurd rfl f6
                  · refine W.objInit hx hb hown (by rw [← f1]; exact hts _ (sp6 rfl)) (hts _ ix_objW.1) (hts _ ix_objW.2) rfl (by rw [hml]; exact ix_lo_size hlo) rfl hd3 (by omega) ?_ (IH hrun hq hcx hH hlm hlc hc1 hc2 hret)
                    have hsum : ((st9.map (ix_sh E)).map fun v => v.category) = st9.map fun v => v.category := by
                      rw [List.map_map]
                      apply List.map_congr_left
                      intro v _
                      exact ix_sh_cat E v
                    rw [hsum]
                    show 2 * 0 + _ + 12 ≤ _
                    omega
                · cases hs2
              | int x0 => exact absurd (show (none : Option ixS) = some x from hs) (fun z9 => by cases z9)
              | long x0 => exact absurd (show (none : Option ixS) = some x from hs) (fun z9 => by cases z9)
              | float x0 => exact absurd (show (none : Option ixS) = some x from hs) (fun z9 => by cases z9)
              | double x0 => exact absurd (show (none : Option ixS) = some x from hs) (fun z9 => by cases z9)
              | null => exact absurd (show (none : Option ixS) = some x from hs) (fun z9 => by cases z9)
              | retAddr x0 => exact absurd (show (none : Option ixS) = some x from hs) (fun z9 => by cases z9)
          · have hs2 : ((ix_mt[x4]?).bind fun r => (ix_can q r x3 st).map fun x => (Sum.inr (Sum.inr (x4, x.1, pc + 3, ix_mk k L, x.2)) : ixS)) = some x := by
              split at hs
              · rename_i a9 b9 heq
                cases heq
                exact absurd rfl h66
              · rename_i a9 b9 c9 hne heq
                cases heq
                exact hs
              · rename_i hne1 hne2
                exact absurd rfl (hne2 _ _ _)
            obtain ⟨r, hr1, hs3⟩ := Option.bind_eq_some_iff.mp hs2
            obtain ⟨⟨as, rest⟩, hcan, e4⟩ := Option.map_eq_some_iff.mp hs3
            cases e4
            dsimp only at hrun
            obtain ⟨L0, g1, g2⟩ := Option.bind_eq_some_iff.mp hrun
            obtain ⟨⟨rs0, h1⟩, g3, g4⟩ := Option.bind_eq_some_iff.mp g2
            split at g4
            · rename_i hrk
              have g4 : ix_run n mi (pc + 3) (ix_mk k L) (rs0 ++ rest) h1 = some (rs, h') := g4
              have w1 := ix_run_grow n g3
              have w2 := ix_run_grow n g4
              try dsimp only at w2
              have ec : cells + (h1.1 - h.1) + (h'.1 - h1.1) = cells + (h'.1 - h.1) := by omega
              have es : slots + (h1.2.1 - h.2.1) + (h'.2.1 - h1.2.1) = slots + (h'.2.1 - h.2.1) := by omega
              refine ix_call IH hcx hw f1 f2 (by omega) hr1 hcan g1 g3 hrk hd3 (ix_lo_size hlo) hH hlc (by omega) (by omega) (fun H2 locs2 a1 a2 => ?_)
              refine IH g4 hq hcx a1 hlm a2 (by omega) (by omega) (fun pcR iR lsR H3 locs3 b1 b2 b3 b4 => ?_)
              rw [ec, es]
              exact hret pcR iR lsR H3 locs3 b1 b2 b3 b4
            · cases g4
        -- returns
        · obtain ⟨st2, e1, e2⟩ := Option.map_eq_some_iff.mp hs
          cases e2
          dsimp only at hrun
          cases hrun
          obtain ⟨r1, r2⟩ := ix_rt_eq e1
          subst r1
          have hd1 : decode q.2.1 pc = .ok (i, 1) := by
            rcases d3 with d3 | d3
            · rw [r2] at d3; cases d3
            · rw [r2] at d3
              rw [d1, ← Option.some.inj d3]
          have k9 := hret pc i ls H locs hd1 e1 hH hlc
          rw [Nat.sub_self, Nat.sub_self] at k9
          exact k9
        -- arraycopy, max, min
        · obtain ⟨x3, w, x1, x2, x4, x5, rfl, hw, f1, f2, f4, f5, f6⟩ := ix_e5_s (show ix_e5 q i aux = true from d5)
          have hx3 : x3 = 1 ∨ x3 = 3 ∨ x3 = 7 ∨ x3 = 8 ∨ x3 = 9 := by
            unfold ix_iop at f2
            split at f2 <;> simp at f2 <;> omega
          obtain rfl := ix_iopS hx3 f2
          have hl3 : pc' - pc = 3 := by
            rcases d3 with d3 | d3
            · cases d3
            · exact (Option.some.inj d3).symm
          rw [hl3] at d1
          obtain rfl : pc' = pc + 3 := by omega
          have hs2 : ((ix_pc x3 st h).map fun x => (Sum.inl (pc + 3, ix_mk k L, x.1, x.2) : ixS)) = some x := hs
          obtain ⟨⟨st2, h2⟩, e1, e2⟩ := Option.map_eq_some_iff.mp hs2
          cases e2
          dsimp only at hrun
          obtain ⟨g1, g2⟩ := ix_pc_same e1
          obtain ⟨-, sp7, sp8, sp9, -⟩ := ix_CT_spec hw
          refine ix_pc_snd hx hb (by rw [hml]; exact (ix_lo_size hlo).symm) hown hts (fun z9 => by rw [← f1]; exact hts _ (sp7 z9)) (fun z9 => by rw [← f1]; exact hts _ (sp8 z9)) (fun z9 => by rw [← f1]; exact hts _ (sp9 z9)) (by omega) (by omega) (by omega) (by omega) d1 e1 hH hlc (fun H2 locs2 a1 a2 => ?_)
          refine IH hrun hq hcx a1 hlm a2 (by rw [g1]; exact hc1) (by rw [g2]; exact hc2) (fun pcR iR lsR H3 locs3 b1 b2 b3 b4 => ?_)
          rw [g1, g2]
          exact hret pcR iR lsR H3 locs3 b1 b2 b3 b4
        · cases hs
