section IXT
set_option maxHeartbeats 8000000 in
set_option maxRecDepth 100000 in
/-- a call -/
theorem ix_call {n : Nat} (IH : ix_Snd n) {p : Program} {l : Launch} {e : Env} {R : Room} {s : State} {m : MethodId} {args : Array Value} {below : List Frame} {meth : Method} {c : Code} {Q : State → Prop} {dC : Nat → ClassId} {dI : Nat → Nat → Nat} {E : Nat × Nat × Nat × Nat} {q r : ixM} {mj pc idx kd w ow : Nat} {ps : List Nat} {i : Instr} {st as rest rs : List Value} {h h1 : ixH} {L0 : ixL} {H : Heap} {locs : List Loc} {cells slots : Nat} {ls : Array Slot}
    (hcx : ix_cx p R s m args meth c dC dI E q) (hw : ix_CT[w]? = some (ow, idx, kd, mj, ps)) (how : ow = q.2.2.2.2.1) (hop : ix_iop i idx kd = true) (hkd : kd < 6) (hr : ix_mt[mj]? = some r) (hcan : ix_can q r kd st = some (as, rest))
    (hent : ix_ent mj as h = some L0) (hrun : ix_run n mj 0 L0 [] h = some (rs, h1)) (hrk : ix_okr (ix_rk mj) rs = true) (hd : decode q.2.1 pc = .ok (i, 3)) (hsz : ls.size = q.2.2.1)
    (hH : ix_hp s dC dI E h H) (hlc : ∀ x ∈ locs, E.2.2.2 ≤ x.base) (hc1 : cells + (h1.1 - h.1) ≤ R.cells) (hc2 : slots + (h1.2.1 - h.2.1) ≤ R.slots)
    (kk : ∀ (H2 : Heap) (locs2 : List Loc), ix_hp s dC dI E h1 H2 → (∀ x ∈ locs2, E.2.2.2 ≤ x.base) → W p l e R s m args below meth c H2 locs2 (cells + (h1.1 - h.1)) (slots + (h1.2.1 - h.2.1)) Q (F0 m (pc + 3) ls ((rs ++ rest).map (ix_sh E)))) :
    W p l e R s m args below meth c H locs cells slots Q (F0 m pc ls (st.map (ix_sh E))) := by
  obtain ⟨hx, hb, hr0, hml, hown, hts, hlk, hin, hkn, hvk, hnw, hfr, hlo2⟩ := id hcx
  obtain ⟨-, -, -, -, hsp⟩ := ix_CT_spec hw
  obtain ⟨r', hr', hmok, sp0, sp1, sp2, sp3, sp4⟩ := hsp hkd
  obtain rfl : r' = r := Option.some.inj (hr'.symm.trans hr)
  subst how
  have hM := ix_met IH hr hmok hent hrun l dC dI E
  simp only [ix_mok, Bool.and_eq_true, decide_eq_true_eq] at hmok
  obtain ⟨⟨⟨⟨⟨⟨k1, k2⟩, k3⟩, k4⟩, k5⟩, k6⟩, k7⟩ := hmok
  have hcode := ix_w_in k1
  have hini : (Jvm.Cond.initialized r'.1.cls).before args s = true := by rw [← k5]; exact hts _ (ix_iniW k6)
  -- the arguments
  unfold ix_can at hcan
  generalize hk0 : (if kd = 1 ∨ kd = 3 then r'.2.2.2.2.2.2.1 else r'.2.2.2.2.2.2.1 + 1) = k0 at hcan
  split at hcan
  · rename_i hcond
    cases hcan
    obtain ⟨n1, n2, n3, n4⟩ := hcond
    have hrok : ix_rok r' (st.take k0).reverse h = true := by
      unfold ix_ent at hent
      rw [hr] at hent
      simp only [Option.bind_some] at hent
      split at hent
      · rename_i hc9
        rw [Bool.and_eq_true] at hc9
        exact hc9.1
      · cases hent
    have hsplit : ∀ k, st = ((st.take k).reverse).reverse ++ st.drop k := fun k => by rw [List.reverse_reverse, List.take_append_drop]
    have hsum : ∀ t : List Value, ((t.map (ix_sh E)).map fun v => v.category) = t.map fun v => v.category := fun t => by
      rw [List.map_map]
      apply List.map_congr_left
      intro v _
      exact ix_sh_cat E v
    have hmap : ∀ (x y : List Value), st = x ++ y → st.map (ix_sh E) = x.map (ix_sh E) ++ y.map (ix_sh E) := fun x y h9 => by rw [h9, List.map_append]
    have hRoom : r'.2.2.2.2.2.2.2.2.1 + 1 ≤ R.frames ∧ 8 + (r'.2.2.1 + 11) + r'.2.2.2.2.2.2.2.2.2.1 ≤ R.locals := ⟨by omega, by omega⟩
    have hPc : ∀ (as : List Value) (U : State), U.heap = H → s.WarmedH U.vm → ix_Pc dC dI E as h (as.map (ix_sh E)).toArray U := by
      intro as U hU hW
      refine ⟨rfl, by rw [hU]; exact hH.moved hW.alike, hkn.moved hW.alike, vk_R.warm hW hvk, fun w hw => ?_⟩
      obtain ⟨a0, i0, x0, hs0, rfl⟩ := ix_nest_form hw
      exact va_Nw.warmM hW (hnw _ hw)
    have hW8 : ∀ k : Nat, ((st.drop k).map fun v => v.category).sum ≤ 8 → 2 * (F0 m pc ls (st.map (ix_sh E))).monitorRoom + (((st.drop k).map (ix_sh E)).map fun v => v.category).sum ≤ 8 := fun k hk => lv_room (by rw [hsum]; exact hk)
    have fin : ∀ (k : Nat) (av : Array Value), va_Run p l e R s m args below meth c H locs cells slots (h1.1 - h.1) (h1.2.1 - h.2.1) (F0 m pc ls (st.map (ix_sh E))) ((st.drop k).map (ix_sh E)) (ix_Qc dC dI E rs h1 av) (fun q => E.2.2.2 ≤ q) → (∀ (H2 : Heap) (locs2 : List Loc), ix_hp s dC dI E h1 H2 → (∀ x ∈ locs2, E.2.2.2 ≤ x.base) → W p l e R s m args below meth c H2 locs2 (cells + (h1.1 - h.1)) (slots + (h1.2.1 - h.2.1)) Q (F0 m (pc + 3) ls ((rs ++ st.drop k).map (ix_sh E)))) → W p l e R s m args below meth c H locs cells slots Q (F0 m pc ls (st.map (ix_sh E))) := by
      intro k av hrn kk2
      refine ix_after hrn (fun v st0 t Lx a1 a2 a3 => ?_)
      obtain ⟨b1, b2⟩ := a3
      cases b1
      have k9 := kk2 t.heap (locs ++ Lx) (b2.moved a2.symm) (fun x hx => (List.mem_append.mp hx).elim (hlc x) (a1 x))
      rw [ix_okr_s hrk, ← List.map_append]
      exact k9
    have hd7 : r'.1.cls ≠ "java/lang/invoke/MethodHandle" ∧ r'.1.cls ≠ "java/lang/invoke/VarHandle" ∧ (parseMethodDescriptor r'.1.desc).map (fun d => d.parameters.length) = some r'.2.2.2.2.2.2.1 := ⟨k3, k4, k7⟩
    rcases (by omega : kd = 0 ∨ kd = 1 ∨ kd = 2 ∨ kd = 3 ∨ kd = 4 ∨ kd = 5) with rfl | rfl | rfl | rfl | rfl | rfl
    -- virtual
    · obtain ⟨w1, w2, w3, w4⟩ := sp0 rfl
      rw [if_neg (by decide)] at hk0
      subst hk0
      obtain ⟨a, t, hat, hrc, hrl⟩ := ix_rok1 w4 hrok
      obtain rfl := ix_iopV hop
      have hst := hsplit (r'.2.2.2.2.2.2.1 + 1)
      rw [hat] at hst hM
      have e9 : (F0 m pc ls (st.map (ix_sh E))).stack = (t.map (ix_sh E)).reverse ++ .ref (ix_ad E a) :: (st.drop (r'.2.2.2.2.2.2.1 + 1)).map (ix_sh E) := by
        show st.map (ix_sh E) = _
        rw [hmap _ _ hst]
        simp [ix_sh]
      refine fin _ _ (va_runV (As := t.map (ix_sh E)) (b := ix_ad E a) (C := r'.1.cls) (n := r'.2.2.2.2.2.2.1) ⟨hx, hb, hml, hown, hts⟩ hM ⟨callB_of _ hts (ix_goodc hcode) rfl rfl rfl hini (hts _ w1) hd7 hRoom, hts _ w2, hts _ w3⟩ ⟨ix_Pc_blind, ?_, fun U hU hW => hPc _ U hU hW⟩ rfl (by rw [List.length_map]; exact hrl) hsz e9 (hW8 _ n2) hd ⟨hc1, hc2⟩) kk
      rw [← k5]
      exact ix_recv hH hkn hrc
    -- static
    · obtain ⟨w1, w2, w3⟩ := sp1 rfl
      rw [if_pos (by decide)] at hk0
      subst hk0
      have hrl := ix_rok0 w3 hrok
      obtain rfl := ix_iopS (Or.inl rfl) hop
      have hst := hsplit r'.2.2.2.2.2.2.1
      generalize hat : (st.take r'.2.2.2.2.2.2.1).reverse = t at hst hM hrl
      have e9 : (F0 m pc ls (st.map (ix_sh E))).stack = (t.map (ix_sh E)).reverse ++ (st.drop r'.2.2.2.2.2.2.1).map (ix_sh E) := by
        show st.map (ix_sh E) = _
        rw [hmap _ _ hst]
        simp
      exact fin _ _ (va_runS (As := t.map (ix_sh E)) (n := r'.2.2.2.2.2.2.1) ⟨hx, hb, hml, hown, hts⟩ hM ⟨callB_of _ hts (ix_goodc hcode) rfl rfl rfl hini (hts _ w1) hd7 hRoom, hts _ w2⟩ ⟨ix_Pc_blind, fun U hU hW => hPc _ U hU hW⟩ rfl (by rw [List.length_map]; exact hrl) hsz e9 (hW8 _ n2) hd ⟨hc1, hc2⟩) kk
    -- <init>
    · obtain ⟨w1, w2, w3, w4, w5⟩ := sp2 rfl
      rw [if_neg (by decide)] at hk0
      subst hk0
      obtain ⟨a, t, hat, hrl⟩ := ix_rok2 w3 hrok
      obtain rfl := ix_iopI (Or.inl rfl) hop
      have hst := hsplit (r'.2.2.2.2.2.2.1 + 1)
      rw [hat] at hst hM
      rw [w5] at hM hcode
      have e9 : (F0 m pc ls (st.map (ix_sh E))).stack = (t.map (ix_sh E)).reverse ++ .ref (ix_ad E a) :: (st.drop (r'.2.2.2.2.2.2.1 + 1)).map (ix_sh E) := by
        show st.map (ix_sh E) = _
        rw [hmap _ _ hst]
        simp [ix_sh]
      exact fin _ _ (va_runI (As := t.map (ix_sh E)) (b := ix_ad E a) (n := r'.2.2.2.2.2.2.1) ⟨hx, hb, hml, hown, hts⟩ hM ⟨callB_of _ hts (ix_goodc hcode) rfl rfl rfl hini (hts _ w1) hd7 hRoom, w4, hts _ w2⟩ ⟨ix_Pc_blind, fun U hU hW => hPc _ U hU hW⟩ rfl (by rw [List.length_map]; exact hrl) hsz e9 (hW8 _ n2) hd ⟨hc1, hc2⟩) kk
    -- static
    · obtain ⟨w1, w2, w3⟩ := sp3 rfl
      rw [if_pos (by decide)] at hk0
      subst hk0
      have hrl := ix_rok0 w3 hrok
      obtain rfl := ix_iopS (Or.inr (Or.inl rfl)) hop
      have hst := hsplit r'.2.2.2.2.2.2.1
      generalize hat : (st.take r'.2.2.2.2.2.2.1).reverse = t at hst hM hrl
      have e9 : (F0 m pc ls (st.map (ix_sh E))).stack = (t.map (ix_sh E)).reverse ++ (st.drop r'.2.2.2.2.2.2.1).map (ix_sh E) := by
        show st.map (ix_sh E) = _
        rw [hmap _ _ hst]
        simp
      exact fin _ _ (va_runSN (As := t.map (ix_sh E)) (n := r'.2.2.2.2.2.2.1) ⟨hx, hb, hml, hown, hts⟩ hM ⟨va_cnB _ hts (ix_goodc hcode) rfl rfl rfl (hnw _ w1) hini hd7 hRoom, hts _ w2, trivial⟩ ⟨ix_Pc_blind, fun U hU hW => hPc _ U hU hW⟩ rfl (by rw [List.length_map]; exact hrl) hsz e9 (hW8 _ n2) hd ⟨hc1, hc2⟩) kk
    -- <init>
    · obtain ⟨w1, w2, w3, w4, w5⟩ := sp4 rfl
      rw [if_neg (by decide)] at hk0
      subst hk0
      obtain ⟨a, t, hat, hrl⟩ := ix_rok2 w3 hrok
      obtain rfl := ix_iopI (Or.inr (Or.inl rfl)) hop
      have hst := hsplit (r'.2.2.2.2.2.2.1 + 1)
      rw [hat] at hst hM
      rw [w5] at hM hcode
      have e9 : (F0 m pc ls (st.map (ix_sh E))).stack = (t.map (ix_sh E)).reverse ++ .ref (ix_ad E a) :: (st.drop (r'.2.2.2.2.2.2.1 + 1)).map (ix_sh E) := by
        show st.map (ix_sh E) = _
        rw [hmap _ _ hst]
        simp [ix_sh]
      exact fin _ _ (va_runIN (As := t.map (ix_sh E)) (b := ix_ad E a) (n := r'.2.2.2.2.2.2.1) ⟨hx, hb, hml, hown, hts⟩ hM ⟨va_cnB _ hts (ix_goodc hcode) rfl rfl rfl (hnw _ w1) hini hd7 hRoom, w4, hts _ w2⟩ ⟨ix_Pc_blind, fun U hU hW => hPc _ U hU hW⟩ rfl (by rw [List.length_map]; exact hrl) hsz e9 (hW8 _ n2) hd ⟨hc1, hc2⟩) kk
    · exact absurd hop (fun z => ix_iop5 z)
  · cases hcan
end IXT
