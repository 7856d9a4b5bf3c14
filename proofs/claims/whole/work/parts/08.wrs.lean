theorem ix_kv_ok {kd : Nat} {v : Value} {ty : FieldType} {E : Nat × Nat × Nat × Nat} (h : ix_kv kd v = true) (ht : ix_kdty kd ty = true) : narrow ty (ix_sh E v) = ix_sh E v ∧ fits ty (ix_sh E v) = true := by
  unfold ix_kv at h
  split at h
  · cases ty <;> simp [ix_kdty] at ht
    exact ⟨rfl, rfl⟩
  · cases ty <;> simp [ix_kdty] at ht
    exact ⟨rfl, rfl⟩
  · cases ty <;> simp [ix_kdty] at ht <;> exact ⟨rfl, rfl⟩
  · cases ty <;> simp [ix_kdty] at ht
    exact ⟨rfl, rfl⟩
  · cases ty <;> simp [ix_kdty] at ht
    exact ⟨rfl, rfl⟩
  · cases h
theorem ix_rc_s {h : ixH} {a ci : Nat} (q : ix_rc h a = some ci) (h3 : 3 ≤ a) : a < h.1 ∧ ∃ fs, h.2.2 a = .inr (ci, fs) := by
  unfold ix_rc at q
  rw [if_neg (by omega)] at q
  split at q
  next hc =>
    split at q
    next o e =>
      cases q
      exact ⟨hc.2, o.2, e⟩
    next => cases q
  next => cases q
theorem ix_updV {E : Nat × Nat × Nat × Nat} (f : Nat → Value) (k : Nat) (v : Value) (g : Nat → Value) (hg : ∀ j, g j = if j = k then v else f j) : updV (fun j => ix_sh E (f j)) k (ix_sh E v) = fun j => ix_sh E (g j) := by
  funext j
  rw [hg j]
  unfold updV
  by_cases h : j = k
  · rw [if_pos h, if_pos h]
  · rw [if_neg h, if_neg h]
/-- an array's cell behind a store -/
theorem ix_ex_store {U : State} {dC : Nat → ClassId} {dI : Nat → Nat → Nat} {E : Nat × Nat × Nat × Nat} {a t k : Nat} {x x' : vp_A} {v : Value} {cA : ClassId} {H1 : Heap} (h1 : ArrOfT U cA (ix_et t)) (h2 : va_RA U cA (ix_et t)) (hn : x'.1 = x.1) (hv : ∀ j, ix_val x' j = if j = k then v else ix_val x j)
    (e : H1[ix_ad E a]? = some ((arrV cA x.1 (fun j => ix_sh E (ix_val x j))).setSlot k (ix_sh E v))) : ix_ex U dC dI E a (.inl (t, x')) H1 := by
  refine ⟨cA, h1, h2, ?_⟩
  rw [e, arrV_store, ix_updV _ _ _ _ hv]
  show some (arrV cA x.1 _) = some (arrV cA x'.1 _)
  rw [hn]
theorem ix_loc {E : Nat × Nat × Nat × Nat} {a k : Nat} {locs : List Loc} (h3 : 3 ≤ a) (hl : ∀ q ∈ locs, E.2.2.2 ≤ q.base) : ∀ q ∈ locs ++ [(⟨ix_ad E a, k⟩ : Loc)], E.2.2.2 ≤ q.base := by
  intro q hq
  rcases List.mem_append.mp hq with h | h
  · exact hl q h
  · rcases List.mem_singleton.mp h with rfl
    show E.2.2.2 ≤ ix_ad E a
    rw [ix_ad3 h3]; omega
section IXW2
variable {p : Program} {l : Launch} {e : Env} {R : Room} {s : State} {m : MethodId} {args : Array Value} {below : List Frame} {meth : Method} {c : Code} {H : Heap} {locs : List Loc} {cells slots : Nat} {Q : State → Prop}
set_option maxHeartbeats 4000000 in
set_option maxRecDepth 100000 in
/-- an instruction that writes, but arraycopy -/
theorem ix_wr_snd {E : Nat × Nat × Nat × Nat} {dC : Nat → ClassId} {dI : Nat → Nat → Nat} {cc : ByteArray} {ow : Nat} {ini : Bool} {i : Instr} {pc pc' ln : Nat} {aux : List Nat} {z : Int} {st st2 : List Value} {h0 h2 : ixH} {ls : Array Slot}
    (hx : p.tables.exec = Jvm.exec) (hb : c.code = cc) (hown : s.vm.findClass (ix_on ow) = some m.cls) (hts : ∀ w ∈ ix_tb, w.before args s = true) (hK : ix_kn s dC dI) (hin : ini = true → meth.name = "<init>")
    (hok : ix_okf ow ini i aux z = true) (hd : decode cc pc = .ok (i, ln)) (hpc : pc' = pc + ln) (hln : ix_len i = none ∨ ix_len i = some ln)
    (h : ix_wr i aux st h0 = some (st2, h2)) (hH : ix_hp s dC dI E h0 H) (hl : ∀ q ∈ locs, E.2.2.2 ≤ q.base) (hc1 : cells + (h2.1 - h0.1) ≤ R.cells) (hc2 : slots + (h2.2.1 - h0.2.1) ≤ R.slots)
    (kk : ∀ (H2 : Heap) (locs2 : List Loc), ix_hp s dC dI E h2 H2 → (∀ q ∈ locs2, E.2.2.2 ≤ q.base) → W p l e R s m args below meth c H2 locs2 (cells + (h2.1 - h0.1)) (slots + (h2.2.1 - h0.2.1)) Q (F0 m pc' ls (st2.map (ix_sh E)))) :
    W p l e R s m args below meth c H locs cells slots Q (F0 m pc ls (st.map (ix_sh E))) := by
  subst hpc
  unfold ix_wr at h
  split at h
  -- putfield
  · obtain rfl : ln = 3 := by simpa [ix_len, eq_comm] using hln
    split at h
    · rename_i idx v a t
      split at h
      · rename_i ci k kd w
        split at h
        · rename_i hkv
          obtain ⟨hh, h3, h4⟩ := Option.map_eq_some_iff.mp h
          cases h4
          obtain ⟨fs, g1, g2⟩ := Option.bind_eq_some_iff.mp h3
          split at g2
          · rename_i hkl
            cases g2
            obtain ⟨a1, a2, a3⟩ := ix_ob_s g1
            simp only [ix_okf] at hok
            split at hok
            · rename_i q hq
              simp only [Bool.and_eq_true, decide_eq_true_eq, Bool.or_eq_true] at hok
              have hf := ix_FT_ok q (List.mem_of_getElem? hq)
              obtain ⟨q1, q2, q3, q4, q5, q6, q7⟩ := q
              obtain ⟨⟨⟨⟨⟨e1, e2⟩, e3⟩, e4⟩, e5⟩, e6⟩ := hok
              dsimp only at e1 e2 e3 e4 e5 e6
              subst e1 e2 e3 e4 e5
              simp only [ix_FTok, Bool.and_eq_true, decide_eq_true_eq, beq_iff_eq, decide_eq_decide] at hf
              obtain ⟨⟨⟨⟨⟨⟨⟨⟨f1, f2⟩, f3⟩, f4⟩, f5⟩, f6⟩, f7⟩, f8⟩, f9⟩ := hf
              have hlink := hts _ (ix_w_in f1)
              have hex := hH.2.2.2.2.2.2.2.2 a a1 a2
              rw [a3] at hex
              obtain ⟨hci, b2, cell, b3, b4, b5, b6⟩ := hex
              have hci : q3 < 12 := hci
              have b2 : fs.length = ix_N q3 := b2
              obtain ⟨hS, hfc, kC, hkC, hkind⟩ := hK.1 q3 hci
              obtain ⟨cf, kf, fi, f, hi, hsl⟩ := hS q4 f2
              have hlay := hts _ (ix_cl_in hci _ (u_in_lay f2))
              have hst := (u_facts hfc hkC (u_lays hts (ix_cl_in hci) f2) hi).1
              obtain ⟨k1, k2⟩ := ix_kv_ok (E := E) hkv f6
              have hap : ∀ x y, x < ix_N q3 → y < ix_N q3 → x ≠ y → (dI q3) x ≠ (dI q3) y := by
                intro x y hx1 hy1 hne
                obtain ⟨_, _, _, fa, hia, ea⟩ := hS x hx1
                obtain ⟨_, _, _, fb, hib, eb⟩ := hS y hy1
                rw [← ea, ← eb]
                refine u_apart (u_lays hts (ix_cl_in hci) hx1) (u_lays hts (ix_cl_in hci) hy1) hia hib ?_
                rw [(State.fieldFound?_type hia (ix_cl_ty hci x hx1).1).1, (State.fieldFound?_type hib (ix_cl_ty hci y hy1).1).1]
                exact ix_cl_nm hci x hx1 y hy1 hne
              have fin : ∀ (H' : Heap), H'[ix_ad E a]? = some (cell.setSlot f.slot (ix_sh E v)) → H'.size = H.size → (∀ q, q ≠ ix_ad E a → H'[q]? = H[q]?) → W p l e R s m args below meth c H' (locs ++ [⟨ix_ad E a, f.slot⟩]) cells slots Q (F0 m (pc + 3) ls (List.map (ix_sh E) st2)) := by
                intro H' x1 x2 x3
                rw [hsl] at x1
                have hup := hH.up (x := .inr (q3, fs.set q4 v)) a1 ⟨hci, by rw [List.length_set]; exact b2, t_OB.to (V := updV (fun j => ix_sh E (vp_V fs j)) q4 (ix_sh E v)) ⟨_, x1, b4, b5, t_set b6 hap f2 (ix_sh E v)⟩ (fun j _ => by
                  rw [ix_updV (vp_V fs) q4 v (vp_V (fs.set q4 v)) (fun j => (vp_updV_set hkl v j).symm)])⟩ x2 x3
                have k9 := kk H' (locs ++ [⟨ix_ad E a, f.slot⟩]) hup (ix_loc a1 hl)
                have z1 : (ix_up h0 a (Sum.inr (q3, fs.set q4 v))).1 - h0.1 = 0 := Nat.sub_self _
                have z2 : (ix_up h0 a (Sum.inr (q3, fs.set q4 v))).2.1 - h0.2.1 = 0 := Nat.sub_self _
                rw [z1, z2] at k9
                exact k9
              unfold u_lay at hlay
              by_cases hfin : (ix_T q3 q4).2.2.2 = true
              · rw [if_pos hfin] at hlay
                have h61 : q6 = 1 := by
                  rw [hfin] at f7
                  exact of_decide_eq_true f7.symm
                obtain ⟨e7, e8⟩ : ini = true ∧ q1 = q3 := by
                  rcases e6 with e6 | e6
                  · omega
                  · exact e6
                subst e8
                have hcf : m.cls = cf := by
                  obtain ⟨_, _, c', _, _, _, -, -, hf', -, -, -, hown2, -⟩ := Cond.laysFinal_spec hlay
                  have e1 : c' = cf := by have := hi.symm.trans hf'; simp at this; exact this.1.symm
                  rw [(ix_cl_ty hci q4 f2).2.1] at hown2
                  rw [← e1]; exact Option.some.inj (hown.symm.trans hown2)
                have h6 := u_fits hfc hkC hkind (Or.inr hlay) hi f5 k1 k2
                exact W.putFinK hx hb hown hlink hi hst hcf (hin e7) (by rw [b4]; exact h6) b3 b5 (by rw [hsl]; exact k2_hasslot (b6 q4 f2)) rfl rfl hd fin
              · rw [if_neg hfin] at hlay
                have h6 := u_store hfc hkC hkind hlay hi f5 k1 k2
                exact W.putK hx hb (f := f) ⟨hown, hlink, ⟨_, _, _, hi⟩, hst⟩ (by rw [b4]; exact h6) b3 b5 (by rw [hsl]; exact k2_hasslot (b6 q4 f2)) rfl rfl hd fin
            · cases hok
          · cases g2
        · cases h
      · cases h
    · cases h
  -- iastore
  · obtain rfl : ln = 1 := by simpa [ix_len, eq_comm] using hln
    split at h
    · rename_i x j a t
      obtain ⟨hh, h3, h4⟩ := Option.map_eq_some_iff.mp h
      cases h4
      unfold ix_si at h3
      split at h3
      · rename_i ha3
        obtain ⟨y, h4, h5⟩ := Option.bind_eq_some_iff.mp h3
        obtain ⟨ha, hb2⟩ := ix_ar_s h4
        split at h5
        · rename_i f hf
          split at h5
          · rename_i hi
            cases h5
            have hex := hH.2.2.2.2.2.2.2.2 a ha3 ha
            rw [hb2] at hex
            obtain ⟨cA, b1, b2, b3⟩ := hex
            obtain ⟨i1, i2⟩ := ix_in_s hi (Nat.le_refl _)
            refine W.iast hx hb b3 (b1 _ _) (fun e => by cases e) (by rw [arrV_size]; exact i1) rfl rfl hd fun H1 x1 x2 x3 => ?_
            have hup := hH.up (x := .inl (0, y.1, .inl (upd f j.toNatClampNeg x))) ha3 (ix_ex_store (x := y) (v := .int x) (k := j.toNatClampNeg) b1 b2 rfl (fun q => by
              simp only [ix_val, hf, upd]
              by_cases hq : q = j.toNatClampNeg
              · simp [hq]
              · simp [hq]) x1) x2 x3
            have k9 := kk H1 _ hup (ix_loc ha3 hl (k := j.toNatClampNeg))
            have z1 : (ix_up h0 a (.inl (0, y.1, .inl (upd f j.toNatClampNeg x)))).1 - h0.1 = 0 := Nat.sub_self _
            have z2 : (ix_up h0 a (.inl (0, y.1, .inl (upd f j.toNatClampNeg x)))).2.1 - h0.2.1 = 0 := Nat.sub_self _
            rw [z1, z2] at k9
            exact k9
          · cases h5
        · cases h5
      · cases h3
    · cases h
  -- bastore
  · obtain rfl : ln = 1 := by simpa [ix_len, eq_comm] using hln
    split at h
    · rename_i x j a t
      obtain ⟨hh, h3, h4⟩ := Option.map_eq_some_iff.mp h
      cases h4
      unfold ix_sz at h3
      split at h3
      · rename_i ha3
        obtain ⟨y, h4, h5⟩ := Option.bind_eq_some_iff.mp h3
        obtain ⟨ha, hb2⟩ := ix_ar_s h4
        split at h5
        · rename_i f hf
          split at h5
          · rename_i hi
            cases h5
            have hex := hH.2.2.2.2.2.2.2.2 a ha3 ha
            rw [hb2] at hex
            obtain ⟨cA, b1, b2, b3⟩ := hex
            obtain ⟨i1, i2⟩ := ix_in_s hi (Nat.le_refl _)
            refine W.zast hx hb b3 (b1 _ _) (fun e => by cases e) (by rw [arrV_size]; exact i1) rfl rfl hd fun H1 x1 x2 x3 => ?_
            have hup := hH.up (x := .inl (2, y.1, .inl (upd f j.toNatClampNeg (x &&& 1)))) ha3 (ix_ex_store (x := y) (v := .int (x &&& 1)) (k := j.toNatClampNeg) b1 b2 rfl (fun q => by
              simp only [ix_val, hf, upd]
              by_cases hq : q = j.toNatClampNeg
              · simp [hq]
              · simp [hq]) x1) x2 x3
            have k9 := kk H1 _ hup (ix_loc ha3 hl (k := j.toNatClampNeg))
            have z1 : (ix_up h0 a (.inl (2, y.1, .inl (upd f j.toNatClampNeg (x &&& 1))))).1 - h0.1 = 0 := Nat.sub_self _
            have z2 : (ix_up h0 a (.inl (2, y.1, .inl (upd f j.toNatClampNeg (x &&& 1))))).2.1 - h0.2.1 = 0 := Nat.sub_self _
            rw [z1, z2] at k9
            exact k9
          · cases h5
        · cases h5
      · cases h3
    · cases h
  -- lastore
  · obtain rfl : ln = 1 := by simpa [ix_len, eq_comm] using hln
    split at h
    · rename_i x j a t
      obtain ⟨hh, h3, h4⟩ := Option.map_eq_some_iff.mp h
      cases h4
      unfold ix_sl at h3
      split at h3
      · rename_i ha3
        obtain ⟨y, h4, h5⟩ := Option.bind_eq_some_iff.mp h3
        obtain ⟨ha, hb2⟩ := ix_ar_s h4
        split at h5
        · rename_i f hf
          split at h5
          · rename_i hi
            cases h5
            have hex := hH.2.2.2.2.2.2.2.2 a ha3 ha
            rw [hb2] at hex
            obtain ⟨cA, b1, b2, b3⟩ := hex
            obtain ⟨i1, i2⟩ := ix_in_s hi (Nat.le_refl _)
            refine W.last hx hb b3 (b1 _ _) (fun e => by cases e) (by rw [arrV_size]; exact i1) rfl rfl hd fun H1 x1 x2 x3 => ?_
            have hup := hH.up (x := .inl (1, y.1, .inr (.inl (vp_updL f j.toNatClampNeg x)))) ha3 (ix_ex_store (x := y) (v := .long x) (k := j.toNatClampNeg) b1 b2 rfl (fun q => by
              simp only [ix_val, hf, vp_updL]
              by_cases hq : q = j.toNatClampNeg
              · simp [hq]
              · simp [hq]) x1) x2 x3
            have k9 := kk H1 _ hup (ix_loc ha3 hl (k := j.toNatClampNeg))
            have z1 : (ix_up h0 a (.inl (1, y.1, .inr (.inl (vp_updL f j.toNatClampNeg x))))).1 - h0.1 = 0 := Nat.sub_self _
            have z2 : (ix_up h0 a (.inl (1, y.1, .inr (.inl (vp_updL f j.toNatClampNeg x))))).2.1 - h0.2.1 = 0 := Nat.sub_self _
            rw [z1, z2] at k9
            exact k9
          · cases h5
        · cases h5
      · cases h3
    · cases h
  -- aastore
  · obtain rfl : ln = 1 := by simpa [ix_len, eq_comm] using hln
    split at h
    · rename_i v j a t
      split at h
      · rename_i tt
        obtain ⟨hh, h3, h4⟩ := Option.map_eq_some_iff.mp h
        cases h4
        unfold ix_sq at h3
        split at h3
        · rename_i ha3
          obtain ⟨y, h4, h5⟩ := Option.bind_eq_some_iff.mp h3
          obtain ⟨ha, hb2⟩ := ix_ar_s h4
          split at h5
          · rename_i f hf
            split at h5
            · rename_i hcond
              cases h5
              simp only [Bool.and_eq_true, decide_eq_true_eq, Bool.or_eq_true] at hcond
              obtain ⟨⟨hi, hv3⟩, hcl⟩ := hcond
              have hex := hH.2.2.2.2.2.2.2.2 a ha3 ha
              rw [hb2] at hex
              obtain ⟨cA, b1, b2, b3⟩ := hex
              obtain ⟨i1, i2⟩ := ix_in_s hi (Nat.le_refl _)
              have key : ∃ ci, ci < 12 ∧ ix_rc h0 v = some ci ∧ ix_et tt = .object (ix_on ci) := by
                rcases hcl with ⟨rfl, r⟩ | ⟨rfl, r⟩
                · exact ⟨3, by decide, r, rfl⟩
                · exact ⟨1, by decide, r, rfl⟩
              obtain ⟨ci, hci, hrc, het⟩ := key
              obtain ⟨v1, fs, v2⟩ := ix_rc_s hrc hv3
              have hev := hH.2.2.2.2.2.2.2.2 v hv3 v1
              rw [v2] at hev
              obtain ⟨-, -, cellV, w1, w2, w3, -⟩ := hev
              have b2' := b2
              rw [show ix_et (tt, y).1 = FieldType.object (ix_on ci) from het] at b2'
              obtain ⟨kA, comp, k1, k2, k3, -⟩ := b2'
              have hcls := (hK.1 ci hci).2
              have hcomp : comp = dC ci := Option.some.inj (k3.symm.trans hcls.1)
              subst hcomp
              obtain ⟨kC, hkC, -⟩ := id hcls.2
              refine W.aast hx hb b3 (fun q h => by cases h) (fun h => by cases h) k1 k2 rfl hkC ⟨fun q => i1 (Or.inl q), by rw [arrV_size]; exact i2⟩ w1 (fun q h => by rw [w3] at h; cases h) (by rw [w2]; exact hkC) (by rw [w2]; exact va_assign hcls) rfl rfl hd fun H1 x1 x2 x3 => ?_
              have hup := hH.up (x := .inl (tt, y.1, .inr (.inr (.inr (.inr (va_up f j.toNatClampNeg (some v))))))) ha3 (ix_ex_store (x := y) (v := .ref v) (k := j.toNatClampNeg) b1 b2 rfl (fun q => by
                simp only [ix_val, hf, va_up]
                by_cases hq : q = j.toNatClampNeg
                · simp [hq, va_rf]
                · simp [hq]) x1) x2 x3
              have k9 := kk H1 _ hup (ix_loc ha3 hl (k := j.toNatClampNeg))
              have z1 : (ix_up h0 a (.inl (tt, y.1, .inr (.inr (.inr (.inr (va_up f j.toNatClampNeg (some v)))))))).1 - h0.1 = 0 := Nat.sub_self _
              have z2 : (ix_up h0 a (.inl (tt, y.1, .inr (.inr (.inr (.inr (va_up f j.toNatClampNeg (some v)))))))).2.1 - h0.2.1 = 0 := Nat.sub_self _
              rw [z1, z2] at k9
              exact k9
            · cases h5
          · cases h5
        · cases h3
      · cases h
    · cases h
  -- new
  · obtain rfl : ln = 3 := by simpa [ix_len, eq_comm] using hln
    split at h
    · rename_i idx ci w
      cases h
      simp only [ix_okf] at hok
      split at hok
      · rename_i q hq
        simp only [Bool.and_eq_true, decide_eq_true_eq] at hok
        have hf := ix_NT_ok q (List.mem_of_getElem? hq)
        obtain ⟨q1, q2, q3, q4⟩ := q
        obtain ⟨⟨e1, e2⟩, e3⟩ := hok
        dsimp only at e1 e2 e3
        subst e1 e2 e3
        simp only [ix_NTok, Bool.and_eq_true, decide_eq_true_eq] at hf
        obtain ⟨f1, hci⟩ := hf
        have z1 : (ix_nw h0 (.inr (q3, ix_df q3)) (ix_N q3)).1 - h0.1 = 1 := by show h0.1 + 1 - h0.1 = 1; omega
        have z2 : (ix_nw h0 (.inr (q3, ix_df q3)) (ix_N q3)).2.1 - h0.2.1 = ix_N q3 := by show h0.2.1 + ix_N q3 - h0.2.1 = _; omega
        rw [z1] at hc1 kk
        rw [z2] at hc2 kk
        have hKn := hK.1 q3 hci
        refine W.newcK hx hb hown (hts _ (ix_w_in f1)) (hts _ (ix_cl_w hci).1) (hts _ (ix_cl_w hci).2) rfl hd hc1 hc2 hKn.2.1 rfl fun H1 kC hkC x1 x2 x3 => ?_
        have hp := hH.push (x := .inr (q3, ix_df q3)) (n0 := ix_N q3) x2 x3 ⟨hci, ix_cl_df hci, by
          rw [hH.top]
          refine (u_born (ix_ty q3) hts (ix_cl_in hci) hKn hkC x1 (fun k hk => (ix_cl_ty hci k hk).1)).to (fun k hk => ?_)
          have e9 := (ix_cl_ty hci k hk).2.2
          show _ = ix_sh E (vp_V (ix_df q3) k)
          unfold vp_V
          rw [e9]
          cases ix_ty q3 k <;> rfl⟩
        have k9 := kk H1 locs hp hl
        simp only [List.map_cons, ix_sh, hH.top] at k9
        exact k9
      · cases hok
    · cases h
  -- newarray
  · obtain rfl : ln = 2 := by simpa [ix_len, eq_comm] using hln
    obtain ⟨n, t, rfl, h2⟩ := ix_p1i_s h
    obtain ⟨x, h3, h4⟩ := Option.bind_eq_some_iff.mp h2
    split at h4
    · rename_i at_ hcond
      cases h4
      have z1 : (ix_nw h0 (.inl (x.1, n.toNatClampNeg, x.2)) n.toNatClampNeg).1 - h0.1 = 1 := by show h0.1 + 1 - h0.1 = 1; omega
      have z2 : (ix_nw h0 (.inl (x.1, n.toNatClampNeg, x.2)) n.toNatClampNeg).2.1 - h0.2.1 = n.toNatClampNeg := by show h0.2.1 + n.toNatClampNeg - h0.2.1 = _; omega
      rw [z1] at hc1 kk
      rw [z2] at hc2 kk
      have key : (Jvm.Cond.arrayClass (newarray.typeOf at_)).before args s = true ∧ componentBytes (newarray.typeOf at_) ≤ 8 ∧ newarray.typeOf at_ = ix_et x.1 ∧ (∀ j, ix_sh E (ix_val (n.toNatClampNeg, x.2) j) = defaultValue (newarray.typeOf at_)) ∧ (∀ cA, s.vm.findClass ("[" ++ (newarray.typeOf at_).toString) = some cA → va_RA s cA (ix_et x.1)) := by
        cases at_ <;> simp only [ix_nt] at h3 <;> cases h3
        · exact ⟨hts _ (ix_w_in (pos := ix_pB) (w := .arrayClass .boolean) (by decide +kernel)), by decide, rfl, fun _ => rfl, fun _ h => h⟩
        · exact ⟨hts _ (ix_w_in (pos := ix_pI) (w := .arrayClass .int) (by decide +kernel)), by decide, rfl, fun _ => rfl, fun _ h => h⟩
        · exact ⟨hts _ (ix_w_in (pos := ix_pL) (w := .arrayClass .long) (by decide +kernel)), by decide, rfl, fun _ => rfl, fun _ h => h⟩
      obtain ⟨y1, y2, y3, y4, y5⟩ := key
      refine va_newaK hx hb y1 rfl hd rfl hcond.1 rfl ?_ hc1 hc2 rfl fun H1 cA x1 x2 x3 x4 x5 => ?_
      · have := Nat.mul_le_mul hcond.2 y2
        omega
      have hp := hH.push (x := .inl (x.1, n.toNatClampNeg, x.2)) (n0 := n.toNatClampNeg) x2 x3 ⟨cA, by rw [← y3]; exact x4, y5 cA x5, by
          rw [hH.top, x1]
          show some (arrV cA _ _) = some (arrV cA _ _)
          congr 2
          funext j
          exact (y4 j).symm⟩
      have k9 := kk H1 locs hp hl
      simp only [List.map_cons, ix_sh, hH.top] at k9
      exact k9
    · cases h4
  -- anewarray
  · obtain rfl : ln = 3 := by simpa [ix_len, eq_comm] using hln
    obtain ⟨n, t, rfl, h2⟩ := ix_p1i_s h
    split at h2
    · rename_i idx tt w
      split at h2
      · rename_i hcond
        cases h2
        simp only [ix_okf] at hok
        split at hok
        · rename_i q hq
          simp only [Bool.and_eq_true, decide_eq_true_eq, Bool.or_eq_true] at hok
          have hf := ix_NT_ok q (List.mem_of_getElem? hq)
          obtain ⟨q1, q2, q3, q4⟩ := q
          obtain ⟨⟨e1, e2⟩, e3⟩ := hok
          dsimp only at e1 e2 e3
          subst e1 e2
          simp only [ix_NTok, Bool.and_eq_true, decide_eq_true_eq] at hf
          obtain ⟨f1, hci⟩ := hf
          have z1 : (ix_nw h0 (.inl (tt, n.toNatClampNeg, .inr (.inr (.inr (.inr fun _ => none))))) n.toNatClampNeg).1 - h0.1 = 1 := by show h0.1 + 1 - h0.1 = 1; omega
          have z2 : (ix_nw h0 (.inl (tt, n.toNatClampNeg, .inr (.inr (.inr (.inr fun _ => none))))) n.toNatClampNeg).2.1 - h0.2.1 = n.toNatClampNeg := by show h0.2.1 + n.toNatClampNeg - h0.2.1 = _; omega
          rw [z1] at hc1 kk
          rw [z2] at hc2 kk
          have key : va_AO (ix_on q3) s ∧ ix_et tt = .object (ix_on q3) := by
            rcases e3 with ⟨rfl, rfl⟩ | ⟨rfl, rfl⟩
            · exact ⟨hK.2.1, rfl⟩
            · exact ⟨hK.2.2, rfl⟩
          obtain ⟨y1, y2⟩ := key
          refine W.anew hx hb hown (hts _ (ix_w_in f1)) (va_AO.use y1) rfl hd rfl hcond.1 (by omega) hc1 hc2 fun cA kA comp f1 f2 f3 f4 => ?_
          generalize hH1 : H.push ({ cls := cA, slots := Array.replicate n.toNatClampNeg .null, vm := .none } : Cell) = H1
          have x2 : H1.size = H.size + 1 := by rw [← hH1, Array.size_push]
          have x1 : H1[H.size]? = some (arrV cA n.toNatClampNeg (fun _ => .null)) := by rw [← hH1, Array.getElem?_push_size, ← arrV_new]
          have x3 : ∀ q : Nat, q < H.size → H1[q]? = H[q]? := fun q hq => by rw [← hH1, Array.getElem?_push, if_neg (Nat.ne_of_lt hq)]
          have hp := hH.push (x := .inl (tt, n.toNatClampNeg, .inr (.inr (.inr (.inr fun _ => none))))) (n0 := n.toNatClampNeg) x2 x3 ⟨cA, by rw [show ix_et _ = _ from y2]; exact fun N z => ⟨(fun k h => by cases h), kA, f2, comp, f3⟩, by rw [show ix_et _ = _ from y2]; exact ⟨kA, comp, f2, f3, f4, f1⟩, by
            rw [hH.top, x1]
            rfl⟩
          have k9 := kk H1 locs hp hl
          simp only [List.map_cons, ix_sh, hH.top] at k9
          exact k9
        · cases hok
      · cases h2
    · cases h2
  · cases h
end IXW2
