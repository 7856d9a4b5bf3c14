/-! what the tables must say for an instruction -/
def ix_okf (ow : Nat) (ini : Bool) (i : Instr) (aux : List Nat) (z : Int) : Bool := match i with
  | .getfield idx => (match aux with
    | [ci, k, kd, w] => (match ix_FT[w]? with
      | some q => decide (q.1 = ow) && decide (q.2.1 = idx) && decide (q.2.2.1 = ci) && decide (q.2.2.2.1 = k) && decide (q.2.2.2.2.1 = kd)
      | none => false)
    | _ => false)
  | .putfield idx => (match aux with
    | [ci, k, kd, w] => (match ix_FT[w]? with
      | some q => decide (q.1 = ow) && decide (q.2.1 = idx) && decide (q.2.2.1 = ci) && decide (q.2.2.2.1 = k) && decide (q.2.2.2.2.1 = kd) && (decide (q.2.2.2.2.2.1 = 0) || (ini && decide (ow = ci)))
      | none => false)
    | _ => false)
  | .getstatic idx => decide (ow = 12) && decide (idx = 38)
  | .ldc idx => decide (ow = 4) && decide (idx = 21)
  | .ldc2_w idx => (match aux with
    | [w] => (match ix_LT[w]? with
      | some q => decide (q.1 = ow) && decide (q.2.1 = idx) && decide (q.2.2.1 = z)
      | none => false)
    | _ => false)
  | .ldc_w idx => (match aux with
    | [w] => (match ix_IT[w]? with
      | some q => decide (q.1 = ow) && decide (q.2.1 = idx) && decide (q.2.2.1 = z)
      | none => false)
    | _ => false)
  | .aaload => (match aux with
    | [t] => decide (t = 4) || decide (t = 5)
    | _ => false)
  | .aastore => (match aux with
    | [t] => decide (t = 4) || decide (t = 5)
    | _ => false)
  | .new idx => (match aux with
    | [ci, w] => (match ix_NT[w]? with
      | some q => decide (q.1 = ow) && decide (q.2.1 = idx) && decide (q.2.2.1 = ci)
      | none => false)
    | _ => false)
  | .anewarray idx => (match aux with
    | [t, w] => (match ix_NT[w]? with
      | some q => decide (q.1 = ow) && decide (q.2.1 = idx) && (decide (t = 4) && decide (q.2.2.1 = 3) || decide (t = 5) && decide (q.2.2.1 = 1))
      | none => false)
    | _ => false)
  | .lookupswitch _ ps => (ps.toList.zip (ps.toList.drop 1)).all (fun (a, next) => a.1 < next.1)
  | _ => true
theorem ix_cl_in {c : Nat} (hc : c < 12) : ∀ w ∈ u_ws (ix_on c) (ix_T c) (ix_N c), w ∈ ix_tb := by
  intro w hw
  have h := ix_cl_ok c (List.mem_range.mpr hc)
  simp only [ix_clok, Bool.and_eq_true, List.all_eq_true, List.mem_range] at h
  obtain ⟨k, hk, rfl⟩ := List.mem_map.mp hw
  exact ix_w_in (h.1.1.1.2 k (List.mem_range.mp hk))
theorem ix_cl_nm {c : Nat} (hc : c < 12) : ∀ a, a < ix_N c → ∀ b, b < ix_N c → a ≠ b → (ix_T c a).2.1 ≠ (ix_T c b).2.1 := by
  intro a ha b hb hab
  have h := ix_cl_ok c (List.mem_range.mpr hc)
  simp only [ix_clok, Bool.and_eq_true, List.all_eq_true, List.mem_range, Bool.or_eq_true, beq_iff_eq, decide_eq_true_eq] at h
  rcases h.1.1.2 a ha b hb with q | q
  · exact absurd q hab
  · exact q
theorem ix_cl_ty {c : Nat} (hc : c < 12) : ∀ k, k < ix_N c → parseFieldDescriptor (ix_T c k).2.2.1 = some (ix_ty c k) ∧ (ix_T c k).1 = ix_on c ∧ (ix_df c).getD k .null = defaultValue (ix_ty c k) := by
  intro k hk
  have h := ix_cl_ok c (List.mem_range.mpr hc)
  simp only [ix_clok, Bool.and_eq_true, List.all_eq_true, List.mem_range, decide_eq_true_eq] at h
  exact ⟨(h.1.2 k hk).1.1, (h.1.2 k hk).1.2, (h.1.2 k hk).2⟩
theorem ix_cl_df {c : Nat} (hc : c < 12) : (ix_df c).length = ix_N c := by
  have h := ix_cl_ok c (List.mem_range.mpr hc)
  simp only [ix_clok, Bool.and_eq_true, decide_eq_true_eq] at h
  exact h.2
theorem ix_cl_w {c : Nat} (hc : c < 12) : Jvm.Cond.instantiable (ix_on c) (ix_N c) ∈ ix_tb ∧ Jvm.Cond.initialized (ix_on c) ∈ ix_tb := by
  have h := ix_cl_ok c (List.mem_range.mpr hc)
  simp only [ix_clok, Bool.and_eq_true] at h
  exact ⟨ix_w_in h.1.1.1.1.1, ix_w_in h.1.1.1.1.2⟩
def ix_kn (U : State) (dC : Nat → ClassId) (dI : Nat → Nat → Nat) : Prop := (∀ c : Nat, c < 12 → u_Kn U (ix_on c) (ix_T c) (ix_N c) (dC c) (dI c)) ∧ va_AO "RouteProofs$Route" U ∧ va_AO "RouteProofs$Board" U
theorem ix_kn.moved {u U : State} {dC : Nat → ClassId} {dI : Nat → Nat → Nat} (hvm : u.vm.Alike U.vm) (h : ix_kn u dC dI) : ix_kn U dC dI := ⟨fun c hc => u_Kn_moved hvm (h.1 c hc), h.2.1.moved hvm, h.2.2.moved hvm⟩
theorem ix_ob_s {h : ixH} {a ci : Nat} {fs : List Value} (q : ix_ob h a ci = some fs) : 3 ≤ a ∧ a < h.1 ∧ h.2.2 a = .inr (ci, fs) := by
  unfold ix_ob at q
  split at q
  next hc =>
    split at q
    next o e =>
      split at q
      next he =>
        cases q
        refine ⟨hc.1, hc.2, ?_⟩
        rw [e, ← he]
      next => cases q
    next => cases q
  next => cases q
theorem ix_ar_s {h : ixH} {a t : Nat} {x : vp_A} (q : ix_ar h a t = some x) : a < h.1 ∧ h.2.2 a = .inl (t, x) := by
  unfold ix_ar at q
  split at q
  next hc =>
    split at q
    next o e =>
      split at q
      next he =>
        cases q
        refine ⟨hc, ?_⟩
        rw [e, ← he]
      next => cases q
    next => cases q
  next => cases q
theorem ix_gf_s {h : ixH} {a ci k kd : Nat} {v : Value} (hk : kd < 4) (q : ix_gf kd h a ci k = some v) : ∃ fs, ix_ob h a ci = some fs ∧ fs[k]? = some v := by
  have key : ∀ {β : Type} (g : List Value → Option β) (y : β), (ix_ob h a ci).bind g = some y → ∃ fs, ix_ob h a ci = some fs ∧ g fs = some y := fun g y e => Option.bind_eq_some_iff.mp e
  rcases (by omega : kd = 0 ∨ kd = 1 ∨ kd = 2 ∨ kd = 3) with rfl | rfl | rfl | rfl
  · obtain ⟨x, h1, rfl⟩ := Option.map_eq_some_iff.mp q
    obtain ⟨fs, e1, e2⟩ := key _ _ h1
    refine ⟨fs, e1, ?_⟩
    split at e2
    · cases e2; assumption
    · cases e2
  · obtain ⟨x, h1, rfl⟩ := Option.map_eq_some_iff.mp q
    obtain ⟨fs, e1, e2⟩ := key _ _ h1
    refine ⟨fs, e1, ?_⟩
    split at e2
    · cases e2; assumption
    · cases e2
  · obtain ⟨x, h1, rfl⟩ := Option.map_eq_some_iff.mp q
    obtain ⟨fs, e1, e2⟩ := key _ _ h1
    refine ⟨fs, e1, ?_⟩
    split at e2
    · cases e2; assumption
    · cases e2
  · obtain ⟨x, h1, rfl⟩ := Option.map_eq_some_iff.mp q
    obtain ⟨fs, e1, e2⟩ := key _ _ h1
    refine ⟨fs, e1, ?_⟩
    split at e2
    · cases e2; assumption
    · cases e2; assumption
    · cases e2
/-- an array's cell, seen weakly: also the script and the bytes -/
theorem ix_hp.arr {U : State} {dC : Nat → ClassId} {dI : Nat → Nat → Nat} {E : Nat × Nat × Nat × Nat} {h : ixH} {H : Heap} (g : ix_hp U dC dI E h H) {a t : Nat} {x : vp_A} (ha : a < h.1) (q : h.2.2 a = .inl (t, x)) :
    ∃ cell : Cell, H[ix_ad E a]? = some cell ∧ U.isArrayOf cell (ix_et t) ∧ cell.vm ≠ .unknown ∧ x.1 ≤ cell.slots.size ∧ cell.slots.size.toInt32 = Int32.ofNat x.1 ∧ ∀ j : Nat, j < x.1 → cell.slots[j]? = some (ix_sh E (ix_val x j)) := by
  obtain ⟨g1, g2, g3, ⟨n, f, g4, g4b, g5⟩, g6, g7, g8, g9, g10⟩ := g
  by_cases h3 : 3 ≤ a
  · have hx := g10 a h3 ha
    rw [q] at hx
    obtain ⟨cA, h1, h2, h4⟩ := hx
    refine ⟨_, h4, h1 _ _, (fun e => by cases e), ?_, ?_, fun j hj => ?_⟩
    · rw [arrV_size]; exact Nat.le_refl _
    · rw [arrV_size]
    · rw [arrV_read _ _ hj]
  · rcases (by omega : a = 0 ∨ a = 1 ∨ a = 2) with rfl | rfl | rfl
    · rw [g4] at q
      cases q
      obtain ⟨scr, e1, e2, e3, e4, e5⟩ := g5
      exact ⟨scr, e1, e2, e3, Nat.le_of_eq e4.symm, by rw [e4], fun j hj => e5 j hj⟩
    · rw [g6] at q; cases q
    · rw [g7] at q
      cases q
      obtain ⟨-, -, -, ⟨cell, e1, e2, e3, e4, e5, e6, -⟩⟩ := g8.1 0 (by decide)
      exact ⟨cell, e1, e2, e3, e4, e5, fun j hj => e6 j hj⟩
theorem ix_in_s {i : Int32} {n m : Nat} (h : ix_in i n = true) (hm : n ≤ m) : ¬ (i < 0 ∨ m ≤ i.toNatClampNeg) ∧ i.toNatClampNeg < n := by
  simp only [ix_in, decide_eq_true_eq] at h
  have h1 : ¬ i < 0 := fun q => h (Or.inl q)
  have h2 : ¬ n ≤ i.toNatClampNeg := fun q => h (Or.inr q)
  exact ⟨fun q => q.elim h1 (fun q => by omega), by omega⟩
section IXR
variable {p : Program} {l : Launch} {e : Env} {R : Room} {s : State} {m : MethodId} {args : Array Value} {below : List Frame} {meth : Method} {c : Code} {H : Heap} {locs : List Loc} {cells slots : Nat} {Q : State → Prop}
set_option maxHeartbeats 4000000 in
set_option maxRecDepth 100000 in
/-- an instruction that reads -/
theorem ix_rd_snd {E : Nat × Nat × Nat × Nat} {dC : Nat → ClassId} {dI : Nat → Nat → Nat} {cc : ByteArray} {ow : Nat} {ini : Bool} {i : Instr} {pc pc' ln : Nat} {aux : List Nat} {z : Int} {st st2 : List Value} {h0 : ixH} {ls : Array Slot}
    (hx : p.tables.exec = Jvm.exec) (hb : c.code = cc) (hown : s.vm.findClass (ix_on ow) = some m.cls) (hts : ∀ w ∈ ix_tb, w.before args s = true) (hK : ix_kn s dC dI) (hR : vk_R "RouteProofs$Pad" 21 ".#sStTmM" E.2.1 s)
    (hok : ix_okf ow ini i aux z = true) (hd : decode cc pc = .ok (i, ln)) (hpc : pc' = pc + ln) (hln : ix_len i = none ∨ ix_len i = some ln)
    (h : ix_rd i aux st h0 = some st2) (hH : ix_hp s dC dI E h0 H)
    (kk : W p l e R s m args below meth c H locs cells slots Q (F0 m pc' ls (st2.map (ix_sh E)))) :
    W p l e R s m args below meth c H locs cells slots Q (F0 m pc ls (st.map (ix_sh E))) := by
  subst hpc
  unfold ix_rd at h
  split at h
  -- getfield
  · obtain rfl : ln = 3 := by simpa [ix_len, eq_comm] using hln
    obtain ⟨a, t, rfl, h2⟩ := ix_p1r_s h
    split at h2
    · obtain ⟨v, h3, rfl⟩ := Option.map_eq_some_iff.mp h2
      rename_i idx ci k kd w
      simp only [ix_okf] at hok
      split at hok
      · rename_i q hq
        simp only [Bool.and_eq_true, decide_eq_true_eq] at hok
        have hf := ix_FT_ok q (List.mem_of_getElem? hq)
        obtain ⟨q1, q2, q3, q4, q5, q6, q7⟩ := q
        obtain ⟨⟨⟨⟨e1, e2⟩, e3⟩, e4⟩, e5⟩ := hok
        dsimp only at e1 e2 e3 e4 e5
        subst e1 e2 e3 e4 e5
        simp only [ix_FTok, Bool.and_eq_true, decide_eq_true_eq, beq_iff_eq, decide_eq_decide] at hf
        obtain ⟨⟨⟨⟨⟨⟨⟨⟨f1, f2⟩, f3⟩, f4⟩, f5⟩, f6⟩, f7⟩, f8⟩, f9⟩ := hf
        have hlink := hts _ (ix_w_in f1)
        by_cases hk4 : q5 < 4
        · have hci : q3 < 12 := by
            have : ¬ q3 = 12 := fun z9 => by have := f4.mpr z9; omega
            omega
          obtain ⟨fs, g1, g2⟩ := ix_gf_s hk4 h3
          obtain ⟨a1, a2, a3⟩ := ix_ob_s g1
          have hex := hH.2.2.2.2.2.2.2.2 a a1 a2
          rw [a3] at hex
          obtain ⟨-, b2, cell, b3, b4, b5, b6⟩ := hex
          obtain ⟨hS, hfc, kC, hkC, hkind⟩ := hK.1 q3 hci
          obtain ⟨cf, kf, fi, f, hi, hsl⟩ := hS q4 f2
          refine W.getf hx hb hown hlink hi (u_facts hfc hkC (u_lays hts (ix_cl_in hci) f2) hi).1 b3 (by rw [b5]; exact fun h => by cases h) (v := ix_sh E v) ?_ rfl rfl hd kk
          rw [hsl, b6 q4 f2]
          simp [vp_V, g2]
        · have h12 : q3 = 12 := f4.mp (by omega)
          subst h12
          obtain ⟨-, s2, s3, -⟩ := hH.2.2.2.2.2.2.1.1 0 (by decide)
          have hk2 : q4 < 2 := f2
          rcases (by omega : q4 = 0 ∨ q4 = 1) with rfl | rfl
          · obtain rfl : q5 = 4 := f8.mpr ⟨rfl, rfl⟩
            simp only [ix_gf] at h3
            split at h3
            next ha =>
              cases h3
              subst ha
              obtain ⟨cf, kf, fi, f, cell, hi, hst, hc1, hc2, hc3, -⟩ := s3
              exact W.getf hx hb hown hlink hi hst hc1 hc2 hc3 rfl rfl hd kk
            next => cases h3
          · obtain rfl : q5 = 5 := f9.mpr ⟨rfl, rfl⟩
            simp only [ix_gf] at h3
            split at h3
            next ha =>
              cases h3
              subst ha
              obtain ⟨cf, kf, fi, f, cell, hi, hst, hc1, hc2, hc3, -⟩ := s2
              exact W.getf hx hb hown hlink hi hst hc1 hc2 hc3 rfl rfl hd kk
            next => cases h3
      · cases hok
    · cases h2
  -- getstatic
  · obtain rfl : ln = 3 := by simpa [ix_len, eq_comm] using hln
    cases h
    simp only [ix_okf, Bool.and_eq_true, decide_eq_true_eq] at hok
    obtain ⟨rfl, rfl⟩ := hok
    obtain ⟨cf, kf, fi, f, a, cell, z1, z2, z3, z4, z5, z6, z7, z8⟩ := hH.2.2.2.2.2.2.2.1
    refine W.gets hx hb hown (hts _ (ix_w_in (pos := ix_pC) (w := .fieldLink "java/lang/String" 38 "java/lang/String" "COMPACT_STRINGS" "Z") (by decide +kernel))) z1 z2 z3 z4 z5 (fun e => by rw [e] at z6; cases z6) z7 rfl hd kk
  -- ldc
  · obtain rfl : ln = 2 := by simpa [ix_len, eq_comm] using hln
    cases h
    simp only [ix_okf, Bool.and_eq_true, decide_eq_true_eq] at hok
    obtain ⟨rfl, rfl⟩ := hok
    exact va_ldcS hx hb hown hR hd kk
  -- iaload
  · obtain rfl : ln = 1 := by simpa [ix_len, eq_comm] using hln
    obtain ⟨a, j, t, rfl, h2⟩ := ix_pri_s h
    obtain ⟨v, h3, rfl⟩ := Option.map_eq_some_iff.mp h2
    obtain ⟨x, h4, h5⟩ := Option.bind_eq_some_iff.mp h3
    obtain ⟨ha, hb2⟩ := ix_ar_s h4
    obtain ⟨cell, c1, c2, c3, c4, c5, c6⟩ := hH.arr ha hb2
    split at h5
    · split at h5
      next hi =>
        cases h5
        obtain ⟨i1, i2⟩ := ix_in_s hi c4
        rename_i f hf
        have e9 := c6 _ i2
        simp only [ix_val, hf] at e9
        exact W.iald hx hb c1 c2 c3 i1 e9 rfl rfl hd kk
      next => cases h5
    · cases h5
  -- laload
  · obtain rfl : ln = 1 := by simpa [ix_len, eq_comm] using hln
    obtain ⟨a, j, t, rfl, h2⟩ := ix_pri_s h
    obtain ⟨v, h3, rfl⟩ := Option.map_eq_some_iff.mp h2
    obtain ⟨x, h4, h5⟩ := Option.bind_eq_some_iff.mp h3
    obtain ⟨ha, hb2⟩ := ix_ar_s h4
    obtain ⟨cell, c1, c2, c3, c4, c5, c6⟩ := hH.arr ha hb2
    split at h5
    · split at h5
      next hi =>
        cases h5
        obtain ⟨i1, i2⟩ := ix_in_s hi c4
        rename_i f hf
        have e9 := c6 _ i2
        simp only [ix_val, hf] at e9
        exact W.lald hx hb c1 c2 c3 i1 e9 rfl rfl hd kk
      next => cases h5
    · cases h5
  -- baload
  · obtain rfl : ln = 1 := by simpa [ix_len, eq_comm] using hln
    obtain ⟨a, j, t, rfl, h2⟩ := ix_pri_s h
    split at h2
    · obtain ⟨v, h3, rfl⟩ := Option.map_eq_some_iff.mp h2
      obtain ⟨x, h4, h5⟩ := Option.bind_eq_some_iff.mp h3
      obtain ⟨ha, hb2⟩ := ix_ar_s h4
      obtain ⟨cell, c1, c2, c3, c4, c5, c6⟩ := hH.arr ha hb2
      split at h5
      · split at h5
        next hi =>
          cases h5
          obtain ⟨i1, i2⟩ := ix_in_s hi c4
          rename_i f hf
          have e9 := c6 _ i2
          simp only [ix_val, hf] at e9
          exact W.zald hx hb c1 c2 c3 i1 e9 rfl rfl hd kk
        next => cases h5
      · cases h5
    · obtain ⟨v, h3, rfl⟩ := Option.map_eq_some_iff.mp h2
      obtain ⟨x, h4, h5⟩ := Option.bind_eq_some_iff.mp h3
      obtain ⟨ha, hb2⟩ := ix_ar_s h4
      obtain ⟨cell, c1, c2, c3, c4, c5, c6⟩ := hH.arr ha hb2
      split at h5
      · split at h5
        next hi =>
          cases h5
          obtain ⟨i1, i2⟩ := ix_in_s hi c4
          rename_i f hf
          have e9 := c6 _ i2
          simp only [ix_val, hf] at e9
          exact W.bald hx hb c1 c2 c3 i1 e9 rfl rfl hd kk
        next => cases h5
      · cases h5
    · cases h2
  -- aaload
  · obtain rfl : ln = 1 := by simpa [ix_len, eq_comm] using hln
    obtain ⟨a, j, t, rfl, h2⟩ := ix_pri_s h
    split at h2
    · obtain ⟨v, h3, rfl⟩ := Option.map_eq_some_iff.mp h2
      unfold ix_aq at h3
      split at h3
      · obtain ⟨x, h4, h5⟩ := Option.bind_eq_some_iff.mp h3
        obtain ⟨ha, hb2⟩ := ix_ar_s h4
        obtain ⟨cell, c1, c2, c3, c4, c5, c6⟩ := hH.arr ha hb2
        rename_i tt _
        simp only [ix_okf, Bool.or_eq_true, decide_eq_true_eq] at hok
        split at h5
        · split at h5
          next hi =>
            obtain ⟨i1, i2⟩ := ix_in_s hi c4
            rename_i f hf
            have e9 := c6 _ i2
            simp only [ix_val, hf, h5, va_rf] at e9
            refine W.aald (ty := ix_et tt) hx hb c1 c2 ?_ c3 i1 e9 rfl rfl hd kk
            rcases hok with rfl | rfl <;> rfl
          next => cases h5
        · cases h5
      · cases h3
    · cases h2
  -- arraylength
  · obtain rfl : ln = 1 := by simpa [ix_len, eq_comm] using hln
    obtain ⟨a, t, rfl, h2⟩ := ix_p1r_s h
    obtain ⟨v, h3, rfl⟩ := Option.map_eq_some_iff.mp h2
    unfold ix_an at h3
    split at h3
    next ha =>
      split at h3
      next x hx2 =>
        cases h3
        obtain ⟨cell, c1, c2, c3, c4, c5, c6⟩ := hH.arr (t := x.1) (x := x.2) ha hx2
        exact W.alen hx hb c1 c2 c5 rfl rfl hd kk
      next => cases h3
    next => cases h3
  · cases h
end IXR
