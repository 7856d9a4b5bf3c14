/-- what a contract asks of the start -/
def ix_Pc (dC : Nat → ClassId) (dI : Nat → Nat → Nat) (E : Nat × Nat × Nat × Nat) (as : List Value) (h : ixH) : Array Value → State → Prop := fun v U => v = (as.map (ix_sh E)).toArray ∧ ix_hp U dC dI E h U.heap ∧ ix_kn U dC dI ∧ vk_R "RouteProofs$Pad" 21 ".#sStTmM" E.2.1 U ∧ ∀ w ∈ ix_nest, va_Nw w U
def ix_Qc (dC : Nat → ClassId) (dI : Nat → Nat → Nat) (E : Nat × Nat × Nat × Nat) (rs : List Value) (h1 : ixH) : Array Value → State → Outcome → State → Prop := fun _ _ o t => o = .returned ((rs.map (ix_sh E)).head?) ∧ ix_hp t dC dI E h1 t.heap
theorem ix_nest_form {w : Jvm.Cond} (h : w ∈ ix_nest) : ∃ a i x hs, w = .methodLinkNest a i x hs := by
  have h2 := (List.mem_filter.mp h).2
  unfold ix_isN at h2
  split at h2
  · exact ⟨_, _, _, _, rfl⟩
  · cases h2
theorem ix_Pc_blind {dC : Nat → ClassId} {dI : Nat → Nat → Nat} {E : Nat × Nat × Nat × Nat} {as : List Value} {h : ixH} : FrameBlind (ix_Pc dC dI E as h) := by
  intro a U g mk hp
  obtain ⟨h1, h2, h3, h4, h5⟩ := hp
  refine ⟨h1, ix_hp.moved (u := U) (U := U.calling g mk a) (Vm.Alike.refl U.vm) h2, ix_kn.moved (u := U) (U := U.calling g mk a) (Vm.Alike.refl U.vm) h3, vk_R.same (u := U) (U := U.calling g mk a) rfl h4, fun w hw => ?_⟩
  obtain ⟨a0, i0, x0, hs0, rfl⟩ := ix_nest_form hw
  exact va_Nw.same (u := U) (U := U.calling g mk a) rfl rfl (h5 _ hw)
/-- the soundness of runs of at most n steps -/
def ix_Snd (n : Nat) : Prop := ∀ {mi pc : Nat} {L : ixL} {st rs : List Value} {h h' : ixH}, ix_run n mi pc L st h = some (rs, h') →
  ∀ {p : Program} {l : Launch} {e : Env} {R : Room} {s : State} {m : MethodId} {args : Array Value} {below : List Frame} {meth : Method} {c : Code} {Q : State → Prop} {dC : Nat → ClassId} {dI : Nat → Nat → Nat} {E : Nat × Nat × Nat × Nat} {q : ixM}, ix_mt[mi]? = some q → ix_cx p R s m args meth c dC dI E q →
  ∀ {H : Heap} {locs : List Loc} {cells slots : Nat} {ls : Array Slot}, ix_hp s dC dI E h H → ix_lo E ls q.2.2.1 L → (∀ x ∈ locs, E.2.2.2 ≤ x.base) → cells + (h'.1 - h.1) ≤ R.cells → slots + (h'.2.1 - h.2.1) ≤ R.slots →
  (∀ (pcR : Nat) (i : Instr) (lsR : Array Slot) (H2 : Heap) (locs2 : List Loc), decode q.2.1 pcR = .ok (i, 1) → ix_rt q.2.2.2.1 i rs = some rs → ix_hp s dC dI E h' H2 → (∀ x ∈ locs2, E.2.2.2 ≤ x.base) → W p l e R s m args below meth c H2 locs2 (cells + (h'.1 - h.1)) (slots + (h'.2.1 - h.2.1)) Q (F0 m pcR lsR (rs.map (ix_sh E)))) →
  W p l e R s m args below meth c H locs cells slots Q (F0 m pc ls (st.map (ix_sh E)))
/-- locals at the entry -/
theorem ix_al0_len (E : Nat × Nat × Nat × Nat) : ∀ vs : List Value, (lg_sl (vs.map (ix_sh E))).length = (ix_al0 vs).length
  | [] => rfl
  | v :: vs => by
    have ih := ix_al0_len E vs
    unfold lg_sl at ih ⊢
    cases v <;> simp_all [ix_al0, ix_sh, Value.category]
theorem ix_al0_at (E : Nat × Nat × Nat × Nat) : ∀ (vs : List Value) (k j : Nat) (w : Value), (ix_al0 vs)[j]? = some (some w) → (k + j, ix_sh E w) ∈ lv_args k (vs.map (ix_sh E))
  | [], k, j, w, h => by simp [ix_al0] at h
  | v :: vs, k, j, w, h => by
    have two : ∀ (u : Value), u.category = 2 → ix_al0 (u :: vs) = some u :: none :: ix_al0 vs → (ix_al0 (u :: vs))[j]? = some (some w) → (k + j, ix_sh E w) ∈ lv_args k ((u :: vs).map (ix_sh E)) := by
      intro u hu he hj
      rw [he] at hj
      simp only [List.map_cons, lv_args, ix_sh_cat, hu, if_true]
      match j, hj with
      | 0, hj => simp at hj; subst hj; exact List.mem_cons_self
      | 1, hj => simp at hj
      | j + 2, hj =>
        simp only [List.getElem?_cons_succ] at hj
        have := ix_al0_at E vs (k + 2) j w hj
        rw [show k + (j + 2) = k + 2 + j by omega]
        exact List.mem_cons_of_mem _ this
    have one : ∀ (u : Value), ¬ u.category = 2 → ix_al0 (u :: vs) = some u :: ix_al0 vs → (ix_al0 (u :: vs))[j]? = some (some w) → (k + j, ix_sh E w) ∈ lv_args k ((u :: vs).map (ix_sh E)) := by
      intro u hu he hj
      rw [he] at hj
      simp only [List.map_cons, lv_args, ix_sh_cat, hu, if_false]
      match j, hj with
      | 0, hj => simp at hj; subst hj; exact List.mem_cons_self
      | j + 1, hj =>
        simp only [List.getElem?_cons_succ] at hj
        have := ix_al0_at E vs (k + 1) j w hj
        rw [show k + (j + 1) = k + 1 + j by omega]
        exact List.mem_cons_of_mem _ this
    cases v with
    | int x => exact one _ (fun z => by cases z) rfl h
    | long x => exact two _ rfl rfl h
    | float x => exact one _ (fun z => by cases z) rfl h
    | double x => exact two _ rfl rfl h
    | null => exact one _ (fun z => by cases z) rfl h
    | ref x => exact one _ (fun z => by cases z) rfl h
    | retAddr x => exact one _ (fun z => by cases z) rfl h
theorem ix_pad_len : ∀ (n : Nat) (L : ixL), L.length ≤ n → (ix_pad n L).length = n
  | 0, L, h => by simpa [ix_pad] using h
  | n + 1, [], h => by simp [ix_pad, ix_pad_len n [] (Nat.zero_le _)]
  | n + 1, o :: L, h => by simp [ix_pad, ix_pad_len n L (by simpa using h)]
theorem ix_pad_at : ∀ (n : Nat) (L : ixL) (j : Nat) (w : Value), (ix_pad n L)[j]? = some (some w) → L[j]? = some (some w)
  | 0, L, j, w, h => h
  | n + 1, [], 0, w, h => by simp [ix_pad] at h
  | n + 1, [], j + 1, w, h => by
    simp only [ix_pad, List.getElem?_cons_succ] at h
    have := ix_pad_at n [] j w h
    simp at this
  | n + 1, o :: L, 0, w, h => by simpa [ix_pad] using h
  | n + 1, o :: L, j + 1, w, h => by
    simp only [ix_pad, List.getElem?_cons_succ] at h ⊢
    exact ix_pad_at n L j w h
set_option maxHeartbeats 4000000 in
set_option maxRecDepth 100000 in
/-- a method's contract out of its run -/
theorem ix_met {n : Nat} (IH : ix_Snd n) {mj : Nat} {r : ixM} (hr : ix_mt[mj]? = some r) (hok : ix_mok r = true) {as rs : List Value} {h h1 : ixH} {L0 : ixL} (hent : ix_ent mj as h = some L0) (hrun : ix_run n mj 0 L0 [] h = some (rs, h1)) (l : Launch) (dC : Nat → ClassId) (dI : Nat → Nat → Nat) (E : Nat × Nat × Nat × Nat) :
    Met l r.1 (.code r.1 r.2.1 r.2.2.1 r.2.2.2.1 :: ix_tb) { frames := r.2.2.2.2.2.2.2.2.1, cells := h1.1 - h.1, slots := h1.2.1 - h.2.1, locals := r.2.2.2.2.2.2.2.2.2.1 } (ix_Pc dC dI E as h) (ix_Qc dC dI E rs h1) (h1.1 - h.1) (h1.2.1 - h.2.1) (fun q => E.2.2.2 ≤ q) := by
  simp only [ix_mok, Bool.and_eq_true, decide_eq_true_eq] at hok
  obtain ⟨⟨⟨⟨⟨⟨k1, k2⟩, k3⟩, k4⟩, k5⟩, k6⟩, k7⟩ := hok
  unfold ix_ent at hent
  rw [hr] at hent
  simp only [Option.bind_some] at hent
  split at hent
  · rename_i hcond
    simp only [Bool.and_eq_true, decide_eq_true_eq] at hcond
    cases hent
    refine Met.ofW (cc := r.2.1) (maxL := r.2.2.1) (ret := r.2.2.2.1) k2 rfl ?_
    intro p e s m args below meth c s₁ B hml hv
    obtain ⟨rfl, hh, hkn, hvk, hnw⟩ := hv
    have hts := atoms_spec (ws := .code r.1 r.2.1 r.2.2.1 r.2.2.2.1 :: ix_tb) B.pre
    have hown : s.vm.findClass r.1.cls = some m.cls := findClass_of_methodNamed B.named
    have hlocks := B.notSynchronized
    have hle : (lg_sl (as.map (ix_sh E))).length ≤ r.2.2.1 := by rw [ix_al0_len]; exact hcond.2
    have hl := lv_entry (as.map (ix_sh E)) (n := r.2.2.1) hle
    rw [lg_entry_eq]
    refine IH (cells := 0) (slots := 0) (locs := []) (st := []) hrun hr ⟨B.exec, B.bytes, B.returns, hml, by rw [k5]; exact hown, fun w hw => hts w (List.mem_cons_of_mem _ hw), hlocks, fun hi => ?_, hkn, hvk, hnw, Nat.le_refl _, Nat.le_refl _⟩ hh ⟨ix_pad_len _ _ hcond.2, _, hl, fun j w hj => ?_⟩ (fun x hx => by cases hx) (by show 0 + _ ≤ h1.1 - h.1; omega) (by show 0 + _ ≤ h1.2.1 - h.2.1; omega) (fun pcR i lsR H2 locs2 q1 q2 q3 q4 => ?_)
    · have h9 := (name_of_methodNamed B.named B.method).1
      rw [h9]
      exact of_decide_eq_true hi
    · have h9 := ix_al0_at E as 0 j w (ix_pad_at _ _ j w hj)
      rwa [Nat.zero_add] at h9
    · rw [Nat.zero_add, Nat.zero_add]
      have hq : ∀ (t : State), t.heap = H2 → s.WarmedH t.vm → ix_Qc dC dI E rs h1 (as.map (ix_sh E)).toArray s (.returned ((rs.map (ix_sh E)).head?)) t := by
        intro t ht hw
        refine ⟨rfl, ?_⟩
        rw [ht]
        exact q3.moved hw.alike
      unfold ix_rt at q2
      split at q2
      · split at q2
        · rename_i ty v hret
          split at q2
          · rename_i hnar
            exact W.zret B.exec B.bytes (B.returns.trans hret) hnar hq q4 q1
          · cases q2
        · cases q2
      · split at q2
        · rename_i v hret
          exact W.lret B.exec B.bytes (B.returns.trans hret) hq q4 q1
        · cases q2
      · split at q2
        · rename_i hret
          exact W.vret B.exec B.bytes (B.returns.trans hret) hq q4 q1
        · cases q2
      · cases q2
  · cases hent
