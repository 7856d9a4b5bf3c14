/-! SOUNDNESS of the run -/
theorem ix_cp_same {h h2 : ixH} {s d : Nat} {sp dp n : Int32} (e : ix_cp h s sp d dp n = some h2) : h2.1 = h.1 ∧ h2.2.1 = h.2.1 := by
  unfold ix_cp at e
  split at e
  · split at e
    · split at e
      · cases e; exact ⟨rfl, rfl⟩
      · cases e
    · split at e
      · cases e; exact ⟨rfl, rfl⟩
      · cases e
    · cases e
  · cases e
theorem ix_pc_same {kd : Nat} {st st2 : List Value} {h h2 : ixH} (e : ix_pc kd st h = some (st2, h2)) : h2.1 = h.1 ∧ h2.2.1 = h.2.1 := by
  unfold ix_pc at e
  split at e
  · split at e
    · split at e
      · obtain ⟨x, e1, e2⟩ := Option.map_eq_some_iff.mp e
        cases e2
        exact ix_cp_same e1
      · cases e
    · cases e
  · split at e
    · split at e
      · cases e; exact ⟨rfl, rfl⟩
      · cases e
    · cases e
  · split at e
    · split at e
      · cases e; exact ⟨rfl, rfl⟩
      · cases e
    · cases e
  · cases e
theorem ix_wr_grow {i : Instr} {aux : List Nat} {st st2 : List Value} {h h2 : ixH} (e : ix_wr i aux st h = some (st2, h2)) : h.1 ≤ h2.1 ∧ h.2.1 ≤ h2.2.1 := by
  unfold ix_wr at e
  split at e
  · split at e
    · split at e
      · split at e
        · obtain ⟨x, e1, e2⟩ := Option.map_eq_some_iff.mp e
          cases e2
          obtain ⟨fs, g1, g2⟩ := Option.bind_eq_some_iff.mp e1
          split at g2
          · cases g2; exact ⟨Nat.le_refl _, Nat.le_refl _⟩
          · cases g2
        · cases e
      · cases e
    · cases e
  · split at e
    · obtain ⟨x, e1, e2⟩ := Option.map_eq_some_iff.mp e
      cases e2
      unfold ix_si at e1
      split at e1
      · obtain ⟨y, g1, g2⟩ := Option.bind_eq_some_iff.mp e1
        split at g2
        · split at g2
          · cases g2; exact ⟨Nat.le_refl _, Nat.le_refl _⟩
          · cases g2
        · cases g2
      · cases e1
    · cases e
  · split at e
    · obtain ⟨x, e1, e2⟩ := Option.map_eq_some_iff.mp e
      cases e2
      unfold ix_sz at e1
      split at e1
      · obtain ⟨y, g1, g2⟩ := Option.bind_eq_some_iff.mp e1
        split at g2
        · split at g2
          · cases g2; exact ⟨Nat.le_refl _, Nat.le_refl _⟩
          · cases g2
        · cases g2
      · cases e1
    · cases e
  · split at e
    · obtain ⟨x, e1, e2⟩ := Option.map_eq_some_iff.mp e
      cases e2
      unfold ix_sl at e1
      split at e1
      · obtain ⟨y, g1, g2⟩ := Option.bind_eq_some_iff.mp e1
        split at g2
        · split at g2
          · cases g2; exact ⟨Nat.le_refl _, Nat.le_refl _⟩
          · cases g2
        · cases g2
      · cases e1
    · cases e
  · split at e
    · split at e
      · obtain ⟨x, e1, e2⟩ := Option.map_eq_some_iff.mp e
        cases e2
        unfold ix_sq at e1
        split at e1
        · obtain ⟨y, g1, g2⟩ := Option.bind_eq_some_iff.mp e1
          split at g2
          · split at g2
            · cases g2; exact ⟨Nat.le_refl _, Nat.le_refl _⟩
            · cases g2
          · cases g2
        · cases e1
      · cases e
    · cases e
  · split at e
    · cases e; exact ⟨Nat.le_add_right _ _, Nat.le_add_right _ _⟩
    · cases e
  · obtain ⟨n, t, rfl, h2⟩ := ix_p1i_s e
    obtain ⟨x, h3, h4⟩ := Option.bind_eq_some_iff.mp h2
    split at h4
    · cases h4; exact ⟨Nat.le_add_right _ _, Nat.le_add_right _ _⟩
    · cases h4
  · obtain ⟨n, t, rfl, h2⟩ := ix_p1i_s e
    split at h2
    · split at h2
      · cases h2; exact ⟨Nat.le_add_right _ _, Nat.le_add_right _ _⟩
      · cases h2
    · cases h2
  · cases e
theorem ix_stp_grow {mi pc : Nat} {L : ixL} {st : List Value} {h : ixH} {x : Nat × ixL × List Value × ixH} (e : ix_stp mi pc L st h = some (.inl x)) : h.1 ≤ x.2.2.2.1 ∧ h.2.1 ≤ x.2.2.2.2.1 := by
  unfold ix_stp at e
  split at e
  · split at e
    · obtain ⟨y, e1, e2⟩ := Option.map_eq_some_iff.mp e
      cases e2; exact ⟨Nat.le_refl _, Nat.le_refl _⟩
    · obtain ⟨y, e1, e2⟩ := Option.map_eq_some_iff.mp e
      cases e2; exact ⟨Nat.le_refl _, Nat.le_refl _⟩
    · obtain ⟨y, e1, e2⟩ := Option.map_eq_some_iff.mp e
      cases e2; exact ix_wr_grow e1
    · split at e
      · split at e
        · split at e
          · cases e; exact ⟨Nat.le_refl _, Nat.le_refl _⟩
          · cases e
        · cases e
      · obtain ⟨r, e1, e2⟩ := Option.bind_eq_some_iff.mp e
        obtain ⟨y, e3, e4⟩ := Option.map_eq_some_iff.mp e2
        cases e4
      · cases e
    · obtain ⟨y, e1, e2⟩ := Option.map_eq_some_iff.mp e
      cases e2
    · split at e
      · obtain ⟨y, e1, e2⟩ := Option.map_eq_some_iff.mp e
        cases e2
        obtain ⟨g1, g2⟩ := ix_pc_same e1
        exact ⟨Nat.le_of_eq g1.symm, Nat.le_of_eq g2.symm⟩
      · cases e
    · cases e
  · cases e
theorem ix_stp_ret {mi pc : Nat} {L : ixL} {st rs : List Value} {h h' : ixH} (e : ix_stp mi pc L st h = some (.inr (.inl (rs, h')))) : h' = h := by
  unfold ix_stp at e
  split at e
  · split at e
    · obtain ⟨y, e1, e2⟩ := Option.map_eq_some_iff.mp e
      cases e2
    · obtain ⟨y, e1, e2⟩ := Option.map_eq_some_iff.mp e
      cases e2
    · obtain ⟨y, e1, e2⟩ := Option.map_eq_some_iff.mp e
      cases e2
    · split at e
      · split at e
        · split at e
          · cases e
          · cases e
        · cases e
      · obtain ⟨r, e1, e2⟩ := Option.bind_eq_some_iff.mp e
        obtain ⟨y, e3, e4⟩ := Option.map_eq_some_iff.mp e2
        cases e4
      · cases e
    · obtain ⟨y, e1, e2⟩ := Option.map_eq_some_iff.mp e
      cases e2; rfl
    · split at e
      · obtain ⟨y, e1, e2⟩ := Option.map_eq_some_iff.mp e
        cases e2
      · cases e
    · cases e
  · cases e
theorem ix_run_grow : ∀ (n : Nat) {mi pc : Nat} {L : ixL} {st rs : List Value} {h h' : ixH}, ix_run n mi pc L st h = some (rs, h') → h.1 ≤ h'.1 ∧ h.2.1 ≤ h'.2.1
  | 0, _, _, _, _, _, _, _, e => by cases e
  | n + 1, mi, pc, L, st, rs, h, h', e => by
    rw [ix_run] at e
    cases hs : ix_stp mi pc L st h with
    | none => rw [hs] at e; cases e
    | some x =>
      rw [hs] at e
      rcases x with x | x | y
      · have h1 := ix_stp_grow hs
        have h2 := ix_run_grow n e
        exact ⟨Nat.le_trans h1.1 h2.1, Nat.le_trans h1.2 h2.2⟩
      · cases e
        have h1 := ix_stp_ret hs
        rw [h1]
        exact ⟨Nat.le_refl _, Nat.le_refl _⟩
      · dsimp only at e
        obtain ⟨L0, h1, h2⟩ := Option.bind_eq_some_iff.mp e
        obtain ⟨⟨r0, r1⟩, h3, h4⟩ := Option.bind_eq_some_iff.mp h2
        split at h4
        · have g1 := ix_run_grow n h3
          have g2 := ix_run_grow n h4
          exact ⟨Nat.le_trans g1.1 g2.1, Nat.le_trans g1.2 g2.2⟩
        · cases h4
def ix_cx (p : Program) (R : Room) (s : State) (m : MethodId) (args : Array Value) (meth : Method) (c : Code) (dC : Nat → ClassId) (dI : Nat → Nat → Nat) (E : Nat × Nat × Nat × Nat) (q : ixM) : Prop :=
  p.tables.exec = Jvm.exec ∧ c.code = q.2.1 ∧ meth.sig.returnType = q.2.2.2.1 ∧ c.maxLocals = q.2.2.1 ∧ s.vm.findClass (ix_on q.2.2.2.2.1) = some m.cls ∧ (∀ w ∈ ix_tb, w.before args s = true) ∧ meth.locks = false ∧ (ix_ini q = true → meth.name = "<init>") ∧ ix_kn s dC dI ∧ vk_R "RouteProofs$Pad" 21 ".#sStTmM" E.2.1 s ∧ (∀ w ∈ ix_nest, va_Nw w s) ∧ q.2.2.2.2.2.2.2.2.1 ≤ R.frames ∧ q.2.2.2.2.2.2.2.2.2.1 ≤ R.locals
theorem ix_good : GoodIn ix_tb ix_tb := fun w h => ⟨h, good_of_word (List.mem_filter.mp h).2⟩
theorem ix_goodc {w : Jvm.Cond} (h : w ∈ ix_tb) : GoodIn ix_tb (w :: ix_tb) := fun v hv => (List.mem_cons.mp hv).elim (fun e => by subst e; exact ix_good _ h) (ix_good v)
/-- the tables of the native and of Math -/
theorem ix_natW : Jvm.Cond.native arraycopyName ∈ ix_tb ∧ Jvm.Cond.static arraycopyName ∈ ix_tb ∧ Jvm.Cond.initialized "java/lang/System" ∈ ix_tb := by
  exact ⟨ix_w_in (pos := ix_pNat) (by decide +kernel), ix_w_in (pos := ix_pNatS) (by decide +kernel), ix_w_in (pos := ix_pNatI) (by decide +kernel)⟩
theorem ix_objW : Jvm.Cond.instanceMethod objectInit ∈ ix_tb ∧ Jvm.Cond.code objectInit ⟨#[0xb1]⟩ 1 none ∈ ix_tb := by
  exact ⟨ix_w_in (pos := ix_pObj) (by decide +kernel), ix_w_in (pos := ix_pObjC) (by decide +kernel)⟩
theorem ix_maxW : Jvm.Cond.static Lib.Math.max.name ∈ ix_tb ∧ Jvm.Cond.code Lib.Math.max.name Lib.Math.max.code 2 (some .int) ∈ ix_tb ∧ Jvm.Cond.static Lib.Math.min.name ∈ ix_tb ∧ Jvm.Cond.code Lib.Math.min.name Lib.Math.min.code 2 (some .int) ∈ ix_tb := by
  exact ⟨ix_w_in (pos := ix_pMaxS) (by decide +kernel), ix_w_in (pos := ix_pMaxC) (by decide +kernel), ix_w_in (pos := ix_pMinS) (by decide +kernel), ix_w_in (pos := ix_pMinC) (by decide +kernel)⟩
theorem ix_iniW {c : Nat} (hc : c < 18) : Jvm.Cond.initialized (ix_on c) ∈ ix_tb := ix_w_in (ix_ini_ok c (List.mem_range.mpr hc))
