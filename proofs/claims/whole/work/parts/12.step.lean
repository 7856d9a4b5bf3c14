/-! THE STEP and the run -/
def ix_lk : List (Nat × ixE) → Nat → Option ixE
  | [], _ => none
  | (q, e) :: l, pc => if q = pc then some e else ix_lk l pc
def ix_nx (mi pc : Nat) : Option ixE := ix_lk (ix_cd.getD mi []) pc
theorem ix_lk_mem : ∀ (l : List (Nat × ixE)) (pc : Nat) (e : ixE), ix_lk l pc = some e → (pc, e) ∈ l
  | [], _, _, h => by cases h
  | (q, e0) :: l, pc, e, h => by
    unfold ix_lk at h
    split at h
    next he => cases h; subst he; exact List.mem_cons_self
    next => exact List.mem_cons_of_mem _ (ix_lk_mem l pc e h)
/-- the answer of a method -/
def ix_rt (ret : Option FieldType) (i : Instr) (st : List Value) : Option (List Value) := match i with
  | .ireturn => (match ret, st with
    | some ty, [.int v] => if narrow ty (.int v) = .int v then some [.int v] else none
    | _, _ => none)
  | .lreturn => (match ret, st with
    | some .long, [.long v] => some [.long v]
    | _, _ => none)
  | .return_ => (match ret, st with
    | none, [] => some []
    | _, _ => none)
  | _ => none
def ix_okr (rk : Nat) (rs : List Value) : Bool := match rk, rs with
  | 0, [] => true
  | 1, [.int _] => true
  | 2, [.long _] => true
  | 3, [.int x] => decide (x = 0 ∨ x = 1)
  | 4, [.int _] => true
  | _, _ => false
/-- the locals with which a method begins -/
def ix_al0 : List Value → ixL
  | [] => []
  | .long x :: vs => some (.long x) :: none :: ix_al0 vs
  | .double x :: vs => some (.double x) :: none :: ix_al0 vs
  | .int x :: vs => some (.int x) :: ix_al0 vs
  | .float x :: vs => some (.float x) :: ix_al0 vs
  | .null :: vs => some .null :: ix_al0 vs
  | .ref x :: vs => some (.ref x) :: ix_al0 vs
  | .retAddr x :: vs => some (.retAddr x) :: ix_al0 vs
def ix_pad : Nat → ixL → ixL
  | 0, L => L
  | n + 1, [] => none :: ix_pad n []
  | n + 1, o :: L => o :: ix_pad n L
/-- a method begins: its receiver is of its class, its arguments fit -/
def ix_rok (q : ixM) (as : List Value) (h : ixH) : Bool := match q.2.2.2.2.2.2.2.1 with
  | 0 => decide (as.length = q.2.2.2.2.2.2.1)
  | 1 => (match as with
    | .ref a :: t => decide (ix_rc h a = some q.2.2.2.2.1) && decide (t.length = q.2.2.2.2.2.2.1)
    | _ => false)
  | _ => (match as with
    | .ref _ :: t => decide (t.length = q.2.2.2.2.2.2.1)
    | _ => false)
/-- a call: how many it takes, room -/
def ix_can (q r : ixM) (kd : Nat) (st : List Value) : Option (List Value × List Value) :=
  if ((if kd = 1 ∨ kd = 3 then r.2.2.2.2.2.2.1 else r.2.2.2.2.2.2.1 + 1) ≤ st.length) ∧ ((st.drop (if kd = 1 ∨ kd = 3 then r.2.2.2.2.2.2.1 else r.2.2.2.2.2.2.1 + 1)).map fun v => v.category).sum ≤ 8 ∧ r.2.2.2.2.2.2.2.2.1 + 1 ≤ q.2.2.2.2.2.2.2.2.1 ∧ 8 + (r.2.2.1 + 11) + r.2.2.2.2.2.2.2.2.2.1 ≤ q.2.2.2.2.2.2.2.2.2.1
  then some ((st.take (if kd = 1 ∨ kd = 3 then r.2.2.2.2.2.2.1 else r.2.2.2.2.2.2.1 + 1)).reverse, st.drop (if kd = 1 ∨ kd = 3 then r.2.2.2.2.2.2.1 else r.2.2.2.2.2.2.1 + 1)) else none
abbrev ixS : Type := (Nat × ixL × List Value × ixH) ⊕ ((List Value × ixH) ⊕ (Nat × List Value × Nat × ixL × List Value))
def ix_stp (mi pc : Nat) (L : ixL) (st : List Value) (h : ixH) : Option ixS := match ix_nx mi pc, ix_mt[mi]? with
  | some (kc, i, pc', k, aux, z), some q => (match kc with
    | 0 => (ix_px i pc pc' z (ix_mk k L) st).map fun x => .inl (x.1, x.2.1, x.2.2, h)
    | 1 => (ix_rd i aux st h).map fun x => .inl (pc', ix_mk k L, x, h)
    | 2 => (ix_wr i aux st h).map fun x => .inl (pc', ix_mk k L, x.1, x.2)
    | 3 => (match aux with
      | [6, _, _] => (match st with
        | .ref _ :: st => if (st.map fun v => v.category).sum ≤ 8 then some (.inl (pc', ix_mk k L, st, h)) else none
        | _ => none)
      | [kd, mj, _] => (ix_mt[mj]?).bind fun r => (ix_can q r kd st).map fun x => .inr (.inr (mj, x.1, pc', ix_mk k L, x.2))
      | _ => none)
    | 4 => (ix_rt q.2.2.2.1 i st).map fun x => .inr (.inl (x, h))
    | 5 => (match aux with
      | [kd, _] => (ix_pc kd st h).map fun x => .inl (pc', ix_mk k L, x.1, x.2)
      | _ => none)
    | _ => none)
  | _, _ => none
/-- a method's beginning -/
def ix_ent (mj : Nat) (as : List Value) (h : ixH) : Option ixL := (ix_mt[mj]?).bind fun r => if ix_rok r as h && decide ((ix_al0 as).length ≤ r.2.2.1) then some (ix_pad r.2.2.1 (ix_al0 as)) else none
def ix_rk (mj : Nat) : Nat := ((ix_mt[mj]?).map fun r => r.2.2.2.2.2.1).getD 0
def ix_run : Nat → Nat → Nat → ixL → List Value → ixH → Option (List Value × ixH)
  | 0, _, _, _, _, _ => none
  | n + 1, mi, pc, L, st, h => match ix_stp mi pc L st h with
    | none => none
    | some (.inl x) => ix_run n mi x.1 x.2.1 x.2.2.1 x.2.2.2
    | some (.inr (.inl r)) => some r
    | some (.inr (.inr y)) => (ix_ent y.1 y.2.1 h).bind fun L0 => (ix_run n y.1 0 L0 [] h).bind fun r => if ix_okr (ix_rk y.1) r.1 then ix_run n mi y.2.2.1 y.2.2.2.1 (r.1 ++ y.2.2.2.2) r.2 else none
theorem ix_run_mono : ∀ (n : Nat) (mi pc : Nat) (L : ixL) (st : List Value) (h : ixH) (r : List Value × ixH), ix_run n mi pc L st h = some r → ix_run (n + 1) mi pc L st h = some r
  | 0, _, _, _, _, _, _, e => by cases e
  | n + 1, mi, pc, L, st, h, r, e => by
    rw [ix_run] at e ⊢
    cases hs : ix_stp mi pc L st h with
    | none => rw [hs] at e; cases e
    | some x =>
      rw [hs] at e
      rcases x with x | x | y
      · exact ix_run_mono n _ _ _ _ _ _ e
      · exact e
      · dsimp only at e ⊢
        obtain ⟨L0, h1, h2⟩ := Option.bind_eq_some_iff.mp e
        obtain ⟨r0, h3, h4⟩ := Option.bind_eq_some_iff.mp h2
        rw [h1]
        show (ix_run (n + 1) y.1 0 L0 [] h).bind _ = _
        rw [ix_run_mono n _ _ _ _ _ _ h3]
        show (if _ then _ else _) = _
        split at h4
        next hc => rw [if_pos hc]; exact ix_run_mono n _ _ _ _ _ _ h4
        next => cases h4
theorem ix_run_le {n k : Nat} {mi pc : Nat} {L : ixL} {st : List Value} {h : ixH} {r : List Value × ixH} (hk : n ≤ k) (e : ix_run n mi pc L st h = some r) : ix_run k mi pc L st h = some r := by
  induction hk with
  | refl => exact e
  | step _ ih => exact ix_run_mono _ _ _ _ _ _ _ ih
/-- the limit of the run -/
noncomputable def ix_D (mi pc : Nat) (L : ixL) (st : List Value) (h : ixH) : Option (List Value × ixH) :=
  @dite _ (∃ r, ∃ n, ix_run n mi pc L st h = some r) (Classical.propDecidable _) (fun hx => some (Classical.choose hx)) (fun _ => none)
theorem ix_D_iff {mi pc : Nat} {L : ixL} {st : List Value} {h : ixH} {r : List Value × ixH} : ix_D mi pc L st h = some r ↔ ∃ n, ix_run n mi pc L st h = some r := by
  unfold ix_D
  by_cases hx : ∃ r, ∃ n, ix_run n mi pc L st h = some r
  · rw [dif_pos hx]
    obtain ⟨n, hn⟩ := Classical.choose_spec hx
    constructor
    · intro e
      cases e
      exact ⟨n, hn⟩
    · rintro ⟨k, hk⟩
      have h1 := ix_run_le (Nat.le_max_left n k) hn
      have h2 := ix_run_le (Nat.le_max_right n k) hk
      rw [h1] at h2
      exact h2
  · rw [dif_neg hx]
    constructor
    · intro e; cases e
    · rintro ⟨k, hk⟩
      exact absurd ⟨r, k, hk⟩ hx
/-- a method's answer, and the heap behind it -/
noncomputable def ix_M (mj : Nat) (as : List Value) (h : ixH) : Option (List Value × ixH) := (ix_ent mj as h).bind fun L0 => (ix_D mj 0 L0 [] h).bind fun r => if ix_okr (ix_rk mj) r.1 then some r else none
theorem ix_D_eq (mi pc : Nat) (L : ixL) (st : List Value) (h : ixH) : ix_D mi pc L st h = (match ix_stp mi pc L st h with
    | none => none
    | some (.inl x) => ix_D mi x.1 x.2.1 x.2.2.1 x.2.2.2
    | some (.inr (.inl r)) => some r
    | some (.inr (.inr y)) => (ix_M y.1 y.2.1 h).bind fun r => ix_D mi y.2.2.1 y.2.2.2.1 (r.1 ++ y.2.2.2.2) r.2) := by
  apply Option.ext
  intro r
  rw [ix_D_iff]
  cases hs : ix_stp mi pc L st h with
  | none =>
    constructor
    · rintro ⟨n, e⟩
      cases n with
      | zero => cases e
      | succ n => rw [ix_run, hs] at e; cases e
    · intro e; cases e
  | some x =>
    rcases x with x | x | y
    · dsimp only
      rw [ix_D_iff]
      constructor
      · rintro ⟨n, e⟩
        cases n with
        | zero => cases e
        | succ n => rw [ix_run, hs] at e; exact ⟨n, e⟩
      · rintro ⟨n, e⟩
        exact ⟨n + 1, by rw [ix_run, hs]; exact e⟩
    · dsimp only
      constructor
      · rintro ⟨n, e⟩
        cases n with
        | zero => cases e
        | succ n => rw [ix_run, hs] at e; exact e
      · intro e
        exact ⟨1, by rw [ix_run, hs]; exact e⟩
    · dsimp only
      constructor
      · rintro ⟨n, e⟩
        cases n with
        | zero => cases e
        | succ n =>
          rw [ix_run, hs] at e
          dsimp only at e
          obtain ⟨L0, h1, h2⟩ := Option.bind_eq_some_iff.mp e
          obtain ⟨r0, h3, h4⟩ := Option.bind_eq_some_iff.mp h2
          split at h4
          next hc =>
            refine Option.bind_eq_some_iff.mpr ⟨r0, ?_, ix_D_iff.mpr ⟨n, h4⟩⟩
            unfold ix_M
            rw [h1]
            show (ix_D _ _ _ _ _).bind _ = _
            rw [ix_D_iff.mpr ⟨n, h3⟩]
            exact if_pos hc
          next => cases h4
      · intro e
        obtain ⟨r0, h1, h2⟩ := Option.bind_eq_some_iff.mp e
        unfold ix_M at h1
        obtain ⟨L0, h3, h4⟩ := Option.bind_eq_some_iff.mp h1
        obtain ⟨r1, h5, h6⟩ := Option.bind_eq_some_iff.mp h4
        split at h6
        next hc =>
          cases h6
          obtain ⟨n1, h5⟩ := ix_D_iff.mp h5
          obtain ⟨n2, h2⟩ := ix_D_iff.mp h2
          refine ⟨max n1 n2 + 1, ?_⟩
          rw [ix_run, hs]
          dsimp only
          rw [h3]
          show (ix_run _ _ _ _ _ _).bind _ = _
          rw [ix_run_le (Nat.le_max_left n1 n2) h5]
          show (if _ then _ else _) = _
          rw [if_pos hc]
          exact ix_run_le (Nat.le_max_right n1 n2) h2
        next => cases h6
