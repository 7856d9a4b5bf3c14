/-! PRINTED by wip/whole/gen5.py: the unfolding rows of the limit -/
def ix_bi (b : Bool) : Int32 := match b with
  | true => 1
  | false => 0
theorem ix_bi0 (b : Bool) : (ix_bi b = 0) ↔ b = false := by cases b <;> decide
theorem ix_bi1 (b : Bool) : (ix_bi b = 1) ↔ b = true := by cases b <;> decide
theorem ix_biN (b : Bool) : narrow .boolean (.int (ix_bi b)) = .int (ix_bi b) := by cases b <;> rfl
theorem ix_biA (b : Bool) : ix_bi b &&& 1 = ix_bi b := by cases b <;> decide
/-- how a call's answer goes on -/
def ix_kI {β : Type} (r : List Value × ixH) (k : Int32 → ixH → Option β) : Option β := match r with
  | ([.int x], h) => k x h
  | _ => none
def ix_kL {β : Type} (r : List Value × ixH) (k : Int64 → ixH → Option β) : Option β := match r with
  | ([.long x], h) => k x h
  | _ => none
def ix_kZ {β : Type} (r : List Value × ixH) (k : Bool → ixH → Option β) : Option β := match r with
  | ([.int x], h) => if x = 1 then k true h else if x = 0 then k false h else none
  | _ => none
def ix_kV {β : Type} (r : List Value × ixH) (k : ixH → Option β) : Option β := match r with
  | ([], h) => k h
  | _ => none
theorem ix_kZb {β : Type} (b : Bool) (h : ixH) (k : Bool → ixH → Option β) : ix_kZ ([.int (ix_bi b)], h) k = k b h := by cases b <;> rfl
def ix_zr (x : Int32) (h : ixH) : Option (List Value × ixH) := if narrow .boolean (.int x) = .int x then some ([.int x], h) else none
theorem ix_zrb (b : Bool) (h : ixH) : ix_zr (ix_bi b) h = some ([.int (ix_bi b)], h) := if_pos (ix_biN b)
theorem ix_bc {α β : Type} {o : Option α} {f g : α → Option β} (h : ∀ x, f x = g x) : o.bind f = o.bind g := by cases o with
  | none => rfl
  | some x => exact h x
theorem ix_ic {α : Type} {c : Prop} [Decidable c] {a b a' b' : α} (h1 : a = a') (h2 : b = b') : (if c then a else b) = (if c then a' else b') := by rw [h1, h2]
theorem ix_kIc {β : Type} {r : List Value × ixH} {f g : Int32 → ixH → Option β} (h : ∀ x k, f x k = g x k) : ix_kI r f = ix_kI r g := by
  have : f = g := funext fun x => funext fun k => h x k
  rw [this]
theorem ix_kLc {β : Type} {r : List Value × ixH} {f g : Int64 → ixH → Option β} (h : ∀ x k, f x k = g x k) : ix_kL r f = ix_kL r g := by
  have : f = g := funext fun x => funext fun k => h x k
  rw [this]
theorem ix_kZc {β : Type} {r : List Value × ixH} {f g : Bool → ixH → Option β} (h : ∀ x k, f x k = g x k) : ix_kZ r f = ix_kZ r g := by
  have : f = g := funext fun x => funext fun k => h x k
  rw [this]
theorem ix_kVc {β : Type} {r : List Value × ixH} {f g : ixH → Option β} (h : ∀ k, f k = g k) : ix_kV r f = ix_kV r g := by
  have : f = g := funext fun k => h k
  rw [this]
section IXD
variable {mi pc pc' : Nat} {q : ixM} {k : Option (List Bool)} {aux : List Nat} {z : Int} {L : ixL} {st : List Value} {h : ixH}
theorem ix_s0 {i : Instr} (hq : ix_mt[mi]? = some q) (hc : ix_nx mi pc = some (0, i, pc', k, aux, z)) : ix_stp mi pc L st h = (ix_px i pc pc' z (ix_mk k L) st).map fun x => .inl (x.1, x.2.1, x.2.2, h) := by
  unfold ix_stp
  rw [hc, hq]
  first | done | rfl
theorem ix_s1' {i : Instr} (hq : ix_mt[mi]? = some q) (hc : ix_nx mi pc = some (1, i, pc', k, aux, z)) : ix_stp mi pc L st h = (ix_rd i aux st h).map fun x => .inl (pc', ix_mk k L, x, h) := by
  unfold ix_stp
  rw [hc, hq]
  first | done | rfl
theorem ix_s2' {i : Instr} (hq : ix_mt[mi]? = some q) (hc : ix_nx mi pc = some (2, i, pc', k, aux, z)) : ix_stp mi pc L st h = (ix_wr i aux st h).map fun x => .inl (pc', ix_mk k L, x.1, x.2) := by
  unfold ix_stp
  rw [hc, hq]
  first | done | rfl
theorem ix_s4 {i : Instr} (hq : ix_mt[mi]? = some q) (hc : ix_nx mi pc = some (4, i, pc', k, aux, z)) : ix_stp mi pc L st h = (ix_rt q.2.2.2.1 i st).map fun x => .inr (.inl (x, h)) := by
  unfold ix_stp
  rw [hc, hq]
  first | done | rfl
theorem ix_s5 {i : Instr} {kd w : Nat} (hq : ix_mt[mi]? = some q) (hc : ix_nx mi pc = some (5, i, pc', k, [kd, w], z)) : ix_stp mi pc L st h = (ix_pc kd st h).map fun x => .inl (pc', ix_mk k L, x.1, x.2) := by
  unfold ix_stp
  rw [hc, hq]
  first | done | rfl
theorem ix_s6 {i : Instr} {u w a : Nat} (hq : ix_mt[mi]? = some q) (hc : ix_nx mi pc = some (3, i, pc', k, [6, u, w], z)) : ix_stp mi pc L (.ref a :: st) h = if (st.map fun v => v.category).sum ≤ 8 then some (.inl (pc', ix_mk k L, st, h)) else none := by
  unfold ix_stp
  rw [hc, hq]
  first | done | rfl
theorem ix_s3 {i : Instr} {kd mj w : Nat} (hq : ix_mt[mi]? = some q) (hc : ix_nx mi pc = some (3, i, pc', k, [kd, mj, w], z)) (h6 : kd < 5) : ix_stp mi pc L st h = (ix_mt[mj]?).bind fun r => (ix_can q r kd st).map fun x => .inr (.inr (mj, x.1, pc', ix_mk k L, x.2)) := by
  unfold ix_stp
  rw [hc, hq]
  rcases (by omega : kd = 0 ∨ kd = 1 ∨ kd = 2 ∨ kd = 3 ∨ kd = 4) with rfl | rfl | rfl | rfl | rfl <;> rfl
theorem ix_s_mk {e : ixE} {L2 : ixL} (hc : ix_nx mi pc = some e) (hL : ix_mk e.2.2.2.1 L = ix_mk e.2.2.2.1 L2) : ix_stp mi pc L st h = ix_stp mi pc L2 st h := by
  obtain ⟨kc, i, pc', k, aux, z⟩ := e
  have hL : ix_mk k L = ix_mk k L2 := hL
  unfold ix_stp
  rw [hc]
  cases ix_mt[mi]? with
  | none => rfl
  | some q =>
    dsimp only
    rw [hL]
theorem ix_D_cut {e : ixE} {L2 : ixL} (hc : ix_nx mi pc = some e) (hL : ix_mk e.2.2.2.1 L = ix_mk e.2.2.2.1 L2) : ix_D mi pc L st h = ix_D mi pc L2 st h := by
  rw [ix_D_eq, ix_D_eq mi pc L2, ix_s_mk hc hL]
theorem ix_D_px {i : Instr} {pc2 : Nat} {L2 : ixL} {st2 : List Value} (hq : ix_mt[mi]? = some q) (hc : ix_nx mi pc = some (0, i, pc', k, aux, z)) (hm : ix_mk k L = L) (hp : ix_px i pc pc' z L st = some (pc2, L2, st2)) : ix_D mi pc L st h = ix_D mi pc2 L2 st2 h := by
  rw [ix_D_eq, ix_s0 hq hc, hm, hp]
  rfl
theorem ix_D_rd {i : Instr} (hq : ix_mt[mi]? = some q) (hc : ix_nx mi pc = some (1, i, pc', k, aux, z)) (hm : ix_mk k L = L) {β : Type} {o : Option β} {g : β → List Value} (hp : ix_rd i aux st h = o.map g) : ix_D mi pc L st h = o.bind fun x => ix_D mi pc' L (g x) h := by
  rw [ix_D_eq, ix_s1' hq hc, hm, hp]
  cases o <;> rfl
theorem ix_D_wr {i : Instr} {st2 : List Value} (hq : ix_mt[mi]? = some q) (hc : ix_nx mi pc = some (2, i, pc', k, aux, z)) (hm : ix_mk k L = L) {o : Option ixH} (hp : ix_wr i aux st h = o.map fun h2 => (st2, h2)) : ix_D mi pc L st h = o.bind fun h2 => ix_D mi pc' L st2 h2 := by
  rw [ix_D_eq, ix_s2' hq hc, hm, hp]
  cases o <;> rfl
theorem ix_D_nw {i : Instr} {st2 : List Value} {h2 : ixH} (hq : ix_mt[mi]? = some q) (hc : ix_nx mi pc = some (2, i, pc', k, aux, z)) (hm : ix_mk k L = L) (hp : ix_wr i aux st h = some (st2, h2)) : ix_D mi pc L st h = ix_D mi pc' L st2 h2 := by
  rw [ix_D_eq, ix_s2' hq hc, hm, hp]
  rfl
theorem ix_D_pc7 {i : Instr} {w : Nat} {n dp sp : Int32} {d s : Nat} (hq : ix_mt[mi]? = some q) (hc : ix_nx mi pc = some (5, i, pc', k, [7, w], z)) (hm : ix_mk k L = L) (h8 : (st.map fun v => v.category).sum ≤ 8) : ix_D mi pc L (.int n :: .int dp :: .ref d :: .int sp :: .ref s :: st) h = (ix_cp h s sp d dp n).bind fun h2 => ix_D mi pc' L st h2 := by
  have e : ix_pc 7 (.int n :: .int dp :: .ref d :: .int sp :: .ref s :: st) h = (ix_cp h s sp d dp n).map fun h2 => (st, h2) := if_pos h8
  rw [ix_D_eq, ix_s5 hq hc, hm, e]
  cases ix_cp h s sp d dp n <;> rfl
theorem ix_D_max {i : Instr} {w : Nat} {x y : Int32} (hq : ix_mt[mi]? = some q) (hc : ix_nx mi pc = some (5, i, pc', k, [8, w], z)) (hm : ix_mk k L = L) (h8 : (st.map fun v => v.category).sum ≤ 8) : ix_D mi pc L (.int y :: .int x :: st) h = ix_D mi pc' L (.int (if x < y then y else x) :: st) h := by
  have e : ix_pc 8 (.int y :: .int x :: st) h = some (.int (if x < y then y else x) :: st, h) := if_pos h8
  rw [ix_D_eq, ix_s5 hq hc, hm, e]
  rfl
theorem ix_D_min {i : Instr} {w : Nat} {x y : Int32} (hq : ix_mt[mi]? = some q) (hc : ix_nx mi pc = some (5, i, pc', k, [9, w], z)) (hm : ix_mk k L = L) (h8 : (st.map fun v => v.category).sum ≤ 8) : ix_D mi pc L (.int y :: .int x :: st) h = ix_D mi pc' L (.int (if y < x then y else x) :: st) h := by
  have e : ix_pc 9 (.int y :: .int x :: st) h = some (.int (if y < x then y else x) :: st, h) := if_pos h8
  rw [ix_D_eq, ix_s5 hq hc, hm, e]
  rfl
theorem ix_D_obj {i : Instr} {a u w : Nat} (hq : ix_mt[mi]? = some q) (hc : ix_nx mi pc = some (3, i, pc', k, [6, u, w], z)) (hm : ix_mk k L = L) (h8 : (st.map fun v => v.category).sum ≤ 8) : ix_D mi pc L (.ref a :: st) h = ix_D mi pc' L st h := by
  rw [ix_D_eq, ix_s6 hq hc, if_pos h8, hm]
theorem ix_D_call {i : Instr} {kd mj w : Nat} {r : ixM} {as rest : List Value} (hq : ix_mt[mi]? = some q) (hc : ix_nx mi pc = some (3, i, pc', k, [kd, mj, w], z)) (hm : ix_mk k L = L) (hr : ix_mt[mj]? = some r) (h6 : kd < 5) (hcan : ix_can q r kd st = some (as, rest)) : ix_D mi pc L st h = (ix_M mj as h).bind fun r => ix_D mi pc' L (r.1 ++ rest) r.2 := by
  rw [ix_D_eq, ix_s3 hq hc h6, hr, Option.bind_some, hcan, hm]
  rfl
theorem ix_M_ok {mj : Nat} {as : List Value} {r : List Value × ixH} (e : ix_M mj as h = some r) : ix_okr (ix_rk mj) r.1 = true := by
  unfold ix_M at e
  obtain ⟨L0, h1, h2⟩ := Option.bind_eq_some_iff.mp e
  obtain ⟨r0, h3, h4⟩ := Option.bind_eq_some_iff.mp h2
  split at h4
  · cases h4; assumption
  · cases h4
theorem ix_M_of {mj : Nat} {as rs : List Value} {h1 : ixH} {L0 : ixL} (he : ix_ent mj as h = some L0) (hd : ix_D mj 0 L0 [] h = some (rs, h1)) (ho : ix_okr (ix_rk mj) rs = true) : ix_M mj as h = some (rs, h1) := by
  unfold ix_M
  rw [he]
  show (ix_D mj 0 L0 [] h).bind _ = _
  rw [hd]
  exact if_pos ho
theorem ix_bind_ok {mj : Nat} {as : List Value} {β : Type} {f g : List Value × ixH → Option β} (e : ∀ r, ix_okr (ix_rk mj) r.1 = true → f r = g r) : (ix_M mj as h).bind f = (ix_M mj as h).bind g := by
  cases hm : ix_M mj as h with
  | none => rfl
  | some r => exact e r (ix_M_ok hm)
theorem ix_D_callI {i : Instr} {kd mj w : Nat} {r : ixM} {as rest : List Value} (hq : ix_mt[mi]? = some q) (hc : ix_nx mi pc = some (3, i, pc', k, [kd, mj, w], z)) (hm : ix_mk k L = L) (hr : ix_mt[mj]? = some r) (h6 : kd < 5) (hcan : ix_can q r kd st = some (as, rest)) (hk : ix_rk mj = 1 ∨ ix_rk mj = 4) : ix_D mi pc L st h = (ix_M mj as h).bind fun r => ix_kI r fun x h1 => ix_D mi pc' L (.int x :: rest) h1 := by
  rw [ix_D_call hq hc hm hr h6 hcan]
  refine ix_bind_ok (fun r0 ho => ?_)
  obtain ⟨rs, h1⟩ := r0
  unfold ix_okr at ho
  split at ho <;> first | (rename_i e0 e1; dsimp only at e1; subst e1; rfl) | (rename_i e0 e1; dsimp only at e0 e1; omega) | (rename_i e0; dsimp only at e0; omega) | (cases ho)
theorem ix_D_callL {i : Instr} {kd mj w : Nat} {r : ixM} {as rest : List Value} (hq : ix_mt[mi]? = some q) (hc : ix_nx mi pc = some (3, i, pc', k, [kd, mj, w], z)) (hm : ix_mk k L = L) (hr : ix_mt[mj]? = some r) (h6 : kd < 5) (hcan : ix_can q r kd st = some (as, rest)) (hk : ix_rk mj = 2) : ix_D mi pc L st h = (ix_M mj as h).bind fun r => ix_kL r fun x h1 => ix_D mi pc' L (.long x :: rest) h1 := by
  rw [ix_D_call hq hc hm hr h6 hcan]
  refine ix_bind_ok (fun r0 ho => ?_)
  obtain ⟨rs, h1⟩ := r0
  rw [hk] at ho
  match rs, ho with
  | [.long x], _ => rfl
theorem ix_D_callV {i : Instr} {kd mj w : Nat} {r : ixM} {as rest : List Value} (hq : ix_mt[mi]? = some q) (hc : ix_nx mi pc = some (3, i, pc', k, [kd, mj, w], z)) (hm : ix_mk k L = L) (hr : ix_mt[mj]? = some r) (h6 : kd < 5) (hcan : ix_can q r kd st = some (as, rest)) (hk : ix_rk mj = 0) : ix_D mi pc L st h = (ix_M mj as h).bind fun r => ix_kV r fun h1 => ix_D mi pc' L rest h1 := by
  rw [ix_D_call hq hc hm hr h6 hcan]
  refine ix_bind_ok (fun r0 ho => ?_)
  obtain ⟨rs, h1⟩ := r0
  rw [hk] at ho
  match rs, ho with
  | [], _ => rfl
theorem ix_D_callZ {i : Instr} {kd mj w : Nat} {r : ixM} {as rest : List Value} (hq : ix_mt[mi]? = some q) (hc : ix_nx mi pc = some (3, i, pc', k, [kd, mj, w], z)) (hm : ix_mk k L = L) (hr : ix_mt[mj]? = some r) (h6 : kd < 5) (hcan : ix_can q r kd st = some (as, rest)) (hk : ix_rk mj = 3) : ix_D mi pc L st h = (ix_M mj as h).bind fun r => ix_kZ r fun b h1 => ix_D mi pc' L (.int (ix_bi b) :: rest) h1 := by
  rw [ix_D_call hq hc hm hr h6 hcan]
  refine ix_bind_ok (fun r0 ho => ?_)
  obtain ⟨rs, h1⟩ := r0
  rw [hk] at ho
  match rs, ho with
  | [.int x], ho =>
    have ho : x = 0 ∨ x = 1 := of_decide_eq_true ho
    rcases ho with rfl | rfl
    · rfl
    · rfl
theorem ix_D_ret {i : Instr} {x : List Value} (hq : ix_mt[mi]? = some q) (hc : ix_nx mi pc = some (4, i, pc', k, aux, z)) (hp : ix_rt q.2.2.2.1 i st = some x) : ix_D mi pc L st h = some (x, h) := by
  rw [ix_D_eq, ix_s4 hq hc, hp]
  rfl
theorem ix_rtI {ret : Option FieldType} (hr : ret = some .int) (x : Int32) : ix_rt ret .ireturn [.int x] = some [.int x] := by subst hr; exact if_pos rfl
theorem ix_rtL {ret : Option FieldType} (hr : ret = some .long) (x : Int64) : ix_rt ret .lreturn [.long x] = some [.long x] := by subst hr; rfl
theorem ix_rtV {ret : Option FieldType} (hr : ret = none) : ix_rt ret .return_ [] = some [] := by subst hr; rfl
theorem ix_rtZ {ret : Option FieldType} (hr : ret = some .boolean) (b : Bool) : ix_rt ret .ireturn [.int (ix_bi b)] = some [.int (ix_bi b)] := by subst hr; exact if_pos (ix_biN b)
theorem ix_D_retX {x : Int32} (hq : ix_mt[mi]? = some q) (hc : ix_nx mi pc = some (4, .ireturn, pc', k, aux, z)) (hr : q.2.2.2.1 = some .boolean) : ix_D mi pc L [.int x] h = ix_zr x h := by
  rw [ix_D_eq, ix_s4 hq hc, hr]
  unfold ix_zr
  by_cases e : narrow .boolean (.int x) = .int x
  · rw [if_pos e, show ix_rt (some .boolean) .ireturn [.int x] = some [.int x] from if_pos e]
    rfl
  · rw [if_neg e, show ix_rt (some .boolean) .ireturn [.int x] = none from if_neg e]
    rfl
theorem ix_D_retB {x : Int32} (hq : ix_mt[mi]? = some q) (hc : ix_nx mi pc = some (4, .ireturn, pc', k, aux, z)) (hr : q.2.2.2.1 = some .byte) : ix_D mi pc L [.int x] h = if narrow .byte (.int x) = .int x then some ([.int x], h) else none := by
  rw [ix_D_eq, ix_s4 hq hc, hr]
  by_cases e : narrow .byte (.int x) = .int x
  · rw [if_pos e, show ix_rt (some .byte) .ireturn [.int x] = some [.int x] from if_pos e]
    rfl
  · rw [if_neg e, show ix_rt (some .byte) .ireturn [.int x] = none from if_neg e]
    rfl
theorem ix_br_t {pc pc' tgt : Nat} {o : Int} {L : ixL} {st : List Value} (ht : (pc : Int) + o = (tgt : Int)) (b : Bool) : ix_br pc pc' o L st b = some (if b then tgt else pc', L, st) := by
  unfold ix_br ix_j
  rw [ht, if_pos (Int.natCast_nonneg tgt)]
  rfl
theorem ix_D_br {i : Instr} {P : Prop} {hP : Decidable P} {o : Int} {tgt : Nat} {st2 : List Value} (hq : ix_mt[mi]? = some q) (hc : ix_nx mi pc = some (0, i, pc', k, aux, z)) (hm : ix_mk k L = L) (hp : ix_px i pc pc' z L st = ix_br pc pc' o L st2 (decide P)) (ht : (pc : Int) + o = (tgt : Int)) : ix_D mi pc L st h = if P then ix_D mi tgt L st2 h else ix_D mi pc' L st2 h := by
  rw [ix_D_eq, ix_s0 hq hc, hm, hp, ix_br_t ht]
  by_cases hp : P
  · rw [if_pos hp, decide_eq_true hp]; rfl
  · rw [if_neg hp, decide_eq_false hp]; rfl
theorem ix_D_if_eq {x : Int32} {o : Int} {tgt : Nat} (hq : ix_mt[mi]? = some q) (hc : ix_nx mi pc = some (0, .ifCond .eq o, pc', k, aux, z)) (hm : ix_mk k L = L) (ht : (pc : Int) + o = (tgt : Int)) : ix_D mi pc L (.int x :: st) h = if x = 0 then ix_D mi tgt L st h else ix_D mi pc' L st h := ix_D_br hq hc hm rfl ht
theorem ix_D_ic_eq {x y : Int32} {o : Int} {tgt : Nat} (hq : ix_mt[mi]? = some q) (hc : ix_nx mi pc = some (0, .if_icmp .eq o, pc', k, aux, z)) (hm : ix_mk k L = L) (ht : (pc : Int) + o = (tgt : Int)) : ix_D mi pc L (.int y :: .int x :: st) h = if x = y then ix_D mi tgt L st h else ix_D mi pc' L st h := ix_D_br hq hc hm rfl ht
theorem ix_D_if_ne {x : Int32} {o : Int} {tgt : Nat} (hq : ix_mt[mi]? = some q) (hc : ix_nx mi pc = some (0, .ifCond .ne o, pc', k, aux, z)) (hm : ix_mk k L = L) (ht : (pc : Int) + o = (tgt : Int)) : ix_D mi pc L (.int x :: st) h = if ¬ x = 0 then ix_D mi tgt L st h else ix_D mi pc' L st h := ix_D_br hq hc hm rfl ht
theorem ix_D_ic_ne {x y : Int32} {o : Int} {tgt : Nat} (hq : ix_mt[mi]? = some q) (hc : ix_nx mi pc = some (0, .if_icmp .ne o, pc', k, aux, z)) (hm : ix_mk k L = L) (ht : (pc : Int) + o = (tgt : Int)) : ix_D mi pc L (.int y :: .int x :: st) h = if ¬ x = y then ix_D mi tgt L st h else ix_D mi pc' L st h := ix_D_br hq hc hm rfl ht
theorem ix_D_if_lt {x : Int32} {o : Int} {tgt : Nat} (hq : ix_mt[mi]? = some q) (hc : ix_nx mi pc = some (0, .ifCond .lt o, pc', k, aux, z)) (hm : ix_mk k L = L) (ht : (pc : Int) + o = (tgt : Int)) : ix_D mi pc L (.int x :: st) h = if x < 0 then ix_D mi tgt L st h else ix_D mi pc' L st h := ix_D_br hq hc hm rfl ht
theorem ix_D_ic_lt {x y : Int32} {o : Int} {tgt : Nat} (hq : ix_mt[mi]? = some q) (hc : ix_nx mi pc = some (0, .if_icmp .lt o, pc', k, aux, z)) (hm : ix_mk k L = L) (ht : (pc : Int) + o = (tgt : Int)) : ix_D mi pc L (.int y :: .int x :: st) h = if x < y then ix_D mi tgt L st h else ix_D mi pc' L st h := ix_D_br hq hc hm rfl ht
theorem ix_D_if_ge {x : Int32} {o : Int} {tgt : Nat} (hq : ix_mt[mi]? = some q) (hc : ix_nx mi pc = some (0, .ifCond .ge o, pc', k, aux, z)) (hm : ix_mk k L = L) (ht : (pc : Int) + o = (tgt : Int)) : ix_D mi pc L (.int x :: st) h = if 0 ≤ x then ix_D mi tgt L st h else ix_D mi pc' L st h := ix_D_br hq hc hm rfl ht
theorem ix_D_ic_ge {x y : Int32} {o : Int} {tgt : Nat} (hq : ix_mt[mi]? = some q) (hc : ix_nx mi pc = some (0, .if_icmp .ge o, pc', k, aux, z)) (hm : ix_mk k L = L) (ht : (pc : Int) + o = (tgt : Int)) : ix_D mi pc L (.int y :: .int x :: st) h = if y ≤ x then ix_D mi tgt L st h else ix_D mi pc' L st h := ix_D_br hq hc hm rfl ht
theorem ix_D_if_gt {x : Int32} {o : Int} {tgt : Nat} (hq : ix_mt[mi]? = some q) (hc : ix_nx mi pc = some (0, .ifCond .gt o, pc', k, aux, z)) (hm : ix_mk k L = L) (ht : (pc : Int) + o = (tgt : Int)) : ix_D mi pc L (.int x :: st) h = if 0 < x then ix_D mi tgt L st h else ix_D mi pc' L st h := ix_D_br hq hc hm rfl ht
theorem ix_D_ic_gt {x y : Int32} {o : Int} {tgt : Nat} (hq : ix_mt[mi]? = some q) (hc : ix_nx mi pc = some (0, .if_icmp .gt o, pc', k, aux, z)) (hm : ix_mk k L = L) (ht : (pc : Int) + o = (tgt : Int)) : ix_D mi pc L (.int y :: .int x :: st) h = if y < x then ix_D mi tgt L st h else ix_D mi pc' L st h := ix_D_br hq hc hm rfl ht
theorem ix_D_if_le {x : Int32} {o : Int} {tgt : Nat} (hq : ix_mt[mi]? = some q) (hc : ix_nx mi pc = some (0, .ifCond .le o, pc', k, aux, z)) (hm : ix_mk k L = L) (ht : (pc : Int) + o = (tgt : Int)) : ix_D mi pc L (.int x :: st) h = if x ≤ 0 then ix_D mi tgt L st h else ix_D mi pc' L st h := ix_D_br hq hc hm rfl ht
theorem ix_D_ic_le {x y : Int32} {o : Int} {tgt : Nat} (hq : ix_mt[mi]? = some q) (hc : ix_nx mi pc = some (0, .if_icmp .le o, pc', k, aux, z)) (hm : ix_mk k L = L) (ht : (pc : Int) + o = (tgt : Int)) : ix_D mi pc L (.int y :: .int x :: st) h = if x ≤ y then ix_D mi tgt L st h else ix_D mi pc' L st h := ix_D_br hq hc hm rfl ht
theorem ix_D_lc_eq {x y : Int64} {o : Int} {tgt : Nat} (hq : ix_mt[mi]? = some q) (hc : ix_nx mi pc = some (0, .ifCond .eq o, pc', k, aux, z)) (hm : ix_mk k L = L) (ht : (pc : Int) + o = (tgt : Int)) : ix_D mi pc L (.int (lg_cmp x y) :: st) h = if x = y then ix_D mi tgt L st h else ix_D mi pc' L st h := by
  rw [ix_D_if_eq hq hc hm ht]
  simp only [lg_cmp_eq]
theorem ix_D_lc_lt {x y : Int64} {o : Int} {tgt : Nat} (hq : ix_mt[mi]? = some q) (hc : ix_nx mi pc = some (0, .ifCond .lt o, pc', k, aux, z)) (hm : ix_mk k L = L) (ht : (pc : Int) + o = (tgt : Int)) : ix_D mi pc L (.int (lg_cmp x y) :: st) h = if x < y then ix_D mi tgt L st h else ix_D mi pc' L st h := by
  rw [ix_D_if_lt hq hc hm ht]
  simp only [lg_cmp_lt]
theorem ix_D_lc_ge {x y : Int64} {o : Int} {tgt : Nat} (hq : ix_mt[mi]? = some q) (hc : ix_nx mi pc = some (0, .ifCond .ge o, pc', k, aux, z)) (hm : ix_mk k L = L) (ht : (pc : Int) + o = (tgt : Int)) : ix_D mi pc L (.int (lg_cmp x y) :: st) h = if y ≤ x then ix_D mi tgt L st h else ix_D mi pc' L st h := by
  rw [ix_D_if_ge hq hc hm ht]
  simp only [lg_cmp_ge]
theorem ix_D_lc_gt {x y : Int64} {o : Int} {tgt : Nat} (hq : ix_mt[mi]? = some q) (hc : ix_nx mi pc = some (0, .ifCond .gt o, pc', k, aux, z)) (hm : ix_mk k L = L) (ht : (pc : Int) + o = (tgt : Int)) : ix_D mi pc L (.int (lg_cmp x y) :: st) h = if y < x then ix_D mi tgt L st h else ix_D mi pc' L st h := by
  rw [ix_D_if_gt hq hc hm ht]
  simp only [lg_cmp_gt]
theorem ix_D_lc_le {x y : Int64} {o : Int} {tgt : Nat} (hq : ix_mt[mi]? = some q) (hc : ix_nx mi pc = some (0, .ifCond .le o, pc', k, aux, z)) (hm : ix_mk k L = L) (ht : (pc : Int) + o = (tgt : Int)) : ix_D mi pc L (.int (lg_cmp x y) :: st) h = if x ≤ y then ix_D mi tgt L st h else ix_D mi pc' L st h := by
  rw [ix_D_if_le hq hc hm ht]
  simp only [lg_cmp_le]
theorem ix_D_lc_ne {x y : Int64} {o : Int} {tgt : Nat} (hq : ix_mt[mi]? = some q) (hc : ix_nx mi pc = some (0, .ifCond .ne o, pc', k, aux, z)) (hm : ix_mk k L = L) (ht : (pc : Int) + o = (tgt : Int)) : ix_D mi pc L (.int (lg_cmp x y) :: st) h = if x = y then ix_D mi pc' L st h else ix_D mi tgt L st h := by
  rw [ix_D_if_ne hq hc hm ht]
  by_cases e : x = y
  · rw [if_pos e, if_neg (fun g => g ((lg_cmp_eq x y).mpr e))]
  · rw [if_neg e, if_pos (fun g => e ((lg_cmp_eq x y).mp g))]
theorem ix_D_bz_eq {b : Bool} {o : Int} {tgt : Nat} (hq : ix_mt[mi]? = some q) (hc : ix_nx mi pc = some (0, .ifCond .eq o, pc', k, aux, z)) (hm : ix_mk k L = L) (ht : (pc : Int) + o = (tgt : Int)) : ix_D mi pc L (.int (ix_bi b) :: st) h = if b = true then ix_D mi pc' L st h else ix_D mi tgt L st h := by
  rw [ix_D_if_eq hq hc hm ht]
  cases b <;> rfl
theorem ix_D_bz_ne {b : Bool} {o : Int} {tgt : Nat} (hq : ix_mt[mi]? = some q) (hc : ix_nx mi pc = some (0, .ifCond .ne o, pc', k, aux, z)) (hm : ix_mk k L = L) (ht : (pc : Int) + o = (tgt : Int)) : ix_D mi pc L (.int (ix_bi b) :: st) h = if b = true then ix_D mi tgt L st h else ix_D mi pc' L st h := by
  rw [ix_D_if_ne hq hc hm ht]
  cases b <;> rfl
theorem ix_D_goto {o : Int} {tgt : Nat} (hq : ix_mt[mi]? = some q) (hc : ix_nx mi pc = some (0, .goto o, pc', k, aux, z)) (hm : ix_mk k L = L) (ht : (pc : Int) + o = (tgt : Int)) : ix_D mi pc L st h = ix_D mi tgt L st h := ix_D_px hq hc hm (ix_br_t ht true)
theorem ix_D_nnR {o : Int} {tgt a : Nat} (hq : ix_mt[mi]? = some q) (hc : ix_nx mi pc = some (0, .ifnonnull o, pc', k, aux, z)) (hm : ix_mk k L = L) (ht : (pc : Int) + o = (tgt : Int)) : ix_D mi pc L (.ref a :: st) h = ix_D mi tgt L st h := ix_D_px hq hc hm (ix_br_t ht true)
theorem ix_D_div {x y : Int32} (hq : ix_mt[mi]? = some q) (hc : ix_nx mi pc = some (0, .idiv, pc', k, aux, z)) (hm : ix_mk k L = L) : ix_D mi pc L (.int y :: .int x :: st) h = if y = 0 then none else ix_D mi pc' L (.int (x / y) :: st) h := by
  by_cases hy : y = 0
  · rw [if_pos hy, ix_D_eq, ix_s0 hq hc, show ix_px .idiv pc pc' z (ix_mk k L) (.int y :: .int x :: st) = none from if_pos hy]
    rfl
  · rw [if_neg hy]
    exact ix_D_px hq hc hm (if_neg hy)
theorem ix_D_rem {x y : Int32} (hq : ix_mt[mi]? = some q) (hc : ix_nx mi pc = some (0, .irem, pc', k, aux, z)) (hm : ix_mk k L = L) : ix_D mi pc L (.int y :: .int x :: st) h = if y = 0 then none else ix_D mi pc' L (.int (x - x / y * y) :: st) h := by
  by_cases hy : y = 0
  · rw [if_pos hy, ix_D_eq, ix_s0 hq hc, show ix_px .irem pc pc' z (ix_mk k L) (.int y :: .int x :: st) = none from if_pos hy]
    rfl
  · rw [if_neg hy]
    exact ix_D_px hq hc hm (if_neg hy)
theorem ix_D_ci {n : Int} {v : Int32} (hq : ix_mt[mi]? = some q) (hc : ix_nx mi pc = some (0, .iconst n, pc', k, aux, z)) (hm : ix_mk k L = L) (hv : Int32.ofInt n = v) : ix_D mi pc L st h = ix_D mi pc' L (.int v :: st) h := by subst hv; exact ix_D_px hq hc hm rfl
theorem ix_D_cb {n : Int} {v : Int32} (hq : ix_mt[mi]? = some q) (hc : ix_nx mi pc = some (0, .bipush n, pc', k, aux, z)) (hm : ix_mk k L = L) (hv : (Int8.ofInt n).toInt32 = v) : ix_D mi pc L st h = ix_D mi pc' L (.int v :: st) h := by subst hv; exact ix_D_px hq hc hm rfl
theorem ix_D_cs {n : Int} {v : Int32} (hq : ix_mt[mi]? = some q) (hc : ix_nx mi pc = some (0, .sipush n, pc', k, aux, z)) (hm : ix_mk k L = L) (hv : (Int16.ofInt n).toInt32 = v) : ix_D mi pc L st h = ix_D mi pc' L (.int v :: st) h := by subst hv; exact ix_D_px hq hc hm rfl
theorem ix_D_cl {n : Fin 2} {v : Int64} (hq : ix_mt[mi]? = some q) (hc : ix_nx mi pc = some (0, .lconst n, pc', k, aux, z)) (hm : ix_mk k L = L) (hv : Int64.ofNat n = v) : ix_D mi pc L st h = ix_D mi pc' L (.long v :: st) h := by subst hv; exact ix_D_px hq hc hm rfl
theorem ix_D_c2 {n : Nat} {v : Int64} (hq : ix_mt[mi]? = some q) (hc : ix_nx mi pc = some (0, .ldc2_w n, pc', k, aux, z)) (hm : ix_mk k L = L) (hv : Int64.ofInt z = v) : ix_D mi pc L st h = ix_D mi pc' L (.long v :: st) h := by subst hv; exact ix_D_px hq hc hm rfl
theorem ix_D_cw {n : Nat} {v : Int32} (hq : ix_mt[mi]? = some q) (hc : ix_nx mi pc = some (0, .ldc_w n, pc', k, aux, z)) (hm : ix_mk k L = L) (hv : Int32.ofInt z = v) : ix_D mi pc L st h = ix_D mi pc' L (.int v :: st) h := by subst hv; exact ix_D_px hq hc hm rfl
theorem ix_D_inc {j : Nat} {n : Int} {x v : Int32} {L2 : ixL} (hq : ix_mt[mi]? = some q) (hc : ix_nx mi pc = some (0, .iinc j n, pc', k, aux, z)) (hm : ix_mk k L = L) (hx : ix_li L j = some x) (hl : j < L.length) (hv : Int32.ofInt n = v) (hL : ix_s1 L j (.int (x + v)) = L2) : ix_D mi pc L st h = ix_D mi pc' L2 st h := by
  subst hv
  subst hL
  refine ix_D_px hq hc hm ?_
  show (ix_li L j).bind _ = _
  rw [hx]
  exact if_pos hl
theorem ix_D_si {i : Instr} {j : Nat} {x : Int32} {L2 : ixL} (hq : ix_mt[mi]? = some q) (hc : ix_nx mi pc = some (0, i, pc', k, aux, z)) (hm : ix_mk k L = L) (hi : i = .istore j ∨ ∃ f : Fin 4, i = .istore_n f ∧ (f : Nat) = j) (hl : j < L.length) (hL : ix_s1 L j (.int x) = L2) : ix_D mi pc L (.int x :: st) h = ix_D mi pc' L2 st h := by
  subst hL
  refine ix_D_px hq hc hm ?_
  rcases hi with rfl | ⟨f, rfl, rfl⟩
  · exact if_pos hl
  · exact if_pos hl
theorem ix_D_sr {i : Instr} {j : Nat} {x : Nat} {L2 : ixL} (hq : ix_mt[mi]? = some q) (hc : ix_nx mi pc = some (0, i, pc', k, aux, z)) (hm : ix_mk k L = L) (hi : i = .astore j ∨ ∃ f : Fin 4, i = .astore_n f ∧ (f : Nat) = j) (hl : j < L.length) (hL : ix_s1 L j (.ref x) = L2) : ix_D mi pc L (.ref x :: st) h = ix_D mi pc' L2 st h := by
  subst hL
  refine ix_D_px hq hc hm ?_
  rcases hi with rfl | ⟨f, rfl, rfl⟩
  · exact if_pos hl
  · exact if_pos hl
theorem ix_D_sl {i : Instr} {j : Nat} {x : Int64} {L2 : ixL} (hq : ix_mt[mi]? = some q) (hc : ix_nx mi pc = some (0, i, pc', k, aux, z)) (hm : ix_mk k L = L) (hi : i = .lstore j ∨ ∃ f : Fin 4, i = .lstore_n f ∧ (f : Nat) = j) (hl : j + 1 < L.length) (hL : ix_s2 L j (.long x) = L2) : ix_D mi pc L (.long x :: st) h = ix_D mi pc' L2 st h := by
  subst hL
  refine ix_D_px hq hc hm ?_
  rcases hi with rfl | ⟨f, rfl, rfl⟩
  · exact if_pos hl
  · exact if_pos hl
/-- a switch over 0, 1, 2 .. -/
def ix_sel {α : Type} (x : Int32) : Nat → List α → α → α
  | _, [], d => d
  | n, a :: l, d => if x = nI n then a else ix_sel x (n + 1) l d
theorem ix_D_tsw {d hi : Int} {offs : Array Int} {x : Int32} {tg : List Nat} {dt : Nat} (hq : ix_mt[mi]? = some q) (hc : ix_nx mi pc = some (0, .tableswitch d 0 hi offs, pc', k, aux, z)) (hm : ix_mk k L = L) (hlen : hi = (tg.length : Int) - 1) (hb : tg.length < 1000) (hd : (pc : Int) + d = (dt : Int)) (ho : offs.toList.map (fun o => (pc : Int) + o) = tg.map (fun t : Nat => (t : Int))) : ix_D mi pc L (.int x :: st) h = ix_sel x 0 (tg.map fun t => ix_D mi t L st h) (ix_D mi dt L st h) := by
  have key : ∀ (l : List Nat) (n : Nat) (v : Option (List Value × ixH)), (∀ j, x = nI j → n ≤ j → j < n + l.length → n + l.length < 2000 → ∀ t, l[j - n]? = some t → v = ix_D mi t L st h) → ((∀ j, n ≤ j → j < n + l.length → ¬ x = nI j) → v = ix_D mi dt L st h) → n + l.length < 2000 → v = ix_sel x n (l.map fun t => ix_D mi t L st h) (ix_D mi dt L st h) := by
    intro l
    induction l with
    | nil => intro n v h1 h2 h3; exact h2 (fun j a b => by simp at b; omega)
    | cons a l ih =>
      intro n v h1 h2 h3
      simp only [List.map_cons, ix_sel]
      simp only [List.length_cons] at h1 h2 h3
      split
      · rename_i hx
        exact h1 n hx (Nat.le_refl _) (by omega) (by omega) a (by simp)
      · rename_i hx
        refine ih (n + 1) v (fun j a1 a2 a3 a4 t ht => h1 j a1 (by omega) (by omega) (by omega) t ?_) (fun hn => h2 (fun j a1 a2 => ?_)) (by omega)
        · rw [show j - n = (j - (n + 1)) + 1 by omega]
          exact ht
        · by_cases hj : j = n
          · subst hj; exact hx
          · exact hn j (by omega) (by omega)
  refine key tg 0 _ (fun j hj h1 h2 h3 t ht => ?_) (fun hno => ?_) (by omega)
  · subst hj
    have hjl : j < tg.length := by omega
    have e1 : (nI j).toInt = (j : Int) := nI_toInt (by omega)
    have ht2 : (pc : Int) + offs.toList.getD j 0 = (t : Int) := by
      have e := congrArg (fun l => l[j]?) ho
      simp only [List.getElem?_map] at e
      rw [show tg[j]? = some t from ht] at e
      cases ho2 : offs.toList[j]? with
      | none => rw [ho2] at e; cases e
      | some o =>
        rw [ho2] at e
        rw [List.getD_eq_getElem?_getD, ho2]
        exact Option.some.inj e
    have ho3 : offs[j]? = some (offs.toList.getD j 0) := by
      have : j < offs.toList.length := by
        have e := congrArg List.length ho
        simp only [List.length_map] at e
        omega
      rw [← Array.getElem?_toList, List.getD_eq_getElem?_getD, List.getElem?_eq_getElem this]
      rfl
    refine ix_D_px hq hc hm ?_
    show (if (nI j).toInt < 0 ∨ hi < (nI j).toInt then _ else _) = _
    rw [if_neg (by rw [e1, hlen]; omega), e1]
    show (offs[((j : Int) - 0).toNat]?).bind _ = _
    rw [show ((j : Int) - 0).toNat = j by omega, ho3]
    exact ix_br_t ht2 true
  · refine ix_D_px hq hc hm ?_
    show (if x.toInt < 0 ∨ hi < x.toInt then _ else _) = _
    rw [if_pos]
    · exact ix_br_t hd true
    · by_cases h1 : x.toInt < 0
      · exact Or.inl h1
      · by_cases h2 : hi < x.toInt
        · exact Or.inr h2
        · exfalso
          refine hno x.toInt.toNat (by omega) (by omega) ?_
          apply Int32.toInt_inj.mp
          rw [nI_toInt (by omega)]
          omega
end IXD
