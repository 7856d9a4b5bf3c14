/-! AN INTERPRETER over abstract cells: addresses 0 (the script), 1 (the text constant), 2 (its bytes), 3 and on (what the run makes). -/
abbrev ixL : Type := List (Option Value)
abbrev ixC : Type := (Nat × vp_A) ⊕ (Nat × List Value)
abbrev ixH : Type := Nat × Nat × (Nat → ixC)
/-- its kind, an instruction, the pc behind it, what to keep of the locals, resolved numbers, a constant -/
abbrev ixE : Type := Nat × Instr × Nat × Option (List Bool) × List Nat × Int
def ix_p1i {β : Type} (st : List Value) (f : Int32 → List Value → Option β) : Option β := match st with
  | .int x :: st => f x st
  | _ => none
def ix_p1l {β : Type} (st : List Value) (f : Int64 → List Value → Option β) : Option β := match st with
  | .long x :: st => f x st
  | _ => none
def ix_p1r {β : Type} (st : List Value) (f : Nat → List Value → Option β) : Option β := match st with
  | .ref x :: st => f x st
  | _ => none
def ix_p2i {β : Type} (st : List Value) (f : Int32 → Int32 → List Value → Option β) : Option β := match st with
  | .int y :: .int x :: st => f x y st
  | _ => none
def ix_p2l {β : Type} (st : List Value) (f : Int64 → Int64 → List Value → Option β) : Option β := match st with
  | .long y :: .long x :: st => f x y st
  | _ => none
def ix_pli {β : Type} (st : List Value) (f : Int64 → Int32 → List Value → Option β) : Option β := match st with
  | .int y :: .long x :: st => f x y st
  | _ => none
def ix_pri {β : Type} (st : List Value) (f : Nat → Int32 → List Value → Option β) : Option β := match st with
  | .int y :: .ref x :: st => f x y st
  | _ => none
theorem ix_p1i_s {β : Type} {st : List Value} {f : Int32 → List Value → Option β} {r : β} (h : ix_p1i st f = some r) : ∃ x t, st = .int x :: t ∧ f x t = some r := by
  unfold ix_p1i at h
  split at h
  · exact ⟨_, _, rfl, h⟩
  · cases h
theorem ix_p1l_s {β : Type} {st : List Value} {f : Int64 → List Value → Option β} {r : β} (h : ix_p1l st f = some r) : ∃ x t, st = .long x :: t ∧ f x t = some r := by
  unfold ix_p1l at h
  split at h
  · exact ⟨_, _, rfl, h⟩
  · cases h
theorem ix_p1r_s {β : Type} {st : List Value} {f : Nat → List Value → Option β} {r : β} (h : ix_p1r st f = some r) : ∃ x t, st = .ref x :: t ∧ f x t = some r := by
  unfold ix_p1r at h
  split at h
  · exact ⟨_, _, rfl, h⟩
  · cases h
theorem ix_p2i_s {β : Type} {st : List Value} {f : Int32 → Int32 → List Value → Option β} {r : β} (h : ix_p2i st f = some r) : ∃ x y t, st = .int y :: .int x :: t ∧ f x y t = some r := by
  unfold ix_p2i at h
  split at h
  · exact ⟨_, _, _, rfl, h⟩
  · cases h
theorem ix_p2l_s {β : Type} {st : List Value} {f : Int64 → Int64 → List Value → Option β} {r : β} (h : ix_p2l st f = some r) : ∃ x y t, st = .long y :: .long x :: t ∧ f x y t = some r := by
  unfold ix_p2l at h
  split at h
  · exact ⟨_, _, _, rfl, h⟩
  · cases h
theorem ix_pli_s {β : Type} {st : List Value} {f : Int64 → Int32 → List Value → Option β} {r : β} (h : ix_pli st f = some r) : ∃ x y t, st = .int y :: .long x :: t ∧ f x y t = some r := by
  unfold ix_pli at h
  split at h
  · exact ⟨_, _, _, rfl, h⟩
  · cases h
theorem ix_pri_s {β : Type} {st : List Value} {f : Nat → Int32 → List Value → Option β} {r : β} (h : ix_pri st f = some r) : ∃ x y t, st = .int y :: .ref x :: t ∧ f x y t = some r := by
  unfold ix_pri at h
  split at h
  · exact ⟨_, _, _, rfl, h⟩
  · cases h
/-- locals: read, write -/
def ix_kl (o : Option Value) : Option Value := match o with
  | some v => if v.category = 2 then none else some v
  | none => none
def ix_s1 : ixL → Nat → Value → ixL
  | [], _, _ => []
  | _ :: L, 0, v => some v :: L
  | o :: L, 1, v => ix_kl o :: ix_s1 L 0 v
  | o :: L, j + 2, v => o :: ix_s1 L (j + 1) v
def ix_s2 : ixL → Nat → Value → ixL
  | [], _, _ => []
  | [_], 0, v => [some v]
  | _ :: _ :: L, 0, v => some v :: none :: L
  | o :: L, 1, v => ix_kl o :: ix_s2 L 0 v
  | o :: L, j + 2, v => o :: ix_s2 L (j + 1) v
def ix_li (L : ixL) (i : Nat) : Option Int32 := match L[i]? with
  | some (some (.int x)) => some x
  | _ => none
def ix_ll (L : ixL) (i : Nat) : Option Int64 := match L[i]? with
  | some (some (.long x)) => some x
  | _ => none
def ix_lr (L : ixL) (i : Nat) : Option Nat := match L[i]? with
  | some (some (.ref x)) => some x
  | _ => none
def ix_msk : List Bool → ixL → ixL
  | [], L => L
  | _ :: _, [] => []
  | b :: bs, o :: L => (if b then o else none) :: ix_msk bs L
def ix_mk (k : Option (List Bool)) (L : ixL) : ixL := match k with
  | none => L
  | some bs => ix_msk bs L
def ix_j (pc : Nat) (off : Int) : Option Nat := if 0 ≤ (pc : Int) + off then some ((pc : Int) + off).toNat else none
def ix_br (pc pc' : Nat) (off : Int) (L : ixL) (st : List Value) (b : Bool) : Option (Nat × ixL × List Value) := (ix_j pc off).map fun t => (if b then t else pc', L, st)
/-- what touches neither heap nor calls -/
def ix_px (i : Instr) (pc pc' : Nat) (z : Int) (L : ixL) (st : List Value) : Option (Nat × ixL × List Value) :=
  match i with
  | .iconst n => some (pc', L, .int (Int32.ofInt n) :: st)
  | .bipush n => some (pc', L, .int (Int8.ofInt n).toInt32 :: st)
  | .sipush n => some (pc', L, .int (Int16.ofInt n).toInt32 :: st)
  | .lconst n => some (pc', L, .long (Int64.ofNat n) :: st)
  | .ldc2_w _ => some (pc', L, .long (Int64.ofInt z) :: st)
  | .ldc_w _ => some (pc', L, .int (Int32.ofInt z) :: st)
  | .aconst_null => some (pc', L, .null :: st)
  | .iload k => (ix_li L k).map fun x => (pc', L, .int x :: st)
  | .iload_n k => (ix_li L k).map fun x => (pc', L, .int x :: st)
  | .lload k => (ix_ll L k).map fun x => (pc', L, .long x :: st)
  | .lload_n k => (ix_ll L k).map fun x => (pc', L, .long x :: st)
  | .aload k => (ix_lr L k).map fun x => (pc', L, .ref x :: st)
  | .aload_n k => (ix_lr L k).map fun x => (pc', L, .ref x :: st)
  | .istore k => ix_p1i st fun x st => if k < L.length then some (pc', ix_s1 L k (.int x), st) else none
  | .istore_n k => ix_p1i st fun x st => if k < L.length then some (pc', ix_s1 L k (.int x), st) else none
  | .astore k => ix_p1r st fun x st => if k < L.length then some (pc', ix_s1 L k (.ref x), st) else none
  | .astore_n k => ix_p1r st fun x st => if k < L.length then some (pc', ix_s1 L k (.ref x), st) else none
  | .lstore k => ix_p1l st fun x st => if k + 1 < L.length then some (pc', ix_s2 L k (.long x), st) else none
  | .lstore_n k => ix_p1l st fun x st => if (k : Nat) + 1 < L.length then some (pc', ix_s2 L k (.long x), st) else none
  | .iinc k n => (ix_li L k).bind fun x => if k < L.length then some (pc', ix_s1 L k (.int (x + Int32.ofInt n)), st) else none
  | .iadd => ix_p2i st fun x y st => some (pc', L, .int (x + y) :: st)
  | .isub => ix_p2i st fun x y st => some (pc', L, .int (x - y) :: st)
  | .imul => ix_p2i st fun x y st => some (pc', L, .int (x * y) :: st)
  | .idiv => ix_p2i st fun x y st => if y = 0 then none else some (pc', L, .int (x / y) :: st)
  | .irem => ix_p2i st fun x y st => if y = 0 then none else some (pc', L, .int (x - x / y * y) :: st)
  | .iand => ix_p2i st fun x y st => some (pc', L, .int (x &&& y) :: st)
  | .ior => ix_p2i st fun x y st => some (pc', L, .int (x ||| y) :: st)
  | .ixor => ix_p2i st fun x y st => some (pc', L, .int (x ^^^ y) :: st)
  | .ishl => ix_p2i st fun x y st => some (pc', L, .int (x <<< (y &&& 31)) :: st)
  | .ishr => ix_p2i st fun x y st => some (pc', L, .int (x >>> (y &&& 31)) :: st)
  | .iushr => ix_p2i st fun x y st => some (pc', L, .int (x.toUInt32 >>> (y.toUInt32 &&& Int32.toUInt32 31)).toInt32 :: st)
  | .ladd => ix_p2l st fun x y st => some (pc', L, .long (x + y) :: st)
  | .lsub => ix_p2l st fun x y st => some (pc', L, .long (x - y) :: st)
  | .lmul => ix_p2l st fun x y st => some (pc', L, .long (x * y) :: st)
  | .land => ix_p2l st fun x y st => some (pc', L, .long (x &&& y) :: st)
  | .lor => ix_p2l st fun x y st => some (pc', L, .long (x ||| y) :: st)
  | .lxor => ix_p2l st fun x y st => some (pc', L, .long (x ^^^ y) :: st)
  | .lneg => ix_p1l st fun x st => some (pc', L, .long (-x) :: st)
  | .lshl => ix_pli st fun x y st => some (pc', L, .long (x <<< (y.toInt64 &&& 63)) :: st)
  | .lshr => ix_pli st fun x y st => some (pc', L, .long (x >>> (y.toInt64 &&& 63)) :: st)
  | .lushr => ix_pli st fun x y st => some (pc', L, .long (x.toUInt64 >>> (y.toInt64.toUInt64 &&& Int64.toUInt64 63)).toInt64 :: st)
  | .lcmp => ix_p2l st fun x y st => some (pc', L, .int (lg_cmp x y) :: st)
  | .i2l => ix_p1i st fun x st => some (pc', L, .long x.toInt64 :: st)
  | .l2i => ix_p1l st fun x st => some (pc', L, .int x.toInt32 :: st)
  | .i2c => ix_p1i st fun x st => some (pc', L, .int (x.toUInt32 % 65536).toInt32 :: st)
  | .i2b => ix_p1i st fun x st => some (pc', L, .int x.toInt8.toInt32 :: st)
  | .dup => match st with
    | v :: st => if v.category = 1 then some (pc', L, v :: v :: st) else none
    | _ => none
  | .dup2 => match st with
    | v :: w :: st => if v.category = 1 ∧ w.category = 1 then some (pc', L, v :: w :: v :: w :: st) else none
    | _ => none
  | .pop => match st with
    | v :: st => if v.category = 1 then some (pc', L, st) else none
    | _ => none
  | .ifCond .eq o => ix_p1i st fun x st => ix_br pc pc' o L st (decide (x = 0))
  | .ifCond .ne o => ix_p1i st fun x st => ix_br pc pc' o L st (decide (¬ x = 0))
  | .ifCond .lt o => ix_p1i st fun x st => ix_br pc pc' o L st (decide (x < 0))
  | .ifCond .ge o => ix_p1i st fun x st => ix_br pc pc' o L st (decide (0 ≤ x))
  | .ifCond .gt o => ix_p1i st fun x st => ix_br pc pc' o L st (decide (0 < x))
  | .ifCond .le o => ix_p1i st fun x st => ix_br pc pc' o L st (decide (x ≤ 0))
  | .if_icmp .eq o => ix_p2i st fun x y st => ix_br pc pc' o L st (decide (x = y))
  | .if_icmp .ne o => ix_p2i st fun x y st => ix_br pc pc' o L st (decide (¬ x = y))
  | .if_icmp .lt o => ix_p2i st fun x y st => ix_br pc pc' o L st (decide (x < y))
  | .if_icmp .ge o => ix_p2i st fun x y st => ix_br pc pc' o L st (decide (y ≤ x))
  | .if_icmp .gt o => ix_p2i st fun x y st => ix_br pc pc' o L st (decide (y < x))
  | .if_icmp .le o => ix_p2i st fun x y st => ix_br pc pc' o L st (decide (x ≤ y))
  | .goto o => ix_br pc pc' o L st true
  | .ifnonnull o => match st with
    | .ref _ :: st => ix_br pc pc' o L st true
    | .null :: st => some (pc', L, st)
    | _ => none
  | .tableswitch d lo hi offs => ix_p1i st fun x st => if x.toInt < lo ∨ hi < x.toInt then ix_br pc pc' d L st true else (offs[(x.toInt - lo).toNat]?).bind fun o => ix_br pc pc' o L st true
  | .lookupswitch d ps => ix_p1i st fun x st => ix_br pc pc' (Op.lookupswitch.offset ps.toList d x.toInt) L st true
  | _ => none
