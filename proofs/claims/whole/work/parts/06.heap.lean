/-! THE HEAP: reads and writes of abstract cells; which machine heap they stand for -/
def ix_et : Nat → FieldType
  | 0 => .int
  | 1 => .long
  | 2 => .boolean
  | 3 => .byte
  | 4 => .object "RouteProofs$Route"
  | _ => .object "RouteProofs$Board"
def ix_byL : List Int32 := [46, 35, 115, 83, 116, 84, 109, 77]
def ix_val (a : vp_A) (j : Nat) : Value := match a.2 with
  | .inl f => .int (f j)
  | .inr (.inl f) => .long (f j)
  | .inr (.inr (.inl f)) => .float (f j)
  | .inr (.inr (.inr (.inl f))) => .double (f j)
  | .inr (.inr (.inr (.inr f))) => va_rf (f j)
def ix_ob (h : ixH) (a ci : Nat) : Option (List Value) := if 3 ≤ a ∧ a < h.1 then (match h.2.2 a with
  | .inr o => if o.1 = ci then some o.2 else none
  | _ => none) else none
def ix_gi (h : ixH) (a ci k : Nat) : Option Int32 := (ix_ob h a ci).bind fun fs => match fs[k]? with
  | some (.int x) => some x
  | _ => none
def ix_gl (h : ixH) (a ci k : Nat) : Option Int64 := (ix_ob h a ci).bind fun fs => match fs[k]? with
  | some (.long x) => some x
  | _ => none
def ix_gr (h : ixH) (a ci k : Nat) : Option Nat := (ix_ob h a ci).bind fun fs => match fs[k]? with
  | some (.ref x) => some x
  | _ => none
def ix_gq (h : ixH) (a ci k : Nat) : Option (Option Nat) := (ix_ob h a ci).bind fun fs => match fs[k]? with
  | some (.ref x) => some (some x)
  | some .null => some none
  | _ => none
def ix_ar (h : ixH) (a t : Nat) : Option vp_A := if a < h.1 then (match h.2.2 a with
  | .inl x => if x.1 = t then some x.2 else none
  | _ => none) else none
def ix_in (i : Int32) (n : Nat) : Bool := decide (¬ (i < 0 ∨ n ≤ i.toNatClampNeg))
def ix_ai (h : ixH) (a : Nat) (i : Int32) : Option Int32 := (ix_ar h a 0).bind fun x => match x.2 with
  | .inl f => if ix_in i x.1 then some (f i.toNatClampNeg) else none
  | _ => none
def ix_az (h : ixH) (a : Nat) (i : Int32) : Option Int32 := (ix_ar h a 2).bind fun x => match x.2 with
  | .inl f => if ix_in i x.1 then some (f i.toNatClampNeg) else none
  | _ => none
def ix_ab (h : ixH) (a : Nat) (i : Int32) : Option Int32 := (ix_ar h a 3).bind fun x => match x.2 with
  | .inl f => if ix_in i x.1 then some (f i.toNatClampNeg) else none
  | _ => none
def ix_al (h : ixH) (a : Nat) (i : Int32) : Option Int64 := (ix_ar h a 1).bind fun x => match x.2 with
  | .inr (.inl f) => if ix_in i x.1 then some (f i.toNatClampNeg) else none
  | _ => none
def ix_aq (h : ixH) (t a : Nat) (i : Int32) : Option Nat := if 3 ≤ a then (ix_ar h a t).bind fun x => match x.2 with
  | .inr (.inr (.inr (.inr f))) => if ix_in i x.1 then f i.toNatClampNeg else none
  | _ => none else none
def ix_an (h : ixH) (a : Nat) : Option Nat := if a < h.1 then (match h.2.2 a with
  | .inl x => some x.2.1
  | _ => none) else none
/-- writes -/
def ix_up (h : ixH) (a : Nat) (x : ixC) : ixH := (h.1, h.2.1, fun b => if b = a then x else h.2.2 b)
def ix_pf (h : ixH) (a ci k : Nat) (v : Value) : Option ixH := (ix_ob h a ci).bind fun fs => if k < fs.length then some (ix_up h a (.inr (ci, fs.set k v))) else none
def ix_si (h : ixH) (a : Nat) (i : Int32) (x : Int32) : Option ixH := if 3 ≤ a then (ix_ar h a 0).bind fun y => (match y.2 with
  | .inl f => if ix_in i y.1 then some (ix_up h a (.inl (0, y.1, .inl (upd f i.toNatClampNeg x)))) else none
  | _ => none) else none
def ix_sz (h : ixH) (a : Nat) (i : Int32) (x : Int32) : Option ixH := if 3 ≤ a then (ix_ar h a 2).bind fun y => (match y.2 with
  | .inl f => if ix_in i y.1 then some (ix_up h a (.inl (2, y.1, .inl (upd f i.toNatClampNeg (x &&& 1))))) else none
  | _ => none) else none
def ix_sl (h : ixH) (a : Nat) (i : Int32) (x : Int64) : Option ixH := if 3 ≤ a then (ix_ar h a 1).bind fun y => (match y.2 with
  | .inr (.inl f) => if ix_in i y.1 then some (ix_up h a (.inl (1, y.1, .inr (.inl (vp_updL f i.toNatClampNeg x))))) else none
  | _ => none) else none
/-- the class of an object -/
def ix_rc (h : ixH) (a : Nat) : Option Nat := if a = 1 then some 12 else if 3 ≤ a ∧ a < h.1 then (match h.2.2 a with
  | .inr o => some o.1
  | _ => none) else none
def ix_sq (h : ixH) (t a : Nat) (i : Int32) (v : Nat) : Option ixH := if 3 ≤ a then (ix_ar h a t).bind fun y => (match y.2 with
  | .inr (.inr (.inr (.inr f))) => if ix_in i y.1 && decide (3 ≤ v) && (decide (t = 4) && decide (ix_rc h v = some 3) || decide (t = 5) && decide (ix_rc h v = some 1)) then some (ix_up h a (.inl (t, y.1, .inr (.inr (.inr (.inr (va_up f i.toNatClampNeg (some v)))))))) else none
  | _ => none) else none
def ix_nw (h : ixH) (x : ixC) (n : Nat) : ixH := (h.1 + 1, h.2.1 + n, fun b => if b = h.1 then x else h.2.2 b)
def ix_cp (h : ixH) (s : Nat) (sp : Int32) (d : Nat) (dp n : Int32) : Option ixH := if 3 ≤ s ∧ 3 ≤ d ∧ s < h.1 ∧ d < h.1 ∧ sp = 0 ∧ dp = 0 ∧ ¬ n < 0 then (match h.2.2 s, h.2.2 d with
  | .inl (0, n0, .inl f), .inl (0, n1, .inl g) => if n.toNatClampNeg ≤ n0 ∧ n.toNatClampNeg ≤ n1 then some (ix_up h d (.inl (0, n1, .inl (va_cpy f g 0 0 n.toNatClampNeg)))) else none
  | .inl (1, n0, .inr (.inl f)), .inl (1, n1, .inr (.inl g)) => if n.toNatClampNeg ≤ n0 ∧ n.toNatClampNeg ≤ n1 then some (ix_up h d (.inl (1, n1, .inr (.inl (va_cpy f g 0 0 n.toNatClampNeg))))) else none
  | _, _ => none) else none
/-- instructions that read -/
def ix_gf (kd : Nat) (h : ixH) (a ci k : Nat) : Option Value := match kd with
  | 0 => (ix_gi h a ci k).map fun x => .int x
  | 1 => (ix_gl h a ci k).map fun x => .long x
  | 2 => (ix_gr h a ci k).map fun x => .ref x
  | 3 => (ix_gq h a ci k).map fun x => va_rf x
  | 4 => if a = 1 then some (.ref 2) else none
  | 5 => if a = 1 then some (.int 0) else none
  | _ => none
def ix_rd (i : Instr) (aux : List Nat) (st : List Value) (h : ixH) : Option (List Value) := match i with
  | .getfield _ => ix_p1r st fun a st => match aux with
    | [ci, k, kd, _] => (ix_gf kd h a ci k).map fun v => v :: st
    | _ => none
  | .getstatic _ => some (.int 1 :: st)
  | .ldc _ => some (.ref 1 :: st)
  | .iaload => ix_pri st fun a i st => (ix_ai h a i).map fun x => .int x :: st
  | .laload => ix_pri st fun a i st => (ix_al h a i).map fun x => .long x :: st
  | .baload => ix_pri st fun a i st => match aux with
    | [2] => (ix_az h a i).map fun x => .int x :: st
    | [3] => (ix_ab h a i).map fun x => .int x :: st
    | _ => none
  | .aaload => ix_pri st fun a i st => match aux with
    | [t] => (ix_aq h t a i).map fun x => .ref x :: st
    | _ => none
  | .arraylength => ix_p1r st fun a st => (ix_an h a).map fun n => .int (Int32.ofNat n) :: st
  | _ => none
/-- what a field of a kind takes -/
def ix_kv (kd : Nat) (v : Value) : Bool := match kd, v with
  | 0, .int _ => true
  | 1, .long _ => true
  | 2, .ref _ => true
  | 3, .ref _ => true
  | 3, .null => true
  | _, _ => false
def ix_nt (t : ArrayType) : Option (Nat × ((Nat → Int32) ⊕ (Nat → Int64) ⊕ (Nat → UInt32) ⊕ (Nat → UInt64) ⊕ (Nat → Option Nat))) := match t with
  | .int => some (0, .inl fun _ => 0)
  | .long => some (1, .inr (.inl fun _ => 0))
  | .boolean => some (2, .inl fun _ => 0)
  | _ => none
/-- instructions that write -/
def ix_wr (i : Instr) (aux : List Nat) (st : List Value) (h : ixH) : Option (List Value × ixH) := match i with
  | .putfield _ => match st with
    | v :: .ref a :: st => match aux with
      | [ci, k, kd, _] => if ix_kv kd v then (ix_pf h a ci k v).map fun h2 => (st, h2) else none
      | _ => none
    | _ => none
  | .iastore => match st with
    | .int x :: .int i :: .ref a :: st => (ix_si h a i x).map fun h2 => (st, h2)
    | _ => none
  | .bastore => match st with
    | .int x :: .int i :: .ref a :: st => (ix_sz h a i x).map fun h2 => (st, h2)
    | _ => none
  | .lastore => match st with
    | .long x :: .int i :: .ref a :: st => (ix_sl h a i x).map fun h2 => (st, h2)
    | _ => none
  | .aastore => match st with
    | .ref x :: .int i :: .ref a :: st => match aux with
      | [t] => (ix_sq h t a i x).map fun h2 => (st, h2)
      | _ => none
    | _ => none
  | .new _ => match aux with
    | [ci, _] => some (.ref h.1 :: st, ix_nw h (.inr (ci, ix_df ci)) (ix_N ci))
    | _ => none
  | .newarray t => ix_p1i st fun n st => (ix_nt t).bind fun x => if ¬ n < 0 ∧ n.toNatClampNeg ≤ 65536 then some (.ref h.1 :: st, ix_nw h (.inl (x.1, n.toNatClampNeg, x.2)) n.toNatClampNeg) else none
  | .anewarray _ => ix_p1i st fun n st => match aux with
    | [t, _] => if ¬ n < 0 ∧ n.toNatClampNeg ≤ 65536 then some (.ref h.1 :: st, ix_nw h (.inl (t, n.toNatClampNeg, .inr (.inr (.inr (.inr fun _ => none))))) n.toNatClampNeg) else none
    | _ => none
  | _ => none
/-- static methods that are taken as they are: 7 System.arraycopy, 8 Math.max, 9 Math.min -/
def ix_pc (kd : Nat) (st : List Value) (h : ixH) : Option (List Value × ixH) := match kd with
  | 7 => (match st with
    | .int n :: .int dp :: .ref d :: .int sp :: .ref s :: st => if (st.map fun v => v.category).sum ≤ 8 then (ix_cp h s sp d dp n).map fun h2 => (st, h2) else none
    | _ => none)
  | 8 => (match st with
    | .int y :: .int x :: st => if (st.map fun v => v.category).sum ≤ 8 then some (.int (if x < y then y else x) :: st, h) else none
    | _ => none)
  | 9 => (match st with
    | .int y :: .int x :: st => if (st.map fun v => v.category).sum ≤ 8 then some (.int (if y < x then y else x) :: st, h) else none
    | _ => none)
  | _ => none
/-- which machine heap an abstract one stands for -/
def ix_ex (U : State) (dC : Nat → ClassId) (dI : Nat → Nat → Nat) (E : Nat × Nat × Nat × Nat) (k : Nat) (x : ixC) (H : Heap) : Prop := match x with
  | .inl a => ∃ cA : ClassId, ArrOfT U cA (ix_et a.1) ∧ va_RA U cA (ix_et a.1) ∧ H[ix_ad E k]? = some (arrV cA a.2.1 (fun j => ix_sh E (ix_val a.2 j)))
  | .inr o => o.1 < 12 ∧ o.2.length = ix_N o.1 ∧ t_OB (ix_ad E k) (dC o.1) (ix_N o.1) (dI o.1) H (fun j => ix_sh E (vp_V o.2 j))
def ix_hp (U : State) (dC : Nat → ClassId) (dI : Nat → Nat → Nat) (E : Nat × Nat × Nat × Nat) (h : ixH) (H : Heap) : Prop :=
  3 ≤ h.1 ∧ H.size = E.2.2.2 + (h.1 - 3) ∧ E.1 < E.2.2.2 ∧ (∃ (n : Nat) (f : Nat → Int32), h.2.2 0 = .inl (0, n, .inl f) ∧ n < 2 ^ 31 ∧ va_X E.1 n f U H) ∧ h.2.2 1 = .inr (12, []) ∧ h.2.2 2 = .inl (3, 8, .inl fun j => ix_byL.getD j 0) ∧
  vk_S 1 [8] [ix_byL] (fun _ => E.2.1) (fun _ => E.2.2.1) (fun q => E.2.2.2 ≤ q) U H ∧ va_Z "java/lang/String" "COMPACT_STRINGS" "Z" (.int 1) (fun q => E.2.2.2 ≤ q) U H ∧
  ∀ k : Nat, 3 ≤ k → k < h.1 → ix_ex U dC dI E k (h.2.2 k) H
theorem ix_ad3 {E : Nat × Nat × Nat × Nat} {k : Nat} (h : 3 ≤ k) : ix_ad E k = E.2.2.2 + (k - 3) := by
  obtain ⟨j, rfl⟩ : ∃ j, k = j + 3 := ⟨k - 3, by omega⟩
  rfl
theorem ix_ex.kept {U : State} {dC : Nat → ClassId} {dI : Nat → Nat → Nat} {E : Nat × Nat × Nat × Nat} {k : Nat} {x : ixC} {H H1 : Heap} (h : ix_ex U dC dI E k x H) (hq : H1[ix_ad E k]? = H[ix_ad E k]?) : ix_ex U dC dI E k x H1 := by
  cases x with
  | inl a =>
    obtain ⟨cA, h1, h2, h3⟩ := h
    exact ⟨cA, h1, h2, hq.trans h3⟩
  | inr o =>
    obtain ⟨h1, h2, h3⟩ := h
    exact ⟨h1, h2, h3.kept hq⟩
theorem ix_ex.moved {u U : State} {dC : Nat → ClassId} {dI : Nat → Nat → Nat} {E : Nat × Nat × Nat × Nat} {k : Nat} {x : ixC} {H : Heap} (hvm : u.vm.Alike U.vm) (h : ix_ex u dC dI E k x H) : ix_ex U dC dI E k x H := by
  cases x with
  | inl a =>
    obtain ⟨cA, h1, h2, h3⟩ := h
    exact ⟨cA, arrOfT_moved hvm h1, h2.moved hvm, h3⟩
  | inr o => exact h
theorem ix_hp.moved {u U : State} {dC : Nat → ClassId} {dI : Nat → Nat → Nat} {E : Nat × Nat × Nat × Nat} {h : ixH} {H : Heap} (hvm : u.vm.Alike U.vm) (g : ix_hp u dC dI E h H) : ix_hp U dC dI E h H := by
  obtain ⟨g1, g2, g3, ⟨n, f, g4, g4b, g5⟩, g6, g7, g8, g9, g10⟩ := g
  exact ⟨g1, g2, g3, ⟨n, f, g4, g4b, g5.moved hvm⟩, g6, g7, g8.moved hvm, g9.moved hvm, fun k a b => (g10 k a b).moved hvm⟩
/-- a cell is written -/
theorem ix_hp.up {U : State} {dC : Nat → ClassId} {dI : Nat → Nat → Nat} {E : Nat × Nat × Nat × Nat} {h : ixH} {H H1 : Heap} {a : Nat} {x : ixC} (g : ix_hp U dC dI E h H) (ha : 3 ≤ a) (hx : ix_ex U dC dI E a x H1) (hs : H1.size = H.size) (oq : ∀ q : Nat, q ≠ ix_ad E a → H1[q]? = H[q]?) : ix_hp U dC dI E (ix_up h a x) H1 := by
  obtain ⟨g1, g2, g3, ⟨n, f, g4, g4b, g5⟩, g6, g7, g8, g9, g10⟩ := g
  have old : ∀ q : Nat, q < H.size → ¬ E.2.2.2 ≤ q → H1[q]? = H[q]? := fun q _ h2 => oq q (by rw [ix_ad3 ha]; omega)
  refine ⟨g1, hs.trans g2, g3, ⟨n, f, ?_, g4b, g5.kept (oq _ (by rw [ix_ad3 ha]; omega))⟩, ?_, ?_, g8.kept old, g9.kept old, fun k hk1 hk2 => ?_⟩
  · show (if 0 = a then x else h.2.2 0) = _
    rw [if_neg (by omega)]; exact g4
  · show (if 1 = a then x else h.2.2 1) = _
    rw [if_neg (by omega)]; exact g6
  · show (if 2 = a then x else h.2.2 2) = _
    rw [if_neg (by omega)]; exact g7
  · show ix_ex U dC dI E k (if k = a then x else h.2.2 k) H1
    by_cases hka : k = a
    · subst hka; rw [if_pos rfl]; exact hx
    · rw [if_neg hka]
      exact (g10 k hk1 hk2).kept (oq _ (by rw [ix_ad3 ha, ix_ad3 hk1]; omega))
/-- a cell is made -/
theorem ix_hp.push {U : State} {dC : Nat → ClassId} {dI : Nat → Nat → Nat} {E : Nat × Nat × Nat × Nat} {h : ixH} {H H1 : Heap} {x : ixC} {n0 : Nat} (g : ix_hp U dC dI E h H) (hs : H1.size = H.size + 1) (oq : ∀ q : Nat, q < H.size → H1[q]? = H[q]?) (hx : ix_ex U dC dI E h.1 x H1) : ix_hp U dC dI E (ix_nw h x n0) H1 := by
  obtain ⟨g1, g2, g3, ⟨n, f, g4, g4b, g5⟩, g6, g7, g8, g9, g10⟩ := g
  have old : ∀ q : Nat, q < H.size → ¬ E.2.2.2 ≤ q → H1[q]? = H[q]? := fun q h1 _ => oq q h1
  refine ⟨?_, ?_, g3, ⟨n, f, ?_, g4b, g5.kept (oq _ (by omega))⟩, ?_, ?_, g8.kept old, g9.kept old, fun k hk1 hk2 => ?_⟩
  · show 3 ≤ h.1 + 1
    omega
  · show H1.size = E.2.2.2 + (h.1 + 1 - 3)
    rw [hs, g2]; omega
  · show (if 0 = h.1 then x else h.2.2 0) = _
    rw [if_neg (by omega)]; exact g4
  · show (if 1 = h.1 then x else h.2.2 1) = _
    rw [if_neg (by omega)]; exact g6
  · show (if 2 = h.1 then x else h.2.2 2) = _
    rw [if_neg (by omega)]; exact g7
  · show ix_ex U dC dI E k (if k = h.1 then x else h.2.2 k) _
    have hk2 : k < h.1 + 1 := hk2
    by_cases hka : k = h.1
    · subst hka; rw [if_pos rfl]; exact hx
    · rw [if_neg hka]
      exact (g10 k hk1 (by omega)).kept (oq _ (by rw [ix_ad3 hk1]; omega))
theorem ix_hp.top {U : State} {dC : Nat → ClassId} {dI : Nat → Nat → Nat} {E : Nat × Nat × Nat × Nat} {h : ixH} {H : Heap} (g : ix_hp U dC dI E h H) : ix_ad E h.1 = H.size := by
  obtain ⟨g1, g2, -⟩ := g
  rw [ix_ad3 g1, g2]
