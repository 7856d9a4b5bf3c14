/-! PRINTED by wip/whole/gen8.py: heaps of known shape -/
abbrev ixX := (Nat → Nat → Int32) × (Nat → Nat → Int64)
def sp_fv : List (Nat × Nat) → Nat → (Nat → Int32) → (Nat → Int64) → List Value
  | [], _, _, _ => []
  | (0, _) :: r, k, f, g => .int (f k) :: sp_fv r (k + 1) f g
  | (1, _) :: r, k, f, g => .long (g k) :: sp_fv r (k + 1) f g
  | (2, a) :: r, k, f, g => .ref a :: sp_fv r (k + 1) f g
  | (_, _) :: r, k, f, g => .null :: sp_fv r (k + 1) f g
def sp_en (t : Nat × Nat × List (Nat × Nat)) (f : Nat → Int32) (g : Nat → Int64) : ixC := match t.1 with
  | 0 => .inl (0, t.2.1, .inl f)
  | 1 => .inl (1, t.2.1, .inr (.inl g))
  | 2 => .inl (2, t.2.1, .inl f)
  | 3 => .inl (3, t.2.1, .inl f)
  | 4 => .inl (4, t.2.1, .inr (.inr (.inr (.inr fun i => (t.2.2[i]?).map fun x => x.2))))
  | 5 => .inl (5, t.2.1, .inr (.inr (.inr (.inr fun i => (t.2.2[i]?).map fun x => x.2))))
  | 6 => .inr (12, [])
  | k + 10 => .inr (k, sp_fv t.2.2 0 f g)
  | _ => .inr (12, [])
def sp_T0 : List (Nat × Nat × List (Nat × Nat)) := [(10, 0, [(2, 4), (2, 21), (2, 56), (2, 57), (2, 59), (2, 63), (2, 65), (2, 67), (2, 73), (3, 0)]), (11, 0, [(2, 5), (2, 8), (2, 19), (2, 20), (0, 0)]), (12, 0, [(0, 0), (0, 0), (1, 0), (1, 0), (1, 0), (1, 0), (2, 6), (2, 7)]), (1, 4, []), (1, 4, []), (4, 5, [(2, 9), (2, 11), (2, 13), (2, 15), (2, 17)]), (13, 0, [(2, 10), (0, 0), (1, 0)]), (0, 64, []), (13, 0, [(2, 12), (0, 0), (1, 0)]), (0, 64, []), (13, 0, [(2, 14), (0, 0), (1, 0)]), (0, 64, []), (13, 0, [(2, 16), (0, 0), (1, 0)]), (0, 64, []), (13, 0, [(2, 18), (0, 0), (1, 0)]), (0, 64, []), (0, 4, []), (0, 4, []), (5, 2, [(2, 22), (2, 39)]), (11, 0, [(2, 23), (2, 26), (2, 37), (2, 38), (0, 0)]), (12, 0, [(0, 0), (0, 0), (1, 0), (1, 0), (1, 0), (1, 0), (2, 24), (2, 25)]), (1, 4, []), (1, 4, []), (4, 5, [(2, 27), (2, 29), (2, 31), (2, 33), (2, 35)]), (13, 0, [(2, 28), (0, 0), (1, 0)]), (0, 64, []), (13, 0, [(2, 30), (0, 0), (1, 0)]), (0, 64, []), (13, 0, [(2, 32), (0, 0), (1, 0)]), (0, 64, []), (13, 0, [(2, 34), (0, 0), (1, 0)]), (0, 64, []), (13, 0, [(2, 36), (0, 0), (1, 0)]), (0, 64, []), (0, 4, []), (0, 4, []), (11, 0, [(2, 40), (2, 43), (2, 54), (2, 55), (0, 0)]), (12, 0, [(0, 0), (0, 0), (1, 0), (1, 0), (1, 0), (1, 0), (2, 41), (2, 42)]), (1, 4, []), (1, 4, []), (4, 5, [(2, 44), (2, 46), (2, 48), (2, 50), (2, 52)]), (13, 0, [(2, 45), (0, 0), (1, 0)]), (0, 64, []), (13, 0, [(2, 47), (0, 0), (1, 0)]), (0, 64, []), (13, 0, [(2, 49), (0, 0), (1, 0)]), (0, 64, []), (13, 0, [(2, 51), (0, 0), (1, 0)]), (0, 64, []), (13, 0, [(2, 53), (0, 0), (1, 0)]), (0, 64, []), (0, 4, []), (0, 4, []), (2, 2, []), (14, 0, [(2, 58), (0, 0)]), (0, 80, []), (15, 0, [(2, 60), (2, 61), (2, 62)]), (1, 64, []), (1, 16, []), (1, 16, []), (16, 0, [(2, 64)]), (1, 64, []), (17, 0, [(2, 66), (1, 0), (1, 0), (1, 0), (1, 0), (1, 0), (1, 0), (1, 0), (1, 0), (1, 0), (1, 0)]), (1, 64, []), (18, 0, [(2, 68), (2, 69), (2, 70), (2, 71), (2, 72), (1, 0), (1, 0)]), (1, 64, []), (0, 64, []), (0, 64, []), (0, 64, []), (0, 64, []), (13, 0, [(2, 74), (0, 0), (1, 0)]), (0, 64, []), (21, 0, [(2, 76), (2, 77), (2, 78), (2, 79), (2, 80), (2, 81), (2, 82), (2, 83), (2, 84), (2, 85), (2, 86), (2, 87), (0, 0), (0, 0), (0, 0), (2, 88), (2, 89), (2, 90), (2, 91), (2, 92), (0, 0), (2, 93), (2, 94), (2, 95), (2, 96), (2, 97), (2, 98), (0, 0), (2, 99), (2, 100), (2, 101), (0, 0), (0, 0), (0, 0)]), (0, 720, []), (0, 1440, []), (2, 2, []), (1, 64, []), (1, 6561, []), (1, 6561, []), (1, 16, []), (0, 64, []), (0, 128, []), (0, 64, []), (0, 64, []), (0, 128, []), (0, 256, []), (0, 64, []), (0, 64, []), (2, 64, []), (0, 64, []), (2, 4096, []), (2, 64, []), (0, 64, []), (0, 64, []), (0, 64, []), (0, 64, []), (0, 130, []), (0, 2, []), (0, 80, [])]
def sp_T1 : List (Nat × Nat × List (Nat × Nat)) := [(10, 0, [(2, 4), (2, 21), (2, 56), (2, 57), (2, 59), (2, 63), (2, 65), (2, 67), (2, 73), (2, 102)]), (11, 0, [(2, 5), (2, 8), (2, 19), (2, 20), (0, 0)]), (12, 0, [(0, 0), (0, 0), (1, 0), (1, 0), (1, 0), (1, 0), (2, 6), (2, 7)]), (1, 4, []), (1, 4, []), (4, 5, [(2, 9), (2, 11), (2, 13), (2, 15), (2, 17)]), (13, 0, [(2, 10), (0, 0), (1, 0)]), (0, 64, []), (13, 0, [(2, 12), (0, 0), (1, 0)]), (0, 64, []), (13, 0, [(2, 14), (0, 0), (1, 0)]), (0, 64, []), (13, 0, [(2, 16), (0, 0), (1, 0)]), (0, 64, []), (13, 0, [(2, 18), (0, 0), (1, 0)]), (0, 64, []), (0, 4, []), (0, 4, []), (5, 2, [(2, 22), (2, 39)]), (11, 0, [(2, 23), (2, 26), (2, 37), (2, 38), (0, 0)]), (12, 0, [(0, 0), (0, 0), (1, 0), (1, 0), (1, 0), (1, 0), (2, 24), (2, 25)]), (1, 4, []), (1, 4, []), (4, 5, [(2, 27), (2, 29), (2, 31), (2, 33), (2, 35)]), (13, 0, [(2, 28), (0, 0), (1, 0)]), (0, 64, []), (13, 0, [(2, 30), (0, 0), (1, 0)]), (0, 64, []), (13, 0, [(2, 32), (0, 0), (1, 0)]), (0, 64, []), (13, 0, [(2, 34), (0, 0), (1, 0)]), (0, 64, []), (13, 0, [(2, 36), (0, 0), (1, 0)]), (0, 64, []), (0, 4, []), (0, 4, []), (11, 0, [(2, 40), (2, 43), (2, 54), (2, 55), (0, 0)]), (12, 0, [(0, 0), (0, 0), (1, 0), (1, 0), (1, 0), (1, 0), (2, 41), (2, 42)]), (1, 4, []), (1, 4, []), (4, 5, [(2, 44), (2, 46), (2, 48), (2, 50), (2, 52)]), (13, 0, [(2, 45), (0, 0), (1, 0)]), (0, 64, []), (13, 0, [(2, 47), (0, 0), (1, 0)]), (0, 64, []), (13, 0, [(2, 49), (0, 0), (1, 0)]), (0, 64, []), (13, 0, [(2, 51), (0, 0), (1, 0)]), (0, 64, []), (13, 0, [(2, 53), (0, 0), (1, 0)]), (0, 64, []), (0, 4, []), (0, 4, []), (2, 2, []), (14, 0, [(2, 58), (0, 0)]), (0, 80, []), (15, 0, [(2, 60), (2, 61), (2, 62)]), (1, 64, []), (1, 16, []), (1, 16, []), (16, 0, [(2, 64)]), (1, 64, []), (17, 0, [(2, 66), (1, 0), (1, 0), (1, 0), (1, 0), (1, 0), (1, 0), (1, 0), (1, 0), (1, 0), (1, 0)]), (1, 64, []), (18, 0, [(2, 68), (2, 69), (2, 70), (2, 71), (2, 72), (1, 0), (1, 0)]), (1, 64, []), (0, 64, []), (0, 64, []), (0, 64, []), (0, 64, []), (13, 0, [(2, 74), (0, 0), (1, 0)]), (0, 64, []), (21, 0, [(2, 76), (2, 77), (2, 78), (2, 79), (2, 80), (2, 81), (2, 82), (2, 83), (2, 84), (2, 85), (2, 86), (2, 87), (0, 0), (0, 0), (0, 0), (2, 88), (2, 89), (2, 90), (2, 91), (2, 92), (0, 0), (2, 93), (2, 94), (2, 95), (2, 96), (2, 97), (2, 98), (0, 0), (2, 99), (2, 100), (2, 101), (0, 0), (0, 0), (0, 0)]), (0, 720, []), (0, 1440, []), (2, 2, []), (1, 64, []), (1, 6561, []), (1, 6561, []), (1, 16, []), (0, 64, []), (0, 128, []), (0, 64, []), (0, 64, []), (0, 128, []), (0, 256, []), (0, 64, []), (0, 64, []), (2, 64, []), (0, 64, []), (2, 4096, []), (2, 64, []), (0, 64, []), (0, 64, []), (0, 64, []), (0, 64, []), (0, 130, []), (0, 2, []), (0, 80, []), (19, 0, [(2, 103), (2, 104), (2, 105), (2, 106), (2, 109)]), (1, 4, []), (0, 4, []), (0, 4, []), (20, 0, [(2, 107), (2, 108), (0, 0)]), (1, 4096, []), (0, 4096, []), (20, 0, [(2, 110), (2, 111), (0, 0)]), (1, 4096, []), (0, 4096, [])]
def sp_T2 : List (Nat × Nat × List (Nat × Nat)) := [(10, 0, [(2, 4), (2, 21), (2, 56), (2, 57), (2, 59), (2, 63), (2, 65), (2, 67), (2, 73), (2, 102)]), (11, 0, [(2, 5), (2, 8), (2, 19), (2, 20), (0, 0)]), (12, 0, [(0, 0), (0, 0), (1, 0), (1, 0), (1, 0), (1, 0), (2, 6), (2, 7)]), (1, 4, []), (1, 4, []), (4, 5, [(2, 9), (2, 11), (2, 13), (2, 15), (2, 17)]), (13, 0, [(2, 10), (0, 0), (1, 0)]), (0, 64, []), (13, 0, [(2, 12), (0, 0), (1, 0)]), (0, 64, []), (13, 0, [(2, 14), (0, 0), (1, 0)]), (0, 64, []), (13, 0, [(2, 16), (0, 0), (1, 0)]), (0, 64, []), (13, 0, [(2, 18), (0, 0), (1, 0)]), (0, 64, []), (0, 4, []), (0, 4, []), (5, 2, [(2, 22), (2, 39)]), (11, 0, [(2, 23), (2, 26), (2, 37), (2, 38), (0, 0)]), (12, 0, [(0, 0), (0, 0), (1, 0), (1, 0), (1, 0), (1, 0), (2, 24), (2, 25)]), (1, 4, []), (1, 4, []), (4, 5, [(2, 27), (2, 29), (2, 31), (2, 33), (2, 35)]), (13, 0, [(2, 28), (0, 0), (1, 0)]), (0, 64, []), (13, 0, [(2, 30), (0, 0), (1, 0)]), (0, 64, []), (13, 0, [(2, 32), (0, 0), (1, 0)]), (0, 64, []), (13, 0, [(2, 34), (0, 0), (1, 0)]), (0, 64, []), (13, 0, [(2, 36), (0, 0), (1, 0)]), (0, 64, []), (0, 4, []), (0, 4, []), (11, 0, [(2, 40), (2, 43), (2, 54), (2, 55), (0, 0)]), (12, 0, [(0, 0), (0, 0), (1, 0), (1, 0), (1, 0), (1, 0), (2, 41), (2, 42)]), (1, 4, []), (1, 4, []), (4, 5, [(2, 44), (2, 46), (2, 48), (2, 50), (2, 52)]), (13, 0, [(2, 45), (0, 0), (1, 0)]), (0, 64, []), (13, 0, [(2, 47), (0, 0), (1, 0)]), (0, 64, []), (13, 0, [(2, 49), (0, 0), (1, 0)]), (0, 64, []), (13, 0, [(2, 51), (0, 0), (1, 0)]), (0, 64, []), (13, 0, [(2, 53), (0, 0), (1, 0)]), (0, 64, []), (0, 4, []), (0, 4, []), (2, 2, []), (14, 0, [(2, 58), (0, 0)]), (0, 80, []), (15, 0, [(2, 60), (2, 61), (2, 62)]), (1, 64, []), (1, 16, []), (1, 16, []), (16, 0, [(2, 64)]), (1, 64, []), (17, 0, [(2, 66), (1, 0), (1, 0), (1, 0), (1, 0), (1, 0), (1, 0), (1, 0), (1, 0), (1, 0), (1, 0)]), (1, 64, []), (18, 0, [(2, 68), (2, 69), (2, 70), (2, 71), (2, 72), (1, 0), (1, 0)]), (1, 64, []), (0, 64, []), (0, 64, []), (0, 64, []), (0, 64, []), (13, 0, [(2, 74), (0, 0), (1, 0)]), (0, 64, []), (21, 0, [(2, 76), (2, 77), (2, 78), (2, 79), (2, 80), (2, 81), (2, 82), (2, 83), (2, 84), (2, 85), (2, 86), (2, 87), (0, 0), (0, 0), (0, 0), (2, 88), (2, 89), (2, 90), (2, 91), (2, 92), (0, 0), (2, 93), (2, 94), (2, 95), (2, 96), (2, 97), (2, 98), (0, 0), (2, 99), (2, 100), (2, 101), (0, 0), (0, 0), (0, 0)]), (0, 720, []), (0, 1440, []), (2, 2, []), (1, 64, []), (1, 6561, []), (1, 6561, []), (1, 16, []), (0, 64, []), (0, 128, []), (0, 64, []), (0, 64, []), (0, 128, []), (0, 256, []), (0, 64, []), (0, 64, []), (2, 64, []), (0, 64, []), (2, 4096, []), (2, 64, []), (0, 64, []), (0, 64, []), (0, 64, []), (0, 64, []), (0, 130, []), (0, 2, []), (0, 80, []), (19, 0, [(2, 103), (2, 104), (2, 105), (2, 109), (2, 106)]), (1, 4, []), (0, 4, []), (0, 4, []), (20, 0, [(2, 107), (2, 108), (0, 0)]), (1, 4096, []), (0, 4096, []), (20, 0, [(2, 110), (2, 111), (0, 0)]), (1, 4096, []), (0, 4096, [])]
/-- c: the cells beyond 102, the slots, the length of the script, the state of the bundle (0 none, 1, 2 its tallies exchanged) -/
abbrev ixK := Nat × Nat × Nat × Nat
def sp_T (b : Nat) : List (Nat × Nat × List (Nat × Nat)) := match b with
  | 0 => sp_T0
  | 1 => sp_T1
  | _ => sp_T2
def sp_sh (c : ixK) (a : Nat) : Nat × Nat × List (Nat × Nat) := match a with
  | 0 => (0, c.2.2.1, [])
  | 1 => (6, 0, [])
  | 2 => (3, 8, [])
  | a + 3 => (sp_T c.2.2.2).getD a (3, 8, [])
def hp (c : ixK) (X : ixX) : ixH := (c.1 + 102, c.2.1, fun a => sp_en (sp_sh c a) (X.1 a) (X.2 a))
def aI (X : ixX) (a : Nat) (f : Nat → Int32) : ixX := (fun b => if b = a then f else X.1 b, X.2)
def aJ (X : ixX) (a : Nat) (g : Nat → Int64) : ixX := (X.1, fun b => if b = a then g else X.2 b)
theorem aI_1 (X : ixX) (a : Nat) (f : Nat → Int32) : (aI X a f).1 a = f := if_pos rfl
theorem aI_n (X : ixX) {a b : Nat} (f : Nat → Int32) (h : ¬ b = a) : (aI X a f).1 b = X.1 b := if_neg h
theorem aI_2 (X : ixX) (a : Nat) (f : Nat → Int32) : (aI X a f).2 = X.2 := rfl
theorem aJ_1 (X : ixX) (a : Nat) (g : Nat → Int64) : (aJ X a g).2 a = g := if_pos rfl
theorem aJ_n (X : ixX) {a b : Nat} (g : Nat → Int64) (h : ¬ b = a) : (aJ X a g).2 b = X.2 b := if_neg h
theorem aJ_2 (X : ixX) (a : Nat) (g : Nat → Int64) : (aJ X a g).1 = X.1 := rfl
theorem aI_aI (X : ixX) (a : Nat) (f g : Nat → Int32) : aI (aI X a f) a g = aI X a g := by
  unfold aI
  congr 1
  funext b
  dsimp only
  split <;> rfl
theorem aJ_aJ (X : ixX) (a : Nat) (f g : Nat → Int64) : aJ (aJ X a f) a g = aJ X a g := by
  unfold aJ
  congr 1
  funext b
  dsimp only
  split <;> rfl
theorem aI_self (X : ixX) (a : Nat) : aI X a (X.1 a) = X := by
  unfold aI
  obtain ⟨I, J⟩ := X
  congr 1
  funext b
  dsimp only
  split
  · rename_i h; rw [h]
  · rfl
theorem aJ_self (X : ixX) (a : Nat) : aJ X a (X.2 a) = X := by
  unfold aJ
  obtain ⟨I, J⟩ := X
  congr 1
  funext b
  dsimp only
  split
  · rename_i h; rw [h]
  · rfl
theorem aI_id {X : ixX} {a : Nat} {f : Nat → Int32} (h : f = X.1 a) : aI X a f = X := by subst h; exact aI_self X a
theorem aJ_id {X : ixX} {a : Nat} {f : Nat → Int64} (h : f = X.2 a) : aJ X a f = X := by subst h; exact aJ_self X a
theorem hp_upI {c : ixK} {X : ixX} {a : Nat} {f : Nat → Int32} {x : ixC} (h : sp_en (sp_sh c a) f (X.2 a) = x) : ix_up (hp c X) a x = hp c (aI X a f) := by
  subst h
  unfold ix_up hp aI
  congr 2
  funext b
  dsimp only
  by_cases hb : b = a
  · subst hb; rw [if_pos rfl, if_pos rfl]
  · rw [if_neg hb, if_neg hb]
theorem hp_upJ {c : ixK} {X : ixX} {a : Nat} {g : Nat → Int64} {x : ixC} (h : sp_en (sp_sh c a) (X.1 a) g = x) : ix_up (hp c X) a x = hp c (aJ X a g) := by
  subst h
  unfold ix_up hp aJ
  congr 2
  funext b
  dsimp only
  by_cases hb : b = a
  · subst hb; rw [if_pos rfl, if_pos rfl]
  · rw [if_neg hb, if_neg hb]
theorem hp_ob {c : ixK} {X : ixX} {a ci n : Nat} {fs : List (Nat × Nat)} (h3 : 3 ≤ a) (hn : a < c.1 + 102) (hs : sp_sh c a = (ci + 10, n, fs)) : ix_ob (hp c X) a ci = some (sp_fv fs 0 (X.1 a) (X.2 a)) := by
  unfold ix_ob
  rw [if_pos ⟨h3, hn⟩]
  have e : (hp c X).2.2 a = .inr (ci, sp_fv fs 0 (X.1 a) (X.2 a)) := by
    show sp_en (sp_sh c a) (X.1 a) (X.2 a) = _
    rw [hs]
    rfl
  rw [e]
  exact if_pos rfl
theorem hp_rc {c : ixK} {X : ixX} {a ci n : Nat} {fs : List (Nat × Nat)} (h3 : 3 ≤ a) (hn : a < c.1 + 102) (hs : sp_sh c a = (ci + 10, n, fs)) : ix_rc (hp c X) a = some ci := by
  unfold ix_rc
  rw [if_neg (by omega), if_pos ⟨h3, hn⟩]
  have e : (hp c X).2.2 a = .inr (ci, sp_fv fs 0 (X.1 a) (X.2 a)) := by
    show sp_en (sp_sh c a) (X.1 a) (X.2 a) = _
    rw [hs]
    rfl
  rw [e]
theorem hp_gi {c : ixK} {X : ixX} {a ci k n : Nat} {fs : List (Nat × Nat)} {x : Int32} (h3 : 3 ≤ a) (hn : a < c.1 + 102) (hs : sp_sh c a = (ci + 10, n, fs)) (hk : (sp_fv fs 0 (X.1 a) (X.2 a))[k]? = some (.int x)) : ix_gi (hp c X) a ci k = some x := by
  unfold ix_gi
  rw [hp_ob h3 hn hs, Option.bind_some, hk]
theorem hp_gl {c : ixK} {X : ixX} {a ci k n : Nat} {fs : List (Nat × Nat)} {x : Int64} (h3 : 3 ≤ a) (hn : a < c.1 + 102) (hs : sp_sh c a = (ci + 10, n, fs)) (hk : (sp_fv fs 0 (X.1 a) (X.2 a))[k]? = some (.long x)) : ix_gl (hp c X) a ci k = some x := by
  unfold ix_gl
  rw [hp_ob h3 hn hs, Option.bind_some, hk]
theorem hp_gr {c : ixK} {X : ixX} {a ci k n : Nat} {fs : List (Nat × Nat)} {x : Nat} (h3 : 3 ≤ a) (hn : a < c.1 + 102) (hs : sp_sh c a = (ci + 10, n, fs)) (hk : (sp_fv fs 0 (X.1 a) (X.2 a))[k]? = some (.ref x)) : ix_gr (hp c X) a ci k = some x := by
  unfold ix_gr
  rw [hp_ob h3 hn hs, Option.bind_some, hk]
theorem hp_pI {c : ixK} {X : ixX} {a ci k n : Nat} {fs : List (Nat × Nat)} {x : Int32} (h3 : 3 ≤ a) (hn : a < c.1 + 102) (hs : sp_sh c a = (ci + 10, n, fs)) (hk : k < (sp_fv fs 0 (X.1 a) (X.2 a)).length) (he : sp_fv fs 0 (upd (X.1 a) k x) (X.2 a) = (sp_fv fs 0 (X.1 a) (X.2 a)).set k (.int x)) : ix_pf (hp c X) a ci k (.int x) = some (hp c (aI X a (upd (X.1 a) k x))) := by
  unfold ix_pf
  rw [hp_ob h3 hn hs, Option.bind_some, if_pos hk]
  congr 1
  refine hp_upI ?_
  rw [hs, ← he]
  rfl
theorem hp_pJ {c : ixK} {X : ixX} {a ci k n : Nat} {fs : List (Nat × Nat)} {x : Int64} (h3 : 3 ≤ a) (hn : a < c.1 + 102) (hs : sp_sh c a = (ci + 10, n, fs)) (hk : k < (sp_fv fs 0 (X.1 a) (X.2 a)).length) (he : sp_fv fs 0 (X.1 a) (vp_updL (X.2 a) k x) = (sp_fv fs 0 (X.1 a) (X.2 a)).set k (.long x)) : ix_pf (hp c X) a ci k (.long x) = some (hp c (aJ X a (vp_updL (X.2 a) k x))) := by
  unfold ix_pf
  rw [hp_ob h3 hn hs, Option.bind_some, if_pos hk]
  congr 1
  refine hp_upJ ?_
  rw [hs, ← he]
  rfl
theorem hp_inb {i n : Nat} (hi : i < n) (hn : n ≤ 65536) : ix_in (nI i) n = true := decide_eq_true (nI_in hi (by omega))
theorem hp_ar {c : ixK} {X : ixX} {a t n : Nat} {v : vp_A} (hn : a < c.1 + 102) (hs : sp_en (sp_sh c a) (X.1 a) (X.2 a) = .inl (t, v)) : ix_ar (hp c X) a t = some v := by
  unfold ix_ar
  rw [if_pos (show a < (hp c X).1 from hn)]
  have e : (hp c X).2.2 a = .inl (t, v) := hs
  rw [e]
  exact if_pos rfl
theorem hp_ai {c : ixK} {X : ixX} {a n i : Nat} (hn : a < c.1 + 102) (hs : sp_sh c a = (0, n, [])) (hi : i < n) (hb : n ≤ 65536) : ix_ai (hp c X) a (nI i) = some (X.1 a i) := by
  unfold ix_ai
  rw [hp_ar (n := n) (v := (n, .inl (X.1 a))) hn (by rw [hs]; rfl), Option.bind_some]
  show (if ix_in (nI i) n then some (X.1 a (nI i).toNatClampNeg) else none) = _
  rw [hp_inb hi hb, if_pos rfl, nI_clamp (by omega)]
theorem hp_az {c : ixK} {X : ixX} {a n i : Nat} (hn : a < c.1 + 102) (hs : sp_sh c a = (2, n, [])) (hi : i < n) (hb : n ≤ 65536) : ix_az (hp c X) a (nI i) = some (X.1 a i) := by
  unfold ix_az
  rw [hp_ar (n := n) (v := (n, .inl (X.1 a))) hn (by rw [hs]; rfl), Option.bind_some]
  show (if ix_in (nI i) n then some (X.1 a (nI i).toNatClampNeg) else none) = _
  rw [hp_inb hi hb, if_pos rfl, nI_clamp (by omega)]
theorem hp_ab {c : ixK} {X : ixX} {a n i : Nat} (hn : a < c.1 + 102) (hs : sp_sh c a = (3, n, [])) (hi : i < n) (hb : n ≤ 65536) : ix_ab (hp c X) a (nI i) = some (X.1 a i) := by
  unfold ix_ab
  rw [hp_ar (n := n) (v := (n, .inl (X.1 a))) hn (by rw [hs]; rfl), Option.bind_some]
  show (if ix_in (nI i) n then some (X.1 a (nI i).toNatClampNeg) else none) = _
  rw [hp_inb hi hb, if_pos rfl, nI_clamp (by omega)]
theorem hp_al {c : ixK} {X : ixX} {a n i : Nat} (hn : a < c.1 + 102) (hs : sp_sh c a = (1, n, [])) (hi : i < n) (hb : n ≤ 65536) : ix_al (hp c X) a (nI i) = some (X.2 a i) := by
  unfold ix_al
  rw [hp_ar (n := n) (v := (n, .inr (.inl (X.2 a)))) hn (by rw [hs]; rfl), Option.bind_some]
  show (if ix_in (nI i) n then some (X.2 a (nI i).toNatClampNeg) else none) = _
  rw [hp_inb hi hb, if_pos rfl, nI_clamp (by omega)]
theorem hp_aq {c : ixK} {X : ixX} {a n i t r : Nat} {fs : List (Nat × Nat)} (h3 : 3 ≤ a) (hn : a < c.1 + 102) (ht : t = 4 ∨ t = 5) (hs : sp_sh c a = (t, n, fs)) (hi : i < n) (hb : n ≤ 65536) (hr : (fs[i]?).map (fun x => x.2) = some r) : ix_aq (hp c X) t a (nI i) = some r := by
  unfold ix_aq
  rw [if_pos h3, hp_ar (n := n) (v := (n, .inr (.inr (.inr (.inr fun i => (fs[i]?).map fun x => x.2))))) hn (by rw [hs]; rcases ht with rfl | rfl <;> rfl), Option.bind_some]
  show (if ix_in (nI i) n then ((fs[(nI i).toNatClampNeg]?).map fun x => x.2) else none) = _
  rw [hp_inb hi hb, if_pos rfl, nI_clamp (by omega), hr]
theorem hp_si {c : ixK} {X : ixX} {a n i : Nat} {x : Int32} (h3 : 3 ≤ a) (hn : a < c.1 + 102) (hs : sp_sh c a = (0, n, [])) (hi : i < n) (hb : n ≤ 65536) : ix_si (hp c X) a (nI i) x = some (hp c (aI X a (upd (X.1 a) i x))) := by
  unfold ix_si
  rw [if_pos h3, hp_ar (n := n) (v := (n, .inl (X.1 a))) hn (by rw [hs]; rfl), Option.bind_some]
  show (if ix_in (nI i) n then some (ix_up (hp c X) a (.inl (0, n, .inl (upd (X.1 a) (nI i).toNatClampNeg x)))) else none) = _
  rw [hp_inb hi hb, if_pos rfl, nI_clamp (by omega)]
  congr 1
  exact hp_upI (by rw [hs]; rfl)
theorem hp_sz {c : ixK} {X : ixX} {a n i : Nat} {x : Int32} (h3 : 3 ≤ a) (hn : a < c.1 + 102) (hs : sp_sh c a = (2, n, [])) (hi : i < n) (hb : n ≤ 65536) : ix_sz (hp c X) a (nI i) x = some (hp c (aI X a (upd (X.1 a) i (x &&& 1)))) := by
  unfold ix_sz
  rw [if_pos h3, hp_ar (n := n) (v := (n, .inl (X.1 a))) hn (by rw [hs]; rfl), Option.bind_some]
  show (if ix_in (nI i) n then some (ix_up (hp c X) a (.inl (2, n, .inl (upd (X.1 a) (nI i).toNatClampNeg (x &&& 1))))) else none) = _
  rw [hp_inb hi hb, if_pos rfl, nI_clamp (by omega)]
  congr 1
  exact hp_upI (by rw [hs]; rfl)
theorem hp_sl {c : ixK} {X : ixX} {a n i : Nat} {x : Int64} (h3 : 3 ≤ a) (hn : a < c.1 + 102) (hs : sp_sh c a = (1, n, [])) (hi : i < n) (hb : n ≤ 65536) : ix_sl (hp c X) a (nI i) x = some (hp c (aJ X a (vp_updL (X.2 a) i x))) := by
  unfold ix_sl
  rw [if_pos h3, hp_ar (n := n) (v := (n, .inr (.inl (X.2 a)))) hn (by rw [hs]; rfl), Option.bind_some]
  show (if ix_in (nI i) n then some (ix_up (hp c X) a (.inl (1, n, .inr (.inl (vp_updL (X.2 a) (nI i).toNatClampNeg x))))) else none) = _
  rw [hp_inb hi hb, if_pos rfl, nI_clamp (by omega)]
  congr 1
  exact hp_upJ (by rw [hs]; rfl)
theorem hp_an {c : ixK} {X : ixX} {a t n : Nat} {v : vp_A} (hn : a < c.1 + 102) (hs : sp_en (sp_sh c a) (X.1 a) (X.2 a) = .inl (t, v)) : ix_an (hp c X) a = some v.1 := by
  unfold ix_an
  rw [if_pos (show a < (hp c X).1 from hn)]
  have e : (hp c X).2.2 a = .inl (t, v) := hs
  rw [e]
/-- below 102 the table is one -/
theorem sp_lt {c : ixK} {a : Nat} {t : Nat × Nat × List (Nat × Nat)} (h : ∀ b, (sp_T b).getD a (3, 8, []) = t) : sp_sh c (a + 3) = t := h _
theorem bO {α β : Type} {o : Option α} {v : α} {k : α → Option β} (h : o = some v) : o.bind k = k v := by rw [h]; rfl
theorem kI_of {β : Type} {o : Option (List Value × ixH)} {v : Int32} {h' : ixH} {k : Int32 → ixH → Option β} (h : o = some ([.int v], h')) : (o.bind fun r => ix_kI r k) = k v h' := by rw [h]; rfl
theorem kL_of {β : Type} {o : Option (List Value × ixH)} {v : Int64} {h' : ixH} {k : Int64 → ixH → Option β} (h : o = some ([.long v], h')) : (o.bind fun r => ix_kL r k) = k v h' := by rw [h]; rfl
theorem kV_of {β : Type} {o : Option (List Value × ixH)} {h' : ixH} {k : ixH → Option β} (h : o = some ([], h')) : (o.bind fun r => ix_kV r k) = k h' := by rw [h]; rfl
theorem kZ_of {β : Type} {o : Option (List Value × ixH)} {b : Bool} {h' : ixH} {k : Bool → ixH → Option β} (h : o = some ([.int (ix_bi b)], h')) : (o.bind fun r => ix_kZ r k) = k b h' := by rw [h]; exact ix_kZb b h' k
set_option maxRecDepth 4000 in
theorem sh_4 (c : ixK) : sp_sh c 4 = (11, 0, [(2, 5), (2, 8), (2, 19), (2, 20), (0, 0)]) := sp_lt fun b => by match b with | 0 => rfl | 1 => rfl | b + 2 => rfl
set_option maxRecDepth 4000 in
theorem sh_5 (c : ixK) : sp_sh c 5 = (12, 0, [(0, 0), (0, 0), (1, 0), (1, 0), (1, 0), (1, 0), (2, 6), (2, 7)]) := sp_lt fun b => by match b with | 0 => rfl | 1 => rfl | b + 2 => rfl
set_option maxRecDepth 4000 in
theorem sh_6 (c : ixK) : sp_sh c 6 = (1, 4, []) := sp_lt fun b => by match b with | 0 => rfl | 1 => rfl | b + 2 => rfl
set_option maxRecDepth 4000 in
theorem sh_7 (c : ixK) : sp_sh c 7 = (1, 4, []) := sp_lt fun b => by match b with | 0 => rfl | 1 => rfl | b + 2 => rfl
set_option maxRecDepth 4000 in
theorem sh_8 (c : ixK) : sp_sh c 8 = (4, 5, [(2, 9), (2, 11), (2, 13), (2, 15), (2, 17)]) := sp_lt fun b => by match b with | 0 => rfl | 1 => rfl | b + 2 => rfl
set_option maxRecDepth 4000 in
theorem sh_9 (c : ixK) : sp_sh c 9 = (13, 0, [(2, 10), (0, 0), (1, 0)]) := sp_lt fun b => by match b with | 0 => rfl | 1 => rfl | b + 2 => rfl
set_option maxRecDepth 4000 in
theorem sh_10 (c : ixK) : sp_sh c 10 = (0, 64, []) := sp_lt fun b => by match b with | 0 => rfl | 1 => rfl | b + 2 => rfl
set_option maxRecDepth 4000 in
theorem sh_11 (c : ixK) : sp_sh c 11 = (13, 0, [(2, 12), (0, 0), (1, 0)]) := sp_lt fun b => by match b with | 0 => rfl | 1 => rfl | b + 2 => rfl
set_option maxRecDepth 4000 in
theorem sh_12 (c : ixK) : sp_sh c 12 = (0, 64, []) := sp_lt fun b => by match b with | 0 => rfl | 1 => rfl | b + 2 => rfl
set_option maxRecDepth 4000 in
theorem sh_13 (c : ixK) : sp_sh c 13 = (13, 0, [(2, 14), (0, 0), (1, 0)]) := sp_lt fun b => by match b with | 0 => rfl | 1 => rfl | b + 2 => rfl
set_option maxRecDepth 4000 in
theorem sh_14 (c : ixK) : sp_sh c 14 = (0, 64, []) := sp_lt fun b => by match b with | 0 => rfl | 1 => rfl | b + 2 => rfl
set_option maxRecDepth 4000 in
theorem sh_15 (c : ixK) : sp_sh c 15 = (13, 0, [(2, 16), (0, 0), (1, 0)]) := sp_lt fun b => by match b with | 0 => rfl | 1 => rfl | b + 2 => rfl
set_option maxRecDepth 4000 in
theorem sh_16 (c : ixK) : sp_sh c 16 = (0, 64, []) := sp_lt fun b => by match b with | 0 => rfl | 1 => rfl | b + 2 => rfl
set_option maxRecDepth 4000 in
theorem sh_17 (c : ixK) : sp_sh c 17 = (13, 0, [(2, 18), (0, 0), (1, 0)]) := sp_lt fun b => by match b with | 0 => rfl | 1 => rfl | b + 2 => rfl
set_option maxRecDepth 4000 in
theorem sh_18 (c : ixK) : sp_sh c 18 = (0, 64, []) := sp_lt fun b => by match b with | 0 => rfl | 1 => rfl | b + 2 => rfl
set_option maxRecDepth 4000 in
theorem sh_19 (c : ixK) : sp_sh c 19 = (0, 4, []) := sp_lt fun b => by match b with | 0 => rfl | 1 => rfl | b + 2 => rfl
set_option maxRecDepth 4000 in
theorem sh_20 (c : ixK) : sp_sh c 20 = (0, 4, []) := sp_lt fun b => by match b with | 0 => rfl | 1 => rfl | b + 2 => rfl
set_option maxRecDepth 4000 in
theorem sh_21 (c : ixK) : sp_sh c 21 = (5, 2, [(2, 22), (2, 39)]) := sp_lt fun b => by match b with | 0 => rfl | 1 => rfl | b + 2 => rfl
set_option maxRecDepth 4000 in
theorem sh_22 (c : ixK) : sp_sh c 22 = (11, 0, [(2, 23), (2, 26), (2, 37), (2, 38), (0, 0)]) := sp_lt fun b => by match b with | 0 => rfl | 1 => rfl | b + 2 => rfl
set_option maxRecDepth 4000 in
theorem sh_23 (c : ixK) : sp_sh c 23 = (12, 0, [(0, 0), (0, 0), (1, 0), (1, 0), (1, 0), (1, 0), (2, 24), (2, 25)]) := sp_lt fun b => by match b with | 0 => rfl | 1 => rfl | b + 2 => rfl
set_option maxRecDepth 4000 in
theorem sh_24 (c : ixK) : sp_sh c 24 = (1, 4, []) := sp_lt fun b => by match b with | 0 => rfl | 1 => rfl | b + 2 => rfl
set_option maxRecDepth 4000 in
theorem sh_25 (c : ixK) : sp_sh c 25 = (1, 4, []) := sp_lt fun b => by match b with | 0 => rfl | 1 => rfl | b + 2 => rfl
set_option maxRecDepth 4000 in
theorem sh_26 (c : ixK) : sp_sh c 26 = (4, 5, [(2, 27), (2, 29), (2, 31), (2, 33), (2, 35)]) := sp_lt fun b => by match b with | 0 => rfl | 1 => rfl | b + 2 => rfl
set_option maxRecDepth 4000 in
theorem sh_27 (c : ixK) : sp_sh c 27 = (13, 0, [(2, 28), (0, 0), (1, 0)]) := sp_lt fun b => by match b with | 0 => rfl | 1 => rfl | b + 2 => rfl
set_option maxRecDepth 4000 in
theorem sh_28 (c : ixK) : sp_sh c 28 = (0, 64, []) := sp_lt fun b => by match b with | 0 => rfl | 1 => rfl | b + 2 => rfl
set_option maxRecDepth 4000 in
theorem sh_29 (c : ixK) : sp_sh c 29 = (13, 0, [(2, 30), (0, 0), (1, 0)]) := sp_lt fun b => by match b with | 0 => rfl | 1 => rfl | b + 2 => rfl
set_option maxRecDepth 4000 in
theorem sh_30 (c : ixK) : sp_sh c 30 = (0, 64, []) := sp_lt fun b => by match b with | 0 => rfl | 1 => rfl | b + 2 => rfl
set_option maxRecDepth 4000 in
theorem sh_31 (c : ixK) : sp_sh c 31 = (13, 0, [(2, 32), (0, 0), (1, 0)]) := sp_lt fun b => by match b with | 0 => rfl | 1 => rfl | b + 2 => rfl
set_option maxRecDepth 4000 in
theorem sh_32 (c : ixK) : sp_sh c 32 = (0, 64, []) := sp_lt fun b => by match b with | 0 => rfl | 1 => rfl | b + 2 => rfl
set_option maxRecDepth 4000 in
theorem sh_33 (c : ixK) : sp_sh c 33 = (13, 0, [(2, 34), (0, 0), (1, 0)]) := sp_lt fun b => by match b with | 0 => rfl | 1 => rfl | b + 2 => rfl
set_option maxRecDepth 4000 in
theorem sh_34 (c : ixK) : sp_sh c 34 = (0, 64, []) := sp_lt fun b => by match b with | 0 => rfl | 1 => rfl | b + 2 => rfl
set_option maxRecDepth 4000 in
theorem sh_35 (c : ixK) : sp_sh c 35 = (13, 0, [(2, 36), (0, 0), (1, 0)]) := sp_lt fun b => by match b with | 0 => rfl | 1 => rfl | b + 2 => rfl
set_option maxRecDepth 4000 in
theorem sh_36 (c : ixK) : sp_sh c 36 = (0, 64, []) := sp_lt fun b => by match b with | 0 => rfl | 1 => rfl | b + 2 => rfl
set_option maxRecDepth 4000 in
theorem sh_37 (c : ixK) : sp_sh c 37 = (0, 4, []) := sp_lt fun b => by match b with | 0 => rfl | 1 => rfl | b + 2 => rfl
set_option maxRecDepth 4000 in
theorem sh_38 (c : ixK) : sp_sh c 38 = (0, 4, []) := sp_lt fun b => by match b with | 0 => rfl | 1 => rfl | b + 2 => rfl
set_option maxRecDepth 4000 in
theorem sh_39 (c : ixK) : sp_sh c 39 = (11, 0, [(2, 40), (2, 43), (2, 54), (2, 55), (0, 0)]) := sp_lt fun b => by match b with | 0 => rfl | 1 => rfl | b + 2 => rfl
set_option maxRecDepth 4000 in
theorem sh_40 (c : ixK) : sp_sh c 40 = (12, 0, [(0, 0), (0, 0), (1, 0), (1, 0), (1, 0), (1, 0), (2, 41), (2, 42)]) := sp_lt fun b => by match b with | 0 => rfl | 1 => rfl | b + 2 => rfl
set_option maxRecDepth 4000 in
theorem sh_41 (c : ixK) : sp_sh c 41 = (1, 4, []) := sp_lt fun b => by match b with | 0 => rfl | 1 => rfl | b + 2 => rfl
set_option maxRecDepth 4000 in
theorem sh_42 (c : ixK) : sp_sh c 42 = (1, 4, []) := sp_lt fun b => by match b with | 0 => rfl | 1 => rfl | b + 2 => rfl
set_option maxRecDepth 4000 in
theorem sh_43 (c : ixK) : sp_sh c 43 = (4, 5, [(2, 44), (2, 46), (2, 48), (2, 50), (2, 52)]) := sp_lt fun b => by match b with | 0 => rfl | 1 => rfl | b + 2 => rfl
set_option maxRecDepth 4000 in
theorem sh_44 (c : ixK) : sp_sh c 44 = (13, 0, [(2, 45), (0, 0), (1, 0)]) := sp_lt fun b => by match b with | 0 => rfl | 1 => rfl | b + 2 => rfl
set_option maxRecDepth 4000 in
theorem sh_45 (c : ixK) : sp_sh c 45 = (0, 64, []) := sp_lt fun b => by match b with | 0 => rfl | 1 => rfl | b + 2 => rfl
set_option maxRecDepth 4000 in
theorem sh_46 (c : ixK) : sp_sh c 46 = (13, 0, [(2, 47), (0, 0), (1, 0)]) := sp_lt fun b => by match b with | 0 => rfl | 1 => rfl | b + 2 => rfl
set_option maxRecDepth 4000 in
theorem sh_47 (c : ixK) : sp_sh c 47 = (0, 64, []) := sp_lt fun b => by match b with | 0 => rfl | 1 => rfl | b + 2 => rfl
set_option maxRecDepth 4000 in
theorem sh_48 (c : ixK) : sp_sh c 48 = (13, 0, [(2, 49), (0, 0), (1, 0)]) := sp_lt fun b => by match b with | 0 => rfl | 1 => rfl | b + 2 => rfl
set_option maxRecDepth 4000 in
theorem sh_49 (c : ixK) : sp_sh c 49 = (0, 64, []) := sp_lt fun b => by match b with | 0 => rfl | 1 => rfl | b + 2 => rfl
set_option maxRecDepth 4000 in
theorem sh_50 (c : ixK) : sp_sh c 50 = (13, 0, [(2, 51), (0, 0), (1, 0)]) := sp_lt fun b => by match b with | 0 => rfl | 1 => rfl | b + 2 => rfl
set_option maxRecDepth 4000 in
theorem sh_51 (c : ixK) : sp_sh c 51 = (0, 64, []) := sp_lt fun b => by match b with | 0 => rfl | 1 => rfl | b + 2 => rfl
set_option maxRecDepth 4000 in
theorem sh_52 (c : ixK) : sp_sh c 52 = (13, 0, [(2, 53), (0, 0), (1, 0)]) := sp_lt fun b => by match b with | 0 => rfl | 1 => rfl | b + 2 => rfl
set_option maxRecDepth 4000 in
theorem sh_53 (c : ixK) : sp_sh c 53 = (0, 64, []) := sp_lt fun b => by match b with | 0 => rfl | 1 => rfl | b + 2 => rfl
set_option maxRecDepth 4000 in
theorem sh_54 (c : ixK) : sp_sh c 54 = (0, 4, []) := sp_lt fun b => by match b with | 0 => rfl | 1 => rfl | b + 2 => rfl
set_option maxRecDepth 4000 in
theorem sh_55 (c : ixK) : sp_sh c 55 = (0, 4, []) := sp_lt fun b => by match b with | 0 => rfl | 1 => rfl | b + 2 => rfl
set_option maxRecDepth 4000 in
theorem sh_56 (c : ixK) : sp_sh c 56 = (2, 2, []) := sp_lt fun b => by match b with | 0 => rfl | 1 => rfl | b + 2 => rfl
set_option maxRecDepth 4000 in
theorem sh_57 (c : ixK) : sp_sh c 57 = (14, 0, [(2, 58), (0, 0)]) := sp_lt fun b => by match b with | 0 => rfl | 1 => rfl | b + 2 => rfl
set_option maxRecDepth 4000 in
theorem sh_58 (c : ixK) : sp_sh c 58 = (0, 80, []) := sp_lt fun b => by match b with | 0 => rfl | 1 => rfl | b + 2 => rfl
set_option maxRecDepth 4000 in
theorem sh_59 (c : ixK) : sp_sh c 59 = (15, 0, [(2, 60), (2, 61), (2, 62)]) := sp_lt fun b => by match b with | 0 => rfl | 1 => rfl | b + 2 => rfl
set_option maxRecDepth 4000 in
theorem sh_60 (c : ixK) : sp_sh c 60 = (1, 64, []) := sp_lt fun b => by match b with | 0 => rfl | 1 => rfl | b + 2 => rfl
set_option maxRecDepth 4000 in
theorem sh_61 (c : ixK) : sp_sh c 61 = (1, 16, []) := sp_lt fun b => by match b with | 0 => rfl | 1 => rfl | b + 2 => rfl
set_option maxRecDepth 4000 in
theorem sh_62 (c : ixK) : sp_sh c 62 = (1, 16, []) := sp_lt fun b => by match b with | 0 => rfl | 1 => rfl | b + 2 => rfl
set_option maxRecDepth 4000 in
theorem sh_63 (c : ixK) : sp_sh c 63 = (16, 0, [(2, 64)]) := sp_lt fun b => by match b with | 0 => rfl | 1 => rfl | b + 2 => rfl
set_option maxRecDepth 4000 in
theorem sh_64 (c : ixK) : sp_sh c 64 = (1, 64, []) := sp_lt fun b => by match b with | 0 => rfl | 1 => rfl | b + 2 => rfl
set_option maxRecDepth 4000 in
theorem sh_65 (c : ixK) : sp_sh c 65 = (17, 0, [(2, 66), (1, 0), (1, 0), (1, 0), (1, 0), (1, 0), (1, 0), (1, 0), (1, 0), (1, 0), (1, 0)]) := sp_lt fun b => by match b with | 0 => rfl | 1 => rfl | b + 2 => rfl
set_option maxRecDepth 4000 in
theorem sh_66 (c : ixK) : sp_sh c 66 = (1, 64, []) := sp_lt fun b => by match b with | 0 => rfl | 1 => rfl | b + 2 => rfl
set_option maxRecDepth 4000 in
theorem sh_67 (c : ixK) : sp_sh c 67 = (18, 0, [(2, 68), (2, 69), (2, 70), (2, 71), (2, 72), (1, 0), (1, 0)]) := sp_lt fun b => by match b with | 0 => rfl | 1 => rfl | b + 2 => rfl
set_option maxRecDepth 4000 in
theorem sh_68 (c : ixK) : sp_sh c 68 = (1, 64, []) := sp_lt fun b => by match b with | 0 => rfl | 1 => rfl | b + 2 => rfl
set_option maxRecDepth 4000 in
theorem sh_69 (c : ixK) : sp_sh c 69 = (0, 64, []) := sp_lt fun b => by match b with | 0 => rfl | 1 => rfl | b + 2 => rfl
set_option maxRecDepth 4000 in
theorem sh_70 (c : ixK) : sp_sh c 70 = (0, 64, []) := sp_lt fun b => by match b with | 0 => rfl | 1 => rfl | b + 2 => rfl
set_option maxRecDepth 4000 in
theorem sh_71 (c : ixK) : sp_sh c 71 = (0, 64, []) := sp_lt fun b => by match b with | 0 => rfl | 1 => rfl | b + 2 => rfl
set_option maxRecDepth 4000 in
theorem sh_72 (c : ixK) : sp_sh c 72 = (0, 64, []) := sp_lt fun b => by match b with | 0 => rfl | 1 => rfl | b + 2 => rfl
set_option maxRecDepth 4000 in
theorem sh_73 (c : ixK) : sp_sh c 73 = (13, 0, [(2, 74), (0, 0), (1, 0)]) := sp_lt fun b => by match b with | 0 => rfl | 1 => rfl | b + 2 => rfl
set_option maxRecDepth 4000 in
theorem sh_74 (c : ixK) : sp_sh c 74 = (0, 64, []) := sp_lt fun b => by match b with | 0 => rfl | 1 => rfl | b + 2 => rfl
set_option maxRecDepth 4000 in
theorem sh_75 (c : ixK) : sp_sh c 75 = (21, 0, [(2, 76), (2, 77), (2, 78), (2, 79), (2, 80), (2, 81), (2, 82), (2, 83), (2, 84), (2, 85), (2, 86), (2, 87), (0, 0), (0, 0), (0, 0), (2, 88), (2, 89), (2, 90), (2, 91), (2, 92), (0, 0), (2, 93), (2, 94), (2, 95), (2, 96), (2, 97), (2, 98), (0, 0), (2, 99), (2, 100), (2, 101), (0, 0), (0, 0), (0, 0)]) := sp_lt fun b => by match b with | 0 => rfl | 1 => rfl | b + 2 => rfl
set_option maxRecDepth 4000 in
theorem sh_76 (c : ixK) : sp_sh c 76 = (0, 720, []) := sp_lt fun b => by match b with | 0 => rfl | 1 => rfl | b + 2 => rfl
set_option maxRecDepth 4000 in
theorem sh_77 (c : ixK) : sp_sh c 77 = (0, 1440, []) := sp_lt fun b => by match b with | 0 => rfl | 1 => rfl | b + 2 => rfl
set_option maxRecDepth 4000 in
theorem sh_78 (c : ixK) : sp_sh c 78 = (2, 2, []) := sp_lt fun b => by match b with | 0 => rfl | 1 => rfl | b + 2 => rfl
set_option maxRecDepth 4000 in
theorem sh_79 (c : ixK) : sp_sh c 79 = (1, 64, []) := sp_lt fun b => by match b with | 0 => rfl | 1 => rfl | b + 2 => rfl
set_option maxRecDepth 4000 in
theorem sh_80 (c : ixK) : sp_sh c 80 = (1, 6561, []) := sp_lt fun b => by match b with | 0 => rfl | 1 => rfl | b + 2 => rfl
set_option maxRecDepth 4000 in
theorem sh_81 (c : ixK) : sp_sh c 81 = (1, 6561, []) := sp_lt fun b => by match b with | 0 => rfl | 1 => rfl | b + 2 => rfl
set_option maxRecDepth 4000 in
theorem sh_82 (c : ixK) : sp_sh c 82 = (1, 16, []) := sp_lt fun b => by match b with | 0 => rfl | 1 => rfl | b + 2 => rfl
set_option maxRecDepth 4000 in
theorem sh_83 (c : ixK) : sp_sh c 83 = (0, 64, []) := sp_lt fun b => by match b with | 0 => rfl | 1 => rfl | b + 2 => rfl
set_option maxRecDepth 4000 in
theorem sh_84 (c : ixK) : sp_sh c 84 = (0, 128, []) := sp_lt fun b => by match b with | 0 => rfl | 1 => rfl | b + 2 => rfl
set_option maxRecDepth 4000 in
theorem sh_85 (c : ixK) : sp_sh c 85 = (0, 64, []) := sp_lt fun b => by match b with | 0 => rfl | 1 => rfl | b + 2 => rfl
set_option maxRecDepth 4000 in
theorem sh_86 (c : ixK) : sp_sh c 86 = (0, 64, []) := sp_lt fun b => by match b with | 0 => rfl | 1 => rfl | b + 2 => rfl
set_option maxRecDepth 4000 in
theorem sh_87 (c : ixK) : sp_sh c 87 = (0, 128, []) := sp_lt fun b => by match b with | 0 => rfl | 1 => rfl | b + 2 => rfl
set_option maxRecDepth 4000 in
theorem sh_88 (c : ixK) : sp_sh c 88 = (0, 256, []) := sp_lt fun b => by match b with | 0 => rfl | 1 => rfl | b + 2 => rfl
set_option maxRecDepth 4000 in
theorem sh_89 (c : ixK) : sp_sh c 89 = (0, 64, []) := sp_lt fun b => by match b with | 0 => rfl | 1 => rfl | b + 2 => rfl
set_option maxRecDepth 4000 in
theorem sh_90 (c : ixK) : sp_sh c 90 = (0, 64, []) := sp_lt fun b => by match b with | 0 => rfl | 1 => rfl | b + 2 => rfl
set_option maxRecDepth 4000 in
theorem sh_91 (c : ixK) : sp_sh c 91 = (2, 64, []) := sp_lt fun b => by match b with | 0 => rfl | 1 => rfl | b + 2 => rfl
set_option maxRecDepth 4000 in
theorem sh_92 (c : ixK) : sp_sh c 92 = (0, 64, []) := sp_lt fun b => by match b with | 0 => rfl | 1 => rfl | b + 2 => rfl
set_option maxRecDepth 4000 in
theorem sh_93 (c : ixK) : sp_sh c 93 = (2, 4096, []) := sp_lt fun b => by match b with | 0 => rfl | 1 => rfl | b + 2 => rfl
set_option maxRecDepth 4000 in
theorem sh_94 (c : ixK) : sp_sh c 94 = (2, 64, []) := sp_lt fun b => by match b with | 0 => rfl | 1 => rfl | b + 2 => rfl
set_option maxRecDepth 4000 in
theorem sh_95 (c : ixK) : sp_sh c 95 = (0, 64, []) := sp_lt fun b => by match b with | 0 => rfl | 1 => rfl | b + 2 => rfl
set_option maxRecDepth 4000 in
theorem sh_96 (c : ixK) : sp_sh c 96 = (0, 64, []) := sp_lt fun b => by match b with | 0 => rfl | 1 => rfl | b + 2 => rfl
set_option maxRecDepth 4000 in
theorem sh_97 (c : ixK) : sp_sh c 97 = (0, 64, []) := sp_lt fun b => by match b with | 0 => rfl | 1 => rfl | b + 2 => rfl
set_option maxRecDepth 4000 in
theorem sh_98 (c : ixK) : sp_sh c 98 = (0, 64, []) := sp_lt fun b => by match b with | 0 => rfl | 1 => rfl | b + 2 => rfl
set_option maxRecDepth 4000 in
theorem sh_99 (c : ixK) : sp_sh c 99 = (0, 130, []) := sp_lt fun b => by match b with | 0 => rfl | 1 => rfl | b + 2 => rfl
set_option maxRecDepth 4000 in
theorem sh_100 (c : ixK) : sp_sh c 100 = (0, 2, []) := sp_lt fun b => by match b with | 0 => rfl | 1 => rfl | b + 2 => rfl
set_option maxRecDepth 4000 in
theorem sh_101 (c : ixK) : sp_sh c 101 = (0, 80, []) := sp_lt fun b => by match b with | 0 => rfl | 1 => rfl | b + 2 => rfl
theorem rc_4 (c : ixK) (X : ixX) : ix_rc (hp c X) 4 = some 1 := hp_rc (by omega) (by omega) (sh_4 c)
theorem g4_0 (c : ixK) (X : ixX) : ix_gr (hp c X) 4 1 0 = some 5 := hp_gr (by omega) (by omega) (sh_4 c) rfl
theorem g4_1 (c : ixK) (X : ixX) : ix_gr (hp c X) 4 1 1 = some 8 := hp_gr (by omega) (by omega) (sh_4 c) rfl
theorem g4_2 (c : ixK) (X : ixX) : ix_gr (hp c X) 4 1 2 = some 19 := hp_gr (by omega) (by omega) (sh_4 c) rfl
theorem g4_3 (c : ixK) (X : ixX) : ix_gr (hp c X) 4 1 3 = some 20 := hp_gr (by omega) (by omega) (sh_4 c) rfl
theorem g4_4 (c : ixK) (X : ixX) : ix_gi (hp c X) 4 1 4 = some (X.1 4 4) := hp_gi (by omega) (by omega) (sh_4 c) rfl
theorem p4_4 (c : ixK) (X : ixX) (x : Int32) : ix_pf (hp c X) 4 1 4 (.int x) = some (hp c (aI X 4 (upd (X.1 4) 4 x))) := hp_pI (by omega) (by omega) (sh_4 c) (Nat.le_of_ble_eq_true rfl) rfl
theorem rc_5 (c : ixK) (X : ixX) : ix_rc (hp c X) 5 = some 2 := hp_rc (by omega) (by omega) (sh_5 c)
theorem g5_0 (c : ixK) (X : ixX) : ix_gi (hp c X) 5 2 0 = some (X.1 5 0) := hp_gi (by omega) (by omega) (sh_5 c) rfl
theorem p5_0 (c : ixK) (X : ixX) (x : Int32) : ix_pf (hp c X) 5 2 0 (.int x) = some (hp c (aI X 5 (upd (X.1 5) 0 x))) := hp_pI (by omega) (by omega) (sh_5 c) (Nat.le_of_ble_eq_true rfl) rfl
theorem g5_1 (c : ixK) (X : ixX) : ix_gi (hp c X) 5 2 1 = some (X.1 5 1) := hp_gi (by omega) (by omega) (sh_5 c) rfl
theorem p5_1 (c : ixK) (X : ixX) (x : Int32) : ix_pf (hp c X) 5 2 1 (.int x) = some (hp c (aI X 5 (upd (X.1 5) 1 x))) := hp_pI (by omega) (by omega) (sh_5 c) (Nat.le_of_ble_eq_true rfl) rfl
theorem g5_2 (c : ixK) (X : ixX) : ix_gl (hp c X) 5 2 2 = some (X.2 5 2) := hp_gl (by omega) (by omega) (sh_5 c) rfl
theorem p5_2 (c : ixK) (X : ixX) (x : Int64) : ix_pf (hp c X) 5 2 2 (.long x) = some (hp c (aJ X 5 (vp_updL (X.2 5) 2 x))) := hp_pJ (by omega) (by omega) (sh_5 c) (Nat.le_of_ble_eq_true rfl) rfl
theorem g5_3 (c : ixK) (X : ixX) : ix_gl (hp c X) 5 2 3 = some (X.2 5 3) := hp_gl (by omega) (by omega) (sh_5 c) rfl
theorem p5_3 (c : ixK) (X : ixX) (x : Int64) : ix_pf (hp c X) 5 2 3 (.long x) = some (hp c (aJ X 5 (vp_updL (X.2 5) 3 x))) := hp_pJ (by omega) (by omega) (sh_5 c) (Nat.le_of_ble_eq_true rfl) rfl
theorem g5_4 (c : ixK) (X : ixX) : ix_gl (hp c X) 5 2 4 = some (X.2 5 4) := hp_gl (by omega) (by omega) (sh_5 c) rfl
theorem p5_4 (c : ixK) (X : ixX) (x : Int64) : ix_pf (hp c X) 5 2 4 (.long x) = some (hp c (aJ X 5 (vp_updL (X.2 5) 4 x))) := hp_pJ (by omega) (by omega) (sh_5 c) (Nat.le_of_ble_eq_true rfl) rfl
theorem g5_5 (c : ixK) (X : ixX) : ix_gl (hp c X) 5 2 5 = some (X.2 5 5) := hp_gl (by omega) (by omega) (sh_5 c) rfl
theorem p5_5 (c : ixK) (X : ixX) (x : Int64) : ix_pf (hp c X) 5 2 5 (.long x) = some (hp c (aJ X 5 (vp_updL (X.2 5) 5 x))) := hp_pJ (by omega) (by omega) (sh_5 c) (Nat.le_of_ble_eq_true rfl) rfl
theorem g5_6 (c : ixK) (X : ixX) : ix_gr (hp c X) 5 2 6 = some 6 := hp_gr (by omega) (by omega) (sh_5 c) rfl
theorem g5_7 (c : ixK) (X : ixX) : ix_gr (hp c X) 5 2 7 = some 7 := hp_gr (by omega) (by omega) (sh_5 c) rfl
theorem r6 {c : ixK} {X : ixX} {i : Nat} (hi : i < 4) : ix_al (hp c X) 6 (nI i) = some (X.2 6 i) := hp_al (by omega) (sh_6 c) hi (by decide)
theorem s6_ {c : ixK} {X : ixX} {i : Nat} {x : Int64} (hi : i < 4) : ix_sl (hp c X) 6 (nI i) x = some (hp c (aJ X 6 (vp_updL (X.2 6) i x))) := hp_sl (by omega) (by omega) (sh_6 c) hi (by decide)
theorem r7 {c : ixK} {X : ixX} {i : Nat} (hi : i < 4) : ix_al (hp c X) 7 (nI i) = some (X.2 7 i) := hp_al (by omega) (sh_7 c) hi (by decide)
theorem s7 {c : ixK} {X : ixX} {i : Nat} {x : Int64} (hi : i < 4) : ix_sl (hp c X) 7 (nI i) x = some (hp c (aJ X 7 (vp_updL (X.2 7) i x))) := hp_sl (by omega) (by omega) (sh_7 c) hi (by decide)
theorem rc_9 (c : ixK) (X : ixX) : ix_rc (hp c X) 9 = some 3 := hp_rc (by omega) (by omega) (sh_9 c)
theorem g9_0 (c : ixK) (X : ixX) : ix_gr (hp c X) 9 3 0 = some 10 := hp_gr (by omega) (by omega) (sh_9 c) rfl
theorem g9_1 (c : ixK) (X : ixX) : ix_gi (hp c X) 9 3 1 = some (X.1 9 1) := hp_gi (by omega) (by omega) (sh_9 c) rfl
theorem p9_1 (c : ixK) (X : ixX) (x : Int32) : ix_pf (hp c X) 9 3 1 (.int x) = some (hp c (aI X 9 (upd (X.1 9) 1 x))) := hp_pI (by omega) (by omega) (sh_9 c) (Nat.le_of_ble_eq_true rfl) rfl
theorem g9_2 (c : ixK) (X : ixX) : ix_gl (hp c X) 9 3 2 = some (X.2 9 2) := hp_gl (by omega) (by omega) (sh_9 c) rfl
theorem p9_2 (c : ixK) (X : ixX) (x : Int64) : ix_pf (hp c X) 9 3 2 (.long x) = some (hp c (aJ X 9 (vp_updL (X.2 9) 2 x))) := hp_pJ (by omega) (by omega) (sh_9 c) (Nat.le_of_ble_eq_true rfl) rfl
theorem r10 {c : ixK} {X : ixX} {i : Nat} (hi : i < 64) : ix_ai (hp c X) 10 (nI i) = some (X.1 10 i) := hp_ai (by omega) (sh_10 c) hi (by decide)
theorem s10 {c : ixK} {X : ixX} {i : Nat} {x : Int32} (hi : i < 64) : ix_si (hp c X) 10 (nI i) x = some (hp c (aI X 10 (upd (X.1 10) i x))) := hp_si (by omega) (by omega) (sh_10 c) hi (by decide)
theorem rc_11 (c : ixK) (X : ixX) : ix_rc (hp c X) 11 = some 3 := hp_rc (by omega) (by omega) (sh_11 c)
theorem g11_0 (c : ixK) (X : ixX) : ix_gr (hp c X) 11 3 0 = some 12 := hp_gr (by omega) (by omega) (sh_11 c) rfl
theorem g11_1 (c : ixK) (X : ixX) : ix_gi (hp c X) 11 3 1 = some (X.1 11 1) := hp_gi (by omega) (by omega) (sh_11 c) rfl
theorem p11_1 (c : ixK) (X : ixX) (x : Int32) : ix_pf (hp c X) 11 3 1 (.int x) = some (hp c (aI X 11 (upd (X.1 11) 1 x))) := hp_pI (by omega) (by omega) (sh_11 c) (Nat.le_of_ble_eq_true rfl) rfl
theorem g11_2 (c : ixK) (X : ixX) : ix_gl (hp c X) 11 3 2 = some (X.2 11 2) := hp_gl (by omega) (by omega) (sh_11 c) rfl
theorem p11_2 (c : ixK) (X : ixX) (x : Int64) : ix_pf (hp c X) 11 3 2 (.long x) = some (hp c (aJ X 11 (vp_updL (X.2 11) 2 x))) := hp_pJ (by omega) (by omega) (sh_11 c) (Nat.le_of_ble_eq_true rfl) rfl
theorem r12 {c : ixK} {X : ixX} {i : Nat} (hi : i < 64) : ix_ai (hp c X) 12 (nI i) = some (X.1 12 i) := hp_ai (by omega) (sh_12 c) hi (by decide)
theorem s12 {c : ixK} {X : ixX} {i : Nat} {x : Int32} (hi : i < 64) : ix_si (hp c X) 12 (nI i) x = some (hp c (aI X 12 (upd (X.1 12) i x))) := hp_si (by omega) (by omega) (sh_12 c) hi (by decide)
theorem rc_13 (c : ixK) (X : ixX) : ix_rc (hp c X) 13 = some 3 := hp_rc (by omega) (by omega) (sh_13 c)
theorem g13_0 (c : ixK) (X : ixX) : ix_gr (hp c X) 13 3 0 = some 14 := hp_gr (by omega) (by omega) (sh_13 c) rfl
theorem g13_1 (c : ixK) (X : ixX) : ix_gi (hp c X) 13 3 1 = some (X.1 13 1) := hp_gi (by omega) (by omega) (sh_13 c) rfl
theorem p13_1 (c : ixK) (X : ixX) (x : Int32) : ix_pf (hp c X) 13 3 1 (.int x) = some (hp c (aI X 13 (upd (X.1 13) 1 x))) := hp_pI (by omega) (by omega) (sh_13 c) (Nat.le_of_ble_eq_true rfl) rfl
theorem g13_2 (c : ixK) (X : ixX) : ix_gl (hp c X) 13 3 2 = some (X.2 13 2) := hp_gl (by omega) (by omega) (sh_13 c) rfl
theorem p13_2 (c : ixK) (X : ixX) (x : Int64) : ix_pf (hp c X) 13 3 2 (.long x) = some (hp c (aJ X 13 (vp_updL (X.2 13) 2 x))) := hp_pJ (by omega) (by omega) (sh_13 c) (Nat.le_of_ble_eq_true rfl) rfl
theorem r14 {c : ixK} {X : ixX} {i : Nat} (hi : i < 64) : ix_ai (hp c X) 14 (nI i) = some (X.1 14 i) := hp_ai (by omega) (sh_14 c) hi (by decide)
theorem s14 {c : ixK} {X : ixX} {i : Nat} {x : Int32} (hi : i < 64) : ix_si (hp c X) 14 (nI i) x = some (hp c (aI X 14 (upd (X.1 14) i x))) := hp_si (by omega) (by omega) (sh_14 c) hi (by decide)
theorem rc_15 (c : ixK) (X : ixX) : ix_rc (hp c X) 15 = some 3 := hp_rc (by omega) (by omega) (sh_15 c)
theorem g15_0 (c : ixK) (X : ixX) : ix_gr (hp c X) 15 3 0 = some 16 := hp_gr (by omega) (by omega) (sh_15 c) rfl
theorem g15_1 (c : ixK) (X : ixX) : ix_gi (hp c X) 15 3 1 = some (X.1 15 1) := hp_gi (by omega) (by omega) (sh_15 c) rfl
theorem p15_1 (c : ixK) (X : ixX) (x : Int32) : ix_pf (hp c X) 15 3 1 (.int x) = some (hp c (aI X 15 (upd (X.1 15) 1 x))) := hp_pI (by omega) (by omega) (sh_15 c) (Nat.le_of_ble_eq_true rfl) rfl
theorem g15_2 (c : ixK) (X : ixX) : ix_gl (hp c X) 15 3 2 = some (X.2 15 2) := hp_gl (by omega) (by omega) (sh_15 c) rfl
theorem p15_2 (c : ixK) (X : ixX) (x : Int64) : ix_pf (hp c X) 15 3 2 (.long x) = some (hp c (aJ X 15 (vp_updL (X.2 15) 2 x))) := hp_pJ (by omega) (by omega) (sh_15 c) (Nat.le_of_ble_eq_true rfl) rfl
theorem r16 {c : ixK} {X : ixX} {i : Nat} (hi : i < 64) : ix_ai (hp c X) 16 (nI i) = some (X.1 16 i) := hp_ai (by omega) (sh_16 c) hi (by decide)
theorem s16 {c : ixK} {X : ixX} {i : Nat} {x : Int32} (hi : i < 64) : ix_si (hp c X) 16 (nI i) x = some (hp c (aI X 16 (upd (X.1 16) i x))) := hp_si (by omega) (by omega) (sh_16 c) hi (by decide)
theorem rc_17 (c : ixK) (X : ixX) : ix_rc (hp c X) 17 = some 3 := hp_rc (by omega) (by omega) (sh_17 c)
theorem g17_0 (c : ixK) (X : ixX) : ix_gr (hp c X) 17 3 0 = some 18 := hp_gr (by omega) (by omega) (sh_17 c) rfl
theorem g17_1 (c : ixK) (X : ixX) : ix_gi (hp c X) 17 3 1 = some (X.1 17 1) := hp_gi (by omega) (by omega) (sh_17 c) rfl
theorem p17_1 (c : ixK) (X : ixX) (x : Int32) : ix_pf (hp c X) 17 3 1 (.int x) = some (hp c (aI X 17 (upd (X.1 17) 1 x))) := hp_pI (by omega) (by omega) (sh_17 c) (Nat.le_of_ble_eq_true rfl) rfl
theorem g17_2 (c : ixK) (X : ixX) : ix_gl (hp c X) 17 3 2 = some (X.2 17 2) := hp_gl (by omega) (by omega) (sh_17 c) rfl
theorem p17_2 (c : ixK) (X : ixX) (x : Int64) : ix_pf (hp c X) 17 3 2 (.long x) = some (hp c (aJ X 17 (vp_updL (X.2 17) 2 x))) := hp_pJ (by omega) (by omega) (sh_17 c) (Nat.le_of_ble_eq_true rfl) rfl
theorem r18 {c : ixK} {X : ixX} {i : Nat} (hi : i < 64) : ix_ai (hp c X) 18 (nI i) = some (X.1 18 i) := hp_ai (by omega) (sh_18 c) hi (by decide)
theorem s18 {c : ixK} {X : ixX} {i : Nat} {x : Int32} (hi : i < 64) : ix_si (hp c X) 18 (nI i) x = some (hp c (aI X 18 (upd (X.1 18) i x))) := hp_si (by omega) (by omega) (sh_18 c) hi (by decide)
theorem r19 {c : ixK} {X : ixX} {i : Nat} (hi : i < 4) : ix_ai (hp c X) 19 (nI i) = some (X.1 19 i) := hp_ai (by omega) (sh_19 c) hi (by decide)
theorem s19 {c : ixK} {X : ixX} {i : Nat} {x : Int32} (hi : i < 4) : ix_si (hp c X) 19 (nI i) x = some (hp c (aI X 19 (upd (X.1 19) i x))) := hp_si (by omega) (by omega) (sh_19 c) hi (by decide)
theorem r20 {c : ixK} {X : ixX} {i : Nat} (hi : i < 4) : ix_ai (hp c X) 20 (nI i) = some (X.1 20 i) := hp_ai (by omega) (sh_20 c) hi (by decide)
theorem s20 {c : ixK} {X : ixX} {i : Nat} {x : Int32} (hi : i < 4) : ix_si (hp c X) 20 (nI i) x = some (hp c (aI X 20 (upd (X.1 20) i x))) := hp_si (by omega) (by omega) (sh_20 c) hi (by decide)
theorem rc_22 (c : ixK) (X : ixX) : ix_rc (hp c X) 22 = some 1 := hp_rc (by omega) (by omega) (sh_22 c)
theorem g22_0 (c : ixK) (X : ixX) : ix_gr (hp c X) 22 1 0 = some 23 := hp_gr (by omega) (by omega) (sh_22 c) rfl
theorem g22_1 (c : ixK) (X : ixX) : ix_gr (hp c X) 22 1 1 = some 26 := hp_gr (by omega) (by omega) (sh_22 c) rfl
theorem g22_2 (c : ixK) (X : ixX) : ix_gr (hp c X) 22 1 2 = some 37 := hp_gr (by omega) (by omega) (sh_22 c) rfl
theorem g22_3 (c : ixK) (X : ixX) : ix_gr (hp c X) 22 1 3 = some 38 := hp_gr (by omega) (by omega) (sh_22 c) rfl
theorem g22_4 (c : ixK) (X : ixX) : ix_gi (hp c X) 22 1 4 = some (X.1 22 4) := hp_gi (by omega) (by omega) (sh_22 c) rfl
theorem p22_4 (c : ixK) (X : ixX) (x : Int32) : ix_pf (hp c X) 22 1 4 (.int x) = some (hp c (aI X 22 (upd (X.1 22) 4 x))) := hp_pI (by omega) (by omega) (sh_22 c) (Nat.le_of_ble_eq_true rfl) rfl
theorem rc_23 (c : ixK) (X : ixX) : ix_rc (hp c X) 23 = some 2 := hp_rc (by omega) (by omega) (sh_23 c)
theorem g23_0 (c : ixK) (X : ixX) : ix_gi (hp c X) 23 2 0 = some (X.1 23 0) := hp_gi (by omega) (by omega) (sh_23 c) rfl
theorem p23_0 (c : ixK) (X : ixX) (x : Int32) : ix_pf (hp c X) 23 2 0 (.int x) = some (hp c (aI X 23 (upd (X.1 23) 0 x))) := hp_pI (by omega) (by omega) (sh_23 c) (Nat.le_of_ble_eq_true rfl) rfl
theorem g23_1 (c : ixK) (X : ixX) : ix_gi (hp c X) 23 2 1 = some (X.1 23 1) := hp_gi (by omega) (by omega) (sh_23 c) rfl
theorem p23_1 (c : ixK) (X : ixX) (x : Int32) : ix_pf (hp c X) 23 2 1 (.int x) = some (hp c (aI X 23 (upd (X.1 23) 1 x))) := hp_pI (by omega) (by omega) (sh_23 c) (Nat.le_of_ble_eq_true rfl) rfl
theorem g23_2 (c : ixK) (X : ixX) : ix_gl (hp c X) 23 2 2 = some (X.2 23 2) := hp_gl (by omega) (by omega) (sh_23 c) rfl
theorem p23_2 (c : ixK) (X : ixX) (x : Int64) : ix_pf (hp c X) 23 2 2 (.long x) = some (hp c (aJ X 23 (vp_updL (X.2 23) 2 x))) := hp_pJ (by omega) (by omega) (sh_23 c) (Nat.le_of_ble_eq_true rfl) rfl
theorem g23_3 (c : ixK) (X : ixX) : ix_gl (hp c X) 23 2 3 = some (X.2 23 3) := hp_gl (by omega) (by omega) (sh_23 c) rfl
theorem p23_3 (c : ixK) (X : ixX) (x : Int64) : ix_pf (hp c X) 23 2 3 (.long x) = some (hp c (aJ X 23 (vp_updL (X.2 23) 3 x))) := hp_pJ (by omega) (by omega) (sh_23 c) (Nat.le_of_ble_eq_true rfl) rfl
theorem g23_4 (c : ixK) (X : ixX) : ix_gl (hp c X) 23 2 4 = some (X.2 23 4) := hp_gl (by omega) (by omega) (sh_23 c) rfl
theorem p23_4 (c : ixK) (X : ixX) (x : Int64) : ix_pf (hp c X) 23 2 4 (.long x) = some (hp c (aJ X 23 (vp_updL (X.2 23) 4 x))) := hp_pJ (by omega) (by omega) (sh_23 c) (Nat.le_of_ble_eq_true rfl) rfl
theorem g23_5 (c : ixK) (X : ixX) : ix_gl (hp c X) 23 2 5 = some (X.2 23 5) := hp_gl (by omega) (by omega) (sh_23 c) rfl
theorem p23_5 (c : ixK) (X : ixX) (x : Int64) : ix_pf (hp c X) 23 2 5 (.long x) = some (hp c (aJ X 23 (vp_updL (X.2 23) 5 x))) := hp_pJ (by omega) (by omega) (sh_23 c) (Nat.le_of_ble_eq_true rfl) rfl
theorem g23_6 (c : ixK) (X : ixX) : ix_gr (hp c X) 23 2 6 = some 24 := hp_gr (by omega) (by omega) (sh_23 c) rfl
theorem g23_7 (c : ixK) (X : ixX) : ix_gr (hp c X) 23 2 7 = some 25 := hp_gr (by omega) (by omega) (sh_23 c) rfl
theorem r24 {c : ixK} {X : ixX} {i : Nat} (hi : i < 4) : ix_al (hp c X) 24 (nI i) = some (X.2 24 i) := hp_al (by omega) (sh_24 c) hi (by decide)
theorem s24 {c : ixK} {X : ixX} {i : Nat} {x : Int64} (hi : i < 4) : ix_sl (hp c X) 24 (nI i) x = some (hp c (aJ X 24 (vp_updL (X.2 24) i x))) := hp_sl (by omega) (by omega) (sh_24 c) hi (by decide)
theorem r25 {c : ixK} {X : ixX} {i : Nat} (hi : i < 4) : ix_al (hp c X) 25 (nI i) = some (X.2 25 i) := hp_al (by omega) (sh_25 c) hi (by decide)
theorem s25 {c : ixK} {X : ixX} {i : Nat} {x : Int64} (hi : i < 4) : ix_sl (hp c X) 25 (nI i) x = some (hp c (aJ X 25 (vp_updL (X.2 25) i x))) := hp_sl (by omega) (by omega) (sh_25 c) hi (by decide)
theorem rc_27 (c : ixK) (X : ixX) : ix_rc (hp c X) 27 = some 3 := hp_rc (by omega) (by omega) (sh_27 c)
theorem g27_0 (c : ixK) (X : ixX) : ix_gr (hp c X) 27 3 0 = some 28 := hp_gr (by omega) (by omega) (sh_27 c) rfl
theorem g27_1 (c : ixK) (X : ixX) : ix_gi (hp c X) 27 3 1 = some (X.1 27 1) := hp_gi (by omega) (by omega) (sh_27 c) rfl
theorem p27_1 (c : ixK) (X : ixX) (x : Int32) : ix_pf (hp c X) 27 3 1 (.int x) = some (hp c (aI X 27 (upd (X.1 27) 1 x))) := hp_pI (by omega) (by omega) (sh_27 c) (Nat.le_of_ble_eq_true rfl) rfl
theorem g27_2 (c : ixK) (X : ixX) : ix_gl (hp c X) 27 3 2 = some (X.2 27 2) := hp_gl (by omega) (by omega) (sh_27 c) rfl
theorem p27_2 (c : ixK) (X : ixX) (x : Int64) : ix_pf (hp c X) 27 3 2 (.long x) = some (hp c (aJ X 27 (vp_updL (X.2 27) 2 x))) := hp_pJ (by omega) (by omega) (sh_27 c) (Nat.le_of_ble_eq_true rfl) rfl
theorem r28 {c : ixK} {X : ixX} {i : Nat} (hi : i < 64) : ix_ai (hp c X) 28 (nI i) = some (X.1 28 i) := hp_ai (by omega) (sh_28 c) hi (by decide)
theorem s28 {c : ixK} {X : ixX} {i : Nat} {x : Int32} (hi : i < 64) : ix_si (hp c X) 28 (nI i) x = some (hp c (aI X 28 (upd (X.1 28) i x))) := hp_si (by omega) (by omega) (sh_28 c) hi (by decide)
theorem rc_29 (c : ixK) (X : ixX) : ix_rc (hp c X) 29 = some 3 := hp_rc (by omega) (by omega) (sh_29 c)
theorem g29_0 (c : ixK) (X : ixX) : ix_gr (hp c X) 29 3 0 = some 30 := hp_gr (by omega) (by omega) (sh_29 c) rfl
theorem g29_1 (c : ixK) (X : ixX) : ix_gi (hp c X) 29 3 1 = some (X.1 29 1) := hp_gi (by omega) (by omega) (sh_29 c) rfl
theorem p29_1 (c : ixK) (X : ixX) (x : Int32) : ix_pf (hp c X) 29 3 1 (.int x) = some (hp c (aI X 29 (upd (X.1 29) 1 x))) := hp_pI (by omega) (by omega) (sh_29 c) (Nat.le_of_ble_eq_true rfl) rfl
theorem g29_2 (c : ixK) (X : ixX) : ix_gl (hp c X) 29 3 2 = some (X.2 29 2) := hp_gl (by omega) (by omega) (sh_29 c) rfl
theorem p29_2 (c : ixK) (X : ixX) (x : Int64) : ix_pf (hp c X) 29 3 2 (.long x) = some (hp c (aJ X 29 (vp_updL (X.2 29) 2 x))) := hp_pJ (by omega) (by omega) (sh_29 c) (Nat.le_of_ble_eq_true rfl) rfl
theorem r30 {c : ixK} {X : ixX} {i : Nat} (hi : i < 64) : ix_ai (hp c X) 30 (nI i) = some (X.1 30 i) := hp_ai (by omega) (sh_30 c) hi (by decide)
theorem s30 {c : ixK} {X : ixX} {i : Nat} {x : Int32} (hi : i < 64) : ix_si (hp c X) 30 (nI i) x = some (hp c (aI X 30 (upd (X.1 30) i x))) := hp_si (by omega) (by omega) (sh_30 c) hi (by decide)
theorem rc_31 (c : ixK) (X : ixX) : ix_rc (hp c X) 31 = some 3 := hp_rc (by omega) (by omega) (sh_31 c)
theorem g31_0 (c : ixK) (X : ixX) : ix_gr (hp c X) 31 3 0 = some 32 := hp_gr (by omega) (by omega) (sh_31 c) rfl
theorem g31_1 (c : ixK) (X : ixX) : ix_gi (hp c X) 31 3 1 = some (X.1 31 1) := hp_gi (by omega) (by omega) (sh_31 c) rfl
theorem p31_1 (c : ixK) (X : ixX) (x : Int32) : ix_pf (hp c X) 31 3 1 (.int x) = some (hp c (aI X 31 (upd (X.1 31) 1 x))) := hp_pI (by omega) (by omega) (sh_31 c) (Nat.le_of_ble_eq_true rfl) rfl
theorem g31_2 (c : ixK) (X : ixX) : ix_gl (hp c X) 31 3 2 = some (X.2 31 2) := hp_gl (by omega) (by omega) (sh_31 c) rfl
theorem p31_2 (c : ixK) (X : ixX) (x : Int64) : ix_pf (hp c X) 31 3 2 (.long x) = some (hp c (aJ X 31 (vp_updL (X.2 31) 2 x))) := hp_pJ (by omega) (by omega) (sh_31 c) (Nat.le_of_ble_eq_true rfl) rfl
theorem r32 {c : ixK} {X : ixX} {i : Nat} (hi : i < 64) : ix_ai (hp c X) 32 (nI i) = some (X.1 32 i) := hp_ai (by omega) (sh_32 c) hi (by decide)
theorem s32 {c : ixK} {X : ixX} {i : Nat} {x : Int32} (hi : i < 64) : ix_si (hp c X) 32 (nI i) x = some (hp c (aI X 32 (upd (X.1 32) i x))) := hp_si (by omega) (by omega) (sh_32 c) hi (by decide)
theorem rc_33 (c : ixK) (X : ixX) : ix_rc (hp c X) 33 = some 3 := hp_rc (by omega) (by omega) (sh_33 c)
theorem g33_0 (c : ixK) (X : ixX) : ix_gr (hp c X) 33 3 0 = some 34 := hp_gr (by omega) (by omega) (sh_33 c) rfl
theorem g33_1 (c : ixK) (X : ixX) : ix_gi (hp c X) 33 3 1 = some (X.1 33 1) := hp_gi (by omega) (by omega) (sh_33 c) rfl
theorem p33_1 (c : ixK) (X : ixX) (x : Int32) : ix_pf (hp c X) 33 3 1 (.int x) = some (hp c (aI X 33 (upd (X.1 33) 1 x))) := hp_pI (by omega) (by omega) (sh_33 c) (Nat.le_of_ble_eq_true rfl) rfl
theorem g33_2 (c : ixK) (X : ixX) : ix_gl (hp c X) 33 3 2 = some (X.2 33 2) := hp_gl (by omega) (by omega) (sh_33 c) rfl
theorem p33_2 (c : ixK) (X : ixX) (x : Int64) : ix_pf (hp c X) 33 3 2 (.long x) = some (hp c (aJ X 33 (vp_updL (X.2 33) 2 x))) := hp_pJ (by omega) (by omega) (sh_33 c) (Nat.le_of_ble_eq_true rfl) rfl
theorem r34 {c : ixK} {X : ixX} {i : Nat} (hi : i < 64) : ix_ai (hp c X) 34 (nI i) = some (X.1 34 i) := hp_ai (by omega) (sh_34 c) hi (by decide)
theorem s34 {c : ixK} {X : ixX} {i : Nat} {x : Int32} (hi : i < 64) : ix_si (hp c X) 34 (nI i) x = some (hp c (aI X 34 (upd (X.1 34) i x))) := hp_si (by omega) (by omega) (sh_34 c) hi (by decide)
theorem rc_35 (c : ixK) (X : ixX) : ix_rc (hp c X) 35 = some 3 := hp_rc (by omega) (by omega) (sh_35 c)
theorem g35_0 (c : ixK) (X : ixX) : ix_gr (hp c X) 35 3 0 = some 36 := hp_gr (by omega) (by omega) (sh_35 c) rfl
theorem g35_1 (c : ixK) (X : ixX) : ix_gi (hp c X) 35 3 1 = some (X.1 35 1) := hp_gi (by omega) (by omega) (sh_35 c) rfl
theorem p35_1 (c : ixK) (X : ixX) (x : Int32) : ix_pf (hp c X) 35 3 1 (.int x) = some (hp c (aI X 35 (upd (X.1 35) 1 x))) := hp_pI (by omega) (by omega) (sh_35 c) (Nat.le_of_ble_eq_true rfl) rfl
theorem g35_2 (c : ixK) (X : ixX) : ix_gl (hp c X) 35 3 2 = some (X.2 35 2) := hp_gl (by omega) (by omega) (sh_35 c) rfl
theorem p35_2 (c : ixK) (X : ixX) (x : Int64) : ix_pf (hp c X) 35 3 2 (.long x) = some (hp c (aJ X 35 (vp_updL (X.2 35) 2 x))) := hp_pJ (by omega) (by omega) (sh_35 c) (Nat.le_of_ble_eq_true rfl) rfl
theorem r36 {c : ixK} {X : ixX} {i : Nat} (hi : i < 64) : ix_ai (hp c X) 36 (nI i) = some (X.1 36 i) := hp_ai (by omega) (sh_36 c) hi (by decide)
theorem s36 {c : ixK} {X : ixX} {i : Nat} {x : Int32} (hi : i < 64) : ix_si (hp c X) 36 (nI i) x = some (hp c (aI X 36 (upd (X.1 36) i x))) := hp_si (by omega) (by omega) (sh_36 c) hi (by decide)
theorem r37 {c : ixK} {X : ixX} {i : Nat} (hi : i < 4) : ix_ai (hp c X) 37 (nI i) = some (X.1 37 i) := hp_ai (by omega) (sh_37 c) hi (by decide)
theorem s37 {c : ixK} {X : ixX} {i : Nat} {x : Int32} (hi : i < 4) : ix_si (hp c X) 37 (nI i) x = some (hp c (aI X 37 (upd (X.1 37) i x))) := hp_si (by omega) (by omega) (sh_37 c) hi (by decide)
theorem r38 {c : ixK} {X : ixX} {i : Nat} (hi : i < 4) : ix_ai (hp c X) 38 (nI i) = some (X.1 38 i) := hp_ai (by omega) (sh_38 c) hi (by decide)
theorem s38 {c : ixK} {X : ixX} {i : Nat} {x : Int32} (hi : i < 4) : ix_si (hp c X) 38 (nI i) x = some (hp c (aI X 38 (upd (X.1 38) i x))) := hp_si (by omega) (by omega) (sh_38 c) hi (by decide)
theorem rc_39 (c : ixK) (X : ixX) : ix_rc (hp c X) 39 = some 1 := hp_rc (by omega) (by omega) (sh_39 c)
theorem g39_0 (c : ixK) (X : ixX) : ix_gr (hp c X) 39 1 0 = some 40 := hp_gr (by omega) (by omega) (sh_39 c) rfl
theorem g39_1 (c : ixK) (X : ixX) : ix_gr (hp c X) 39 1 1 = some 43 := hp_gr (by omega) (by omega) (sh_39 c) rfl
theorem g39_2 (c : ixK) (X : ixX) : ix_gr (hp c X) 39 1 2 = some 54 := hp_gr (by omega) (by omega) (sh_39 c) rfl
theorem g39_3 (c : ixK) (X : ixX) : ix_gr (hp c X) 39 1 3 = some 55 := hp_gr (by omega) (by omega) (sh_39 c) rfl
theorem g39_4 (c : ixK) (X : ixX) : ix_gi (hp c X) 39 1 4 = some (X.1 39 4) := hp_gi (by omega) (by omega) (sh_39 c) rfl
theorem p39_4 (c : ixK) (X : ixX) (x : Int32) : ix_pf (hp c X) 39 1 4 (.int x) = some (hp c (aI X 39 (upd (X.1 39) 4 x))) := hp_pI (by omega) (by omega) (sh_39 c) (Nat.le_of_ble_eq_true rfl) rfl
theorem rc_40 (c : ixK) (X : ixX) : ix_rc (hp c X) 40 = some 2 := hp_rc (by omega) (by omega) (sh_40 c)
theorem g40_0 (c : ixK) (X : ixX) : ix_gi (hp c X) 40 2 0 = some (X.1 40 0) := hp_gi (by omega) (by omega) (sh_40 c) rfl
theorem p40_0 (c : ixK) (X : ixX) (x : Int32) : ix_pf (hp c X) 40 2 0 (.int x) = some (hp c (aI X 40 (upd (X.1 40) 0 x))) := hp_pI (by omega) (by omega) (sh_40 c) (Nat.le_of_ble_eq_true rfl) rfl
theorem g40_1 (c : ixK) (X : ixX) : ix_gi (hp c X) 40 2 1 = some (X.1 40 1) := hp_gi (by omega) (by omega) (sh_40 c) rfl
theorem p40_1 (c : ixK) (X : ixX) (x : Int32) : ix_pf (hp c X) 40 2 1 (.int x) = some (hp c (aI X 40 (upd (X.1 40) 1 x))) := hp_pI (by omega) (by omega) (sh_40 c) (Nat.le_of_ble_eq_true rfl) rfl
theorem g40_2 (c : ixK) (X : ixX) : ix_gl (hp c X) 40 2 2 = some (X.2 40 2) := hp_gl (by omega) (by omega) (sh_40 c) rfl
theorem p40_2 (c : ixK) (X : ixX) (x : Int64) : ix_pf (hp c X) 40 2 2 (.long x) = some (hp c (aJ X 40 (vp_updL (X.2 40) 2 x))) := hp_pJ (by omega) (by omega) (sh_40 c) (Nat.le_of_ble_eq_true rfl) rfl
theorem g40_3 (c : ixK) (X : ixX) : ix_gl (hp c X) 40 2 3 = some (X.2 40 3) := hp_gl (by omega) (by omega) (sh_40 c) rfl
theorem p40_3 (c : ixK) (X : ixX) (x : Int64) : ix_pf (hp c X) 40 2 3 (.long x) = some (hp c (aJ X 40 (vp_updL (X.2 40) 3 x))) := hp_pJ (by omega) (by omega) (sh_40 c) (Nat.le_of_ble_eq_true rfl) rfl
theorem g40_4 (c : ixK) (X : ixX) : ix_gl (hp c X) 40 2 4 = some (X.2 40 4) := hp_gl (by omega) (by omega) (sh_40 c) rfl
theorem p40_4 (c : ixK) (X : ixX) (x : Int64) : ix_pf (hp c X) 40 2 4 (.long x) = some (hp c (aJ X 40 (vp_updL (X.2 40) 4 x))) := hp_pJ (by omega) (by omega) (sh_40 c) (Nat.le_of_ble_eq_true rfl) rfl
theorem g40_5 (c : ixK) (X : ixX) : ix_gl (hp c X) 40 2 5 = some (X.2 40 5) := hp_gl (by omega) (by omega) (sh_40 c) rfl
theorem p40_5 (c : ixK) (X : ixX) (x : Int64) : ix_pf (hp c X) 40 2 5 (.long x) = some (hp c (aJ X 40 (vp_updL (X.2 40) 5 x))) := hp_pJ (by omega) (by omega) (sh_40 c) (Nat.le_of_ble_eq_true rfl) rfl
theorem g40_6 (c : ixK) (X : ixX) : ix_gr (hp c X) 40 2 6 = some 41 := hp_gr (by omega) (by omega) (sh_40 c) rfl
theorem g40_7 (c : ixK) (X : ixX) : ix_gr (hp c X) 40 2 7 = some 42 := hp_gr (by omega) (by omega) (sh_40 c) rfl
theorem r41 {c : ixK} {X : ixX} {i : Nat} (hi : i < 4) : ix_al (hp c X) 41 (nI i) = some (X.2 41 i) := hp_al (by omega) (sh_41 c) hi (by decide)
theorem s41 {c : ixK} {X : ixX} {i : Nat} {x : Int64} (hi : i < 4) : ix_sl (hp c X) 41 (nI i) x = some (hp c (aJ X 41 (vp_updL (X.2 41) i x))) := hp_sl (by omega) (by omega) (sh_41 c) hi (by decide)
theorem r42 {c : ixK} {X : ixX} {i : Nat} (hi : i < 4) : ix_al (hp c X) 42 (nI i) = some (X.2 42 i) := hp_al (by omega) (sh_42 c) hi (by decide)
theorem s42 {c : ixK} {X : ixX} {i : Nat} {x : Int64} (hi : i < 4) : ix_sl (hp c X) 42 (nI i) x = some (hp c (aJ X 42 (vp_updL (X.2 42) i x))) := hp_sl (by omega) (by omega) (sh_42 c) hi (by decide)
theorem rc_44 (c : ixK) (X : ixX) : ix_rc (hp c X) 44 = some 3 := hp_rc (by omega) (by omega) (sh_44 c)
theorem g44_0 (c : ixK) (X : ixX) : ix_gr (hp c X) 44 3 0 = some 45 := hp_gr (by omega) (by omega) (sh_44 c) rfl
theorem g44_1 (c : ixK) (X : ixX) : ix_gi (hp c X) 44 3 1 = some (X.1 44 1) := hp_gi (by omega) (by omega) (sh_44 c) rfl
theorem p44_1 (c : ixK) (X : ixX) (x : Int32) : ix_pf (hp c X) 44 3 1 (.int x) = some (hp c (aI X 44 (upd (X.1 44) 1 x))) := hp_pI (by omega) (by omega) (sh_44 c) (Nat.le_of_ble_eq_true rfl) rfl
theorem g44_2 (c : ixK) (X : ixX) : ix_gl (hp c X) 44 3 2 = some (X.2 44 2) := hp_gl (by omega) (by omega) (sh_44 c) rfl
theorem p44_2 (c : ixK) (X : ixX) (x : Int64) : ix_pf (hp c X) 44 3 2 (.long x) = some (hp c (aJ X 44 (vp_updL (X.2 44) 2 x))) := hp_pJ (by omega) (by omega) (sh_44 c) (Nat.le_of_ble_eq_true rfl) rfl
theorem r45 {c : ixK} {X : ixX} {i : Nat} (hi : i < 64) : ix_ai (hp c X) 45 (nI i) = some (X.1 45 i) := hp_ai (by omega) (sh_45 c) hi (by decide)
theorem s45 {c : ixK} {X : ixX} {i : Nat} {x : Int32} (hi : i < 64) : ix_si (hp c X) 45 (nI i) x = some (hp c (aI X 45 (upd (X.1 45) i x))) := hp_si (by omega) (by omega) (sh_45 c) hi (by decide)
theorem rc_46 (c : ixK) (X : ixX) : ix_rc (hp c X) 46 = some 3 := hp_rc (by omega) (by omega) (sh_46 c)
theorem g46_0 (c : ixK) (X : ixX) : ix_gr (hp c X) 46 3 0 = some 47 := hp_gr (by omega) (by omega) (sh_46 c) rfl
theorem g46_1 (c : ixK) (X : ixX) : ix_gi (hp c X) 46 3 1 = some (X.1 46 1) := hp_gi (by omega) (by omega) (sh_46 c) rfl
theorem p46_1 (c : ixK) (X : ixX) (x : Int32) : ix_pf (hp c X) 46 3 1 (.int x) = some (hp c (aI X 46 (upd (X.1 46) 1 x))) := hp_pI (by omega) (by omega) (sh_46 c) (Nat.le_of_ble_eq_true rfl) rfl
theorem g46_2 (c : ixK) (X : ixX) : ix_gl (hp c X) 46 3 2 = some (X.2 46 2) := hp_gl (by omega) (by omega) (sh_46 c) rfl
theorem p46_2 (c : ixK) (X : ixX) (x : Int64) : ix_pf (hp c X) 46 3 2 (.long x) = some (hp c (aJ X 46 (vp_updL (X.2 46) 2 x))) := hp_pJ (by omega) (by omega) (sh_46 c) (Nat.le_of_ble_eq_true rfl) rfl
theorem r47 {c : ixK} {X : ixX} {i : Nat} (hi : i < 64) : ix_ai (hp c X) 47 (nI i) = some (X.1 47 i) := hp_ai (by omega) (sh_47 c) hi (by decide)
theorem s47 {c : ixK} {X : ixX} {i : Nat} {x : Int32} (hi : i < 64) : ix_si (hp c X) 47 (nI i) x = some (hp c (aI X 47 (upd (X.1 47) i x))) := hp_si (by omega) (by omega) (sh_47 c) hi (by decide)
theorem rc_48 (c : ixK) (X : ixX) : ix_rc (hp c X) 48 = some 3 := hp_rc (by omega) (by omega) (sh_48 c)
theorem g48_0 (c : ixK) (X : ixX) : ix_gr (hp c X) 48 3 0 = some 49 := hp_gr (by omega) (by omega) (sh_48 c) rfl
theorem g48_1 (c : ixK) (X : ixX) : ix_gi (hp c X) 48 3 1 = some (X.1 48 1) := hp_gi (by omega) (by omega) (sh_48 c) rfl
theorem p48_1 (c : ixK) (X : ixX) (x : Int32) : ix_pf (hp c X) 48 3 1 (.int x) = some (hp c (aI X 48 (upd (X.1 48) 1 x))) := hp_pI (by omega) (by omega) (sh_48 c) (Nat.le_of_ble_eq_true rfl) rfl
theorem g48_2 (c : ixK) (X : ixX) : ix_gl (hp c X) 48 3 2 = some (X.2 48 2) := hp_gl (by omega) (by omega) (sh_48 c) rfl
theorem p48_2 (c : ixK) (X : ixX) (x : Int64) : ix_pf (hp c X) 48 3 2 (.long x) = some (hp c (aJ X 48 (vp_updL (X.2 48) 2 x))) := hp_pJ (by omega) (by omega) (sh_48 c) (Nat.le_of_ble_eq_true rfl) rfl
theorem r49 {c : ixK} {X : ixX} {i : Nat} (hi : i < 64) : ix_ai (hp c X) 49 (nI i) = some (X.1 49 i) := hp_ai (by omega) (sh_49 c) hi (by decide)
theorem s49 {c : ixK} {X : ixX} {i : Nat} {x : Int32} (hi : i < 64) : ix_si (hp c X) 49 (nI i) x = some (hp c (aI X 49 (upd (X.1 49) i x))) := hp_si (by omega) (by omega) (sh_49 c) hi (by decide)
theorem rc_50 (c : ixK) (X : ixX) : ix_rc (hp c X) 50 = some 3 := hp_rc (by omega) (by omega) (sh_50 c)
theorem g50_0 (c : ixK) (X : ixX) : ix_gr (hp c X) 50 3 0 = some 51 := hp_gr (by omega) (by omega) (sh_50 c) rfl
theorem g50_1 (c : ixK) (X : ixX) : ix_gi (hp c X) 50 3 1 = some (X.1 50 1) := hp_gi (by omega) (by omega) (sh_50 c) rfl
theorem p50_1 (c : ixK) (X : ixX) (x : Int32) : ix_pf (hp c X) 50 3 1 (.int x) = some (hp c (aI X 50 (upd (X.1 50) 1 x))) := hp_pI (by omega) (by omega) (sh_50 c) (Nat.le_of_ble_eq_true rfl) rfl
theorem g50_2 (c : ixK) (X : ixX) : ix_gl (hp c X) 50 3 2 = some (X.2 50 2) := hp_gl (by omega) (by omega) (sh_50 c) rfl
theorem p50_2 (c : ixK) (X : ixX) (x : Int64) : ix_pf (hp c X) 50 3 2 (.long x) = some (hp c (aJ X 50 (vp_updL (X.2 50) 2 x))) := hp_pJ (by omega) (by omega) (sh_50 c) (Nat.le_of_ble_eq_true rfl) rfl
theorem r51 {c : ixK} {X : ixX} {i : Nat} (hi : i < 64) : ix_ai (hp c X) 51 (nI i) = some (X.1 51 i) := hp_ai (by omega) (sh_51 c) hi (by decide)
theorem s51 {c : ixK} {X : ixX} {i : Nat} {x : Int32} (hi : i < 64) : ix_si (hp c X) 51 (nI i) x = some (hp c (aI X 51 (upd (X.1 51) i x))) := hp_si (by omega) (by omega) (sh_51 c) hi (by decide)
theorem rc_52 (c : ixK) (X : ixX) : ix_rc (hp c X) 52 = some 3 := hp_rc (by omega) (by omega) (sh_52 c)
theorem g52_0 (c : ixK) (X : ixX) : ix_gr (hp c X) 52 3 0 = some 53 := hp_gr (by omega) (by omega) (sh_52 c) rfl
theorem g52_1 (c : ixK) (X : ixX) : ix_gi (hp c X) 52 3 1 = some (X.1 52 1) := hp_gi (by omega) (by omega) (sh_52 c) rfl
theorem p52_1 (c : ixK) (X : ixX) (x : Int32) : ix_pf (hp c X) 52 3 1 (.int x) = some (hp c (aI X 52 (upd (X.1 52) 1 x))) := hp_pI (by omega) (by omega) (sh_52 c) (Nat.le_of_ble_eq_true rfl) rfl
theorem g52_2 (c : ixK) (X : ixX) : ix_gl (hp c X) 52 3 2 = some (X.2 52 2) := hp_gl (by omega) (by omega) (sh_52 c) rfl
theorem p52_2 (c : ixK) (X : ixX) (x : Int64) : ix_pf (hp c X) 52 3 2 (.long x) = some (hp c (aJ X 52 (vp_updL (X.2 52) 2 x))) := hp_pJ (by omega) (by omega) (sh_52 c) (Nat.le_of_ble_eq_true rfl) rfl
theorem r53 {c : ixK} {X : ixX} {i : Nat} (hi : i < 64) : ix_ai (hp c X) 53 (nI i) = some (X.1 53 i) := hp_ai (by omega) (sh_53 c) hi (by decide)
theorem s53 {c : ixK} {X : ixX} {i : Nat} {x : Int32} (hi : i < 64) : ix_si (hp c X) 53 (nI i) x = some (hp c (aI X 53 (upd (X.1 53) i x))) := hp_si (by omega) (by omega) (sh_53 c) hi (by decide)
theorem r54 {c : ixK} {X : ixX} {i : Nat} (hi : i < 4) : ix_ai (hp c X) 54 (nI i) = some (X.1 54 i) := hp_ai (by omega) (sh_54 c) hi (by decide)
theorem s54 {c : ixK} {X : ixX} {i : Nat} {x : Int32} (hi : i < 4) : ix_si (hp c X) 54 (nI i) x = some (hp c (aI X 54 (upd (X.1 54) i x))) := hp_si (by omega) (by omega) (sh_54 c) hi (by decide)
theorem r55 {c : ixK} {X : ixX} {i : Nat} (hi : i < 4) : ix_ai (hp c X) 55 (nI i) = some (X.1 55 i) := hp_ai (by omega) (sh_55 c) hi (by decide)
theorem s55 {c : ixK} {X : ixX} {i : Nat} {x : Int32} (hi : i < 4) : ix_si (hp c X) 55 (nI i) x = some (hp c (aI X 55 (upd (X.1 55) i x))) := hp_si (by omega) (by omega) (sh_55 c) hi (by decide)
theorem r56 {c : ixK} {X : ixX} {i : Nat} (hi : i < 2) : ix_az (hp c X) 56 (nI i) = some (X.1 56 i) := hp_az (by omega) (sh_56 c) hi (by decide)
theorem s56 {c : ixK} {X : ixX} {i : Nat} {x : Int32} (hi : i < 2) : ix_sz (hp c X) 56 (nI i) x = some (hp c (aI X 56 (upd (X.1 56) i (x &&& 1)))) := hp_sz (by omega) (by omega) (sh_56 c) hi (by decide)
theorem rc_57 (c : ixK) (X : ixX) : ix_rc (hp c X) 57 = some 4 := hp_rc (by omega) (by omega) (sh_57 c)
theorem g57_0 (c : ixK) (X : ixX) : ix_gr (hp c X) 57 4 0 = some 58 := hp_gr (by omega) (by omega) (sh_57 c) rfl
theorem g57_1 (c : ixK) (X : ixX) : ix_gi (hp c X) 57 4 1 = some (X.1 57 1) := hp_gi (by omega) (by omega) (sh_57 c) rfl
theorem p57_1 (c : ixK) (X : ixX) (x : Int32) : ix_pf (hp c X) 57 4 1 (.int x) = some (hp c (aI X 57 (upd (X.1 57) 1 x))) := hp_pI (by omega) (by omega) (sh_57 c) (Nat.le_of_ble_eq_true rfl) rfl
theorem r58 {c : ixK} {X : ixX} {i : Nat} (hi : i < 80) : ix_ai (hp c X) 58 (nI i) = some (X.1 58 i) := hp_ai (by omega) (sh_58 c) hi (by decide)
theorem s58 {c : ixK} {X : ixX} {i : Nat} {x : Int32} (hi : i < 80) : ix_si (hp c X) 58 (nI i) x = some (hp c (aI X 58 (upd (X.1 58) i x))) := hp_si (by omega) (by omega) (sh_58 c) hi (by decide)
theorem rc_59 (c : ixK) (X : ixX) : ix_rc (hp c X) 59 = some 5 := hp_rc (by omega) (by omega) (sh_59 c)
theorem g59_0 (c : ixK) (X : ixX) : ix_gr (hp c X) 59 5 0 = some 60 := hp_gr (by omega) (by omega) (sh_59 c) rfl
theorem g59_1 (c : ixK) (X : ixX) : ix_gr (hp c X) 59 5 1 = some 61 := hp_gr (by omega) (by omega) (sh_59 c) rfl
theorem g59_2 (c : ixK) (X : ixX) : ix_gr (hp c X) 59 5 2 = some 62 := hp_gr (by omega) (by omega) (sh_59 c) rfl
theorem r60 {c : ixK} {X : ixX} {i : Nat} (hi : i < 64) : ix_al (hp c X) 60 (nI i) = some (X.2 60 i) := hp_al (by omega) (sh_60 c) hi (by decide)
theorem s60 {c : ixK} {X : ixX} {i : Nat} {x : Int64} (hi : i < 64) : ix_sl (hp c X) 60 (nI i) x = some (hp c (aJ X 60 (vp_updL (X.2 60) i x))) := hp_sl (by omega) (by omega) (sh_60 c) hi (by decide)
theorem r61 {c : ixK} {X : ixX} {i : Nat} (hi : i < 16) : ix_al (hp c X) 61 (nI i) = some (X.2 61 i) := hp_al (by omega) (sh_61 c) hi (by decide)
theorem s61 {c : ixK} {X : ixX} {i : Nat} {x : Int64} (hi : i < 16) : ix_sl (hp c X) 61 (nI i) x = some (hp c (aJ X 61 (vp_updL (X.2 61) i x))) := hp_sl (by omega) (by omega) (sh_61 c) hi (by decide)
theorem r62 {c : ixK} {X : ixX} {i : Nat} (hi : i < 16) : ix_al (hp c X) 62 (nI i) = some (X.2 62 i) := hp_al (by omega) (sh_62 c) hi (by decide)
theorem s62 {c : ixK} {X : ixX} {i : Nat} {x : Int64} (hi : i < 16) : ix_sl (hp c X) 62 (nI i) x = some (hp c (aJ X 62 (vp_updL (X.2 62) i x))) := hp_sl (by omega) (by omega) (sh_62 c) hi (by decide)
theorem rc_63 (c : ixK) (X : ixX) : ix_rc (hp c X) 63 = some 6 := hp_rc (by omega) (by omega) (sh_63 c)
theorem g63_0 (c : ixK) (X : ixX) : ix_gr (hp c X) 63 6 0 = some 64 := hp_gr (by omega) (by omega) (sh_63 c) rfl
theorem r64 {c : ixK} {X : ixX} {i : Nat} (hi : i < 64) : ix_al (hp c X) 64 (nI i) = some (X.2 64 i) := hp_al (by omega) (sh_64 c) hi (by decide)
theorem s64 {c : ixK} {X : ixX} {i : Nat} {x : Int64} (hi : i < 64) : ix_sl (hp c X) 64 (nI i) x = some (hp c (aJ X 64 (vp_updL (X.2 64) i x))) := hp_sl (by omega) (by omega) (sh_64 c) hi (by decide)
theorem rc_65 (c : ixK) (X : ixX) : ix_rc (hp c X) 65 = some 7 := hp_rc (by omega) (by omega) (sh_65 c)
theorem g65_0 (c : ixK) (X : ixX) : ix_gr (hp c X) 65 7 0 = some 66 := hp_gr (by omega) (by omega) (sh_65 c) rfl
theorem g65_1 (c : ixK) (X : ixX) : ix_gl (hp c X) 65 7 1 = some (X.2 65 1) := hp_gl (by omega) (by omega) (sh_65 c) rfl
theorem p65_1 (c : ixK) (X : ixX) (x : Int64) : ix_pf (hp c X) 65 7 1 (.long x) = some (hp c (aJ X 65 (vp_updL (X.2 65) 1 x))) := hp_pJ (by omega) (by omega) (sh_65 c) (Nat.le_of_ble_eq_true rfl) rfl
theorem g65_2 (c : ixK) (X : ixX) : ix_gl (hp c X) 65 7 2 = some (X.2 65 2) := hp_gl (by omega) (by omega) (sh_65 c) rfl
theorem p65_2 (c : ixK) (X : ixX) (x : Int64) : ix_pf (hp c X) 65 7 2 (.long x) = some (hp c (aJ X 65 (vp_updL (X.2 65) 2 x))) := hp_pJ (by omega) (by omega) (sh_65 c) (Nat.le_of_ble_eq_true rfl) rfl
theorem g65_3 (c : ixK) (X : ixX) : ix_gl (hp c X) 65 7 3 = some (X.2 65 3) := hp_gl (by omega) (by omega) (sh_65 c) rfl
theorem p65_3 (c : ixK) (X : ixX) (x : Int64) : ix_pf (hp c X) 65 7 3 (.long x) = some (hp c (aJ X 65 (vp_updL (X.2 65) 3 x))) := hp_pJ (by omega) (by omega) (sh_65 c) (Nat.le_of_ble_eq_true rfl) rfl
theorem g65_4 (c : ixK) (X : ixX) : ix_gl (hp c X) 65 7 4 = some (X.2 65 4) := hp_gl (by omega) (by omega) (sh_65 c) rfl
theorem p65_4 (c : ixK) (X : ixX) (x : Int64) : ix_pf (hp c X) 65 7 4 (.long x) = some (hp c (aJ X 65 (vp_updL (X.2 65) 4 x))) := hp_pJ (by omega) (by omega) (sh_65 c) (Nat.le_of_ble_eq_true rfl) rfl
theorem g65_5 (c : ixK) (X : ixX) : ix_gl (hp c X) 65 7 5 = some (X.2 65 5) := hp_gl (by omega) (by omega) (sh_65 c) rfl
theorem p65_5 (c : ixK) (X : ixX) (x : Int64) : ix_pf (hp c X) 65 7 5 (.long x) = some (hp c (aJ X 65 (vp_updL (X.2 65) 5 x))) := hp_pJ (by omega) (by omega) (sh_65 c) (Nat.le_of_ble_eq_true rfl) rfl
theorem g65_6 (c : ixK) (X : ixX) : ix_gl (hp c X) 65 7 6 = some (X.2 65 6) := hp_gl (by omega) (by omega) (sh_65 c) rfl
theorem p65_6 (c : ixK) (X : ixX) (x : Int64) : ix_pf (hp c X) 65 7 6 (.long x) = some (hp c (aJ X 65 (vp_updL (X.2 65) 6 x))) := hp_pJ (by omega) (by omega) (sh_65 c) (Nat.le_of_ble_eq_true rfl) rfl
theorem g65_7 (c : ixK) (X : ixX) : ix_gl (hp c X) 65 7 7 = some (X.2 65 7) := hp_gl (by omega) (by omega) (sh_65 c) rfl
theorem p65_7 (c : ixK) (X : ixX) (x : Int64) : ix_pf (hp c X) 65 7 7 (.long x) = some (hp c (aJ X 65 (vp_updL (X.2 65) 7 x))) := hp_pJ (by omega) (by omega) (sh_65 c) (Nat.le_of_ble_eq_true rfl) rfl
theorem g65_8 (c : ixK) (X : ixX) : ix_gl (hp c X) 65 7 8 = some (X.2 65 8) := hp_gl (by omega) (by omega) (sh_65 c) rfl
theorem p65_8 (c : ixK) (X : ixX) (x : Int64) : ix_pf (hp c X) 65 7 8 (.long x) = some (hp c (aJ X 65 (vp_updL (X.2 65) 8 x))) := hp_pJ (by omega) (by omega) (sh_65 c) (Nat.le_of_ble_eq_true rfl) rfl
theorem g65_9 (c : ixK) (X : ixX) : ix_gl (hp c X) 65 7 9 = some (X.2 65 9) := hp_gl (by omega) (by omega) (sh_65 c) rfl
theorem p65_9 (c : ixK) (X : ixX) (x : Int64) : ix_pf (hp c X) 65 7 9 (.long x) = some (hp c (aJ X 65 (vp_updL (X.2 65) 9 x))) := hp_pJ (by omega) (by omega) (sh_65 c) (Nat.le_of_ble_eq_true rfl) rfl
theorem g65_10 (c : ixK) (X : ixX) : ix_gl (hp c X) 65 7 10 = some (X.2 65 10) := hp_gl (by omega) (by omega) (sh_65 c) rfl
theorem p65_10 (c : ixK) (X : ixX) (x : Int64) : ix_pf (hp c X) 65 7 10 (.long x) = some (hp c (aJ X 65 (vp_updL (X.2 65) 10 x))) := hp_pJ (by omega) (by omega) (sh_65 c) (Nat.le_of_ble_eq_true rfl) rfl
theorem r66 {c : ixK} {X : ixX} {i : Nat} (hi : i < 64) : ix_al (hp c X) 66 (nI i) = some (X.2 66 i) := hp_al (by omega) (sh_66 c) hi (by decide)
theorem s66 {c : ixK} {X : ixX} {i : Nat} {x : Int64} (hi : i < 64) : ix_sl (hp c X) 66 (nI i) x = some (hp c (aJ X 66 (vp_updL (X.2 66) i x))) := hp_sl (by omega) (by omega) (sh_66 c) hi (by decide)
theorem rc_67 (c : ixK) (X : ixX) : ix_rc (hp c X) 67 = some 8 := hp_rc (by omega) (by omega) (sh_67 c)
theorem g67_0 (c : ixK) (X : ixX) : ix_gr (hp c X) 67 8 0 = some 68 := hp_gr (by omega) (by omega) (sh_67 c) rfl
theorem g67_1 (c : ixK) (X : ixX) : ix_gr (hp c X) 67 8 1 = some 69 := hp_gr (by omega) (by omega) (sh_67 c) rfl
theorem g67_2 (c : ixK) (X : ixX) : ix_gr (hp c X) 67 8 2 = some 70 := hp_gr (by omega) (by omega) (sh_67 c) rfl
theorem g67_3 (c : ixK) (X : ixX) : ix_gr (hp c X) 67 8 3 = some 71 := hp_gr (by omega) (by omega) (sh_67 c) rfl
theorem g67_4 (c : ixK) (X : ixX) : ix_gr (hp c X) 67 8 4 = some 72 := hp_gr (by omega) (by omega) (sh_67 c) rfl
theorem g67_5 (c : ixK) (X : ixX) : ix_gl (hp c X) 67 8 5 = some (X.2 67 5) := hp_gl (by omega) (by omega) (sh_67 c) rfl
theorem p67_5 (c : ixK) (X : ixX) (x : Int64) : ix_pf (hp c X) 67 8 5 (.long x) = some (hp c (aJ X 67 (vp_updL (X.2 67) 5 x))) := hp_pJ (by omega) (by omega) (sh_67 c) (Nat.le_of_ble_eq_true rfl) rfl
theorem g67_6 (c : ixK) (X : ixX) : ix_gl (hp c X) 67 8 6 = some (X.2 67 6) := hp_gl (by omega) (by omega) (sh_67 c) rfl
theorem p67_6 (c : ixK) (X : ixX) (x : Int64) : ix_pf (hp c X) 67 8 6 (.long x) = some (hp c (aJ X 67 (vp_updL (X.2 67) 6 x))) := hp_pJ (by omega) (by omega) (sh_67 c) (Nat.le_of_ble_eq_true rfl) rfl
theorem r68 {c : ixK} {X : ixX} {i : Nat} (hi : i < 64) : ix_al (hp c X) 68 (nI i) = some (X.2 68 i) := hp_al (by omega) (sh_68 c) hi (by decide)
theorem s68 {c : ixK} {X : ixX} {i : Nat} {x : Int64} (hi : i < 64) : ix_sl (hp c X) 68 (nI i) x = some (hp c (aJ X 68 (vp_updL (X.2 68) i x))) := hp_sl (by omega) (by omega) (sh_68 c) hi (by decide)
theorem r69 {c : ixK} {X : ixX} {i : Nat} (hi : i < 64) : ix_ai (hp c X) 69 (nI i) = some (X.1 69 i) := hp_ai (by omega) (sh_69 c) hi (by decide)
theorem s69 {c : ixK} {X : ixX} {i : Nat} {x : Int32} (hi : i < 64) : ix_si (hp c X) 69 (nI i) x = some (hp c (aI X 69 (upd (X.1 69) i x))) := hp_si (by omega) (by omega) (sh_69 c) hi (by decide)
theorem r70 {c : ixK} {X : ixX} {i : Nat} (hi : i < 64) : ix_ai (hp c X) 70 (nI i) = some (X.1 70 i) := hp_ai (by omega) (sh_70 c) hi (by decide)
theorem s70 {c : ixK} {X : ixX} {i : Nat} {x : Int32} (hi : i < 64) : ix_si (hp c X) 70 (nI i) x = some (hp c (aI X 70 (upd (X.1 70) i x))) := hp_si (by omega) (by omega) (sh_70 c) hi (by decide)
theorem r71 {c : ixK} {X : ixX} {i : Nat} (hi : i < 64) : ix_ai (hp c X) 71 (nI i) = some (X.1 71 i) := hp_ai (by omega) (sh_71 c) hi (by decide)
theorem s71 {c : ixK} {X : ixX} {i : Nat} {x : Int32} (hi : i < 64) : ix_si (hp c X) 71 (nI i) x = some (hp c (aI X 71 (upd (X.1 71) i x))) := hp_si (by omega) (by omega) (sh_71 c) hi (by decide)
theorem r72 {c : ixK} {X : ixX} {i : Nat} (hi : i < 64) : ix_ai (hp c X) 72 (nI i) = some (X.1 72 i) := hp_ai (by omega) (sh_72 c) hi (by decide)
theorem s72 {c : ixK} {X : ixX} {i : Nat} {x : Int32} (hi : i < 64) : ix_si (hp c X) 72 (nI i) x = some (hp c (aI X 72 (upd (X.1 72) i x))) := hp_si (by omega) (by omega) (sh_72 c) hi (by decide)
theorem rc_73 (c : ixK) (X : ixX) : ix_rc (hp c X) 73 = some 3 := hp_rc (by omega) (by omega) (sh_73 c)
theorem g73_0 (c : ixK) (X : ixX) : ix_gr (hp c X) 73 3 0 = some 74 := hp_gr (by omega) (by omega) (sh_73 c) rfl
theorem g73_1 (c : ixK) (X : ixX) : ix_gi (hp c X) 73 3 1 = some (X.1 73 1) := hp_gi (by omega) (by omega) (sh_73 c) rfl
theorem p73_1 (c : ixK) (X : ixX) (x : Int32) : ix_pf (hp c X) 73 3 1 (.int x) = some (hp c (aI X 73 (upd (X.1 73) 1 x))) := hp_pI (by omega) (by omega) (sh_73 c) (Nat.le_of_ble_eq_true rfl) rfl
theorem g73_2 (c : ixK) (X : ixX) : ix_gl (hp c X) 73 3 2 = some (X.2 73 2) := hp_gl (by omega) (by omega) (sh_73 c) rfl
theorem p73_2 (c : ixK) (X : ixX) (x : Int64) : ix_pf (hp c X) 73 3 2 (.long x) = some (hp c (aJ X 73 (vp_updL (X.2 73) 2 x))) := hp_pJ (by omega) (by omega) (sh_73 c) (Nat.le_of_ble_eq_true rfl) rfl
theorem r74 {c : ixK} {X : ixX} {i : Nat} (hi : i < 64) : ix_ai (hp c X) 74 (nI i) = some (X.1 74 i) := hp_ai (by omega) (sh_74 c) hi (by decide)
theorem s74 {c : ixK} {X : ixX} {i : Nat} {x : Int32} (hi : i < 64) : ix_si (hp c X) 74 (nI i) x = some (hp c (aI X 74 (upd (X.1 74) i x))) := hp_si (by omega) (by omega) (sh_74 c) hi (by decide)
theorem rc_75 (c : ixK) (X : ixX) : ix_rc (hp c X) 75 = some 11 := hp_rc (by omega) (by omega) (sh_75 c)
theorem g75_0 (c : ixK) (X : ixX) : ix_gr (hp c X) 75 11 0 = some 76 := hp_gr (by omega) (by omega) (sh_75 c) rfl
theorem g75_1 (c : ixK) (X : ixX) : ix_gr (hp c X) 75 11 1 = some 77 := hp_gr (by omega) (by omega) (sh_75 c) rfl
theorem g75_2 (c : ixK) (X : ixX) : ix_gr (hp c X) 75 11 2 = some 78 := hp_gr (by omega) (by omega) (sh_75 c) rfl
theorem g75_3 (c : ixK) (X : ixX) : ix_gr (hp c X) 75 11 3 = some 79 := hp_gr (by omega) (by omega) (sh_75 c) rfl
theorem g75_4 (c : ixK) (X : ixX) : ix_gr (hp c X) 75 11 4 = some 80 := hp_gr (by omega) (by omega) (sh_75 c) rfl
theorem g75_5 (c : ixK) (X : ixX) : ix_gr (hp c X) 75 11 5 = some 81 := hp_gr (by omega) (by omega) (sh_75 c) rfl
theorem g75_6 (c : ixK) (X : ixX) : ix_gr (hp c X) 75 11 6 = some 82 := hp_gr (by omega) (by omega) (sh_75 c) rfl
theorem g75_7 (c : ixK) (X : ixX) : ix_gr (hp c X) 75 11 7 = some 83 := hp_gr (by omega) (by omega) (sh_75 c) rfl
theorem g75_8 (c : ixK) (X : ixX) : ix_gr (hp c X) 75 11 8 = some 84 := hp_gr (by omega) (by omega) (sh_75 c) rfl
theorem g75_9 (c : ixK) (X : ixX) : ix_gr (hp c X) 75 11 9 = some 85 := hp_gr (by omega) (by omega) (sh_75 c) rfl
theorem g75_10 (c : ixK) (X : ixX) : ix_gr (hp c X) 75 11 10 = some 86 := hp_gr (by omega) (by omega) (sh_75 c) rfl
theorem g75_11 (c : ixK) (X : ixX) : ix_gr (hp c X) 75 11 11 = some 87 := hp_gr (by omega) (by omega) (sh_75 c) rfl
theorem g75_12 (c : ixK) (X : ixX) : ix_gi (hp c X) 75 11 12 = some (X.1 75 12) := hp_gi (by omega) (by omega) (sh_75 c) rfl
theorem p75_12 (c : ixK) (X : ixX) (x : Int32) : ix_pf (hp c X) 75 11 12 (.int x) = some (hp c (aI X 75 (upd (X.1 75) 12 x))) := hp_pI (by omega) (by omega) (sh_75 c) (Nat.le_of_ble_eq_true rfl) rfl
theorem g75_13 (c : ixK) (X : ixX) : ix_gi (hp c X) 75 11 13 = some (X.1 75 13) := hp_gi (by omega) (by omega) (sh_75 c) rfl
theorem p75_13 (c : ixK) (X : ixX) (x : Int32) : ix_pf (hp c X) 75 11 13 (.int x) = some (hp c (aI X 75 (upd (X.1 75) 13 x))) := hp_pI (by omega) (by omega) (sh_75 c) (Nat.le_of_ble_eq_true rfl) rfl
theorem g75_14 (c : ixK) (X : ixX) : ix_gi (hp c X) 75 11 14 = some (X.1 75 14) := hp_gi (by omega) (by omega) (sh_75 c) rfl
theorem p75_14 (c : ixK) (X : ixX) (x : Int32) : ix_pf (hp c X) 75 11 14 (.int x) = some (hp c (aI X 75 (upd (X.1 75) 14 x))) := hp_pI (by omega) (by omega) (sh_75 c) (Nat.le_of_ble_eq_true rfl) rfl
theorem g75_15 (c : ixK) (X : ixX) : ix_gr (hp c X) 75 11 15 = some 88 := hp_gr (by omega) (by omega) (sh_75 c) rfl
theorem g75_16 (c : ixK) (X : ixX) : ix_gr (hp c X) 75 11 16 = some 89 := hp_gr (by omega) (by omega) (sh_75 c) rfl
theorem g75_17 (c : ixK) (X : ixX) : ix_gr (hp c X) 75 11 17 = some 90 := hp_gr (by omega) (by omega) (sh_75 c) rfl
theorem g75_18 (c : ixK) (X : ixX) : ix_gr (hp c X) 75 11 18 = some 91 := hp_gr (by omega) (by omega) (sh_75 c) rfl
theorem g75_19 (c : ixK) (X : ixX) : ix_gr (hp c X) 75 11 19 = some 92 := hp_gr (by omega) (by omega) (sh_75 c) rfl
theorem g75_20 (c : ixK) (X : ixX) : ix_gi (hp c X) 75 11 20 = some (X.1 75 20) := hp_gi (by omega) (by omega) (sh_75 c) rfl
theorem p75_20 (c : ixK) (X : ixX) (x : Int32) : ix_pf (hp c X) 75 11 20 (.int x) = some (hp c (aI X 75 (upd (X.1 75) 20 x))) := hp_pI (by omega) (by omega) (sh_75 c) (Nat.le_of_ble_eq_true rfl) rfl
theorem g75_21 (c : ixK) (X : ixX) : ix_gr (hp c X) 75 11 21 = some 93 := hp_gr (by omega) (by omega) (sh_75 c) rfl
theorem g75_22 (c : ixK) (X : ixX) : ix_gr (hp c X) 75 11 22 = some 94 := hp_gr (by omega) (by omega) (sh_75 c) rfl
theorem g75_23 (c : ixK) (X : ixX) : ix_gr (hp c X) 75 11 23 = some 95 := hp_gr (by omega) (by omega) (sh_75 c) rfl
theorem g75_24 (c : ixK) (X : ixX) : ix_gr (hp c X) 75 11 24 = some 96 := hp_gr (by omega) (by omega) (sh_75 c) rfl
theorem g75_25 (c : ixK) (X : ixX) : ix_gr (hp c X) 75 11 25 = some 97 := hp_gr (by omega) (by omega) (sh_75 c) rfl
theorem g75_26 (c : ixK) (X : ixX) : ix_gr (hp c X) 75 11 26 = some 98 := hp_gr (by omega) (by omega) (sh_75 c) rfl
theorem g75_27 (c : ixK) (X : ixX) : ix_gi (hp c X) 75 11 27 = some (X.1 75 27) := hp_gi (by omega) (by omega) (sh_75 c) rfl
theorem p75_27 (c : ixK) (X : ixX) (x : Int32) : ix_pf (hp c X) 75 11 27 (.int x) = some (hp c (aI X 75 (upd (X.1 75) 27 x))) := hp_pI (by omega) (by omega) (sh_75 c) (Nat.le_of_ble_eq_true rfl) rfl
theorem g75_28 (c : ixK) (X : ixX) : ix_gr (hp c X) 75 11 28 = some 99 := hp_gr (by omega) (by omega) (sh_75 c) rfl
theorem g75_29 (c : ixK) (X : ixX) : ix_gr (hp c X) 75 11 29 = some 100 := hp_gr (by omega) (by omega) (sh_75 c) rfl
theorem g75_30 (c : ixK) (X : ixX) : ix_gr (hp c X) 75 11 30 = some 101 := hp_gr (by omega) (by omega) (sh_75 c) rfl
theorem g75_31 (c : ixK) (X : ixX) : ix_gi (hp c X) 75 11 31 = some (X.1 75 31) := hp_gi (by omega) (by omega) (sh_75 c) rfl
theorem p75_31 (c : ixK) (X : ixX) (x : Int32) : ix_pf (hp c X) 75 11 31 (.int x) = some (hp c (aI X 75 (upd (X.1 75) 31 x))) := hp_pI (by omega) (by omega) (sh_75 c) (Nat.le_of_ble_eq_true rfl) rfl
theorem g75_32 (c : ixK) (X : ixX) : ix_gi (hp c X) 75 11 32 = some (X.1 75 32) := hp_gi (by omega) (by omega) (sh_75 c) rfl
theorem p75_32 (c : ixK) (X : ixX) (x : Int32) : ix_pf (hp c X) 75 11 32 (.int x) = some (hp c (aI X 75 (upd (X.1 75) 32 x))) := hp_pI (by omega) (by omega) (sh_75 c) (Nat.le_of_ble_eq_true rfl) rfl
theorem g75_33 (c : ixK) (X : ixX) : ix_gi (hp c X) 75 11 33 = some (X.1 75 33) := hp_gi (by omega) (by omega) (sh_75 c) rfl
theorem p75_33 (c : ixK) (X : ixX) (x : Int32) : ix_pf (hp c X) 75 11 33 (.int x) = some (hp c (aI X 75 (upd (X.1 75) 33 x))) := hp_pI (by omega) (by omega) (sh_75 c) (Nat.le_of_ble_eq_true rfl) rfl
theorem r76 {c : ixK} {X : ixX} {i : Nat} (hi : i < 720) : ix_ai (hp c X) 76 (nI i) = some (X.1 76 i) := hp_ai (by omega) (sh_76 c) hi (by decide)
theorem s76 {c : ixK} {X : ixX} {i : Nat} {x : Int32} (hi : i < 720) : ix_si (hp c X) 76 (nI i) x = some (hp c (aI X 76 (upd (X.1 76) i x))) := hp_si (by omega) (by omega) (sh_76 c) hi (by decide)
theorem r77 {c : ixK} {X : ixX} {i : Nat} (hi : i < 1440) : ix_ai (hp c X) 77 (nI i) = some (X.1 77 i) := hp_ai (by omega) (sh_77 c) hi (by decide)
theorem s77 {c : ixK} {X : ixX} {i : Nat} {x : Int32} (hi : i < 1440) : ix_si (hp c X) 77 (nI i) x = some (hp c (aI X 77 (upd (X.1 77) i x))) := hp_si (by omega) (by omega) (sh_77 c) hi (by decide)
theorem r78 {c : ixK} {X : ixX} {i : Nat} (hi : i < 2) : ix_az (hp c X) 78 (nI i) = some (X.1 78 i) := hp_az (by omega) (sh_78 c) hi (by decide)
theorem s78 {c : ixK} {X : ixX} {i : Nat} {x : Int32} (hi : i < 2) : ix_sz (hp c X) 78 (nI i) x = some (hp c (aI X 78 (upd (X.1 78) i (x &&& 1)))) := hp_sz (by omega) (by omega) (sh_78 c) hi (by decide)
theorem r79 {c : ixK} {X : ixX} {i : Nat} (hi : i < 64) : ix_al (hp c X) 79 (nI i) = some (X.2 79 i) := hp_al (by omega) (sh_79 c) hi (by decide)
theorem s79 {c : ixK} {X : ixX} {i : Nat} {x : Int64} (hi : i < 64) : ix_sl (hp c X) 79 (nI i) x = some (hp c (aJ X 79 (vp_updL (X.2 79) i x))) := hp_sl (by omega) (by omega) (sh_79 c) hi (by decide)
theorem r80 {c : ixK} {X : ixX} {i : Nat} (hi : i < 6561) : ix_al (hp c X) 80 (nI i) = some (X.2 80 i) := hp_al (by omega) (sh_80 c) hi (by decide)
theorem s80 {c : ixK} {X : ixX} {i : Nat} {x : Int64} (hi : i < 6561) : ix_sl (hp c X) 80 (nI i) x = some (hp c (aJ X 80 (vp_updL (X.2 80) i x))) := hp_sl (by omega) (by omega) (sh_80 c) hi (by decide)
theorem r81 {c : ixK} {X : ixX} {i : Nat} (hi : i < 6561) : ix_al (hp c X) 81 (nI i) = some (X.2 81 i) := hp_al (by omega) (sh_81 c) hi (by decide)
theorem s81 {c : ixK} {X : ixX} {i : Nat} {x : Int64} (hi : i < 6561) : ix_sl (hp c X) 81 (nI i) x = some (hp c (aJ X 81 (vp_updL (X.2 81) i x))) := hp_sl (by omega) (by omega) (sh_81 c) hi (by decide)
theorem r82 {c : ixK} {X : ixX} {i : Nat} (hi : i < 16) : ix_al (hp c X) 82 (nI i) = some (X.2 82 i) := hp_al (by omega) (sh_82 c) hi (by decide)
theorem s82 {c : ixK} {X : ixX} {i : Nat} {x : Int64} (hi : i < 16) : ix_sl (hp c X) 82 (nI i) x = some (hp c (aJ X 82 (vp_updL (X.2 82) i x))) := hp_sl (by omega) (by omega) (sh_82 c) hi (by decide)
theorem r83 {c : ixK} {X : ixX} {i : Nat} (hi : i < 64) : ix_ai (hp c X) 83 (nI i) = some (X.1 83 i) := hp_ai (by omega) (sh_83 c) hi (by decide)
theorem s83 {c : ixK} {X : ixX} {i : Nat} {x : Int32} (hi : i < 64) : ix_si (hp c X) 83 (nI i) x = some (hp c (aI X 83 (upd (X.1 83) i x))) := hp_si (by omega) (by omega) (sh_83 c) hi (by decide)
theorem r84 {c : ixK} {X : ixX} {i : Nat} (hi : i < 128) : ix_ai (hp c X) 84 (nI i) = some (X.1 84 i) := hp_ai (by omega) (sh_84 c) hi (by decide)
theorem s84 {c : ixK} {X : ixX} {i : Nat} {x : Int32} (hi : i < 128) : ix_si (hp c X) 84 (nI i) x = some (hp c (aI X 84 (upd (X.1 84) i x))) := hp_si (by omega) (by omega) (sh_84 c) hi (by decide)
theorem r85 {c : ixK} {X : ixX} {i : Nat} (hi : i < 64) : ix_ai (hp c X) 85 (nI i) = some (X.1 85 i) := hp_ai (by omega) (sh_85 c) hi (by decide)
theorem s85 {c : ixK} {X : ixX} {i : Nat} {x : Int32} (hi : i < 64) : ix_si (hp c X) 85 (nI i) x = some (hp c (aI X 85 (upd (X.1 85) i x))) := hp_si (by omega) (by omega) (sh_85 c) hi (by decide)
theorem r86 {c : ixK} {X : ixX} {i : Nat} (hi : i < 64) : ix_ai (hp c X) 86 (nI i) = some (X.1 86 i) := hp_ai (by omega) (sh_86 c) hi (by decide)
theorem s86 {c : ixK} {X : ixX} {i : Nat} {x : Int32} (hi : i < 64) : ix_si (hp c X) 86 (nI i) x = some (hp c (aI X 86 (upd (X.1 86) i x))) := hp_si (by omega) (by omega) (sh_86 c) hi (by decide)
theorem r87 {c : ixK} {X : ixX} {i : Nat} (hi : i < 128) : ix_ai (hp c X) 87 (nI i) = some (X.1 87 i) := hp_ai (by omega) (sh_87 c) hi (by decide)
theorem s87 {c : ixK} {X : ixX} {i : Nat} {x : Int32} (hi : i < 128) : ix_si (hp c X) 87 (nI i) x = some (hp c (aI X 87 (upd (X.1 87) i x))) := hp_si (by omega) (by omega) (sh_87 c) hi (by decide)
theorem r88 {c : ixK} {X : ixX} {i : Nat} (hi : i < 256) : ix_ai (hp c X) 88 (nI i) = some (X.1 88 i) := hp_ai (by omega) (sh_88 c) hi (by decide)
theorem s88 {c : ixK} {X : ixX} {i : Nat} {x : Int32} (hi : i < 256) : ix_si (hp c X) 88 (nI i) x = some (hp c (aI X 88 (upd (X.1 88) i x))) := hp_si (by omega) (by omega) (sh_88 c) hi (by decide)
theorem r89 {c : ixK} {X : ixX} {i : Nat} (hi : i < 64) : ix_ai (hp c X) 89 (nI i) = some (X.1 89 i) := hp_ai (by omega) (sh_89 c) hi (by decide)
theorem s89 {c : ixK} {X : ixX} {i : Nat} {x : Int32} (hi : i < 64) : ix_si (hp c X) 89 (nI i) x = some (hp c (aI X 89 (upd (X.1 89) i x))) := hp_si (by omega) (by omega) (sh_89 c) hi (by decide)
theorem r90 {c : ixK} {X : ixX} {i : Nat} (hi : i < 64) : ix_ai (hp c X) 90 (nI i) = some (X.1 90 i) := hp_ai (by omega) (sh_90 c) hi (by decide)
theorem s90 {c : ixK} {X : ixX} {i : Nat} {x : Int32} (hi : i < 64) : ix_si (hp c X) 90 (nI i) x = some (hp c (aI X 90 (upd (X.1 90) i x))) := hp_si (by omega) (by omega) (sh_90 c) hi (by decide)
theorem r91 {c : ixK} {X : ixX} {i : Nat} (hi : i < 64) : ix_az (hp c X) 91 (nI i) = some (X.1 91 i) := hp_az (by omega) (sh_91 c) hi (by decide)
theorem s91 {c : ixK} {X : ixX} {i : Nat} {x : Int32} (hi : i < 64) : ix_sz (hp c X) 91 (nI i) x = some (hp c (aI X 91 (upd (X.1 91) i (x &&& 1)))) := hp_sz (by omega) (by omega) (sh_91 c) hi (by decide)
theorem r92 {c : ixK} {X : ixX} {i : Nat} (hi : i < 64) : ix_ai (hp c X) 92 (nI i) = some (X.1 92 i) := hp_ai (by omega) (sh_92 c) hi (by decide)
theorem s92 {c : ixK} {X : ixX} {i : Nat} {x : Int32} (hi : i < 64) : ix_si (hp c X) 92 (nI i) x = some (hp c (aI X 92 (upd (X.1 92) i x))) := hp_si (by omega) (by omega) (sh_92 c) hi (by decide)
theorem r93 {c : ixK} {X : ixX} {i : Nat} (hi : i < 4096) : ix_az (hp c X) 93 (nI i) = some (X.1 93 i) := hp_az (by omega) (sh_93 c) hi (by decide)
theorem s93 {c : ixK} {X : ixX} {i : Nat} {x : Int32} (hi : i < 4096) : ix_sz (hp c X) 93 (nI i) x = some (hp c (aI X 93 (upd (X.1 93) i (x &&& 1)))) := hp_sz (by omega) (by omega) (sh_93 c) hi (by decide)
theorem r94 {c : ixK} {X : ixX} {i : Nat} (hi : i < 64) : ix_az (hp c X) 94 (nI i) = some (X.1 94 i) := hp_az (by omega) (sh_94 c) hi (by decide)
theorem s94 {c : ixK} {X : ixX} {i : Nat} {x : Int32} (hi : i < 64) : ix_sz (hp c X) 94 (nI i) x = some (hp c (aI X 94 (upd (X.1 94) i (x &&& 1)))) := hp_sz (by omega) (by omega) (sh_94 c) hi (by decide)
theorem r95 {c : ixK} {X : ixX} {i : Nat} (hi : i < 64) : ix_ai (hp c X) 95 (nI i) = some (X.1 95 i) := hp_ai (by omega) (sh_95 c) hi (by decide)
theorem s95 {c : ixK} {X : ixX} {i : Nat} {x : Int32} (hi : i < 64) : ix_si (hp c X) 95 (nI i) x = some (hp c (aI X 95 (upd (X.1 95) i x))) := hp_si (by omega) (by omega) (sh_95 c) hi (by decide)
theorem r96 {c : ixK} {X : ixX} {i : Nat} (hi : i < 64) : ix_ai (hp c X) 96 (nI i) = some (X.1 96 i) := hp_ai (by omega) (sh_96 c) hi (by decide)
theorem s96 {c : ixK} {X : ixX} {i : Nat} {x : Int32} (hi : i < 64) : ix_si (hp c X) 96 (nI i) x = some (hp c (aI X 96 (upd (X.1 96) i x))) := hp_si (by omega) (by omega) (sh_96 c) hi (by decide)
theorem r97 {c : ixK} {X : ixX} {i : Nat} (hi : i < 64) : ix_ai (hp c X) 97 (nI i) = some (X.1 97 i) := hp_ai (by omega) (sh_97 c) hi (by decide)
theorem s97 {c : ixK} {X : ixX} {i : Nat} {x : Int32} (hi : i < 64) : ix_si (hp c X) 97 (nI i) x = some (hp c (aI X 97 (upd (X.1 97) i x))) := hp_si (by omega) (by omega) (sh_97 c) hi (by decide)
theorem r98 {c : ixK} {X : ixX} {i : Nat} (hi : i < 64) : ix_ai (hp c X) 98 (nI i) = some (X.1 98 i) := hp_ai (by omega) (sh_98 c) hi (by decide)
theorem s98 {c : ixK} {X : ixX} {i : Nat} {x : Int32} (hi : i < 64) : ix_si (hp c X) 98 (nI i) x = some (hp c (aI X 98 (upd (X.1 98) i x))) := hp_si (by omega) (by omega) (sh_98 c) hi (by decide)
theorem r99 {c : ixK} {X : ixX} {i : Nat} (hi : i < 130) : ix_ai (hp c X) 99 (nI i) = some (X.1 99 i) := hp_ai (by omega) (sh_99 c) hi (by decide)
theorem s99 {c : ixK} {X : ixX} {i : Nat} {x : Int32} (hi : i < 130) : ix_si (hp c X) 99 (nI i) x = some (hp c (aI X 99 (upd (X.1 99) i x))) := hp_si (by omega) (by omega) (sh_99 c) hi (by decide)
theorem r100 {c : ixK} {X : ixX} {i : Nat} (hi : i < 2) : ix_ai (hp c X) 100 (nI i) = some (X.1 100 i) := hp_ai (by omega) (sh_100 c) hi (by decide)
theorem s100 {c : ixK} {X : ixX} {i : Nat} {x : Int32} (hi : i < 2) : ix_si (hp c X) 100 (nI i) x = some (hp c (aI X 100 (upd (X.1 100) i x))) := hp_si (by omega) (by omega) (sh_100 c) hi (by decide)
theorem r101 {c : ixK} {X : ixX} {i : Nat} (hi : i < 80) : ix_ai (hp c X) 101 (nI i) = some (X.1 101 i) := hp_ai (by omega) (sh_101 c) hi (by decide)
theorem s101 {c : ixK} {X : ixX} {i : Nat} {x : Int32} (hi : i < 80) : ix_si (hp c X) 101 (nI i) x = some (hp c (aI X 101 (upd (X.1 101) i x))) := hp_si (by omega) (by omega) (sh_101 c) hi (by decide)
theorem g3_0 (c : ixK) (X : ixX) : ix_gr (hp c X) 3 0 0 = some 4 := by
  obtain ⟨n, s, L, b⟩ := c
  match b with
  | 0 => exact hp_gr (a := 3) (by omega) (by omega) rfl rfl
  | 1 => exact hp_gr (a := 3) (by omega) (by omega) rfl rfl
  | b + 2 => exact hp_gr (a := 3) (by omega) (by omega) rfl rfl
theorem g3_1 (c : ixK) (X : ixX) : ix_gr (hp c X) 3 0 1 = some 21 := by
  obtain ⟨n, s, L, b⟩ := c
  match b with
  | 0 => exact hp_gr (a := 3) (by omega) (by omega) rfl rfl
  | 1 => exact hp_gr (a := 3) (by omega) (by omega) rfl rfl
  | b + 2 => exact hp_gr (a := 3) (by omega) (by omega) rfl rfl
theorem g3_2 (c : ixK) (X : ixX) : ix_gr (hp c X) 3 0 2 = some 56 := by
  obtain ⟨n, s, L, b⟩ := c
  match b with
  | 0 => exact hp_gr (a := 3) (by omega) (by omega) rfl rfl
  | 1 => exact hp_gr (a := 3) (by omega) (by omega) rfl rfl
  | b + 2 => exact hp_gr (a := 3) (by omega) (by omega) rfl rfl
theorem g3_3 (c : ixK) (X : ixX) : ix_gr (hp c X) 3 0 3 = some 57 := by
  obtain ⟨n, s, L, b⟩ := c
  match b with
  | 0 => exact hp_gr (a := 3) (by omega) (by omega) rfl rfl
  | 1 => exact hp_gr (a := 3) (by omega) (by omega) rfl rfl
  | b + 2 => exact hp_gr (a := 3) (by omega) (by omega) rfl rfl
theorem g3_4 (c : ixK) (X : ixX) : ix_gr (hp c X) 3 0 4 = some 59 := by
  obtain ⟨n, s, L, b⟩ := c
  match b with
  | 0 => exact hp_gr (a := 3) (by omega) (by omega) rfl rfl
  | 1 => exact hp_gr (a := 3) (by omega) (by omega) rfl rfl
  | b + 2 => exact hp_gr (a := 3) (by omega) (by omega) rfl rfl
theorem g3_5 (c : ixK) (X : ixX) : ix_gr (hp c X) 3 0 5 = some 63 := by
  obtain ⟨n, s, L, b⟩ := c
  match b with
  | 0 => exact hp_gr (a := 3) (by omega) (by omega) rfl rfl
  | 1 => exact hp_gr (a := 3) (by omega) (by omega) rfl rfl
  | b + 2 => exact hp_gr (a := 3) (by omega) (by omega) rfl rfl
theorem g3_6 (c : ixK) (X : ixX) : ix_gr (hp c X) 3 0 6 = some 65 := by
  obtain ⟨n, s, L, b⟩ := c
  match b with
  | 0 => exact hp_gr (a := 3) (by omega) (by omega) rfl rfl
  | 1 => exact hp_gr (a := 3) (by omega) (by omega) rfl rfl
  | b + 2 => exact hp_gr (a := 3) (by omega) (by omega) rfl rfl
theorem g3_7 (c : ixK) (X : ixX) : ix_gr (hp c X) 3 0 7 = some 67 := by
  obtain ⟨n, s, L, b⟩ := c
  match b with
  | 0 => exact hp_gr (a := 3) (by omega) (by omega) rfl rfl
  | 1 => exact hp_gr (a := 3) (by omega) (by omega) rfl rfl
  | b + 2 => exact hp_gr (a := 3) (by omega) (by omega) rfl rfl
theorem g3_8 (c : ixK) (X : ixX) : ix_gr (hp c X) 3 0 8 = some 73 := by
  obtain ⟨n, s, L, b⟩ := c
  match b with
  | 0 => exact hp_gr (a := 3) (by omega) (by omega) rfl rfl
  | 1 => exact hp_gr (a := 3) (by omega) (by omega) rfl rfl
  | b + 2 => exact hp_gr (a := 3) (by omega) (by omega) rfl rfl
theorem rc_3 (c : ixK) (X : ixX) : ix_rc (hp c X) 3 = some 0 := by
  obtain ⟨n, s, L, b⟩ := c
  match b with
  | 0 => exact hp_rc (a := 3) (by omega) (by omega) rfl
  | 1 => exact hp_rc (a := 3) (by omega) (by omega) rfl
  | b + 2 => exact hp_rc (a := 3) (by omega) (by omega) rfl
theorem q8_ {c : ixK} {X : ixX} {i : Nat} (hi : i < 5) : ix_aq (hp c X) 4 8 (nI i) = some (9 + 2 * i) := hp_aq (by omega) (by omega) (.inl rfl) (sh_8 c) hi (by decide) (by match i, hi with | 0, _ => rfl | 1, _ => rfl | 2, _ => rfl | 3, _ => rfl | 4, _ => rfl)
theorem q26 {c : ixK} {X : ixX} {i : Nat} (hi : i < 5) : ix_aq (hp c X) 4 26 (nI i) = some (27 + 2 * i) := hp_aq (by omega) (by omega) (.inl rfl) (sh_26 c) hi (by decide) (by match i, hi with | 0, _ => rfl | 1, _ => rfl | 2, _ => rfl | 3, _ => rfl | 4, _ => rfl)
theorem q43 {c : ixK} {X : ixX} {i : Nat} (hi : i < 5) : ix_aq (hp c X) 4 43 (nI i) = some (44 + 2 * i) := hp_aq (by omega) (by omega) (.inl rfl) (sh_43 c) hi (by decide) (by match i, hi with | 0, _ => rfl | 1, _ => rfl | 2, _ => rfl | 3, _ => rfl | 4, _ => rfl)
theorem q21 {c : ixK} {X : ixX} {i : Nat} (hi : i < 2) : ix_aq (hp c X) 5 21 (nI i) = some (22 + 17 * i) := hp_aq (by omega) (by omega) (.inr rfl) (sh_21 c) hi (by decide) (by match i, hi with | 0, _ => rfl | 1, _ => rfl)
