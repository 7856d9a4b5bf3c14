/-! TUPLES: the bundle is made by the first call; the call -/
theorem pf_of {h : ixH} {a ci k : Nat} {v : Value} {fs : List Value} (h3 : 3 ≤ a) (hn : a < h.1) (he : h.2.2 a = .inr (ci, fs)) (hk : k < fs.length) : ix_pf h a ci k v = some (ix_up h a (.inr (ci, fs.set k v))) := by
  have o : ix_ob h a ci = some fs := by
    unfold ix_ob
    rw [if_pos ⟨h3, hn⟩, he]
    exact if_pos rfl
  unfold ix_pf
  rw [o, Option.bind_some, if_pos hk]
theorem M_tainit {h : ixH} {a0 : Nat} (h3 : 3 ≤ a0) (hn : a0 < h.1) (he : h.2.2 a0 = .inr (10, [.null, .null, .int 0])) : ix_M mTa_init [.ref a0] h = some ([], (h.1 + 2, h.2.1 + 8192, fun x => if x = a0 then .inr (10, [.ref h.1, .ref (h.1 + 1), .int 0]) else if x = h.1 + 1 then .inl (0, 4096, .inl fun _ => 0) else if x = h.1 then .inl (1, 4096, .inr (.inl fun _ => 0)) else h.2.2 x)) := by
  refine x_Ta_init ?_
  obtain ⟨n, s, g⟩ := h
  have hn : a0 < n := hn
  have he : g a0 = .inr (10, [.null, .null, .int 0]) := he
  have p1 : ix_pf (ix_nw (n, s, g) (.inl (1, 4096, .inr (.inl fun _ => 0))) 4096) a0 10 0 (.ref n) = some (ix_up (ix_nw (n, s, g) (.inl (1, 4096, .inr (.inl fun _ => 0))) 4096) a0 (.inr (10, [.ref n, .null, .int 0]))) := pf_of (fs := [.null, .null, .int 0]) h3 (by show a0 < n + 1; omega) (by show (if a0 = n then _ else g a0) = _; rw [if_neg (by omega), he]) (by show 0 < 3; omega)
  rw [e_Ta_init, bO p1]
  have p2 : ix_pf (ix_nw (ix_up (ix_nw (n, s, g) (.inl (1, 4096, .inr (.inl fun _ => 0))) 4096) a0 (.inr (10, [.ref n, .null, .int 0]))) (.inl (0, 4096, .inl fun _ => 0)) 4096) a0 10 1 (.ref (n + 1)) = some (ix_up (ix_nw (ix_up (ix_nw (n, s, g) (.inl (1, 4096, .inr (.inl fun _ => 0))) 4096) a0 (.inr (10, [.ref n, .null, .int 0]))) (.inl (0, 4096, .inl fun _ => 0)) 4096) a0 (.inr (10, [.ref n, .ref (n + 1), .int 0]))) := pf_of (fs := [.ref n, .null, .int 0]) h3 (by show a0 < n + 1 + 1; omega) (by show (if a0 = n + 1 then _ else if a0 = a0 then _ else _) = _; rw [if_neg (by omega), if_pos rfl]) (by show 1 < 3; omega)
  have p2' : ∀ k : ixH → Option (List Value × ixH), (ix_pf (ix_nw (ix_up (ix_nw (n, s, g) (.inl (1, 4096, .inr (.inl fun _ => 0))) 4096) a0 (.inr (10, [.ref n, .null, .int 0]))) (.inl (0, 4096, .inl fun _ => 0)) 4096) a0 10 1 (.ref (ix_up (ix_nw (n, s, g) (.inl (1, 4096, .inr (.inl fun _ => 0))) 4096) a0 (.inr (10, [.ref n, .null, .int 0]))).1)).bind k = k (ix_up (ix_nw (ix_up (ix_nw (n, s, g) (.inl (1, 4096, .inr (.inl fun _ => 0))) 4096) a0 (.inr (10, [.ref n, .null, .int 0]))) (.inl (0, 4096, .inl fun _ => 0)) 4096) a0 (.inr (10, [.ref n, .ref (n + 1), .int 0]))) := fun k => bO p2
  rw [p2']
  rw [bO (pf_of (fs := [.ref n, .ref (n + 1), .int 0]) h3 (by show a0 < n + 1 + 1; omega) (by show (if a0 = a0 then _ else _) = _; rw [if_pos rfl]) (by show 2 < 3; omega))]
  show some ([], _) = some ([], _)
  congr 2
  show (n + 1 + 1, s + 4096 + 4096, _) = (n + 2, s + 8192, _)
  congr 2
  funext x
  show (if x = a0 then _ else if x = a0 then _ else if x = n + 1 then _ else if x = a0 then _ else if x = n then _ else g x) = (if x = a0 then _ else if x = n + 1 then _ else if x = n then _ else g x)
  by_cases e : x = a0
  · rw [if_pos e, if_pos e]; rfl
  · rw [if_neg e, if_neg e, if_neg e, if_neg e]
/-- nothing but zeros where the bundle comes to lie -/
def zX (X : ixX) : ixX := (fun x => if 102 ≤ x ∧ x < 112 then fun _ => 0 else X.1 x, fun x => if 102 ≤ x ∧ x < 112 then fun _ => 0 else X.2 x)
theorem zX_fr (X : ixX) : fRm 102 112 X (zX X) := fun a ha => ⟨if_neg (by omega), if_neg (by omega)⟩
set_option maxRecDepth 8000 in
theorem sp_T10 : sp_T1 = sp_T0.set 0 (10, 0, [(2, 4), (2, 21), (2, 56), (2, 57), (2, 59), (2, 63), (2, 65), (2, 67), (2, 73), (2, 102)]) ++ [(19, 0, [(2, 103), (2, 104), (2, 105), (2, 106), (2, 109)]), (1, 4, []), (0, 4, []), (0, 4, []), (20, 0, [(2, 107), (2, 108), (0, 0)]), (1, 4096, []), (0, 4096, []), (20, 0, [(2, 110), (2, 111), (0, 0)]), (1, 4096, []), (0, 4096, [])] := rfl
set_option maxRecDepth 8000 in
theorem sp_T0l : sp_T0.length = 99 := rfl
set_option maxRecDepth 8000 in
theorem sp_T1l : sp_T1.length = 109 := rfl
theorem sp_01 {y : Nat} (h0 : ¬ y = 0) (h : y < 99 ∨ 109 ≤ y) : sp_T0.getD y (3, 8, []) = sp_T1.getD y (3, 8, []) := by
  rw [List.getD_eq_getElem?_getD, List.getD_eq_getElem?_getD]
  rcases h with h | h
  · rw [sp_T10, List.getElem?_append_left (by rw [List.length_set, sp_T0l]; exact h), List.getElem?_set_ne (fun e => h0 e.symm)]
  · rw [List.getElem?_eq_none (by rw [sp_T0l]; omega), List.getElem?_eq_none (by rw [sp_T1l]; exact h)]
set_option maxRecDepth 8000 in
set_option maxHeartbeats 1000000 in
theorem M_bnew (s L : Nat) (X : ixX) : ∃ h5, ix_M mBn_init [.ref 102] (ix_nw (hp (0, s, L, 0) X) (.inr (9, ix_df 9)) (ix_N 9)) = some ([], h5) ∧ ix_pf h5 3 0 9 (.ref 102) = some (hp (10, s + 16407, L, 1) (zX X)) := by
  obtain ⟨g, hg⟩ : ∃ g : Nat → ixC, g = fun a => sp_en (sp_sh (0, s, L, 0) a) (X.1 a) (X.2 a) := ⟨_, rfl⟩
  have e0 : hp (0, s, L, 0) X = (102, s, g) := by rw [hg]; rfl
  rw [e0]
  -- the bundle with its three rows
  have p1 : ix_pf (ix_nw (ix_nw (102, s, g) (.inr (9, ix_df 9)) (ix_N 9)) (.inl (1, 4, .inr (.inl fun _ => 0))) 4) 102 9 0 (.ref 103) = some (ix_up (ix_nw (ix_nw (102, s, g) (.inr (9, ix_df 9)) (ix_N 9)) (.inl (1, 4, .inr (.inl fun _ => 0))) 4) 102 (.inr (9, [.ref 103, .null, .null, .null, .null]))) := pf_of (fs := [.null, .null, .null, .null, .null]) (by omega) (by show 102 < 104; omega) rfl (by show 0 < 5; omega)
  obtain ⟨h1, hh1⟩ : ∃ h1 : ixH, h1 = ix_up (ix_nw (ix_nw (102, s, g) (.inr (9, ix_df 9)) (ix_N 9)) (.inl (1, 4, .inr (.inl fun _ => 0))) 4) 102 (.inr (9, [.ref 103, .null, .null, .null, .null])) := ⟨_, rfl⟩
  have p2 : ix_pf (ix_nw h1 (.inl (0, 4, .inl fun _ => 0)) 4) 102 9 1 (.ref h1.1) = some (ix_up (ix_nw h1 (.inl (0, 4, .inl fun _ => 0)) 4) 102 (.inr (9, [.ref 103, .ref 104, .null, .null, .null]))) := by
    rw [hh1]
    exact pf_of (fs := [.ref 103, .null, .null, .null, .null]) (by omega) (by show 102 < 105; omega) rfl (by show 1 < 5; omega)
  obtain ⟨h2, hh2⟩ : ∃ h2 : ixH, h2 = ix_up (ix_nw h1 (.inl (0, 4, .inl fun _ => 0)) 4) 102 (.inr (9, [.ref 103, .ref 104, .null, .null, .null])) := ⟨_, rfl⟩
  have p3 : ix_pf (ix_nw h2 (.inl (0, 4, .inl fun _ => 0)) 4) 102 9 2 (.ref h2.1) = some (ix_up (ix_nw h2 (.inl (0, 4, .inl fun _ => 0)) 4) 102 (.inr (9, [.ref 103, .ref 104, .ref 105, .null, .null]))) := by
    rw [hh2, hh1]
    exact pf_of (fs := [.ref 103, .ref 104, .null, .null, .null]) (by omega) (by show 102 < 106; omega) rfl (by show 2 < 5; omega)
  obtain ⟨h3, hh3⟩ : ∃ h3 : ixH, h3 = ix_up (ix_nw h2 (.inl (0, 4, .inl fun _ => 0)) 4) 102 (.inr (9, [.ref 103, .ref 104, .ref 105, .null, .null])) := ⟨_, rfl⟩
  have g3 : h3 = (106, s + 5 + 4 + 4 + 4, fun x => if x = 102 then .inr (9, [.ref 103, .ref 104, .ref 105, .null, .null]) else if x = 105 then .inl (0, 4, .inl fun _ => 0) else if x = 104 then .inl (0, 4, .inl fun _ => 0) else if x = 103 then .inl (1, 4, .inr (.inl fun _ => 0)) else g x) := by
    rw [hh3, hh2, hh1]
    show (106, s + 5 + 4 + 4 + 4, _) = (106, s + 5 + 4 + 4 + 4, _)
    congr 2
    funext x
    show (if x = 102 then _ else if x = 105 then _ else if x = 102 then _ else if x = 104 then _ else if x = 102 then _ else if x = 103 then _ else if x = 102 then _ else g x) = (if x = 102 then _ else if x = 105 then _ else if x = 104 then _ else if x = 103 then _ else g x)
    by_cases e : x = 102
    · rw [if_pos e, if_pos e]
    · rw [if_neg e, if_neg e, if_neg e, if_neg e, if_neg e]
  have p4 := M_tainit (h := ix_nw h3 (.inr (10, ix_df 10)) (ix_N 10)) (a0 := 106) (by omega) (by rw [g3]; show 106 < 107; omega) (by rw [g3]; rfl)
  obtain ⟨h4, hh4⟩ : ∃ h4 : ixH, h4 = (109, s + 5 + 4 + 4 + 4 + 3 + 8192, fun x => if x = 106 then .inr (10, [.ref 107, .ref 108, .int 0]) else if x = 108 then .inl (0, 4096, .inl fun _ => 0) else if x = 107 then .inl (1, 4096, .inr (.inl fun _ => 0)) else if x = 106 then .inr (10, ix_df 10) else if x = 102 then .inr (9, [.ref 103, .ref 104, .ref 105, .null, .null]) else if x = 105 then .inl (0, 4, .inl fun _ => 0) else if x = 104 then .inl (0, 4, .inl fun _ => 0) else if x = 103 then .inl (1, 4, .inr (.inl fun _ => 0)) else g x) := ⟨_, rfl⟩
  have p4' : ix_M mTa_init [.ref h3.1] (ix_nw h3 (.inr (10, ix_df 10)) (ix_N 10)) = some ([], h4) := by
    rw [hh4]
    rw [g3] at p4 ⊢
    exact p4
  have p5 : ix_pf h4 102 9 3 (.ref h3.1) = some (ix_up h4 102 (.inr (9, [.ref 103, .ref 104, .ref 105, .ref 106, .null]))) := by
    rw [hh4, g3]
    exact pf_of (fs := [.ref 103, .ref 104, .ref 105, .null, .null]) (by omega) (by show 102 < 109; omega) rfl (by show 3 < 5; omega)
  obtain ⟨h5, hh5⟩ : ∃ h5 : ixH, h5 = ix_up h4 102 (.inr (9, [.ref 103, .ref 104, .ref 105, .ref 106, .null])) := ⟨_, rfl⟩
  have p6 := M_tainit (h := ix_nw h5 (.inr (10, ix_df 10)) (ix_N 10)) (a0 := 109) (by omega) (by rw [hh5, hh4]; show 109 < 110; omega) (by rw [hh5, hh4]; rfl)
  obtain ⟨h6, hh6⟩ : ∃ h6 : ixH, h6 = (112, s + 5 + 4 + 4 + 4 + 3 + 8192 + 3 + 8192, fun x => if x = 109 then .inr (10, [.ref 110, .ref 111, .int 0]) else if x = 111 then .inl (0, 4096, .inl fun _ => 0) else if x = 110 then .inl (1, 4096, .inr (.inl fun _ => 0)) else if x = 109 then .inr (10, ix_df 10) else h5.2.2 x) := ⟨_, rfl⟩
  have p6' : ix_M mTa_init [.ref h5.1] (ix_nw h5 (.inr (10, ix_df 10)) (ix_N 10)) = some ([], h6) := by
    rw [hh6]
    rw [hh5, hh4] at p6 ⊢
    exact p6
  have p7 : ix_pf h6 102 9 4 (.ref h5.1) = some (ix_up h6 102 (.inr (9, [.ref 103, .ref 104, .ref 105, .ref 106, .ref 109]))) := by
    rw [hh6, hh5, hh4]
    exact pf_of (fs := [.ref 103, .ref 104, .ref 105, .ref 106, .null]) (by omega) (by show 102 < 112; omega) rfl (by show 4 < 5; omega)
  refine ⟨ix_up h6 102 (.inr (9, [.ref 103, .ref 104, .ref 105, .ref 106, .ref 109])), x_Bn_init ?_, ?_⟩
  · have p1' : ∀ k : ixH → Option (List Value × ixH), (ix_pf (ix_nw (ix_nw (102, s, g) (.inr (9, ix_df 9)) (ix_N 9)) (.inl (1, 4, .inr (.inl fun _ => 0))) 4) 102 9 0 (.ref (ix_nw (102, s, g) (.inr (9, ix_df 9)) (ix_N 9)).1)).bind k = k h1 := fun k => by rw [hh1]; exact bO p1
    rw [e_Bn_init, p1', bO p2, ← hh2, bO p3, ← hh3, kV_of p4', bO p5, ← hh5, kV_of p6', bO p7]
  · have g3v : g 3 = .inr (0, [.ref 4, .ref 21, .ref 56, .ref 57, .ref 59, .ref 63, .ref 65, .ref 67, .ref 73, .null]) := by rw [hg]; rfl
    have at3 : (ix_up h6 102 (.inr (9, [.ref 103, .ref 104, .ref 105, .ref 106, .ref 109]))).2.2 3 = .inr (0, [.ref 4, .ref 21, .ref 56, .ref 57, .ref 59, .ref 63, .ref 65, .ref 67, .ref 73, .null]) := by
      rw [hh6, hh5, hh4]
      exact g3v
    rw [pf_of (by omega) (by rw [hh6]; show 3 < 112; omega) at3 (by show 9 < 10; omega)]
    congr 1
    rw [hh6, hh5, hh4]
    show (112, s + 5 + 4 + 4 + 4 + 3 + 8192 + 3 + 8192, _) = (112, s + 16407, _)
    congr 2
    funext x
    by_cases e3 : x = 3
    · rw [e3]; rfl
    by_cases i102 : x = 102
    · rw [i102]; rfl
    by_cases i103 : x = 103
    · rw [i103]; rfl
    by_cases i104 : x = 104
    · rw [i104]; rfl
    by_cases i105 : x = 105
    · rw [i105]; rfl
    by_cases i106 : x = 106
    · rw [i106]; rfl
    by_cases i107 : x = 107
    · rw [i107]; rfl
    by_cases i108 : x = 108
    · rw [i108]; rfl
    by_cases i109 : x = 109
    · rw [i109]; rfl
    by_cases i110 : x = 110
    · rw [i110]; rfl
    by_cases i111 : x = 111
    · rw [i111]; rfl
    show (if x = 3 then _ else if x = 102 then _ else if x = 109 then _ else if x = 111 then _ else if x = 110 then _ else if x = 109 then _ else if x = 102 then _ else if x = 106 then _ else if x = 108 then _ else if x = 107 then _ else if x = 106 then _ else if x = 102 then _ else if x = 105 then _ else if x = 104 then _ else if x = 103 then _ else g x) = sp_en (sp_sh (10, s + 16407, L, 1) x) ((zX X).1 x) ((zX X).2 x)
    rw [if_neg e3, if_neg i102, if_neg i109, if_neg i111, if_neg i110, if_neg i109, if_neg i102, if_neg i106, if_neg i108, if_neg i107, if_neg i106, if_neg i102, if_neg i105, if_neg i104, if_neg i103, hg]
    have z := zX_fr X x (by omega)
    rw [z.1, z.2]
    have hsh : sp_sh (0, s, L, 0) x = sp_sh (10, s + 16407, L, 1) x := by
      match x, e3 with
      | 0, _ => rfl
      | 1, _ => rfl
      | 2, _ => rfl
      | y + 3, _ =>
        show sp_T0.getD y (3, 8, []) = sp_T1.getD y (3, 8, [])
        exact sp_01 (by omega) (by omega)
    show sp_en (sp_sh (0, s, L, 0) x) (X.1 x) (X.2 x) = _
    rw [hsh]
