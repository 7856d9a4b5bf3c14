/-- the heap with which the law begins -/
def ix_h0 (L : Nat) (xs : Nat → Int32) : ixH := (3, 0, fun k => match k with
  | 0 => .inl (0, L, .inl xs)
  | 1 => .inr (12, [])
  | _ => .inl (3, 8, .inl fun j => ix_byL.getD j 0))
theorem ix_tin {w : Jvm.Cond} {pos : Nat} (h : tables_1[pos]? = some w) : w ∈ lw_tbl := List.mem_append_right _ (List.mem_of_getElem? h)
set_option maxHeartbeats 4000000 in
set_option maxRecDepth 100000 in
/-- THE LAW OUT OF ITS RUN -/
theorem ix_start {p : Program} {e : Env} {s : State} {m : MethodId} {below : List Frame} {meth : Method} {c : Code} (l : Launch) {b L : Nat} {xs : Nat → Int32} (hL : L ≤ 2048) (C0 : lw_At p s m meth c b L xs) {n : Nat} {h' : ixH}
    (hrun : ix_run n mLaw_law 0 [some (.ref 0), none, none, none] [] (ix_h0 L xs) = some ([.int 1], h')) (hb1 : h'.1 ≤ 600003) (hb2 : h'.2.1 ≤ 7302250) :
    W p l e room_1 s m #[Value.ref b] below meth c s.heap [] 0 0 (lw_Z below #[Value.ref b] s) (entryFrame m ([Value.ref b] : List Value).toArray 4) := by
  obtain ⟨hx, hb, hr, hml, hown, hts, hX, hbl, hlocks, hgv⟩ := C0
  have hts' : ∀ w ∈ ix_tb, w.before #[Value.ref b] s = true := fun w hw => hts w (List.mem_filter.mp hw).1
  have hfl := flat_of_before _ hgv
  have hA : ∀ a : Nat, a < s.heap.size → ¬ (fun q : Nat => s.heap.size ≤ q) a := fun a h1 h2 => absurd h1 (Nat.not_lt.mpr h2)
  have hkn0 : ∀ k : Nat, ∃ q : ClassId × (Nat → Nat), k < 12 → u_Kn s (ix_on k) (ix_T k) (ix_N k) q.1 q.2 := by
    intro k
    by_cases hk : k < 12
    · obtain ⟨cC, iS, h1⟩ := u_known (T := ix_T k) (N := ix_N k) hts' (ix_cl_in hk) (hts' _ (ix_cl_w hk).1)
      exact ⟨(cC, iS), fun _ => h1⟩
    · exact ⟨(0, fun _ => 0), fun h => absurd h hk⟩
  have hkn : ix_kn s (fun k => (Classical.choose (hkn0 k)).1) (fun k => (Classical.choose (hkn0 k)).2) :=
    ⟨fun k hk => Classical.choose_spec (hkn0 k) hk, va_AO.of (hts _ (ix_tin (pos := ix_pAR) (by decide +kernel))), va_AO.of (hts _ (ix_tin (pos := ix_pAB) (by decide +kernel)))⟩
  generalize (fun k => (Classical.choose (hkn0 k)).1) = dC at hkn
  generalize (fun k => (Classical.choose (hkn0 k)).2) = dI at hkn
  have hone : ∀ i : Nat, i < 1 → i = 0 := fun i h => by omega
  obtain ⟨adK, adV, hS, hev⟩ := vk_Sof (N := 1) (tm := fun _ => Term.string "RouteProofs$Pad" 21) (len := [8]) (byt := [ix_byL]) (A := fun q : Nat => s.heap.size ≤ q) (args := #[Value.ref b]) (s := s)
    (fun i hi => by rw [hone i hi]; decide) (fun i hi => hfl _ (by decide +kernel)) (fun i hi => hfl _ (by decide +kernel)) (fun i hi => hfl _ (by decide +kernel))
    (fun i hi => by rw [hone i hi]; exact hfl _ (by decide +kernel))
    (fun i hi j hj => by
      rw [hone i hi] at hj ⊢
      have hj : j < 8 := hj
      rcases (by omega : j = 0 ∨ j = 1 ∨ j = 2 ∨ j = 3 ∨ j = 4 ∨ j = 5 ∨ j = 6 ∨ j = 7) with rfl | rfl | rfl | rfl | rfl | rfl | rfl | rfl <;> exact hfl _ (by decide +kernel))
    (fun i j hi hj hne => absurd ((hone i hi).trans (hone j hj).symm) hne) hA
  have hZ : va_Z "java/lang/String" "COMPACT_STRINGS" "Z" (.int 1) (fun q : Nat => s.heap.size ≤ q) s s.heap :=
    va_Zof (hts _ (ix_tin (pos := ix_pLS) (by decide +kernel))) (hts' _ (ix_iniW (c := 12) (by decide))) (va_eqi (hfl _ (by decide +kernel))) hA
  have hR : vk_R "RouteProofs$Pad" 21 ".#sStTmM" (adK 0) s := vk_R.of (A := #[Value.ref b]) (hts _ (ix_tin (pos := ix_pSR) (by decide +kernel))) (hev 0 (by decide))
  have hnw : ∀ w ∈ ix_nest, va_Nw w s := fun w hw => by
    have hm := (List.mem_filter.mp hw).1
    obtain ⟨a0, i0, x0, hs0, rfl⟩ := ix_nest_form hw
    exact va_Nw.of rfl (hts _ (List.mem_append_right _ hm))
  have hH : ix_hp s dC dI (b, adK 0, adV 0, s.heap.size) (ix_h0 L xs) s.heap := by
    refine ⟨Nat.le_refl _, rfl, hbl, ⟨L, xs, rfl, by omega, hX⟩, rfl, rfl, ⟨fun i hi => ?_, fun i j hi hj _ => (hone i hi).trans (hone j hj).symm⟩, hZ, fun k h1 h2 => ?_⟩
    · have h9 := hS.1 0 (by decide)
      rw [hone i hi]
      exact h9
    · have h2 : k < 3 := h2
      omega
  have hl := lv_entry ([.ref b]) (n := 4) (Nat.le_of_ble_eq_true rfl)
  rw [lg_entry_eq]
  have hgo := ix_snd n hrun (p := p) (l := l) (e := e) (R := room_1) (s := s) (m := m) (args := #[Value.ref b]) (below := below) (meth := meth) (c := c) (Q := lw_Z below #[Value.ref b] s) (dC := dC) (dI := dI) (E := (b, adK 0, adV 0, s.heap.size)) (q := ix_m256) kq_Law_law ⟨hx, hb, hr, hml, hown, hts', hlocks, (fun z9 => by cases (show false = true from z9)), hkn, hR, hnw, Nat.le_of_ble_eq_true rfl, Nat.le_of_ble_eq_true rfl⟩
    (H := s.heap) (locs := []) (cells := 0) (slots := 0) (ls := (lg_sl ([.ref b]) ++ List.replicate (4 - (lg_sl ([.ref b])).length) Slot.unset).toArray) hH ⟨rfl, _, hl, fun j w hj => ?_⟩ (fun x hx => by cases hx) ?_ ?_ (fun pcR i lsR H2 locs2 q1 q2 q3 q4 => ?_)
  · exact hgo
  · match j, hj with
    | 0, hj => cases hj; exact List.mem_cons_self
    | 1, hj => cases hj
    | 2, hj => cases hj
    | 3, hj => cases hj
    | j + 4, hj => cases hj
  · show 0 + (h'.1 - 3) ≤ 600000
    omega
  · show 0 + (h'.2.1 - 0) ≤ 7302250
    omega
  · have hi : i = .ireturn := by
      unfold ix_rt at q2
      split at q2
      · rfl
      · split at q2
        · rename_i h9 _
          cases h9
        · cases q2
      · split at q2
        · cases q2
        · cases q2
      · cases q2
    subst hi
    refine va_forget q4 ?_
    refine W.widen (k := 600000) (n := 7302250) (by show 0 + (h'.1 - 3) ≤ 600000; omega) (by show 0 + (h'.2.1 - 0) ≤ 7302250; omega) ?_
    exact lw_ret hx hb hr hlocks q1
