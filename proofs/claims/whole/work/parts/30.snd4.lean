theorem ix_okf_l2 {ow k : Nat} {ini : Bool} {aux : List Nat} {z : Int} (h : ix_okf ow ini (.ldc2_w k) aux z = true) : Jvm.Cond.constantLong (ix_on ow) k (Int64.ofInt z) ∈ ix_tb := by
  simp only [ix_okf] at h
  split at h
  · split at h
    · rename_i q hq
      simp only [Bool.and_eq_true, decide_eq_true_eq] at h
      have hf := ix_LT_ok q (List.mem_of_getElem? hq)
      obtain ⟨q1, q2, q3, q4⟩ := q
      obtain ⟨⟨e1, e2⟩, e3⟩ := h
      dsimp only at e1 e2 e3
      subst e1 e2 e3
      exact ix_w_in hf
    · cases h
  · cases h
theorem ix_okf_l1 {ow k : Nat} {ini : Bool} {aux : List Nat} {z : Int} (h : ix_okf ow ini (.ldc_w k) aux z = true) : Jvm.Cond.constant (ix_on ow) k (Int32.ofInt z) ∈ ix_tb := by
  simp only [ix_okf] at h
  split at h
  · split at h
    · rename_i q hq
      simp only [Bool.and_eq_true, decide_eq_true_eq] at h
      have hf := ix_IT_ok q (List.mem_of_getElem? hq)
      obtain ⟨q1, q2, q3, q4⟩ := q
      obtain ⟨⟨e1, e2⟩, e3⟩ := h
      dsimp only at e1 e2 e3
      subst e1 e2 e3
      exact ix_w_in hf
    · cases h
  · cases h
/-- what the table of calls says -/
theorem ix_CT_spec {w ow idx kd mj : Nat} {ps : List Nat} (hw : ix_CT[w]? = some (ow, idx, kd, mj, ps)) :
    (kd = 6 → Jvm.Cond.methodLink (ix_on ow) idx objectInit ∈ ix_tb) ∧ (kd = 7 → Jvm.Cond.methodLink (ix_on ow) idx arraycopyName ∈ ix_tb) ∧ (kd = 8 → Jvm.Cond.methodLink (ix_on ow) idx Lib.Math.max.name ∈ ix_tb) ∧ (kd = 9 → Jvm.Cond.methodLink (ix_on ow) idx Lib.Math.min.name ∈ ix_tb) ∧
    (kd < 6 → ∃ r, ix_mt[mj]? = some r ∧ ix_mok r = true ∧
      (kd = 0 → Jvm.Cond.methodLink (ix_on ow) idx r.1 ∈ ix_tb ∧ Jvm.Cond.instanceMethod r.1 ∈ ix_tb ∧ Jvm.Cond.selects r.1.cls r.1 r.1 ∈ ix_tb ∧ r.2.2.2.2.2.2.2.1 = 1) ∧
      (kd = 1 → Jvm.Cond.methodLink (ix_on ow) idx r.1 ∈ ix_tb ∧ Jvm.Cond.static r.1 ∈ ix_tb ∧ r.2.2.2.2.2.2.2.1 = 0) ∧
      (kd = 2 → Jvm.Cond.methodLink (ix_on ow) idx r.1 ∈ ix_tb ∧ Jvm.Cond.instanceMethod r.1 ∈ ix_tb ∧ r.2.2.2.2.2.2.2.1 = 2 ∧ r.1.name = "<init>" ∧ r.2.2.2.1 = none) ∧
      (kd = 3 → Jvm.Cond.methodLinkNest (ix_on ow) idx r.1 "RouteProofs" ∈ ix_nest ∧ Jvm.Cond.static r.1 ∈ ix_tb ∧ r.2.2.2.2.2.2.2.1 = 0) ∧
      (kd = 4 → Jvm.Cond.methodLinkNest (ix_on ow) idx r.1 "RouteProofs" ∈ ix_nest ∧ Jvm.Cond.instanceMethod r.1 ∈ ix_tb ∧ r.2.2.2.2.2.2.2.1 = 2 ∧ r.1.name = "<init>" ∧ r.2.2.2.1 = none)) := by
  have h := ix_CT_ok _ (List.mem_of_getElem? hw)
  have nst : ∀ {p1 : Nat} {w : Jvm.Cond}, tables_1[p1]? = some w → ix_isN w = true → w ∈ ix_nest := fun a b => List.mem_filter.mpr ⟨List.mem_of_getElem? a, b⟩
  simp only [ix_cok] at h
  split at h
  · simp only [Bool.or_eq_true, Bool.and_eq_true, decide_eq_true_eq] at h
    rcases h with ((⟨h1, h2⟩ | ⟨h1, h2⟩) | ⟨h1, h2⟩) | ⟨h1, h2⟩
    · exact ⟨fun _ => ix_w_in h2, fun z => by omega, fun z => by omega, fun z => by omega, fun z => by omega⟩
    · exact ⟨fun z => by omega, fun _ => ix_w_in h2, fun z => by omega, fun z => by omega, fun z => by omega⟩
    · exact ⟨fun z => by omega, fun z => by omega, fun _ => ix_w_in h2, fun z => by omega, fun z => by omega⟩
    · exact ⟨fun z => by omega, fun z => by omega, fun z => by omega, fun _ => ix_w_in h2, fun z => by omega⟩
  · rw [Bool.and_eq_true] at h
    obtain ⟨hmj, h⟩ := h
    split at h
    · cases h
    · rename_i r hr
      have hm := ix_meth_ok (of_decide_eq_true hmj) hr
      split at h
      · simp only [Bool.and_eq_true, decide_eq_true_eq] at h
        refine ⟨fun z => by omega, fun z => by omega, fun z => by omega, fun z => by omega, fun _ => ⟨r, hr, hm, fun _ => ⟨ix_w_in h.1.1.1, ix_w_in h.1.1.2, ix_wl_in h.1.2, h.2⟩, fun z => by omega, fun z => by omega, fun z => by omega, fun z => by omega⟩⟩
      · simp only [Bool.and_eq_true, decide_eq_true_eq] at h
        refine ⟨fun z => by omega, fun z => by omega, fun z => by omega, fun z => by omega, fun _ => ⟨r, hr, hm, fun z => by omega, fun _ => ⟨ix_w_in h.1.1, ix_w_in h.1.2, h.2⟩, fun z => by omega, fun z => by omega, fun z => by omega⟩⟩
      · simp only [Bool.and_eq_true, decide_eq_true_eq, ix_ini] at h
        refine ⟨fun z => by omega, fun z => by omega, fun z => by omega, fun z => by omega, fun _ => ⟨r, hr, hm, fun z => by omega, fun z => by omega, fun _ => ⟨ix_w_in h.1.1.1.1, ix_w_in h.1.1.1.2, h.1.1.2, h.1.2, h.2⟩, fun z => by omega, fun z => by omega⟩⟩
      · simp only [Bool.and_eq_true, decide_eq_true_eq] at h
        refine ⟨fun z => by omega, fun z => by omega, fun z => by omega, fun z => by omega, fun _ => ⟨r, hr, hm, fun z => by omega, fun z => by omega, fun z => by omega, fun _ => ⟨nst h.1.1 rfl, ix_w_in h.1.2, h.2⟩, fun z => by omega⟩⟩
      · simp only [Bool.and_eq_true, decide_eq_true_eq, ix_ini] at h
        refine ⟨fun z => by omega, fun z => by omega, fun z => by omega, fun z => by omega, fun _ => ⟨r, hr, hm, fun z => by omega, fun z => by omega, fun z => by omega, fun z => by omega, fun _ => ⟨nst h.1.1.1.1 rfl, ix_w_in h.1.1.1.2, h.1.1.2, h.1.2, h.2⟩⟩⟩
      · cases h
  · cases h
/-- a receiver's cell -/
theorem ix_recv {U : State} {dC : Nat → ClassId} {dI : Nat → Nat → Nat} {E : Nat × Nat × Nat × Nat} {h : ixH} {H : Heap} (g : ix_hp U dC dI E h H) (hK : ix_kn U dC dI) {a ci : Nat} (hr : ix_rc h a = some ci) : ∃ cellB : Cell, H[ix_ad E a]? = some cellB ∧ cellB.vm.isStatics = false ∧ U.vm.findClass (ix_on ci) = some cellB.cls := by
  by_cases h1 : a = 1
  · subst h1
    have : ci = 12 := by simpa [ix_rc, eq_comm] using hr
    subst this
    obtain ⟨⟨cell, e1, e2, e3, -⟩, -⟩ := g.2.2.2.2.2.2.1.1 0 (by decide)
    exact ⟨cell, e1, e2, e3⟩
  · have h3 : 3 ≤ a := by
      unfold ix_rc at hr
      rw [if_neg h1] at hr
      split at hr
      · rename_i hc; exact hc.1
      · cases hr
    obtain ⟨v1, fs, v2⟩ := ix_rc_s hr h3
    have hev := g.2.2.2.2.2.2.2.2 a h3 v1
    rw [v2] at hev
    obtain ⟨hci, -, cellV, w1, w2, w3, -⟩ := hev
    exact ⟨cellV, w1, by rw [w3]; rfl, by rw [w2]; exact (hK.1 ci hci).2.1⟩
theorem ix_rok0 {q : ixM} {as : List Value} {h : ixH} (hi : q.2.2.2.2.2.2.2.1 = 0) (e : ix_rok q as h = true) : as.length = q.2.2.2.2.2.2.1 := by
  unfold ix_rok at e
  rw [hi] at e
  exact of_decide_eq_true e
theorem ix_rok1 {q : ixM} {as : List Value} {h : ixH} (hi : q.2.2.2.2.2.2.2.1 = 1) (e : ix_rok q as h = true) : ∃ a t, as = .ref a :: t ∧ ix_rc h a = some q.2.2.2.2.1 ∧ t.length = q.2.2.2.2.2.2.1 := by
  unfold ix_rok at e
  rw [hi] at e
  cases as with
  | nil => exact absurd (show false = true from e) (by decide)
  | cons v t =>
    cases v with
    | ref a =>
      have e2 : (decide (ix_rc h a = some q.2.2.2.2.1) && decide (t.length = q.2.2.2.2.2.2.1)) = true := e
      rw [Bool.and_eq_true] at e2
      exact ⟨a, t, rfl, of_decide_eq_true e2.1, of_decide_eq_true e2.2⟩
    | int x => exact absurd (show false = true from e) (by decide)
    | long x => exact absurd (show false = true from e) (by decide)
    | float x => exact absurd (show false = true from e) (by decide)
    | double x => exact absurd (show false = true from e) (by decide)
    | null => exact absurd (show false = true from e) (by decide)
    | retAddr x => exact absurd (show false = true from e) (by decide)
theorem ix_rok2 {q : ixM} {as : List Value} {h : ixH} (hi : q.2.2.2.2.2.2.2.1 = 2) (e : ix_rok q as h = true) : ∃ a t, as = .ref a :: t ∧ t.length = q.2.2.2.2.2.2.1 := by
  unfold ix_rok at e
  rw [hi] at e
  cases as with
  | nil => exact absurd (show false = true from e) (by decide)
  | cons v t =>
    cases v with
    | ref a =>
      have e2 : decide (t.length = q.2.2.2.2.2.2.1) = true := e
      exact ⟨a, t, rfl, of_decide_eq_true e2⟩
    | int x => exact absurd (show false = true from e) (by decide)
    | long x => exact absurd (show false = true from e) (by decide)
    | float x => exact absurd (show false = true from e) (by decide)
    | double x => exact absurd (show false = true from e) (by decide)
    | null => exact absurd (show false = true from e) (by decide)
    | retAddr x => exact absurd (show false = true from e) (by decide)
theorem ix_iopV {i : Instr} {idx : Nat} (h : ix_iop i idx 0 = true) : i = .invokevirtual idx := by
  unfold ix_iop at h
  split at h <;> simp at h
  subst h
  rfl
theorem ix_iopS {i : Instr} {idx kd : Nat} (hk : kd = 1 ∨ kd = 3 ∨ kd = 7 ∨ kd = 8 ∨ kd = 9) (h : ix_iop i idx kd = true) : i = .invokestatic idx := by
  unfold ix_iop at h
  split at h <;> simp at h
  · omega
  · obtain ⟨h1, -⟩ := h
    subst h1
    rfl
  · omega
theorem ix_iopI {i : Instr} {idx kd : Nat} (hk : kd = 2 ∨ kd = 4 ∨ kd = 6) (h : ix_iop i idx kd = true) : i = .invokespecial idx := by
  unfold ix_iop at h
  split at h <;> simp at h
  · omega
  · omega
  · obtain ⟨h1, -⟩ := h
    subst h1
    rfl
theorem ix_iop5 {i : Instr} {idx : Nat} (h : ix_iop i idx 5 = true) : False := by
  unfold ix_iop at h
  split at h <;> simp at h
