/-! what an abstract value stands for; the locals -/
def ix_ad (E : Nat × Nat × Nat × Nat) : Nat → Nat
  | 0 => E.1
  | 1 => E.2.1
  | 2 => E.2.2.1
  | k + 3 => E.2.2.2 + k
def ix_sh (E : Nat × Nat × Nat × Nat) (v : Value) : Value := match v with
  | .ref k => .ref (ix_ad E k)
  | v => v
theorem ix_sh_cat (E : Nat × Nat × Nat × Nat) (v : Value) : (ix_sh E v).category = v.category := by cases v <;> rfl
def ix_lo (E : Nat × Nat × Nat × Nat) (ls : Array Slot) (nL : Nat) (L : ixL) : Prop := L.length = nL ∧ ∃ l, lv_has ls nL l ∧ ∀ (j : Nat) (w : Value), L[j]? = some (some w) → (j, ix_sh E w) ∈ l
theorem ix_lo_at {E : Nat × Nat × Nat × Nat} {ls : Array Slot} {nL : Nat} {L : ixL} (h : ix_lo E ls nL L) {j : Nat} {w : Value} (hj : L[j]? = some (some w)) : ls[j]? = some (.val (ix_sh E w)) := by
  obtain ⟨-, l, h1, h2⟩ := h
  exact h1.2.2 _ (h2 j w hj)
theorem ix_lo_size {E : Nat × Nat × Nat × Nat} {ls : Array Slot} {nL : Nat} {L : ixL} (h : ix_lo E ls nL L) : ls.size = nL := by
  obtain ⟨-, l, h1, h2⟩ := h
  exact h1.1
theorem ix_lo_sub {E : Nat × Nat × Nat × Nat} {ls : Array Slot} {nL : Nat} {L L' : ixL} (h : ix_lo E ls nL L) (hl : L'.length = L.length) (hs : ∀ (j : Nat) (w : Value), L'[j]? = some (some w) → L[j]? = some (some w)) : ix_lo E ls nL L' := by
  obtain ⟨h0, l, h1, h2⟩ := h
  exact ⟨hl.trans h0, l, h1, fun j w hj => h2 j w (hs j w hj)⟩
theorem ix_msk_len : ∀ (bs : List Bool) (L : ixL), (ix_msk bs L).length = L.length
  | [], L => rfl
  | _ :: _, [] => rfl
  | b :: bs, o :: L => by simp [ix_msk, ix_msk_len bs L]
theorem ix_msk_at : ∀ (bs : List Bool) (L : ixL) (j : Nat) (w : Value), (ix_msk bs L)[j]? = some (some w) → L[j]? = some (some w)
  | [], L, j, w, h => h
  | _ :: _, [], j, w, h => h
  | b :: bs, o :: L, 0, w, h => by
    cases b
    · simp [ix_msk] at h
    · simpa [ix_msk] using h
  | b :: bs, o :: L, j + 1, w, h => by
    simp only [ix_msk, List.getElem?_cons_succ] at h ⊢
    exact ix_msk_at bs L j w h
theorem ix_lo_mk {E : Nat × Nat × Nat × Nat} {ls : Array Slot} {nL : Nat} {L : ixL} (h : ix_lo E ls nL L) (k : Option (List Bool)) : ix_lo E ls nL (ix_mk k L) := by
  cases k with
  | none => exact h
  | some bs => exact ix_lo_sub h (ix_msk_len bs L) (ix_msk_at bs L)
theorem ix_kl_s {o : Option Value} {w : Value} (h : ix_kl o = some w) : o = some w ∧ ¬ w.category = 2 := by
  unfold ix_kl at h
  split at h
  · split at h
    · cases h
    · cases h; exact ⟨rfl, by assumption⟩
  · cases h
theorem ix_s1_len : ∀ (L : ixL) (i : Nat) (v : Value), (ix_s1 L i v).length = L.length
  | [], _, _ => by simp [ix_s1]
  | _ :: L, 0, v => by simp [ix_s1]
  | o :: L, 1, v => by simp [ix_s1, ix_s1_len L 0 v]
  | o :: L, j + 2, v => by simp [ix_s1, ix_s1_len L (j + 1) v]
theorem ix_s1_at : ∀ (L : ixL) (i : Nat) (v : Value) (j : Nat) (w : Value), (ix_s1 L i v)[j]? = some (some w) → (j = i ∧ w = v) ∨ (j ≠ i ∧ L[j]? = some (some w) ∧ ¬ (j + 1 = i ∧ w.category = 2))
  | [], _, _, j, w, h => by simp [ix_s1] at h
  | o :: L, 0, v, 0, w, h => by simp [ix_s1] at h; exact Or.inl ⟨rfl, h.symm⟩
  | o :: L, 0, v, j + 1, w, h => by simp [ix_s1] at h; exact Or.inr ⟨by omega, by simpa using h, by omega⟩
  | o :: L, 1, v, 0, w, h => by
    simp only [ix_s1, List.getElem?_cons_zero, Option.some.injEq] at h
    obtain ⟨h1, h2⟩ := ix_kl_s h
    exact Or.inr ⟨by omega, by simp [h1], fun q => h2 q.2⟩
  | o :: L, 1, v, j + 1, w, h => by
    simp only [ix_s1, List.getElem?_cons_succ] at h
    rcases ix_s1_at L 0 v j w h with ⟨a, b⟩ | ⟨a, b, c⟩
    · exact Or.inl ⟨by omega, b⟩
    · exact Or.inr ⟨by omega, by simpa using b, by omega⟩
  | o :: L, i + 2, v, 0, w, h => by
    simp only [ix_s1, List.getElem?_cons_zero] at h
    exact Or.inr ⟨by omega, by simpa using h, by omega⟩
  | o :: L, i + 2, v, j + 1, w, h => by
    simp only [ix_s1, List.getElem?_cons_succ] at h
    rcases ix_s1_at L (i + 1) v j w h with ⟨a, b⟩ | ⟨a, b, c⟩
    · exact Or.inl ⟨by omega, b⟩
    · exact Or.inr ⟨by omega, by simpa using b, fun q => c ⟨by omega, q.2⟩⟩
theorem ix_s2_len : ∀ (L : ixL) (i : Nat) (v : Value), (ix_s2 L i v).length = L.length
  | [], _, _ => by simp [ix_s2]
  | [_], 0, v => by simp [ix_s2]
  | _ :: _ :: L, 0, v => by simp [ix_s2]
  | o :: L, 1, v => by simp [ix_s2, ix_s2_len L 0 v]
  | o :: L, j + 2, v => by simp [ix_s2, ix_s2_len L (j + 1) v]
theorem ix_s2_at : ∀ (L : ixL) (i : Nat) (v : Value) (j : Nat) (w : Value), i + 1 < L.length → (ix_s2 L i v)[j]? = some (some w) → (j = i ∧ w = v) ∨ (j ≠ i ∧ j ≠ i + 1 ∧ L[j]? = some (some w) ∧ ¬ (j + 1 = i ∧ w.category = 2))
  | [], _, _, j, w, hi, h => by simp at hi
  | [_], 0, v, j, w, hi, h => by simp at hi
  | o :: o2 :: L, 0, v, 0, w, hi, h => by simp [ix_s2] at h; exact Or.inl ⟨rfl, h.symm⟩
  | o :: o2 :: L, 0, v, 1, w, hi, h => by simp [ix_s2] at h
  | o :: o2 :: L, 0, v, j + 2, w, hi, h => by simp [ix_s2] at h; exact Or.inr ⟨by omega, by omega, by simpa using h, by omega⟩
  | o :: L, 1, v, 0, w, hi, h => by
    simp only [ix_s2, List.getElem?_cons_zero, Option.some.injEq] at h
    obtain ⟨h1, h2⟩ := ix_kl_s h
    exact Or.inr ⟨by omega, by omega, by simp [h1], fun q => h2 q.2⟩
  | o :: L, 1, v, j + 1, w, hi, h => by
    simp only [ix_s2, List.getElem?_cons_succ] at h
    rcases ix_s2_at L 0 v j w (by simp at hi; omega) h with ⟨a, b⟩ | ⟨a, a2, b, c⟩
    · exact Or.inl ⟨by omega, b⟩
    · exact Or.inr ⟨by omega, by omega, by simpa using b, by omega⟩
  | o :: L, i + 2, v, 0, w, hi, h => by
    simp only [ix_s2, List.getElem?_cons_zero] at h
    exact Or.inr ⟨by omega, by omega, by simpa using h, by omega⟩
  | o :: L, i + 2, v, j + 1, w, hi, h => by
    simp only [ix_s2, List.getElem?_cons_succ] at h
    rcases ix_s2_at L (i + 1) v j w (by simp at hi; omega) h with ⟨a, b⟩ | ⟨a, a2, b, c⟩
    · exact Or.inl ⟨by omega, b⟩
    · exact Or.inr ⟨by omega, by omega, by simpa using b, fun q => c ⟨by omega, q.2⟩⟩
theorem ix_li_s {L : ixL} {i : Nat} {x : Int32} (h : ix_li L i = some x) : L[i]? = some (some (.int x)) := by
  unfold ix_li at h
  split at h
  · cases h; assumption
  · cases h
theorem ix_ll_s {L : ixL} {i : Nat} {x : Int64} (h : ix_ll L i = some x) : L[i]? = some (some (.long x)) := by
  unfold ix_ll at h
  split at h
  · cases h; assumption
  · cases h
theorem ix_lr_s {L : ixL} {i : Nat} {x : Nat} (h : ix_lr L i = some x) : L[i]? = some (some (.ref x)) := by
  unfold ix_lr at h
  split at h
  · cases h; assumption
  · cases h
/-- the length of an instruction -/
def ix_len : Instr → Option Nat
  | .bipush _ => some 2
  | .sipush _ => some 3
  | .ldc _ => some 2
  | .ldc2_w _ => some 3
  | .ldc_w _ => some 3
  | .iload _ => some 2
  | .lload _ => some 2
  | .aload _ => some 2
  | .istore _ => some 2
  | .lstore _ => some 2
  | .astore _ => some 2
  | .iinc _ _ => some 3
  | .ifCond _ _ => some 3
  | .if_icmp _ _ => some 3
  | .goto _ => some 3
  | .ifnonnull _ => some 3
  | .getfield _ => some 3
  | .putfield _ => some 3
  | .getstatic _ => some 3
  | .new _ => some 3
  | .anewarray _ => some 3
  | .newarray _ => some 2
  | .invokevirtual _ => some 3
  | .invokestatic _ => some 3
  | .invokespecial _ => some 3
  | .tableswitch _ _ _ _ => none
  | .lookupswitch _ _ => none
  | _ => some 1
section IXP
variable {p : Program} {l : Launch} {e : Env} {R : Room} {s : State} {m : MethodId} {args : Array Value} {below : List Frame} {meth : Method} {c : Code} {H : Heap} {locs : List Loc} {cells slots : Nat} {Q : State → Prop}
theorem ix_st1 {E : Nat × Nat × Nat × Nat} {ls : Array Slot} {nL k : Nat} {L : ixL} {v : Value} (h : ix_lo E ls nL L) (hk : k < L.length) {G : Array Slot → Prop} {P : Prop}
    (row : ∀ (l : List (Nat × Value)), lv_has ls nL l → k < nL → (∀ (j : Nat) (w : Value), L[j]? = some (some w) → (j, ix_sh E w) ∈ l) → (∀ ls', lv_has ls' nL ((k, ix_sh E v) :: l.filter (fun q => !(q.1 == k) && !(q.1 + 1 == k && q.2.category == 2))) → G ls') → P)
    (kk : ∀ ls', ix_lo E ls' nL (ix_s1 L k v) → G ls') : P := by
  obtain ⟨h0, l, h1, h2⟩ := h
  refine row l h1 (by omega) h2 (fun ls' hl => kk ls' ⟨by rw [ix_s1_len]; exact h0, _, hl, fun j w hj => ?_⟩)
  rcases ix_s1_at L k v j w hj with ⟨rfl, rfl⟩ | ⟨a, b, d⟩
  · exact List.mem_cons_self
  · refine List.mem_cons_of_mem _ (List.mem_filter.mpr ⟨h2 j w b, ?_⟩)
    simp only [ix_sh_cat]
    by_cases hj : j + 1 = k
    · have : ¬ w.category = 2 := fun q => d ⟨hj, q⟩
      simp [a, this]
    · simp [a, hj]
theorem ix_st2 {E : Nat × Nat × Nat × Nat} {ls : Array Slot} {nL k : Nat} {L : ixL} {v : Value} (h : ix_lo E ls nL L) (hk : k + 1 < L.length) {G : Array Slot → Prop} {P : Prop}
    (row : ∀ (l : List (Nat × Value)), lv_has ls nL l → k + 1 < nL → (∀ ls', lv_has ls' nL ((k, ix_sh E v) :: l.filter (fun q => !(q.1 == k) && (!(q.1 == k + 1) && !(q.1 + 1 == k && q.2.category == 2)))) → G ls') → P)
    (kk : ∀ ls', ix_lo E ls' nL (ix_s2 L k v) → G ls') : P := by
  obtain ⟨h0, l, h1, h2⟩ := h
  refine row l h1 (by omega) (fun ls' hl => kk ls' ⟨by rw [ix_s2_len]; exact h0, _, hl, fun j w hj => ?_⟩)
  rcases ix_s2_at L k v j w hk hj with ⟨rfl, rfl⟩ | ⟨a, a2, b, d⟩
  · exact List.mem_cons_self
  · refine List.mem_cons_of_mem _ (List.mem_filter.mpr ⟨h2 j w b, ?_⟩)
    simp only [ix_sh_cat]
    by_cases hj : j + 1 = k
    · have : ¬ w.category = 2 := fun q => d ⟨hj, q⟩
      simp [a, a2, this]
    · simp [a, a2, hj]
theorem ix_br_s {pc pc' pc2 : Nat} {o : Int} {L L2 : ixL} {st st2 : List Value} {b : Bool} (h : ix_br pc pc' o L st b = some (pc2, L2, st2)) : ∃ t : Nat, (pc : Int) + o = (t : Int) ∧ pc2 = (if b then t else pc') ∧ L2 = L ∧ st2 = st := by
  unfold ix_br ix_j at h
  by_cases hz : 0 ≤ (pc : Int) + o
  · rw [if_pos hz] at h
    simp only [Option.map_some, Option.some.injEq, Prod.mk.injEq] at h
    exact ⟨_, (Int.toNat_of_nonneg hz).symm, h.1.symm, h.2.1.symm, h.2.2.symm⟩
  · rw [if_neg hz] at h
    cases h
end IXP
