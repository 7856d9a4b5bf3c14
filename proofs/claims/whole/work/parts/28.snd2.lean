theorem ix_rt_eq {ret : Option FieldType} {i : Instr} {st x : List Value} (h : ix_rt ret i st = some x) : x = st ∧ ix_len i = some 1 := by
  unfold ix_rt at h
  split at h
  · split at h
    · split at h
      · cases h; exact ⟨rfl, rfl⟩
      · cases h
    · cases h
  · split at h
    · cases h; exact ⟨rfl, rfl⟩
    · cases h
  · split at h
    · cases h; exact ⟨rfl, rfl⟩
    · cases h
  · cases h
theorem ix_okr_s {E : Nat × Nat × Nat × Nat} {rk : Nat} {rs : List Value} (h : ix_okr rk rs = true) : (rs.map (ix_sh E)).head?.toList = rs.map (ix_sh E) := by
  unfold ix_okr at h
  split at h <;> first | rfl | cases h
theorem ix_sub_good {big : List Jvm.Cond} (h : ∀ w ∈ big, w ∈ ix_tb) : GoodIn ix_tb big := fun w hw => ix_good w (h w hw)
section IXS
variable {p : Program} {l : Launch} {e : Env} {R : Room} {s : State} {m : MethodId} {args : Array Value} {below : List Frame} {meth : Method} {c : Code} {H : Heap} {locs : List Loc} {cells slots : Nat} {Q : State → Prop}
theorem ix_after {mc ms pc : Nat} {ls : Array Slot} {st0 rest : List Value} {Qa : State → Outcome → State → Prop} {free : Addr → Prop} (hr : va_Run p l e R s m args below meth c H locs cells slots mc ms (F0 m pc ls st0) rest Qa free)
    (kk : ∀ (v : Option Value) (st₀ t : State) (L : List Loc), (∀ q ∈ L, free q.base) → s.vm.Alike t.vm → Qa st₀ (.returned v) t → W p l e R s m args below meth c t.heap (locs ++ L) (cells + mc) (slots + ms) Q (F0 m (pc + 3) ls (v.toList ++ rest))) :
    W p l e R s m args below meth c H locs cells slots Q (F0 m pc ls st0) := by
  intro T hT X
  obtain ⟨v, st₀, t, T', L, h0, X', hL, e1, e2, hq, st⟩ := hr T hT X
  obtain ⟨t2, a1, b1⟩ := kk v st₀ t L hL (by rw [← e2]; exact X'.warmed.alike) hq T' e1 X'
  exact ⟨t2, st t2 a1, b1⟩
set_option maxHeartbeats 4000000 in
set_option maxRecDepth 100000 in
theorem ix_copy_snd {α : Type} (mk : α → Value) {E : Nat × Nat × Nat × Nat} {cc : ByteArray} {own : String} {idx pc a0 a n0 n1 : Nat} {c0 c1 : ClassId} {f g : Nat → α} {ty : FieldType} {n : Int32} {rest : List Value} {ls : Array Slot}
    (hx : p.tables.exec = Jvm.exec) (hb : c.code = cc) (hml : c.maxLocals = ls.size) (hown : s.vm.findClass own = some m.cls) (hts : ∀ w ∈ ix_tb, w.before args s = true) (hlink : (Jvm.Cond.methodLink own idx arraycopyName).before args s = true)
    (hfr : 1 ≤ R.frames) (hlo : 26 ≤ R.locals) (hd : decode cc pc = .ok (.invokestatic idx, 3)) (hprim : refKind ty = false) (hfit : ∀ x, fits ty (mk x) = true) (htk : ∀ (U : State) (k : ClassId) (x : α), U.takes k (mk x))
    (hc0 : H[a0]? = some (arrV c0 n0 (fun j => mk (f j)))) (hc1 : H[a]? = some (arrV c1 n1 (fun j => mk (g j)))) (hA0 : ArrOfT s c0 ty) (hA1 : ArrOfT s c1 ty) (h3 : ¬ n < 0) (h4 : n.toNatClampNeg ≤ n0) (h5 : n.toNatClampNeg ≤ n1) (hr8 : (rest.map fun v => v.category).sum ≤ 8)
    (kk : ∀ (H1 : Heap) (L : List Loc), H1[a]? = some (arrV c1 n1 (fun j => mk (va_cpy f g 0 0 n.toNatClampNeg j))) → H1.size = H.size → (∀ q, q ≠ a → H1[q]? = H[q]?) → (∀ q ∈ L, q.base = a) → W p l e R s m args below meth c H1 (locs ++ L) cells slots Q (F0 m (pc + 3) ls rest)) :
    W p l e R s m args below meth c H locs cells slots Q (F0 m pc ls (.int n :: .int 0 :: .ref a :: .int 0 :: .ref a0 :: rest)) := by
  have nn : ∀ z : Int32, ¬ z < 0 → z.toInt = (z.toNatClampNeg : Int) := by
    intro z hz
    have hz0 : (0 : Int) ≤ z.toInt := by
      have := Int32.not_lt.mp hz
      simpa using Int32.le_iff_toInt_le.mp this
    show z.toInt = ((z.toInt.toNat : Nat) : Int)
    omega
  have z0 : (0 : Int32).toInt = 0 := by decide
  have z1 : (0 : Int32).toNatClampNeg = 0 := by decide
  intro T hT X
  obtain ⟨-, k0, hk0, cm0, hkk0⟩ := hA0 n0 (fun j => mk (f j))
  obtain ⟨-, k1, hk1, cm1, hkk1⟩ := hA1 n1 (fun j => mk (g j))
  obtain ⟨vm', X', step⟩ := X.arraycopy hx hown hlink (hts _ ix_natW.1) (hts _ ix_natW.2.1) (hts _ ix_natW.2.2) (src := a0) (dst := a) (cs := arrV c0 n0 (fun j => mk (f j))) (cd := arrV c1 n1 (fun j => mk (g j))) (srcPos := 0) (destPos := 0) (n := n) (by rw [hT]; exact hc0) (by rw [hT]; exact hc1)
    (fun _ h => by cases h) (fun _ h => by cases h) (fun h => by cases h) (fun h => by cases h) hk0 hk1 hkk0 hkk1 (by simp [hprim]) (by decide) (by decide) h3
    (by rw [z0, nn n h3, arrV_size]; omega)
    (by rw [z0, nn n h3, arrV_size]; omega)
    (fun vm₁ _ i hi => by
      have e : (arrV c0 n0 (fun j => mk (f j))).slots.getD ((0 : Int32).toNatClampNeg + i) .null = mk (f i) := by
        rw [z1, Nat.zero_add, Array.getD_eq_getD_getElem?, arrV_read _ _ (by omega)]
        rfl
      rw [e]
      exact ⟨hfit _, htk _ _ _⟩)
    (g := F0 m pc ls (.int n :: .int 0 :: .ref a :: .int 0 :: .ref a0 :: rest)) rfl (by rw [hml]) (rest := rest) rfl (by rw [hb]; exact hd) hfr (by
      have e7 : nativeFrameWords "java/lang/System" "arraycopy" 5 = 7 := by decide
      rw [e7]
      show 2 * 0 + _ + _ ≤ _
      omega)
  have e1 : copied (arrV c0 n0 (fun j => mk (f j))) (arrV c1 n1 (fun j => mk (g j))) 0 0 n = arrV c1 n1 (fun j => mk (va_cpy f g 0 0 n.toNatClampNeg j)) := va_copied mk c0 c1 f g (sp := 0) (dp := 0) (by omega)
  rw [e1] at X' step
  have hl : a < H.size := (Array.getElem?_eq_some_iff.mp hc1).1
  have hheap : ((T.setVm vm').setCell a (arrV c1 n1 (fun j => mk (va_cpy f g 0 0 n.toNatClampNeg j)))).heap = H.setIfInBounds a (arrV c1 n1 (fun j => mk (va_cpy f g 0 0 n.toNatClampNeg j))) := by rw [← hT]; rfl
  obtain ⟨t, a1, b1⟩ := kk (H.setIfInBounds a (arrV c1 n1 (fun j => mk (va_cpy f g 0 0 n.toNatClampNeg j)))) _ (by simp [Array.getElem?_setIfInBounds, hl]) (by simp) (fun q hq => by simp [Array.getElem?_setIfInBounds, Ne.symm hq]) (fun q hq => by
    obtain ⟨z, -, hz⟩ := List.mem_map.mp hq
    rw [← hz]) _ hheap X'
  exact ⟨t, step t a1, b1⟩
set_option maxHeartbeats 4000000 in
set_option maxRecDepth 100000 in
theorem ix_pc_snd {E : Nat × Nat × Nat × Nat} {dC : Nat → ClassId} {dI : Nat → Nat → Nat} {cc : ByteArray} {ow kd idx pc : Nat} {st st2 : List Value} {h0 h2 : ixH} {ls : Array Slot}
    (hx : p.tables.exec = Jvm.exec) (hb : c.code = cc) (hml : c.maxLocals = ls.size) (hown : s.vm.findClass (ix_on ow) = some m.cls) (hts : ∀ w ∈ ix_tb, w.before args s = true)
    (hl1 : kd = 7 → (Jvm.Cond.methodLink (ix_on ow) idx arraycopyName).before args s = true) (hl2 : kd = 8 → (Jvm.Cond.methodLink (ix_on ow) idx Lib.Math.max.name).before args s = true) (hl3 : kd = 9 → (Jvm.Cond.methodLink (ix_on ow) idx Lib.Math.min.name).before args s = true)
    (hfr : 1 ≤ R.frames) (hlo : 26 ≤ R.locals) (hcc : cells ≤ R.cells) (hcs : slots ≤ R.slots) (hd : decode cc pc = .ok (.invokestatic idx, 3))
    (h : ix_pc kd st h0 = some (st2, h2)) (hH : ix_hp s dC dI E h0 H) (hlc : ∀ q ∈ locs, E.2.2.2 ≤ q.base)
    (kk : ∀ (H2 : Heap) (locs2 : List Loc), ix_hp s dC dI E h2 H2 → (∀ q ∈ locs2, E.2.2.2 ≤ q.base) → W p l e R s m args below meth c H2 locs2 cells slots Q (F0 m (pc + 3) ls (st2.map (ix_sh E)))) :
    W p l e R s m args below meth c H locs cells slots Q (F0 m pc ls (st.map (ix_sh E))) := by
  have hsum : ∀ t : List Value, ((t.map (ix_sh E)).map fun v => v.category) = t.map fun v => v.category := fun t => by
    rw [List.map_map]
    apply List.map_congr_left
    intro v _
    exact ix_sh_cat E v
  unfold ix_pc at h
  split at h
  · split at h
    · rename_i n dp d sp s0 t
      split at h
      · rename_i h8
        obtain ⟨y, e1, e2⟩ := Option.map_eq_some_iff.mp h
        cases e2
        unfold ix_cp at e1
        split at e1
        · rename_i hcond
          obtain ⟨k1, k2, k3, k4, rfl, rfl, k5⟩ := hcond
          split at e1
          · rename_i n0 f n1 g es ed
            split at e1
            · rename_i hle
              cases e1
              have x1 := hH.2.2.2.2.2.2.2.2 s0 k1 k3
              have x2 := hH.2.2.2.2.2.2.2.2 d k2 k4
              rw [es] at x1
              rw [ed] at x2
              obtain ⟨c0, y1, y2, y3⟩ := x1
              obtain ⟨c1, w1, w2, w3⟩ := x2
              refine ix_copy_snd (fun z => Value.int z) (ty := .int) (E := E) hx hb hml hown hts (hl1 rfl) hfr hlo hd rfl (fun _ => rfl) (fun _ _ _ => trivial) y3 w3 y1 w1 k5 hle.1 hle.2 (by rw [hsum]; exact h8) (fun H1 L b1 b2 b3 b4 => ?_)
              refine kk H1 _ (hH.up (x := .inl (0, n1, .inl (va_cpy f g 0 0 n.toNatClampNeg))) k2 ⟨c1, w1, w2, b1⟩ b2 b3) (fun q hq => ?_)
              rcases List.mem_append.mp hq with hq | hq
              · exact hlc q hq
              · rw [b4 q hq, ix_ad3 k2]; omega
            · cases e1
          · rename_i n0 f n1 g es ed
            split at e1
            · rename_i hle
              cases e1
              have x1 := hH.2.2.2.2.2.2.2.2 s0 k1 k3
              have x2 := hH.2.2.2.2.2.2.2.2 d k2 k4
              rw [es] at x1
              rw [ed] at x2
              obtain ⟨c0, y1, y2, y3⟩ := x1
              obtain ⟨c1, w1, w2, w3⟩ := x2
              refine ix_copy_snd (fun z => Value.long z) (ty := .long) (E := E) hx hb hml hown hts (hl1 rfl) hfr hlo hd rfl (fun _ => rfl) (fun _ _ _ => trivial) y3 w3 y1 w1 k5 hle.1 hle.2 (by rw [hsum]; exact h8) (fun H1 L b1 b2 b3 b4 => ?_)
              refine kk H1 _ (hH.up (x := .inl (1, n1, .inr (.inl (va_cpy f g 0 0 n.toNatClampNeg)))) k2 ⟨c1, w1, w2, b1⟩ b2 b3) (fun q hq => ?_)
              rcases List.mem_append.mp hq with hq | hq
              · exact hlc q hq
              · rw [b4 q hq, ix_ad3 k2]; omega
            · cases e1
          · cases e1
        · cases e1
      · cases h
    · cases h
  · split at h
    · rename_i y x t
      split at h
      · rename_i h8
        cases h
        exact va_mmax hx hb hml hown (hl2 rfl) (hts _ ix_maxW.1) (hts _ (ix_iniW (c := 16) (by decide))) (hts _ ix_maxW.2.1) hfr (by rw [hsum]; omega) hcc hcs hd (kk H locs hH hlc)
      · cases h
    · cases h
  · split at h
    · rename_i y x t
      split at h
      · rename_i h8
        cases h
        exact va_mmin hx hb hml hown (hl3 rfl) (hts _ ix_maxW.2.2.1) (hts _ (ix_iniW (c := 16) (by decide))) (hts _ ix_maxW.2.2.2) hfr (by rw [hsum]; omega) hcc hcs hd (kk H locs hH hlc)
      · cases h
    · cases h
  · cases h
end IXS
