section IXW
variable {p : Program} {l : Launch} {e : Env} {R : Room} {s : State} {m : MethodId} {args : Array Value} {below : List Frame} {meth : Method} {c : Code} {H : Heap} {locs : List Loc} {cells slots : Nat} {Q : State → Prop}
set_option maxHeartbeats 4000000 in
set_option maxRecDepth 100000 in
/-- an instruction that touches neither heap nor calls -/
theorem ix_px_snd {E : Nat × Nat × Nat × Nat} {cc : ByteArray} {own : String} {i : Instr} {pc pc' ln pc2 nL : Nat} {z : Int} {L L2 : ixL} {st st2 : List Value} {ls : Array Slot}
    (hx : p.tables.exec = Jvm.exec) (hb : c.code = cc) (hown : s.vm.findClass own = some m.cls)
    (hk2 : ∀ k, i = .ldc2_w k → (Jvm.Cond.constantLong own k (Int64.ofInt z)).before args s = true) (hk1 : ∀ k, i = .ldc_w k → (Jvm.Cond.constant own k (Int32.ofInt z)).before args s = true)
    (hsw : ∀ d ps, i = .lookupswitch d ps → (ps.toList.zip (ps.toList.drop 1)).all (fun (a, next) => a.1 < next.1) = true)
    (hd : decode cc pc = .ok (i, ln)) (hpc : pc' = pc + ln) (hln : ix_len i = none ∨ ix_len i = some ln)
    (h : ix_px i pc pc' z L st = some (pc2, L2, st2)) (hl : ix_lo E ls nL L)
    (kk : ∀ ls2, ix_lo E ls2 nL L2 → W p l e R s m args below meth c H locs cells slots Q (F0 m pc2 ls2 (st2.map (ix_sh E)))) :
    W p l e R s m args below meth c H locs cells slots Q (F0 m pc ls (st.map (ix_sh E))) := by
  subst hpc
  unfold ix_px at h
  split at h
  -- iconst
  · obtain rfl : ln = 1 := by simpa [ix_len, eq_comm] using hln
    cases h
    exact lv_iconst hx hb hd rfl (kk _ hl)
  · obtain rfl : ln = 2 := by simpa [ix_len, eq_comm] using hln
    cases h
    exact lv_bipush hx hb hd rfl (kk _ hl)
  · obtain rfl : ln = 3 := by simpa [ix_len, eq_comm] using hln
    cases h
    exact lv_sipush hx hb hd rfl (kk _ hl)
  · obtain rfl : ln = 1 := by simpa [ix_len, eq_comm] using hln
    cases h
    exact lv_lconst hx hb hd rfl (kk _ hl)
  · obtain rfl : ln = 3 := by simpa [ix_len, eq_comm] using hln
    cases h
    exact lv_ldc2 hx hb hown (hk2 _ rfl) hd (kk _ hl)
  · obtain rfl : ln = 3 := by simpa [ix_len, eq_comm] using hln
    cases h
    exact lv_ldcw hx hb hown (hk1 _ rfl) hd (kk _ hl)
  · obtain rfl : ln = 1 := by simpa [ix_len, eq_comm] using hln
    cases h
    exact lv_null hx hb hd (kk _ hl)
  -- loads
  · obtain rfl : ln = 2 := by simpa [ix_len, eq_comm] using hln
    obtain ⟨x, h1, h2⟩ := Option.map_eq_some_iff.mp h
    cases h2
    exact lv_iload hx hb hd (ix_lo_at hl (ix_li_s h1)) (kk _ hl)
  · obtain rfl : ln = 1 := by simpa [ix_len, eq_comm] using hln
    obtain ⟨x, h1, h2⟩ := Option.map_eq_some_iff.mp h
    cases h2
    exact lv_iload_n hx hb hd rfl (ix_lo_at hl (ix_li_s h1)) (kk _ hl)
  · obtain rfl : ln = 2 := by simpa [ix_len, eq_comm] using hln
    obtain ⟨x, h1, h2⟩ := Option.map_eq_some_iff.mp h
    cases h2
    exact lv_lload hx hb hd (ix_lo_at hl (ix_ll_s h1)) (kk _ hl)
  · obtain rfl : ln = 1 := by simpa [ix_len, eq_comm] using hln
    obtain ⟨x, h1, h2⟩ := Option.map_eq_some_iff.mp h
    cases h2
    exact lv_lload_n hx hb hd rfl (ix_lo_at hl (ix_ll_s h1)) (kk _ hl)
  · obtain rfl : ln = 2 := by simpa [ix_len, eq_comm] using hln
    obtain ⟨x, h1, h2⟩ := Option.map_eq_some_iff.mp h
    cases h2
    exact lv_aload hx hb hd (ix_lo_at hl (ix_lr_s h1)) (kk _ hl)
  · obtain rfl : ln = 1 := by simpa [ix_len, eq_comm] using hln
    obtain ⟨x, h1, h2⟩ := Option.map_eq_some_iff.mp h
    cases h2
    exact lv_aload_n hx hb hd rfl (ix_lo_at hl (ix_lr_s h1)) (kk _ hl)
  -- stores
  · obtain rfl : ln = 2 := by simpa [ix_len, eq_comm] using hln
    obtain ⟨x, t, rfl, h2⟩ := ix_p1i_s h
    split at h2
    · cases h2
      exact ix_st1 (v := .int x) hl (by assumption) (fun l0 a b _ k => lv_istore hx hb hd a b rfl k) kk
    · cases h2
  · obtain rfl : ln = 1 := by simpa [ix_len, eq_comm] using hln
    obtain ⟨x, t, rfl, h2⟩ := ix_p1i_s h
    split at h2
    · cases h2
      exact ix_st1 (v := .int x) hl (by assumption) (fun l0 a b _ k => lv_istore_n hx hb hd rfl a b rfl k) kk
    · cases h2
  · obtain rfl : ln = 2 := by simpa [ix_len, eq_comm] using hln
    obtain ⟨x, t, rfl, h2⟩ := ix_p1r_s h
    split at h2
    · cases h2
      exact ix_st1 (v := .ref x) hl (by assumption) (fun l0 a b _ k => lv_astore hx hb hd a b rfl k) kk
    · cases h2
  · obtain rfl : ln = 1 := by simpa [ix_len, eq_comm] using hln
    obtain ⟨x, t, rfl, h2⟩ := ix_p1r_s h
    split at h2
    · cases h2
      exact ix_st1 (v := .ref x) hl (by assumption) (fun l0 a b _ k => lv_astore_n hx hb hd rfl a b rfl k) kk
    · cases h2
  · obtain rfl : ln = 2 := by simpa [ix_len, eq_comm] using hln
    obtain ⟨x, t, rfl, h2⟩ := ix_p1l_s h
    split at h2
    · cases h2
      exact ix_st2 (v := .long x) hl (by assumption) (fun l0 a b k => lv_lstore hx hb hd a b rfl k) kk
    · cases h2
  · obtain rfl : ln = 1 := by simpa [ix_len, eq_comm] using hln
    obtain ⟨x, t, rfl, h2⟩ := ix_p1l_s h
    split at h2
    · cases h2
      exact ix_st2 (v := .long x) hl (by assumption) (fun l0 a b k => lv_lstore_n hx hb hd rfl a b rfl k) kk
    · cases h2
  -- iinc
  · obtain rfl : ln = 3 := by simpa [ix_len, eq_comm] using hln
    obtain ⟨x, h1, h2⟩ := Option.bind_eq_some_iff.mp h
    split at h2
    · cases h2
      refine ix_st1 (v := .int _) hl (by assumption) (fun l1 a b hm k => ?_) kk
      obtain ⟨k0, hk0⟩ := List.getElem?_of_mem (hm _ _ (ix_li_s h1))
      exact lv_iinc hx hb hd a hk0 rfl b rfl k
    · cases h2
  · obtain rfl : ln = 1 := by simpa [ix_len, eq_comm] using hln
    obtain ⟨x, y, t, rfl, h2⟩ := ix_p2i_s h
    cases h2
    exact lv_iadd hx hb hd (kk _ hl)
  · obtain rfl : ln = 1 := by simpa [ix_len, eq_comm] using hln
    obtain ⟨x, y, t, rfl, h2⟩ := ix_p2i_s h
    cases h2
    exact lv_isub hx hb hd (kk _ hl)
  · obtain rfl : ln = 1 := by simpa [ix_len, eq_comm] using hln
    obtain ⟨x, y, t, rfl, h2⟩ := ix_p2i_s h
    cases h2
    exact lv_imul hx hb hd (kk _ hl)
  · obtain rfl : ln = 1 := by simpa [ix_len, eq_comm] using hln
    obtain ⟨x, y, t, rfl, h2⟩ := ix_p2i_s h
    split at h2
    · cases h2
    · cases h2
      exact lv_idiv hx hb hd (by assumption) (kk _ hl)
  · obtain rfl : ln = 1 := by simpa [ix_len, eq_comm] using hln
    obtain ⟨x, y, t, rfl, h2⟩ := ix_p2i_s h
    split at h2
    · cases h2
    · cases h2
      exact lv_irem hx hb hd (by assumption) (kk _ hl)
  · obtain rfl : ln = 1 := by simpa [ix_len, eq_comm] using hln
    obtain ⟨x, y, t, rfl, h2⟩ := ix_p2i_s h
    cases h2
    exact lv_iand hx hb hd (kk _ hl)
  · obtain rfl : ln = 1 := by simpa [ix_len, eq_comm] using hln
    obtain ⟨x, y, t, rfl, h2⟩ := ix_p2i_s h
    cases h2
    exact lv_ior hx hb hd (kk _ hl)
  · obtain rfl : ln = 1 := by simpa [ix_len, eq_comm] using hln
    obtain ⟨x, y, t, rfl, h2⟩ := ix_p2i_s h
    cases h2
    exact lv_ixor hx hb hd (kk _ hl)
  · obtain rfl : ln = 1 := by simpa [ix_len, eq_comm] using hln
    obtain ⟨x, y, t, rfl, h2⟩ := ix_p2i_s h
    cases h2
    exact lv_ishl hx hb hd (kk _ hl)
  · obtain rfl : ln = 1 := by simpa [ix_len, eq_comm] using hln
    obtain ⟨x, y, t, rfl, h2⟩ := ix_p2i_s h
    cases h2
    exact lv_ishr hx hb hd (kk _ hl)
  · obtain rfl : ln = 1 := by simpa [ix_len, eq_comm] using hln
    obtain ⟨x, y, t, rfl, h2⟩ := ix_p2i_s h
    cases h2
    exact lv_iushr hx hb hd rfl (kk _ hl)
  · obtain rfl : ln = 1 := by simpa [ix_len, eq_comm] using hln
    obtain ⟨x, y, t, rfl, h2⟩ := ix_p2l_s h
    cases h2
    exact lv_ladd hx hb hd (kk _ hl)
  · obtain rfl : ln = 1 := by simpa [ix_len, eq_comm] using hln
    obtain ⟨x, y, t, rfl, h2⟩ := ix_p2l_s h
    cases h2
    exact lv_lsub hx hb hd (kk _ hl)
  · obtain rfl : ln = 1 := by simpa [ix_len, eq_comm] using hln
    obtain ⟨x, y, t, rfl, h2⟩ := ix_p2l_s h
    cases h2
    exact lv_lmul hx hb hd (kk _ hl)
  · obtain rfl : ln = 1 := by simpa [ix_len, eq_comm] using hln
    obtain ⟨x, y, t, rfl, h2⟩ := ix_p2l_s h
    cases h2
    exact lv_land hx hb hd (kk _ hl)
  · obtain rfl : ln = 1 := by simpa [ix_len, eq_comm] using hln
    obtain ⟨x, y, t, rfl, h2⟩ := ix_p2l_s h
    cases h2
    exact lv_lor hx hb hd (kk _ hl)
  · obtain rfl : ln = 1 := by simpa [ix_len, eq_comm] using hln
    obtain ⟨x, y, t, rfl, h2⟩ := ix_p2l_s h
    cases h2
    exact lv_lxor hx hb hd (kk _ hl)
  · obtain rfl : ln = 1 := by simpa [ix_len, eq_comm] using hln
    obtain ⟨x, t, rfl, h2⟩ := ix_p1l_s h
    cases h2
    exact lv_lneg hx hb hd (kk _ hl)
  · obtain rfl : ln = 1 := by simpa [ix_len, eq_comm] using hln
    obtain ⟨x, y, t, rfl, h2⟩ := ix_pli_s h
    cases h2
    exact lv_lshl hx hb hd rfl (kk _ hl)
  · obtain rfl : ln = 1 := by simpa [ix_len, eq_comm] using hln
    obtain ⟨x, y, t, rfl, h2⟩ := ix_pli_s h
    cases h2
    exact lv_lshr hx hb hd rfl (kk _ hl)
  · obtain rfl : ln = 1 := by simpa [ix_len, eq_comm] using hln
    obtain ⟨x, y, t, rfl, h2⟩ := ix_pli_s h
    cases h2
    exact lv_lushr hx hb hd rfl (kk _ hl)
  · obtain rfl : ln = 1 := by simpa [ix_len, eq_comm] using hln
    obtain ⟨x, y, t, rfl, h2⟩ := ix_p2l_s h
    cases h2
    exact W.lcmp hx hb hd (kk _ hl)
  · obtain rfl : ln = 1 := by simpa [ix_len, eq_comm] using hln
    obtain ⟨x, t, rfl, h2⟩ := ix_p1i_s h
    cases h2
    exact lv_i2l hx hb hd rfl (kk _ hl)
  · obtain rfl : ln = 1 := by simpa [ix_len, eq_comm] using hln
    obtain ⟨x, t, rfl, h2⟩ := ix_p1l_s h
    cases h2
    exact lv_l2i hx hb hd rfl (kk _ hl)
  · obtain rfl : ln = 1 := by simpa [ix_len, eq_comm] using hln
    obtain ⟨x, t, rfl, h2⟩ := ix_p1i_s h
    cases h2
    exact lv_i2c hx hb hd rfl (kk _ hl)
  · obtain rfl : ln = 1 := by simpa [ix_len, eq_comm] using hln
    obtain ⟨x, t, rfl, h2⟩ := ix_p1i_s h
    cases h2
    exact lv_i2b hx hb hd rfl (kk _ hl)
  -- dup
  · obtain rfl : ln = 1 := by simpa [ix_len, eq_comm] using hln
    split at h
    · split at h
      · cases h
        exact lv_dup hx hb hd (by rw [ix_sh_cat]; assumption) (kk _ hl)
      · cases h
    · cases h
  · obtain rfl : ln = 1 := by simpa [ix_len, eq_comm] using hln
    split at h
    · split at h
      next hc =>
        cases h
        exact lv_dup2_11 hx hb hd (by rw [ix_sh_cat]; exact hc.1) (by rw [ix_sh_cat]; exact hc.2) (kk _ hl)
      · cases h
    · cases h
  · obtain rfl : ln = 1 := by simpa [ix_len, eq_comm] using hln
    split at h
    · split at h
      · cases h
        exact lv_pop hx hb hd (by rw [ix_sh_cat]; assumption) (kk _ hl)
      · cases h
    · cases h
  · obtain rfl : ln = 3 := by simpa [ix_len, eq_comm] using hln
    obtain ⟨x, t, rfl, h2⟩ := ix_p1i_s h
    obtain ⟨tg, ht, rfl, rfl, rfl⟩ := ix_br_s h2
    exact lv_if_eq (tgt := tg) hx hb hd ht (fun q => by have k9 := kk _ hl; simp only [q, decide_true, if_true, not_false_eq_true] at k9; exact k9) (fun q => by have k9 := kk _ hl; simp only [q, decide_false, Bool.false_eq_true, if_false, not_true_eq_false] at k9; exact k9)
  · obtain rfl : ln = 3 := by simpa [ix_len, eq_comm] using hln
    obtain ⟨x, t, rfl, h2⟩ := ix_p1i_s h
    obtain ⟨tg, ht, rfl, rfl, rfl⟩ := ix_br_s h2
    exact lv_if_ne (tgt := tg) hx hb hd ht (fun q => by have k9 := kk _ hl; simp only [q, decide_true, if_true, not_false_eq_true] at k9; exact k9) (fun q => by have k9 := kk _ hl; simp only [q, decide_false, Bool.false_eq_true, if_false, not_true_eq_false] at k9; exact k9)
  · obtain rfl : ln = 3 := by simpa [ix_len, eq_comm] using hln
    obtain ⟨x, t, rfl, h2⟩ := ix_p1i_s h
    obtain ⟨tg, ht, rfl, rfl, rfl⟩ := ix_br_s h2
    exact lv_if_lt (tgt := tg) hx hb hd ht (fun q => by have k9 := kk _ hl; simp only [q, decide_true, if_true, not_false_eq_true] at k9; exact k9) (fun q => by have k9 := kk _ hl; simp only [q, decide_false, Bool.false_eq_true, if_false, not_true_eq_false] at k9; exact k9)
  · obtain rfl : ln = 3 := by simpa [ix_len, eq_comm] using hln
    obtain ⟨x, t, rfl, h2⟩ := ix_p1i_s h
    obtain ⟨tg, ht, rfl, rfl, rfl⟩ := ix_br_s h2
    exact lv_if_ge (tgt := tg) hx hb hd ht (fun q => by have k9 := kk _ hl; simp only [q, decide_true, if_true, not_false_eq_true] at k9; exact k9) (fun q => by have k9 := kk _ hl; simp only [q, decide_false, Bool.false_eq_true, if_false, not_true_eq_false] at k9; exact k9)
  · obtain rfl : ln = 3 := by simpa [ix_len, eq_comm] using hln
    obtain ⟨x, t, rfl, h2⟩ := ix_p1i_s h
    obtain ⟨tg, ht, rfl, rfl, rfl⟩ := ix_br_s h2
    exact lv_if_gt (tgt := tg) hx hb hd ht (fun q => by have k9 := kk _ hl; simp only [q, decide_true, if_true, not_false_eq_true] at k9; exact k9) (fun q => by have k9 := kk _ hl; simp only [q, decide_false, Bool.false_eq_true, if_false, not_true_eq_false] at k9; exact k9)
  · obtain rfl : ln = 3 := by simpa [ix_len, eq_comm] using hln
    obtain ⟨x, t, rfl, h2⟩ := ix_p1i_s h
    obtain ⟨tg, ht, rfl, rfl, rfl⟩ := ix_br_s h2
    exact lv_if_le (tgt := tg) hx hb hd ht (fun q => by have k9 := kk _ hl; simp only [q, decide_true, if_true, not_false_eq_true] at k9; exact k9) (fun q => by have k9 := kk _ hl; simp only [q, decide_false, Bool.false_eq_true, if_false, not_true_eq_false] at k9; exact k9)
  · obtain rfl : ln = 3 := by simpa [ix_len, eq_comm] using hln
    obtain ⟨x, y, t, rfl, h2⟩ := ix_p2i_s h
    obtain ⟨tg, ht, rfl, rfl, rfl⟩ := ix_br_s h2
    exact lv_icmp_eq (tgt := tg) hx hb hd ht (fun q => by have k9 := kk _ hl; simp only [q, decide_true, if_true, not_false_eq_true] at k9; exact k9) (fun q => by have k9 := kk _ hl; simp only [q, decide_false, Bool.false_eq_true, if_false, not_true_eq_false] at k9; exact k9)
  · obtain rfl : ln = 3 := by simpa [ix_len, eq_comm] using hln
    obtain ⟨x, y, t, rfl, h2⟩ := ix_p2i_s h
    obtain ⟨tg, ht, rfl, rfl, rfl⟩ := ix_br_s h2
    exact lv_icmp_ne (tgt := tg) hx hb hd ht (fun q => by have k9 := kk _ hl; simp only [q, decide_true, if_true, not_false_eq_true] at k9; exact k9) (fun q => by have k9 := kk _ hl; simp only [q, decide_false, Bool.false_eq_true, if_false, not_true_eq_false] at k9; exact k9)
  · obtain rfl : ln = 3 := by simpa [ix_len, eq_comm] using hln
    obtain ⟨x, y, t, rfl, h2⟩ := ix_p2i_s h
    obtain ⟨tg, ht, rfl, rfl, rfl⟩ := ix_br_s h2
    exact lv_icmp_lt (tgt := tg) hx hb hd ht (fun q => by have k9 := kk _ hl; simp only [q, decide_true, if_true, not_false_eq_true] at k9; exact k9) (fun q => by have k9 := kk _ hl; simp only [q, decide_false, Bool.false_eq_true, if_false, not_true_eq_false] at k9; exact k9)
  · obtain rfl : ln = 3 := by simpa [ix_len, eq_comm] using hln
    obtain ⟨x, y, t, rfl, h2⟩ := ix_p2i_s h
    obtain ⟨tg, ht, rfl, rfl, rfl⟩ := ix_br_s h2
    exact lv_icmp_ge (tgt := tg) hx hb hd ht (fun q => by have k9 := kk _ hl; simp only [q, decide_true, if_true, not_false_eq_true] at k9; exact k9) (fun q => by have k9 := kk _ hl; simp only [q, decide_false, Bool.false_eq_true, if_false, not_true_eq_false] at k9; exact k9)
  · obtain rfl : ln = 3 := by simpa [ix_len, eq_comm] using hln
    obtain ⟨x, y, t, rfl, h2⟩ := ix_p2i_s h
    obtain ⟨tg, ht, rfl, rfl, rfl⟩ := ix_br_s h2
    exact lv_icmp_gt (tgt := tg) hx hb hd ht (fun q => by have k9 := kk _ hl; simp only [q, decide_true, if_true, not_false_eq_true] at k9; exact k9) (fun q => by have k9 := kk _ hl; simp only [q, decide_false, Bool.false_eq_true, if_false, not_true_eq_false] at k9; exact k9)
  · obtain rfl : ln = 3 := by simpa [ix_len, eq_comm] using hln
    obtain ⟨x, y, t, rfl, h2⟩ := ix_p2i_s h
    obtain ⟨tg, ht, rfl, rfl, rfl⟩ := ix_br_s h2
    exact lv_icmp_le (tgt := tg) hx hb hd ht (fun q => by have k9 := kk _ hl; simp only [q, decide_true, if_true, not_false_eq_true] at k9; exact k9) (fun q => by have k9 := kk _ hl; simp only [q, decide_false, Bool.false_eq_true, if_false, not_true_eq_false] at k9; exact k9)
  -- goto
  · obtain rfl : ln = 3 := by simpa [ix_len, eq_comm] using hln
    obtain ⟨tg, ht, rfl, rfl, rfl⟩ := ix_br_s h
    exact lv_goto hx hb hd ht (kk _ hl)
  · obtain rfl : ln = 3 := by simpa [ix_len, eq_comm] using hln
    split at h
    · obtain ⟨tg, ht, rfl, rfl, rfl⟩ := ix_br_s h
      exact lv_ifnonnull hx hb hd ht (kk _ hl)
    · cases h
      exact lv_ifnonnullN hx hb hd (kk _ hl)
    · cases h
  · obtain ⟨x, t, rfl, h2⟩ := ix_p1i_s h
    split at h2
    next hq =>
      obtain ⟨tg, ht, rfl, rfl, rfl⟩ := ix_br_s h2
      exact lv_tableOut hx hb hd hq ht (kk _ hl)
    next hq =>
      obtain ⟨o, h3, h4⟩ := Option.bind_eq_some_iff.mp h2
      obtain ⟨tg, ht, rfl, rfl, rfl⟩ := ix_br_s h4
      exact lv_tableIn hx hb hd (fun q => hq (Or.inl q)) (fun q => hq (Or.inr q)) h3 ht (kk _ hl)
  · obtain ⟨x, t, rfl, h2⟩ := ix_p1i_s h
    obtain ⟨tg, ht, rfl, rfl, rfl⟩ := ix_br_s h2
    exact lv_lookup hx hb hd (hsw _ _ rfl) rfl ht (kk _ hl)
  · cases h
end IXW
