/-! PRINTED by wip/whole/gen6.py: words of the equations -/
def ix_shl (x : Int64) (y : Int32) : Int64 := x <<< (y.toInt64 &&& 63)
def ix_shr (x : Int64) (y : Int32) : Int64 := x >>> (y.toInt64 &&& 63)
def ix_ush (x : Int64) (y : Int32) : Int64 := (x.toUInt64 >>> (y.toInt64.toUInt64 &&& Int64.toUInt64 63)).toInt64
def ix_ishl (x y : Int32) : Int32 := x <<< (y &&& 31)
def ix_ishr (x y : Int32) : Int32 := x >>> (y &&& 31)
def ix_iush (x y : Int32) : Int32 := (x.toUInt32 >>> (y.toUInt32 &&& Int32.toUInt32 31)).toInt32
def ix_rem (x y : Int32) : Int32 := x - x / y * y
def ix_i2c (x : Int32) : Int32 := (x.toUInt32 % 65536).toInt32
def ix_i2b (x : Int32) : Int32 := x.toInt8.toInt32
def ix_mx (x y : Int32) : Int32 := if x < y then y else x
def ix_mn (x y : Int32) : Int32 := if y < x then y else x
def ix_oq {β : Type} (x : Option Nat) (a : β) (b : Nat → β) : β := match x with
  | none => a
  | some y => b y
theorem ix_ent_i {mj a : Nat} {t : List Value} {r : ixM} {h : ixH} {L0 : ixL} (hq : ix_mt[mj]? = some r) (hi : r.2.2.2.2.2.2.2.1 = 1) (hr : ix_rc h a = some r.2.2.2.2.1) (hl : t.length = r.2.2.2.2.2.2.1) (hb : (ix_al0 (.ref a :: t)).length ≤ r.2.2.1) (hL : ix_pad r.2.2.1 (ix_al0 (.ref a :: t)) = L0) : ix_ent mj (.ref a :: t) h = some L0 := by
  have e : ix_rok r (.ref a :: t) h = true := by
    unfold ix_rok
    rw [hi]
    show (decide (ix_rc h a = some r.2.2.2.2.1) && decide (t.length = r.2.2.2.2.2.2.1)) = true
    rw [decide_eq_true hr, decide_eq_true hl]
    rfl
  unfold ix_ent
  rw [hq, Option.bind_some, e, decide_eq_true hb, hL]
  rfl
theorem ix_ent_c {mj a : Nat} {t : List Value} {r : ixM} {h : ixH} {L0 : ixL} (hq : ix_mt[mj]? = some r) (hi : r.2.2.2.2.2.2.2.1 = 2) (hl : t.length = r.2.2.2.2.2.2.1) (hb : (ix_al0 (.ref a :: t)).length ≤ r.2.2.1) (hL : ix_pad r.2.2.1 (ix_al0 (.ref a :: t)) = L0) : ix_ent mj (.ref a :: t) h = some L0 := by
  have e : ix_rok r (.ref a :: t) h = true := by
    unfold ix_rok
    rw [hi]
    show decide (t.length = r.2.2.2.2.2.2.1) = true
    exact decide_eq_true hl
  unfold ix_ent
  rw [hq, Option.bind_some, e, decide_eq_true hb, hL]
  rfl
theorem ix_ent_s {mj : Nat} {t : List Value} {r : ixM} {h : ixH} {L0 : ixL} (hq : ix_mt[mj]? = some r) (hi : r.2.2.2.2.2.2.2.1 = 0) (hl : t.length = r.2.2.2.2.2.2.1) (hb : (ix_al0 t).length ≤ r.2.2.1) (hL : ix_pad r.2.2.1 (ix_al0 t) = L0) : ix_ent mj t h = some L0 := by
  have e : ix_rok r t h = true := by
    unfold ix_rok
    rw [hi]
    show decide (t.length = r.2.2.2.2.2.2.1) = true
    exact decide_eq_true hl
  unfold ix_ent
  rw [hq, Option.bind_some, e, decide_eq_true hb, hL]
  rfl
theorem ix_okrI {mj : Nat} (hk : ix_rk mj = 1 ∨ ix_rk mj = 4) (v : Int32) : ix_okr (ix_rk mj) [.int v] = true := by rcases hk with e | e <;> rw [e] <;> rfl
theorem ix_okrL {mj : Nat} (hk : ix_rk mj = 2) (v : Int64) : ix_okr (ix_rk mj) [.long v] = true := by rw [hk]; rfl
theorem ix_okrV {mj : Nat} (hk : ix_rk mj = 0) : ix_okr (ix_rk mj) [] = true := by rw [hk]; rfl
theorem ix_okrZ {mj : Nat} (hk : ix_rk mj = 3) (b : Bool) : ix_okr (ix_rk mj) [.int (ix_bi b)] = true := by rw [hk]; cases b <;> rfl
theorem ix_D_none {mi pc pc' : Nat} {i : Instr} {k : Option (List Bool)} {aux : List Nat} {z : Int} {L : ixL} {st : List Value} {h : ixH} (hc : ix_nx mi pc = some (9, i, pc', k, aux, z)) : ix_D mi pc L st h = none := by
  have e : ix_stp mi pc L st h = none := by
    unfold ix_stp
    rw [hc]
    cases ix_mt[mi]? <;> rfl
  rw [ix_D_eq, e]
section IXN
variable {mi pc pc' : Nat} {q : ixM} {k : Option (List Bool)} {aux : List Nat} {z : Int} {L : ixL} {st : List Value} {h : ixH} {X : Option (List Value × ixH)}
theorem ix_K_naI {n : Int32} {N : Nat} (hq : ix_mt[mi]? = some q) (hc : ix_nx mi pc = some (2, .newarray .int, pc', k, aux, z)) (hm : ix_mk k L = L) (hn : ¬ n < 0) (hN : n.toNatClampNeg = N) (hb : N ≤ 65536) (kk : ix_D mi pc' L (.ref h.1 :: st) (ix_nw h (.inl (0, N, .inl fun _ => 0)) N) = X) : ix_D mi pc L (.int n :: st) h = X := by
  subst hN
  exact ix_K_nw hq hc hm (show ix_wr (.newarray .int) aux (.int n :: st) h = _ from if_pos ⟨hn, hb⟩) kk
theorem ix_K_naL {n : Int32} {N : Nat} (hq : ix_mt[mi]? = some q) (hc : ix_nx mi pc = some (2, .newarray .long, pc', k, aux, z)) (hm : ix_mk k L = L) (hn : ¬ n < 0) (hN : n.toNatClampNeg = N) (hb : N ≤ 65536) (kk : ix_D mi pc' L (.ref h.1 :: st) (ix_nw h (.inl (1, N, .inr (.inl fun _ => 0))) N) = X) : ix_D mi pc L (.int n :: st) h = X := by
  subst hN
  exact ix_K_nw hq hc hm (show ix_wr (.newarray .long) aux (.int n :: st) h = _ from if_pos ⟨hn, hb⟩) kk
theorem ix_K_naZ {n : Int32} {N : Nat} (hq : ix_mt[mi]? = some q) (hc : ix_nx mi pc = some (2, .newarray .boolean, pc', k, aux, z)) (hm : ix_mk k L = L) (hn : ¬ n < 0) (hN : n.toNatClampNeg = N) (hb : N ≤ 65536) (kk : ix_D mi pc' L (.ref h.1 :: st) (ix_nw h (.inl (2, N, .inl fun _ => 0)) N) = X) : ix_D mi pc L (.int n :: st) h = X := by
  subst hN
  exact ix_K_nw hq hc hm (show ix_wr (.newarray .boolean) aux (.int n :: st) h = _ from if_pos ⟨hn, hb⟩) kk
theorem ix_K_naQ {n : Int32} {N i t w : Nat} (hq : ix_mt[mi]? = some q) (hc : ix_nx mi pc = some (2, .anewarray i, pc', k, [t, w], z)) (hm : ix_mk k L = L) (hn : ¬ n < 0) (hN : n.toNatClampNeg = N) (hb : N ≤ 65536) (kk : ix_D mi pc' L (.ref h.1 :: st) (ix_nw h (.inl (t, N, .inr (.inr (.inr (.inr fun _ => none))))) N) = X) : ix_D mi pc L (.int n :: st) h = X := by
  subst hN
  exact ix_K_nw hq hc hm (show ix_wr (.anewarray i) [t, w] (.int n :: st) h = _ from if_pos ⟨hn, hb⟩) kk
end IXN
theorem kci_m1 : Int32.ofInt (-1) = (-1) := by decide
theorem kci_0 : Int32.ofInt 0 = 0 := by decide
theorem kci_1 : Int32.ofInt 1 = 1 := by decide
theorem kci_2 : Int32.ofInt 2 = 2 := by decide
theorem kci_3 : Int32.ofInt 3 = 3 := by decide
theorem kci_4 : Int32.ofInt 4 = 4 := by decide
theorem kci_5 : Int32.ofInt 5 = 5 := by decide
theorem kcb_m6 : (Int8.ofInt (-6)).toInt32 = (-6) := by decide
theorem kcb_m5 : (Int8.ofInt (-5)).toInt32 = (-5) := by decide
theorem kcb_m4 : (Int8.ofInt (-4)).toInt32 = (-4) := by decide
theorem kcb_m3 : (Int8.ofInt (-3)).toInt32 = (-3) := by decide
theorem kcb_m2 : (Int8.ofInt (-2)).toInt32 = (-2) := by decide
theorem kcb_6 : (Int8.ofInt 6).toInt32 = 6 := by decide
theorem kcb_7 : (Int8.ofInt 7).toInt32 = 7 := by decide
theorem kcb_8 : (Int8.ofInt 8).toInt32 = 8 := by decide
theorem kcb_9 : (Int8.ofInt 9).toInt32 = 9 := by decide
theorem kcb_12 : (Int8.ofInt 12).toInt32 = 12 := by decide
theorem kcb_16 : (Int8.ofInt 16).toInt32 = 16 := by decide
theorem kcb_31 : (Int8.ofInt 31).toInt32 = 31 := by decide
theorem kcb_32 : (Int8.ofInt 32).toInt32 = 32 := by decide
theorem kcb_33 : (Int8.ofInt 33).toInt32 = 33 := by decide
theorem kcb_47 : (Int8.ofInt 47).toInt32 = 47 := by decide
theorem kcb_63 : (Int8.ofInt 63).toInt32 = 63 := by decide
theorem kcb_64 : (Int8.ofInt 64).toInt32 = 64 := by decide
theorem kcb_65 : (Int8.ofInt 65).toInt32 = 65 := by decide
theorem kcb_66 : (Int8.ofInt 66).toInt32 = 66 := by decide
theorem kcb_80 : (Int8.ofInt 80).toInt32 = 80 := by decide
theorem kcb_81 : (Int8.ofInt 81).toInt32 = 81 := by decide
theorem kcb_126 : (Int8.ofInt 126).toInt32 = 126 := by decide
theorem kcb_127 : (Int8.ofInt 127).toInt32 = 127 := by decide
theorem kcs_128 : (Int16.ofInt 128).toInt32 = 128 := by decide
theorem kcs_130 : (Int16.ofInt 130).toInt32 = 130 := by decide
theorem kcs_200 : (Int16.ofInt 200).toInt32 = 200 := by decide
theorem kcs_255 : (Int16.ofInt 255).toInt32 = 255 := by decide
theorem kcs_256 : (Int16.ofInt 256).toInt32 = 256 := by decide
theorem kcs_386 : (Int16.ofInt 386).toInt32 = 386 := by decide
theorem kcs_387 : (Int16.ofInt 387).toInt32 = 387 := by decide
theorem kcs_395 : (Int16.ofInt 395).toInt32 = 395 := by decide
theorem kcs_720 : (Int16.ofInt 720).toInt32 = 720 := by decide
theorem kcs_729 : (Int16.ofInt 729).toInt32 = 729 := by decide
theorem kcs_1440 : (Int16.ofInt 1440).toInt32 = 1440 := by decide
theorem kcs_4095 : (Int16.ofInt 4095).toInt32 = 4095 := by decide
theorem kcs_4096 : (Int16.ofInt 4096).toInt32 = 4096 := by decide
theorem kcs_6561 : (Int16.ofInt 6561).toInt32 = 6561 := by decide
theorem kc2_m1000000000000000001 : Int64.ofInt (-1000000000000000001) = (-1000000000000000001) := by decide
theorem kc2_m1 : Int64.ofInt (-1) = (-1) := by decide
theorem kc2_255 : Int64.ofInt 255 = 255 := by decide
theorem kc2_4294967295 : Int64.ofInt 4294967295 = 4294967295 := by decide
theorem kc2_1085102592571150095 : Int64.ofInt 1085102592571150095 = 1085102592571150095 := by decide
theorem kc2_3689348814741910323 : Int64.ofInt 3689348814741910323 = 3689348814741910323 := by decide
theorem kc2_6148914691236517205 : Int64.ofInt 6148914691236517205 = 6148914691236517205 := by decide
theorem kcw_252645135 : Int32.ofInt 252645135 = 252645135 := by decide
theorem kcw_858993459 : Int32.ofInt 858993459 = 858993459 := by decide
theorem kcw_1431655765 : Int32.ofInt 1431655765 = 1431655765 := by decide
theorem kcl_0 : Int64.ofNat ((0 : Fin 2) : Nat) = 0 := by decide
theorem kcl_1 : Int64.ofNat ((1 : Fin 2) : Nat) = 1 := by decide
theorem kna_2 : ¬ (2 : Int32) < 0 := by decide
theorem knb_2 : (2 : Int32).toNatClampNeg = 2 := by decide
theorem kna_4 : ¬ (4 : Int32) < 0 := by decide
theorem knb_4 : (4 : Int32).toNatClampNeg = 4 := by decide
theorem kna_5 : ¬ (5 : Int32) < 0 := by decide
theorem knb_5 : (5 : Int32).toNatClampNeg = 5 := by decide
theorem kna_16 : ¬ (16 : Int32) < 0 := by decide
theorem knb_16 : (16 : Int32).toNatClampNeg = 16 := by decide
theorem kna_64 : ¬ (64 : Int32) < 0 := by decide
theorem knb_64 : (64 : Int32).toNatClampNeg = 64 := by decide
theorem kna_80 : ¬ (80 : Int32) < 0 := by decide
theorem knb_80 : (80 : Int32).toNatClampNeg = 80 := by decide
theorem kna_128 : ¬ (128 : Int32) < 0 := by decide
theorem knb_128 : (128 : Int32).toNatClampNeg = 128 := by decide
theorem kna_130 : ¬ (130 : Int32) < 0 := by decide
theorem knb_130 : (130 : Int32).toNatClampNeg = 130 := by decide
theorem kna_256 : ¬ (256 : Int32) < 0 := by decide
theorem knb_256 : (256 : Int32).toNatClampNeg = 256 := by decide
theorem kna_720 : ¬ (720 : Int32) < 0 := by decide
theorem knb_720 : (720 : Int32).toNatClampNeg = 720 := by decide
theorem kna_1440 : ¬ (1440 : Int32) < 0 := by decide
theorem knb_1440 : (1440 : Int32).toNatClampNeg = 1440 := by decide
theorem kna_4096 : ¬ (4096 : Int32) < 0 := by decide
theorem knb_4096 : (4096 : Int32).toNatClampNeg = 4096 := by decide
theorem kna_6561 : ¬ (6561 : Int32) < 0 := by decide
theorem knb_6561 : (6561 : Int32).toNatClampNeg = 6561 := by decide
set_option maxRecDepth 20000 in
theorem kq_RP_init : ix_mt[mRP_init]? = some ix_m0 := rfl
set_option maxRecDepth 20000 in
theorem kq_RP_bit : ix_mt[mRP_bit]? = some ix_m1 := rfl
set_option maxRecDepth 20000 in
theorem kq_RP_setUp : ix_mt[mRP_setUp]? = some ix_m2 := rfl
set_option maxRecDepth 20000 in
theorem kq_RP_isSide : ix_mt[mRP_isSide]? = some ix_m3 := rfl
set_option maxRecDepth 20000 in
theorem kq_RP_wall : ix_mt[mRP_wall]? = some ix_m4 := rfl
set_option maxRecDepth 20000 in
theorem kq_RP_isFlag : ix_mt[mRP_isFlag]? = some ix_m5 := rfl
set_option maxRecDepth 20000 in
theorem kq_RP_size : ix_mt[mRP_size]? = some ix_m6 := rfl
set_option maxRecDepth 20000 in
theorem kq_RP_role : ix_mt[mRP_role]? = some ix_m7 := rfl
set_option maxRecDepth 20000 in
theorem kq_RP_holds : ix_mt[mRP_holds]? = some ix_m8 := rfl
set_option maxRecDepth 20000 in
theorem kq_RP_wire : ix_mt[mRP_wire]? = some ix_m9 := rfl
set_option maxRecDepth 20000 in
theorem kq_RP_isLever : ix_mt[mRP_isLever]? = some ix_m10 := rfl
set_option maxRecDepth 20000 in
theorem kq_RP_turn : ix_mt[mRP_turn]? = some ix_m11 := rfl
set_option maxRecDepth 20000 in
theorem kq_RP_cell : ix_mt[mRP_cell]? = some ix_m12 := rfl
set_option maxRecDepth 20000 in
theorem kq_RP_flag : ix_mt[mRP_flag]? = some ix_m13 := rfl
set_option maxRecDepth 20000 in
theorem kq_RP_smallestPass : ix_mt[mRP_smallestPass]? = some ix_m14 := rfl
set_option maxRecDepth 20000 in
theorem kq_RP_firstGroup : ix_mt[mRP_firstGroup]? = some ix_m15 := rfl
set_option maxRecDepth 20000 in
theorem kq_RP_lowest : ix_mt[mRP_lowest]? = some ix_m16 := rfl
set_option maxRecDepth 20000 in
theorem kq_RP_isInSomeGreatestGroup : ix_mt[mRP_isInSomeGreatestGroup]? = some ix_m17 := rfl
set_option maxRecDepth 20000 in
theorem kq_RP_put : ix_mt[mRP_put]? = some ix_m18 := rfl
set_option maxRecDepth 20000 in
theorem kq_RP_wipe : ix_mt[mRP_wipe]? = some ix_m19 := rfl
set_option maxRecDepth 20000 in
theorem kq_RP_fault : ix_mt[mRP_fault]? = some ix_m20 := rfl
set_option maxRecDepth 20000 in
theorem kq_RP_load : ix_mt[mRP_load]? = some ix_m21 := rfl
set_option maxRecDepth 20000 in
theorem kq_RP_falling : ix_mt[mRP_falling]? = some ix_m22 := rfl
set_option maxRecDepth 20000 in
theorem kq_RP_pair : ix_mt[mRP_pair]? = some ix_m23 := rfl
set_option maxRecDepth 20000 in
theorem kq_RP_unpair : ix_mt[mRP_unpair]? = some ix_m24 := rfl
set_option maxRecDepth 20000 in
theorem kq_RP_tuples : ix_mt[mRP_tuples]? = some ix_m25 := rfl
set_option maxRecDepth 20000 in
theorem kq_RP_determinant : ix_mt[mRP_determinant]? = some ix_m26 := rfl
set_option maxRecDepth 20000 in
theorem kq_RP_steps : ix_mt[mRP_steps]? = some ix_m27 := rfl
set_option maxRecDepth 20000 in
theorem kq_RP_shortest : ix_mt[mRP_shortest]? = some ix_m28 := rfl
set_option maxRecDepth 20000 in
theorem kq_RP_flow : ix_mt[mRP_flow]? = some ix_m29 := rfl
set_option maxRecDepth 20000 in
theorem kq_RP_pass : ix_mt[mRP_pass]? = some ix_m30 := rfl
set_option maxRecDepth 20000 in
theorem kq_RP_member : ix_mt[mRP_member]? = some ix_m31 := rfl
set_option maxRecDepth 20000 in
theorem kq_RP_changed : ix_mt[mRP_changed]? = some ix_m32 := rfl
set_option maxRecDepth 20000 in
theorem kq_RP_bestTurns : ix_mt[mRP_bestTurns]? = some ix_m33 := rfl
set_option maxRecDepth 20000 in
theorem kq_RP_cover : ix_mt[mRP_cover]? = some ix_m34 := rfl
set_option maxRecDepth 20000 in
theorem kq_RP_group : ix_mt[mRP_group]? = some ix_m35 := rfl
set_option maxRecDepth 20000 in
theorem kq_RP_step : ix_mt[mRP_step]? = some ix_m36 := rfl
set_option maxRecDepth 20000 in
theorem kq_RP_isSlot : ix_mt[mRP_isSlot]? = some ix_m37 := rfl
set_option maxRecDepth 20000 in
theorem kq_RP_back : ix_mt[mRP_back]? = some ix_m38 := rfl
set_option maxRecDepth 20000 in
theorem kq_RP_route : ix_mt[mRP_route]? = some ix_m39 := rfl
set_option maxRecDepth 20000 in
theorem kq_RP_about : ix_mt[mRP_about]? = some ix_m40 := rfl
set_option maxRecDepth 20000 in
theorem kq_RP_isValid : ix_mt[mRP_isValid]? = some ix_m41 := rfl
set_option maxRecDepth 20000 in
theorem kq_RP_isProof : ix_mt[mRP_isProof]? = some ix_m42 := rfl
set_option maxRecDepth 20000 in
theorem kq_RP_slotsMet : ix_mt[mRP_slotsMet]? = some ix_m43 := rfl
set_option maxRecDepth 20000 in
theorem kq_RP_meeting : ix_mt[mRP_meeting]? = some ix_m44 := rfl
set_option maxRecDepth 20000 in
theorem kq_RP_meetingOf : ix_mt[mRP_meetingOf]? = some ix_m45 := rfl
set_option maxRecDepth 20000 in
theorem kq_RP_exchange : ix_mt[mRP_exchange]? = some ix_m46 := rfl
set_option maxRecDepth 20000 in
theorem kq_RP_swapTails : ix_mt[mRP_swapTails]? = some ix_m47 := rfl
set_option maxRecDepth 20000 in
theorem kq_RP_check : ix_mt[mRP_check]? = some ix_m48 := rfl
set_option maxRecDepth 20000 in
theorem kq_RP_cellsOn : ix_mt[mRP_cellsOn]? = some ix_m49 := rfl
set_option maxRecDepth 20000 in
theorem kq_RP_areProof : ix_mt[mRP_areProof]? = some ix_m50 := rfl
set_option maxRecDepth 20000 in
theorem kq_RP_count : ix_mt[mRP_count]? = some ix_m51 := rfl
set_option maxRecDepth 20000 in
theorem kq_RP_save : ix_mt[mRP_save]? = some ix_m52 := rfl
set_option maxRecDepth 20000 in
theorem kq_RP_isPlace : ix_mt[mRP_isPlace]? = some ix_m53 := rfl
set_option maxRecDepth 20000 in
theorem kq_RP_restore : ix_mt[mRP_restore]? = some ix_m54 := rfl
set_option maxRecDepth 20000 in
theorem kq_Bd_init : ix_mt[mBd_init]? = some ix_m55 := rfl
set_option maxRecDepth 20000 in
theorem kq_Bd_begin : ix_mt[mBd_begin]? = some ix_m56 := rfl
set_option maxRecDepth 20000 in
theorem kq_Bd_addPair : ix_mt[mBd_addPair]? = some ix_m57 := rfl
set_option maxRecDepth 20000 in
theorem kq_Bd_slotsInUse : ix_mt[mBd_slotsInUse]? = some ix_m58 := rfl
set_option maxRecDepth 20000 in
theorem kq_Bd_copyFrom : ix_mt[mBd_copyFrom]? = some ix_m59 := rfl
set_option maxRecDepth 20000 in
theorem kq_Gr_init : ix_mt[mGr_init]? = some ix_m60 := rfl
set_option maxRecDepth 20000 in
theorem kq_Gr_shape : ix_mt[mGr_shape]? = some ix_m61 := rfl
set_option maxRecDepth 20000 in
theorem kq_Gr_size : ix_mt[mGr_size]? = some ix_m62 := rfl
set_option maxRecDepth 20000 in
theorem kq_Gr_has : ix_mt[mGr_has]? = some ix_m63 := rfl
set_option maxRecDepth 20000 in
theorem kq_Gr_roleOf : ix_mt[mGr_roleOf]? = some ix_m64 := rfl
set_option maxRecDepth 20000 in
theorem kq_Gr_give : ix_mt[mGr_give]? = some ix_m65 := rfl
set_option maxRecDepth 20000 in
theorem kq_Gr_leversOf : ix_mt[mGr_leversOf]? = some ix_m66 := rfl
set_option maxRecDepth 20000 in
theorem kq_Gr_around : ix_mt[mGr_around]? = some ix_m67 := rfl
set_option maxRecDepth 20000 in
theorem kq_Gr_fall : ix_mt[mGr_fall]? = some ix_m68 := rfl
set_option maxRecDepth 20000 in
theorem kq_Gr_rise : ix_mt[mGr_rise]? = some ix_m69 := rfl
set_option maxRecDepth 20000 in
theorem kq_Gr_open : ix_mt[mGr_open]? = some ix_m70 := rfl
set_option maxRecDepth 20000 in
theorem kq_Gr_behind : ix_mt[mGr_behind]? = some ix_m71 := rfl
set_option maxRecDepth 20000 in
theorem kq_Gr_spread : ix_mt[mGr_spread]? = some ix_m72 := rfl
set_option maxRecDepth 20000 in
theorem kq_Gr_openWith : ix_mt[mGr_openWith]? = some ix_m73 := rfl
set_option maxRecDepth 20000 in
theorem kq_Gr_ahead : ix_mt[mGr_ahead]? = some ix_m74 := rfl
set_option maxRecDepth 20000 in
theorem kq_Gr_diagonalOf : ix_mt[mGr_diagonalOf]? = some ix_m75 := rfl
set_option maxRecDepth 20000 in
theorem kq_Gr_rowOf : ix_mt[mGr_rowOf]? = some ix_m76 := rfl
set_option maxRecDepth 20000 in
theorem kq_Gr_wallsTurned : ix_mt[mGr_wallsTurned]? = some ix_m77 := rfl
set_option maxRecDepth 20000 in
theorem kq_Gr_copyFrom : ix_mt[mGr_copyFrom]? = some ix_m78 := rfl
set_option maxRecDepth 20000 in
theorem kq_Rt_init : ix_mt[mRt_init]? = some ix_m79 := rfl
set_option maxRecDepth 20000 in
theorem kq_Rt_keep : ix_mt[mRt_keep]? = some ix_m80 := rfl
set_option maxRecDepth 20000 in
theorem kq_Rt_firstCells : ix_mt[mRt_firstCells]? = some ix_m81 := rfl
set_option maxRecDepth 20000 in
theorem kq_Rt_at : ix_mt[mRt_at]? = some ix_m82 := rfl
set_option maxRecDepth 20000 in
theorem kq_Rt_last : ix_mt[mRt_last]? = some ix_m83 := rfl
set_option maxRecDepth 20000 in
theorem kq_Rt_append : ix_mt[mRt_append]? = some ix_m84 := rfl
set_option maxRecDepth 20000 in
theorem kq_Rt_onlyRises : ix_mt[mRt_onlyRises]? = some ix_m85 := rfl
set_option maxRecDepth 20000 in
theorem kq_Rt_indexOf : ix_mt[mRt_indexOf]? = some ix_m86 := rfl
set_option maxRecDepth 20000 in
theorem kq_Rt_copyFrom : ix_mt[mRt_copyFrom]? = some ix_m87 := rfl
set_option maxRecDepth 20000 in
theorem kq_Rt_appendFrom : ix_mt[mRt_appendFrom]? = some ix_m88 := rfl
set_option maxRecDepth 20000 in
theorem kq_Pa_init : ix_mt[mPa_init]? = some ix_m89 := rfl
set_option maxRecDepth 20000 in
theorem kq_Pa_lengthOf : ix_mt[mPa_lengthOf]? = some ix_m90 := rfl
set_option maxRecDepth 20000 in
theorem kq_Pa_hasSpaceFor : ix_mt[mPa_hasSpaceFor]? = some ix_m91 := rfl
set_option maxRecDepth 20000 in
theorem kq_Pa_append : ix_mt[mPa_append]? = some ix_m92 := rfl
set_option maxRecDepth 20000 in
theorem kq_Pa_firstFault : ix_mt[mPa_firstFault]? = some ix_m93 := rfl
set_option maxRecDepth 20000 in
theorem kq_Pa_codeAt : ix_mt[mPa_codeAt]? = some ix_m94 := rfl
set_option maxRecDepth 20000 in
theorem kq_Pa_kindAt : ix_mt[mPa_kindAt]? = some ix_m95 := rfl
set_option maxRecDepth 20000 in
theorem kq_Pa_gridWidth : ix_mt[mPa_gridWidth]? = some ix_m96 := rfl
set_option maxRecDepth 20000 in
theorem kq_Pa_gridHeight : ix_mt[mPa_gridHeight]? = some ix_m97 := rfl
set_option maxRecDepth 20000 in
theorem kq_Pa_fill : ix_mt[mPa_fill]? = some ix_m98 := rfl
set_option maxRecDepth 20000 in
theorem kq_De_init : ix_mt[mDe_init]? = some ix_m99 := rfl
set_option maxRecDepth 20000 in
theorem kq_De_spread : ix_mt[mDe_spread]? = some ix_m100 := rfl
set_option maxRecDepth 20000 in
theorem kq_De_waysTo : ix_mt[mDe_waysTo]? = some ix_m101 := rfl
set_option maxRecDepth 20000 in
theorem kq_De_signedTally : ix_mt[mDe_signedTally]? = some ix_m102 := rfl
set_option maxRecDepth 20000 in
theorem kq_De_minor : ix_mt[mDe_minor]? = some ix_m103 := rfl
set_option maxRecDepth 20000 in
theorem kq_Wk_init : ix_mt[mWk_init]? = some ix_m104 := rfl
set_option maxRecDepth 20000 in
theorem kq_Wk_measure : ix_mt[mWk_measure]? = some ix_m105 := rfl
set_option maxRecDepth 20000 in
theorem kq_Wk_follow : ix_mt[mWk_follow]? = some ix_m106 := rfl
set_option maxRecDepth 20000 in
theorem kq_Sm_init : ix_mt[mSm_init]? = some ix_m107 := rfl
set_option maxRecDepth 20000 in
theorem kq_Sm_widen : ix_mt[mSm_widen]? = some ix_m108 := rfl
set_option maxRecDepth 20000 in
theorem kq_Sm_cut : ix_mt[mSm_cut]? = some ix_m109 := rfl
set_option maxRecDepth 20000 in
theorem kq_Sm_search : ix_mt[mSm_search]? = some ix_m110 := rfl
set_option maxRecDepth 20000 in
theorem kq_Sm_before : ix_mt[mSm_before]? = some ix_m111 := rfl
set_option maxRecDepth 20000 in
theorem kq_Sm_addRoute : ix_mt[mSm_addRoute]? = some ix_m112 := rfl
set_option maxRecDepth 20000 in
theorem kq_Sm_one : ix_mt[mSm_one]? = some ix_m113 := rfl
set_option maxRecDepth 20000 in
theorem kq_Sm_after : ix_mt[mSm_after]? = some ix_m114 := rfl
set_option maxRecDepth 20000 in
theorem kq_Sm_lead : ix_mt[mSm_lead]? = some ix_m115 := rfl
set_option maxRecDepth 20000 in
theorem kq_Sm_narrowest : ix_mt[mSm_narrowest]? = some ix_m116 := rfl
set_option maxRecDepth 20000 in
theorem kq_Ch_init : ix_mt[mCh_init]? = some ix_m117 := rfl
set_option maxRecDepth 20000 in
theorem kq_Ch_join : ix_mt[mCh_join]? = some ix_m118 := rfl
set_option maxRecDepth 20000 in
theorem kq_Ch_findAhead : ix_mt[mCh_findAhead]? = some ix_m119 := rfl
set_option maxRecDepth 20000 in
theorem kq_Ch_aheadOf : ix_mt[mCh_aheadOf]? = some ix_m120 := rfl
set_option maxRecDepth 20000 in
theorem kq_Ch_findLeader : ix_mt[mCh_findLeader]? = some ix_m121 := rfl
set_option maxRecDepth 20000 in
theorem kq_Ch_relink : ix_mt[mCh_relink]? = some ix_m122 := rfl
set_option maxRecDepth 20000 in
theorem kq_Ch_linkIn : ix_mt[mCh_linkIn]? = some ix_m123 := rfl
set_option maxRecDepth 20000 in
theorem kq_Ch_link : ix_mt[mCh_link]? = some ix_m124 := rfl
set_option maxRecDepth 20000 in
theorem kq_Ch_enqueueFollowers : ix_mt[mCh_enqueueFollowers]? = some ix_m125 := rfl
set_option maxRecDepth 20000 in
theorem kq_Ch_lowestGroup : ix_mt[mCh_lowestGroup]? = some ix_m126 := rfl
set_option maxRecDepth 20000 in
theorem kq_Bn_init : ix_mt[mBn_init]? = some ix_m127 := rfl
set_option maxRecDepth 20000 in
theorem kq_Bn_tally : ix_mt[mBn_tally]? = some ix_m128 := rfl
set_option maxRecDepth 20000 in
theorem kq_Bn_prepare : ix_mt[mBn_prepare]? = some ix_m129 := rfl
set_option maxRecDepth 20000 in
theorem kq_Bn_isOn : ix_mt[mBn_isOn]? = some ix_m130 := rfl
set_option maxRecDepth 20000 in
theorem kq_Bn_advance : ix_mt[mBn_advance]? = some ix_m131 := rfl
set_option maxRecDepth 20000 in
theorem kq_Bn_rowsAllowed : ix_mt[mBn_rowsAllowed]? = some ix_m132 := rfl
set_option maxRecDepth 20000 in
theorem kq_Bn_presentBefore : ix_mt[mBn_presentBefore]? = some ix_m133 := rfl
set_option maxRecDepth 20000 in
theorem kq_Bn_rowIn : ix_mt[mBn_rowIn]? = some ix_m134 := rfl
set_option maxRecDepth 20000 in
theorem kq_Bn_rowsTaken : ix_mt[mBn_rowsTaken]? = some ix_m135 := rfl
set_option maxRecDepth 20000 in
theorem kq_Bn_withRow : ix_mt[mBn_withRow]? = some ix_m136 := rfl
set_option maxRecDepth 20000 in
theorem kq_Bn_exchangeTallies : ix_mt[mBn_exchangeTallies]? = some ix_m137 := rfl
set_option maxRecDepth 20000 in
theorem kq_Bn_forget : ix_mt[mBn_forget]? = some ix_m138 := rfl
set_option maxRecDepth 20000 in
theorem kq_Ta_init : ix_mt[mTa_init]? = some ix_m139 := rfl
set_option maxRecDepth 20000 in
theorem kq_Ta_empty : ix_mt[mTa_empty]? = some ix_m140 := rfl
set_option maxRecDepth 20000 in
theorem kq_Ta_rowsAt : ix_mt[mTa_rowsAt]? = some ix_m141 := rfl
set_option maxRecDepth 20000 in
theorem kq_Ta_add : ix_mt[mTa_add]? = some ix_m142 := rfl
set_option maxRecDepth 20000 in
theorem kq_Ta_waysAt : ix_mt[mTa_waysAt]? = some ix_m143 := rfl
set_option maxRecDepth 20000 in
theorem kq_Ta_total : ix_mt[mTa_total]? = some ix_m144 := rfl
set_option maxRecDepth 20000 in
theorem kq_Mo_init : ix_mt[mMo_init]? = some ix_m145 := rfl
set_option maxRecDepth 20000 in
theorem kq_Mo_layGrid : ix_mt[mMo_layGrid]? = some ix_m146 := rfl
set_option maxRecDepth 20000 in
theorem kq_Mo_setUp : ix_mt[mMo_setUp]? = some ix_m147 := rfl
set_option maxRecDepth 20000 in
theorem kq_Mo_in : ix_mt[mMo_in]? = some ix_m148 := rfl
set_option maxRecDepth 20000 in
theorem kq_Mo_cells : ix_mt[mMo_cells]? = some ix_m149 := rfl
set_option maxRecDepth 20000 in
theorem kq_Mo_wall : ix_mt[mMo_wall]? = some ix_m150 := rfl
set_option maxRecDepth 20000 in
theorem kq_Mo_isCell : ix_mt[mMo_isCell]? = some ix_m151 := rfl
set_option maxRecDepth 20000 in
theorem kq_Mo_walls : ix_mt[mMo_walls]? = some ix_m152 := rfl
set_option maxRecDepth 20000 in
theorem kq_Mo_role : ix_mt[mMo_role]? = some ix_m153 := rfl
set_option maxRecDepth 20000 in
theorem kq_Mo_wire : ix_mt[mMo_wire]? = some ix_m154 := rfl
set_option maxRecDepth 20000 in
theorem kq_Mo_isSwitch : ix_mt[mMo_isSwitch]? = some ix_m155 := rfl
set_option maxRecDepth 20000 in
theorem kq_Mo_turn : ix_mt[mMo_turn]? = some ix_m156 := rfl
set_option maxRecDepth 20000 in
theorem kq_Mo_turnOne : ix_mt[mMo_turnOne]? = some ix_m157 := rfl
set_option maxRecDepth 20000 in
theorem kq_Mo_falling : ix_mt[mMo_falling]? = some ix_m158 := rfl
set_option maxRecDepth 20000 in
theorem kq_Mo_layFalls : ix_mt[mMo_layFalls]? = some ix_m159 := rfl
set_option maxRecDepth 20000 in
theorem kq_Mo_isOpen : ix_mt[mMo_isOpen]? = some ix_m160 := rfl
set_option maxRecDepth 20000 in
theorem kq_Mo_x : ix_mt[mMo_x]? = some ix_m161 := rfl
set_option maxRecDepth 20000 in
theorem kq_Mo_y : ix_mt[mMo_y]? = some ix_m162 := rfl
set_option maxRecDepth 20000 in
theorem kq_Mo_pair : ix_mt[mMo_pair]? = some ix_m163 := rfl
set_option maxRecDepth 20000 in
theorem kq_Mo_unpair : ix_mt[mMo_unpair]? = some ix_m164 := rfl
set_option maxRecDepth 20000 in
theorem kq_Mo_tuples : ix_mt[mMo_tuples]? = some ix_m165 := rfl
set_option maxRecDepth 20000 in
theorem kq_Mo_canFall : ix_mt[mMo_canFall]? = some ix_m166 := rfl
set_option maxRecDepth 20000 in
theorem kq_Mo_start : ix_mt[mMo_start]? = some ix_m167 := rfl
set_option maxRecDepth 20000 in
theorem kq_Mo_diagonal : ix_mt[mMo_diagonal]? = some ix_m168 := rfl
set_option maxRecDepth 20000 in
theorem kq_Mo_end : ix_mt[mMo_end]? = some ix_m169 := rfl
set_option maxRecDepth 20000 in
theorem kq_Mo_nextState : ix_mt[mMo_nextState]? = some ix_m170 := rfl
set_option maxRecDepth 20000 in
theorem kq_Mo_placeIn : ix_mt[mMo_placeIn]? = some ix_m171 := rfl
set_option maxRecDepth 20000 in
theorem kq_Mo_unit : ix_mt[mMo_unit]? = some ix_m172 := rfl
set_option maxRecDepth 20000 in
theorem kq_Mo_goesTo : ix_mt[mMo_goesTo]? = some ix_m173 := rfl
set_option maxRecDepth 20000 in
theorem kq_Mo_mayBe : ix_mt[mMo_mayBe]? = some ix_m174 := rfl
set_option maxRecDepth 20000 in
theorem kq_Mo_determinant : ix_mt[mMo_determinant]? = some ix_m175 := rfl
set_option maxRecDepth 20000 in
theorem kq_Mo_steps : ix_mt[mMo_steps]? = some ix_m176 := rfl
set_option maxRecDepth 20000 in
theorem kq_Mo_layFar : ix_mt[mMo_layFar]? = some ix_m177 := rfl
set_option maxRecDepth 20000 in
theorem kq_Mo_beside : ix_mt[mMo_beside]? = some ix_m178 := rfl
set_option maxRecDepth 20000 in
theorem kq_Mo_shortest : ix_mt[mMo_shortest]? = some ix_m179 := rfl
set_option maxRecDepth 20000 in
theorem kq_Mo_flow : ix_mt[mMo_flow]? = some ix_m180 := rfl
set_option maxRecDepth 20000 in
theorem kq_Mo_layFlow : ix_mt[mMo_layFlow]? = some ix_m181 := rfl
set_option maxRecDepth 20000 in
theorem kq_Mo_search : ix_mt[mMo_search]? = some ix_m182 := rfl
set_option maxRecDepth 20000 in
theorem kq_Mo_has : ix_mt[mMo_has]? = some ix_m183 := rfl
set_option maxRecDepth 20000 in
theorem kq_Mo_reach : ix_mt[mMo_reach]? = some ix_m184 := rfl
set_option maxRecDepth 20000 in
theorem kq_Mo_reachIn : ix_mt[mMo_reachIn]? = some ix_m185 := rfl
set_option maxRecDepth 20000 in
theorem kq_Mo_reachOut : ix_mt[mMo_reachOut]? = some ix_m186 := rfl
set_option maxRecDepth 20000 in
theorem kq_Mo_isOpenBeside : ix_mt[mMo_isOpenBeside]? = some ix_m187 := rfl
set_option maxRecDepth 20000 in
theorem kq_Mo_turnWay : ix_mt[mMo_turnWay]? = some ix_m188 := rfl
set_option maxRecDepth 20000 in
theorem kq_Mo_directionTo : ix_mt[mMo_directionTo]? = some ix_m189 := rfl
set_option maxRecDepth 20000 in
theorem kq_Mo_opposite : ix_mt[mMo_opposite]? = some ix_m190 := rfl
set_option maxRecDepth 20000 in
theorem kq_Mo_pass : ix_mt[mMo_pass]? = some ix_m191 := rfl
set_option maxRecDepth 20000 in
theorem kq_Mo_layPass : ix_mt[mMo_layPass]? = some ix_m192 := rfl
set_option maxRecDepth 20000 in
theorem kq_Mo_changed : ix_mt[mMo_changed]? = some ix_m193 := rfl
set_option maxRecDepth 20000 in
theorem kq_Mo_bestTurns : ix_mt[mMo_bestTurns]? = some ix_m194 := rfl
set_option maxRecDepth 20000 in
theorem kq_Mo_turnAll : ix_mt[mMo_turnAll]? = some ix_m195 := rfl
set_option maxRecDepth 20000 in
theorem kq_Mo_bits : ix_mt[mMo_bits]? = some ix_m196 := rfl
set_option maxRecDepth 20000 in
theorem kq_Mo_cover : ix_mt[mMo_cover]? = some ix_m197 := rfl
set_option maxRecDepth 20000 in
theorem kq_Mo_wholeCover : ix_mt[mMo_wholeCover]? = some ix_m198 := rfl
set_option maxRecDepth 20000 in
theorem kq_Mo_layMarked : ix_mt[mMo_layMarked]? = some ix_m199 := rfl
set_option maxRecDepth 20000 in
theorem kq_Mo_widest : ix_mt[mMo_widest]? = some ix_m200 := rfl
set_option maxRecDepth 20000 in
theorem kq_Mo_findsPair : ix_mt[mMo_findsPair]? = some ix_m201 := rfl
set_option maxRecDepth 20000 in
theorem kq_Mo_turnPairs : ix_mt[mMo_turnPairs]? = some ix_m202 := rfl
set_option maxRecDepth 20000 in
theorem kq_Mo_group : ix_mt[mMo_group]? = some ix_m203 := rfl
set_option maxRecDepth 20000 in
theorem kq_Mo_layGroup : ix_mt[mMo_layGroup]? = some ix_m204 := rfl
set_option maxRecDepth 20000 in
theorem kq_Mo_areComparable : ix_mt[mMo_areComparable]? = some ix_m205 := rfl
set_option maxRecDepth 20000 in
theorem kq_Mo_lookBehind : ix_mt[mMo_lookBehind]? = some ix_m206 := rfl
set_option maxRecDepth 20000 in
theorem kq_Mo_cell : ix_mt[mMo_cell]? = some ix_m207 := rfl
set_option maxRecDepth 20000 in
theorem kq_Mo_switchesOf : ix_mt[mMo_switchesOf]? = some ix_m208 := rfl
set_option maxRecDepth 20000 in
theorem kq_Mo_openBeside : ix_mt[mMo_openBeside]? = some ix_m209 := rfl
set_option maxRecDepth 20000 in
theorem kq_Mo_behind : ix_mt[mMo_behind]? = some ix_m210 := rfl
set_option maxRecDepth 20000 in
theorem kq_Mo_isInPass : ix_mt[mMo_isInPass]? = some ix_m211 := rfl
set_option maxRecDepth 20000 in
theorem kq_Mo_isInFirstGroup : ix_mt[mMo_isInFirstGroup]? = some ix_m212 := rfl
set_option maxRecDepth 20000 in
theorem kq_Mo_isInSomeGroup : ix_mt[mMo_isInSomeGroup]? = some ix_m213 := rfl
set_option maxRecDepth 20000 in
theorem kq_Mo_step : ix_mt[mMo_step]? = some ix_m214 := rfl
set_option maxRecDepth 20000 in
theorem kq_Mo_isSlot : ix_mt[mMo_isSlot]? = some ix_m215 := rfl
set_option maxRecDepth 20000 in
theorem kq_Mo_length : ix_mt[mMo_length]? = some ix_m216 := rfl
set_option maxRecDepth 20000 in
theorem kq_Mo_indexOf : ix_mt[mMo_indexOf]? = some ix_m217 := rfl
set_option maxRecDepth 20000 in
theorem kq_Mo_cellOf : ix_mt[mMo_cellOf]? = some ix_m218 := rfl
set_option maxRecDepth 20000 in
theorem kq_Mo_areAdjacent : ix_mt[mMo_areAdjacent]? = some ix_m219 := rfl
set_option maxRecDepth 20000 in
theorem kq_Mo_back : ix_mt[mMo_back]? = some ix_m220 := rfl
set_option maxRecDepth 20000 in
theorem kq_Mo_route : ix_mt[mMo_route]? = some ix_m221 := rfl
set_option maxRecDepth 20000 in
theorem kq_Mo_about : ix_mt[mMo_about]? = some ix_m222 := rfl
set_option maxRecDepth 20000 in
theorem kq_Mo_isValid : ix_mt[mMo_isValid]? = some ix_m223 := rfl
set_option maxRecDepth 20000 in
theorem kq_Mo_isFalling : ix_mt[mMo_isFalling]? = some ix_m224 := rfl
set_option maxRecDepth 20000 in
theorem kq_Mo_isFromTo : ix_mt[mMo_isFromTo]? = some ix_m225 := rfl
set_option maxRecDepth 20000 in
theorem kq_Mo_markedOn : ix_mt[mMo_markedOn]? = some ix_m226 := rfl
set_option maxRecDepth 20000 in
theorem kq_Mo_meets : ix_mt[mMo_meets]? = some ix_m227 := rfl
set_option maxRecDepth 20000 in
theorem kq_Mo_meetingOf : ix_mt[mMo_meetingOf]? = some ix_m228 := rfl
set_option maxRecDepth 20000 in
theorem kq_Mo_meeting : ix_mt[mMo_meeting]? = some ix_m229 := rfl
set_option maxRecDepth 20000 in
theorem kq_Mo_exchange : ix_mt[mMo_exchange]? = some ix_m230 := rfl
set_option maxRecDepth 20000 in
theorem kq_Mo_joins : ix_mt[mMo_joins]? = some ix_m231 := rfl
set_option maxRecDepth 20000 in
theorem kq_Mo_layJoined : ix_mt[mMo_layJoined]? = some ix_m232 := rfl
set_option maxRecDepth 20000 in
theorem kq_Mo_check : ix_mt[mMo_check]? = some ix_m233 := rfl
set_option maxRecDepth 20000 in
theorem kq_Mo_uncovered : ix_mt[mMo_uncovered]? = some ix_m234 := rfl
set_option maxRecDepth 20000 in
theorem kq_Mo_isProof : ix_mt[mMo_isProof]? = some ix_m235 := rfl
set_option maxRecDepth 20000 in
theorem kq_Mo_put : ix_mt[mMo_put]? = some ix_m236 := rfl
set_option maxRecDepth 20000 in
theorem kq_Mo_wipe : ix_mt[mMo_wipe]? = some ix_m237 := rfl
set_option maxRecDepth 20000 in
theorem kq_Mo_fault : ix_mt[mMo_fault]? = some ix_m238 := rfl
set_option maxRecDepth 20000 in
theorem kq_Mo_roleOf : ix_mt[mMo_roleOf]? = some ix_m239 := rfl
set_option maxRecDepth 20000 in
theorem kq_Mo_load : ix_mt[mMo_load]? = some ix_m240 := rfl
set_option maxRecDepth 20000 in
theorem kq_Mo_count : ix_mt[mMo_count]? = some ix_m241 := rfl
set_option maxRecDepth 20000 in
theorem kq_Mo_withRole : ix_mt[mMo_withRole]? = some ix_m242 := rfl
set_option maxRecDepth 20000 in
theorem kq_Mo_routes : ix_mt[mMo_routes]? = some ix_m243 := rfl
set_option maxRecDepth 20000 in
theorem kq_Mo_save : ix_mt[mMo_save]? = some ix_m244 := rfl
set_option maxRecDepth 20000 in
theorem kq_Mo_restore : ix_mt[mMo_restore]? = some ix_m245 := rfl
set_option maxRecDepth 20000 in
theorem kq_JL_bitCount : ix_mt[mJL_bitCount]? = some ix_m246 := rfl
set_option maxRecDepth 20000 in
theorem kq_JS_indexOf : ix_mt[mJS_indexOf]? = some ix_m247 := rfl
set_option maxRecDepth 20000 in
theorem kq_JS_indexOf_II : ix_mt[mJS_indexOf_II]? = some ix_m248 := rfl
set_option maxRecDepth 20000 in
theorem kq_JS_isLatin1 : ix_mt[mJS_isLatin1]? = some ix_m249 := rfl
set_option maxRecDepth 20000 in
theorem kq_JS_length : ix_mt[mJS_length]? = some ix_m250 := rfl
set_option maxRecDepth 20000 in
theorem kq_JS_coder : ix_mt[mJS_coder]? = some ix_m251 := rfl
set_option maxRecDepth 20000 in
theorem kq_JT_indexOf : ix_mt[mJT_indexOf]? = some ix_m252 := rfl
set_option maxRecDepth 20000 in
theorem kq_JT_canEncode : ix_mt[mJT_canEncode]? = some ix_m253 := rfl
set_option maxRecDepth 20000 in
theorem kq_JT_indexOfChar : ix_mt[mJT_indexOfChar]? = some ix_m254 := rfl
set_option maxRecDepth 20000 in
theorem kq_JI_bitCount : ix_mt[mJI_bitCount]? = some ix_m255 := rfl
set_option maxRecDepth 20000 in
theorem kq_Law_law : ix_mt[mLaw_law]? = some ix_m256 := rfl
