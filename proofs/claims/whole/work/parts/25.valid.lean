/-! PRINTED by wip/whole/gen3v.py. THE TABLES ARE RIGHT: every instruction is what the bytes say, every link stands in the tables -/
def ix_wl (pos : Nat) (w : Jvm.Cond) : Bool := decide (lw_tbl[pos]? = some w) && goodWord w
theorem ix_wl_in {pos : Nat} {w : Jvm.Cond} (h : ix_wl pos w = true) : w ∈ ix_tb := by
  simp only [ix_wl, Bool.and_eq_true, decide_eq_true_eq] at h
  exact List.mem_filter.mpr ⟨List.mem_of_getElem? h.1, h.2⟩
def ix_isN (w : Jvm.Cond) : Bool := match w with
  | .methodLinkNest _ _ _ _ => true
  | _ => false
def ix_nest : List Jvm.Cond := tables_1.filter ix_isN
def ix_ini (q : ixM) : Bool := decide (q.1.name = "<init>")
def ix_mok (r : ixM) : Bool := ix_w r.2.2.2.2.2.2.2.2.2.2 (.code r.1 r.2.1 r.2.2.1 r.2.2.2.1) && plainName r.1.cls && decide (r.1.cls ≠ "java/lang/invoke/MethodHandle") && decide (r.1.cls ≠ "java/lang/invoke/VarHandle") && decide (ix_on r.2.2.2.2.1 = r.1.cls) && decide (r.2.2.2.2.1 < 18) && decide ((parseMethodDescriptor r.1.desc).map (fun d => d.parameters.length) = some r.2.2.2.2.2.2.1)
def ix_cok (q : Nat × Nat × Nat × Nat × List Nat) : Bool := match q with
  | (ow, idx, kd, mj, ps) => (match ps with
    | [p1] => (decide (kd = 6) && ix_w p1 (.methodLink (ix_on ow) idx objectInit)) || (decide (kd = 7) && ix_w p1 (.methodLink (ix_on ow) idx arraycopyName)) || (decide (kd = 8) && ix_w p1 (.methodLink (ix_on ow) idx Lib.Math.max.name)) || (decide (kd = 9) && ix_w p1 (.methodLink (ix_on ow) idx Lib.Math.min.name))
    | [p1, p2, p3] => decide (mj < 256) && (match ix_mt[mj]? with
      | none => false
      | some r => (match kd with
        | 0 => ix_w p1 (.methodLink (ix_on ow) idx r.1) && ix_w p2 (.instanceMethod r.1) && ix_wl p3 (.selects r.1.cls r.1 r.1) && decide (r.2.2.2.2.2.2.2.1 = 1)
        | 1 => ix_w p1 (.methodLink (ix_on ow) idx r.1) && ix_w p2 (.static r.1) && decide (r.2.2.2.2.2.2.2.1 = 0)
        | 2 => ix_w p1 (.methodLink (ix_on ow) idx r.1) && ix_w p2 (.instanceMethod r.1) && decide (r.2.2.2.2.2.2.2.1 = 2) && ix_ini r && decide (r.2.2.2.1 = none)
        | 3 => decide (tables_1[p1]? = some (.methodLinkNest (ix_on ow) idx r.1 "RouteProofs")) && ix_w p2 (.static r.1) && decide (r.2.2.2.2.2.2.2.1 = 0)
        | 4 => decide (tables_1[p1]? = some (.methodLinkNest (ix_on ow) idx r.1 "RouteProofs")) && ix_w p2 (.instanceMethod r.1) && decide (r.2.2.2.2.2.2.2.1 = 2) && ix_ini r && decide (r.2.2.2.1 = none)
        | _ => false))
    | _ => false)
def ix_iop (i : Instr) (idx kd : Nat) : Bool := match i with
  | .invokevirtual k => decide (k = idx) && decide (kd = 0)
  | .invokestatic k => decide (k = idx) && (decide (kd = 1) || decide (kd = 3) || decide (kd = 7) || decide (kd = 8) || decide (kd = 9))
  | .invokespecial k => decide (k = idx) && (decide (kd = 2) || decide (kd = 4) || decide (kd = 6))
  | _ => false
def ix_isR (i : Instr) : Bool := match i with
  | .ireturn => true
  | .lreturn => true
  | .return_ => true
  | _ => false
def ix_eok (q : ixM) (pc : Nat) (e : ixE) : Bool := match e with
  | (kc, i, pc', _, aux, z) => decide (decode q.2.1 pc = .ok (i, pc' - pc)) && decide (pc ≤ pc') && (decide (ix_len i = none) || decide (ix_len i = some (pc' - pc))) && ix_okf q.2.2.2.2.1 (ix_ini q) i aux z &&
    (match kc with
    | 5 => (match aux with
      | [kd, w] => (match ix_CT[w]? with
        | some x => decide (x.1 = q.2.2.2.2.1) && ix_iop i x.2.1 x.2.2.1 && decide (x.2.2.1 = kd) && decide (7 ≤ kd) && decide (1 ≤ q.2.2.2.2.2.2.2.2.1) && decide (26 ≤ q.2.2.2.2.2.2.2.2.2.1)
        | none => false)
      | _ => false)
    | 3 => (match aux with
      | [kd, mj, w] => (match ix_CT[w]? with
        | some x => decide (x.1 = q.2.2.2.2.1) && ix_iop i x.2.1 x.2.2.1 && decide (x.2.2.1 = kd) && decide (x.2.2.2.1 = mj) && decide (kd < 7) && (decide (kd ≠ 6) || (decide (1 ≤ q.2.2.2.2.2.2.2.2.1) && decide (20 ≤ q.2.2.2.2.2.2.2.2.2.1)))
        | none => false)
      | _ => false)
    | 4 => ix_isR i
    | _ => true)
def ix_chk (mi : Nat) : Bool := match ix_mt[mi]?, ix_cd[mi]? with
  | some q, some l => l.all (fun x => ix_eok q x.1 x.2)
  | _, _ => false

theorem ix_CT_0 : ((ix_CT.drop 0).take 80).all ix_cok = true := by decide +kernel
theorem ix_CT_80 : ((ix_CT.drop 80).take 80).all ix_cok = true := by decide +kernel
theorem ix_CT_160 : ((ix_CT.drop 160).take 80).all ix_cok = true := by decide +kernel
theorem ix_CT_240 : ((ix_CT.drop 240).take 80).all ix_cok = true := by decide +kernel
theorem ix_CT_ok : ∀ q ∈ ix_CT, ix_cok q = true := by
  intro q hq
  have e : ix_CT = (ix_CT.drop 0).take 80 ++ (ix_CT.drop 80).take 80 ++ (ix_CT.drop 160).take 80 ++ (ix_CT.drop 240).take 80 := by decide +kernel
  rw [e] at hq
  simp only [List.mem_append] at hq
  rcases hq with ((hq | hq) | hq) | hq
  · exact List.all_eq_true.mp ix_CT_0 q hq
  · exact List.all_eq_true.mp ix_CT_80 q hq
  · exact List.all_eq_true.mp ix_CT_160 q hq
  · exact List.all_eq_true.mp ix_CT_240 q hq
theorem ix_chk_0 : (List.range' 0 20).all ix_chk = true := by decide +kernel
theorem ix_chk_20 : (List.range' 20 20).all ix_chk = true := by decide +kernel
theorem ix_chk_40 : (List.range' 40 20).all ix_chk = true := by decide +kernel
theorem ix_chk_60 : (List.range' 60 20).all ix_chk = true := by decide +kernel
theorem ix_chk_80 : (List.range' 80 20).all ix_chk = true := by decide +kernel
theorem ix_chk_100 : (List.range' 100 20).all ix_chk = true := by decide +kernel
theorem ix_chk_120 : (List.range' 120 20).all ix_chk = true := by decide +kernel
theorem ix_chk_140 : (List.range' 140 20).all ix_chk = true := by decide +kernel
theorem ix_chk_160 : (List.range' 160 20).all ix_chk = true := by decide +kernel
theorem ix_chk_180 : (List.range' 180 20).all ix_chk = true := by decide +kernel
theorem ix_chk_200 : (List.range' 200 20).all ix_chk = true := by decide +kernel
theorem ix_chk_220 : (List.range' 220 20).all ix_chk = true := by decide +kernel
theorem ix_chk_240 : (List.range' 240 16).all ix_chk = true := by decide +kernel
theorem ix_mok_0 : (List.range' 0 10).all (fun mi => (ix_mt[mi]?).any ix_mok) = true := by decide +kernel
theorem ix_mok_10 : (List.range' 10 10).all (fun mi => (ix_mt[mi]?).any ix_mok) = true := by decide +kernel
theorem ix_mok_20 : (List.range' 20 10).all (fun mi => (ix_mt[mi]?).any ix_mok) = true := by decide +kernel
theorem ix_mok_30 : (List.range' 30 10).all (fun mi => (ix_mt[mi]?).any ix_mok) = true := by decide +kernel
theorem ix_mok_40 : (List.range' 40 10).all (fun mi => (ix_mt[mi]?).any ix_mok) = true := by decide +kernel
theorem ix_mok_50 : (List.range' 50 10).all (fun mi => (ix_mt[mi]?).any ix_mok) = true := by decide +kernel
theorem ix_mok_60 : (List.range' 60 10).all (fun mi => (ix_mt[mi]?).any ix_mok) = true := by decide +kernel
theorem ix_mok_70 : (List.range' 70 10).all (fun mi => (ix_mt[mi]?).any ix_mok) = true := by decide +kernel
theorem ix_mok_80 : (List.range' 80 10).all (fun mi => (ix_mt[mi]?).any ix_mok) = true := by decide +kernel
theorem ix_mok_90 : (List.range' 90 10).all (fun mi => (ix_mt[mi]?).any ix_mok) = true := by decide +kernel
theorem ix_mok_100 : (List.range' 100 10).all (fun mi => (ix_mt[mi]?).any ix_mok) = true := by decide +kernel
theorem ix_mok_110 : (List.range' 110 10).all (fun mi => (ix_mt[mi]?).any ix_mok) = true := by decide +kernel
theorem ix_mok_120 : (List.range' 120 10).all (fun mi => (ix_mt[mi]?).any ix_mok) = true := by decide +kernel
theorem ix_mok_130 : (List.range' 130 10).all (fun mi => (ix_mt[mi]?).any ix_mok) = true := by decide +kernel
theorem ix_mok_140 : (List.range' 140 10).all (fun mi => (ix_mt[mi]?).any ix_mok) = true := by decide +kernel
theorem ix_mok_150 : (List.range' 150 10).all (fun mi => (ix_mt[mi]?).any ix_mok) = true := by decide +kernel
theorem ix_mok_160 : (List.range' 160 10).all (fun mi => (ix_mt[mi]?).any ix_mok) = true := by decide +kernel
theorem ix_mok_170 : (List.range' 170 10).all (fun mi => (ix_mt[mi]?).any ix_mok) = true := by decide +kernel
theorem ix_mok_180 : (List.range' 180 10).all (fun mi => (ix_mt[mi]?).any ix_mok) = true := by decide +kernel
theorem ix_mok_190 : (List.range' 190 10).all (fun mi => (ix_mt[mi]?).any ix_mok) = true := by decide +kernel
theorem ix_mok_200 : (List.range' 200 10).all (fun mi => (ix_mt[mi]?).any ix_mok) = true := by decide +kernel
theorem ix_mok_210 : (List.range' 210 10).all (fun mi => (ix_mt[mi]?).any ix_mok) = true := by decide +kernel
theorem ix_mok_220 : (List.range' 220 10).all (fun mi => (ix_mt[mi]?).any ix_mok) = true := by decide +kernel
theorem ix_mok_230 : (List.range' 230 10).all (fun mi => (ix_mt[mi]?).any ix_mok) = true := by decide +kernel
theorem ix_mok_240 : (List.range' 240 10).all (fun mi => (ix_mt[mi]?).any ix_mok) = true := by decide +kernel
theorem ix_mok_250 : (List.range' 250 6).all (fun mi => (ix_mt[mi]?).any ix_mok) = true := by decide +kernel
theorem ix_law_0 : ((ix_c256.drop 0).take 50).all (fun x => ix_eok ix_m256 x.1 x.2) = true := by decide +kernel
theorem ix_law_50 : ((ix_c256.drop 50).take 50).all (fun x => ix_eok ix_m256 x.1 x.2) = true := by decide +kernel
theorem ix_law_100 : ((ix_c256.drop 100).take 50).all (fun x => ix_eok ix_m256 x.1 x.2) = true := by decide +kernel
theorem ix_law_150 : ((ix_c256.drop 150).take 50).all (fun x => ix_eok ix_m256 x.1 x.2) = true := by decide +kernel
theorem ix_law_200 : ((ix_c256.drop 200).take 50).all (fun x => ix_eok ix_m256 x.1 x.2) = true := by decide +kernel
theorem ix_law_250 : ((ix_c256.drop 250).take 50).all (fun x => ix_eok ix_m256 x.1 x.2) = true := by decide +kernel
theorem ix_law_300 : ((ix_c256.drop 300).take 50).all (fun x => ix_eok ix_m256 x.1 x.2) = true := by decide +kernel
theorem ix_law_350 : ((ix_c256.drop 350).take 50).all (fun x => ix_eok ix_m256 x.1 x.2) = true := by decide +kernel
theorem ix_law_400 : ((ix_c256.drop 400).take 50).all (fun x => ix_eok ix_m256 x.1 x.2) = true := by decide +kernel
theorem ix_law_450 : ((ix_c256.drop 450).take 50).all (fun x => ix_eok ix_m256 x.1 x.2) = true := by decide +kernel
theorem ix_law_500 : ((ix_c256.drop 500).take 50).all (fun x => ix_eok ix_m256 x.1 x.2) = true := by decide +kernel
theorem ix_law_550 : ((ix_c256.drop 550).take 50).all (fun x => ix_eok ix_m256 x.1 x.2) = true := by decide +kernel
theorem ix_law_600 : ((ix_c256.drop 600).take 50).all (fun x => ix_eok ix_m256 x.1 x.2) = true := by decide +kernel
theorem ix_law_650 : ((ix_c256.drop 650).take 50).all (fun x => ix_eok ix_m256 x.1 x.2) = true := by decide +kernel
theorem ix_law_700 : ((ix_c256.drop 700).take 50).all (fun x => ix_eok ix_m256 x.1 x.2) = true := by decide +kernel
theorem ix_chk_lt {mi : Nat} (h : mi < 256) : ix_chk mi = true := by
  have hx : (0 ≤ mi ∧ mi < 20) ∨ (20 ≤ mi ∧ mi < 40) ∨ (40 ≤ mi ∧ mi < 60) ∨ (60 ≤ mi ∧ mi < 80) ∨ (80 ≤ mi ∧ mi < 100) ∨ (100 ≤ mi ∧ mi < 120) ∨ (120 ≤ mi ∧ mi < 140) ∨ (140 ≤ mi ∧ mi < 160) ∨ (160 ≤ mi ∧ mi < 180) ∨ (180 ≤ mi ∧ mi < 200) ∨ (200 ≤ mi ∧ mi < 220) ∨ (220 ≤ mi ∧ mi < 240) ∨ (240 ≤ mi ∧ mi < 256) := by omega
  rcases hx with q | q | q | q | q | q | q | q | q | q | q | q | q
  · exact List.all_eq_true.mp ix_chk_0 mi (List.mem_range'_1.mpr (by omega))
  · exact List.all_eq_true.mp ix_chk_20 mi (List.mem_range'_1.mpr (by omega))
  · exact List.all_eq_true.mp ix_chk_40 mi (List.mem_range'_1.mpr (by omega))
  · exact List.all_eq_true.mp ix_chk_60 mi (List.mem_range'_1.mpr (by omega))
  · exact List.all_eq_true.mp ix_chk_80 mi (List.mem_range'_1.mpr (by omega))
  · exact List.all_eq_true.mp ix_chk_100 mi (List.mem_range'_1.mpr (by omega))
  · exact List.all_eq_true.mp ix_chk_120 mi (List.mem_range'_1.mpr (by omega))
  · exact List.all_eq_true.mp ix_chk_140 mi (List.mem_range'_1.mpr (by omega))
  · exact List.all_eq_true.mp ix_chk_160 mi (List.mem_range'_1.mpr (by omega))
  · exact List.all_eq_true.mp ix_chk_180 mi (List.mem_range'_1.mpr (by omega))
  · exact List.all_eq_true.mp ix_chk_200 mi (List.mem_range'_1.mpr (by omega))
  · exact List.all_eq_true.mp ix_chk_220 mi (List.mem_range'_1.mpr (by omega))
  · exact List.all_eq_true.mp ix_chk_240 mi (List.mem_range'_1.mpr (by omega))
theorem ix_mok_lt {mi : Nat} (h : mi < 256) : (ix_mt[mi]?).any ix_mok = true := by
  have hx : (0 ≤ mi ∧ mi < 10) ∨ (10 ≤ mi ∧ mi < 20) ∨ (20 ≤ mi ∧ mi < 30) ∨ (30 ≤ mi ∧ mi < 40) ∨ (40 ≤ mi ∧ mi < 50) ∨ (50 ≤ mi ∧ mi < 60) ∨ (60 ≤ mi ∧ mi < 70) ∨ (70 ≤ mi ∧ mi < 80) ∨ (80 ≤ mi ∧ mi < 90) ∨ (90 ≤ mi ∧ mi < 100) ∨ (100 ≤ mi ∧ mi < 110) ∨ (110 ≤ mi ∧ mi < 120) ∨ (120 ≤ mi ∧ mi < 130) ∨ (130 ≤ mi ∧ mi < 140) ∨ (140 ≤ mi ∧ mi < 150) ∨ (150 ≤ mi ∧ mi < 160) ∨ (160 ≤ mi ∧ mi < 170) ∨ (170 ≤ mi ∧ mi < 180) ∨ (180 ≤ mi ∧ mi < 190) ∨ (190 ≤ mi ∧ mi < 200) ∨ (200 ≤ mi ∧ mi < 210) ∨ (210 ≤ mi ∧ mi < 220) ∨ (220 ≤ mi ∧ mi < 230) ∨ (230 ≤ mi ∧ mi < 240) ∨ (240 ≤ mi ∧ mi < 250) ∨ (250 ≤ mi ∧ mi < 256) := by omega
  rcases hx with q | q | q | q | q | q | q | q | q | q | q | q | q | q | q | q | q | q | q | q | q | q | q | q | q | q
  · exact List.all_eq_true.mp ix_mok_0 mi (List.mem_range'_1.mpr (by omega))
  · exact List.all_eq_true.mp ix_mok_10 mi (List.mem_range'_1.mpr (by omega))
  · exact List.all_eq_true.mp ix_mok_20 mi (List.mem_range'_1.mpr (by omega))
  · exact List.all_eq_true.mp ix_mok_30 mi (List.mem_range'_1.mpr (by omega))
  · exact List.all_eq_true.mp ix_mok_40 mi (List.mem_range'_1.mpr (by omega))
  · exact List.all_eq_true.mp ix_mok_50 mi (List.mem_range'_1.mpr (by omega))
  · exact List.all_eq_true.mp ix_mok_60 mi (List.mem_range'_1.mpr (by omega))
  · exact List.all_eq_true.mp ix_mok_70 mi (List.mem_range'_1.mpr (by omega))
  · exact List.all_eq_true.mp ix_mok_80 mi (List.mem_range'_1.mpr (by omega))
  · exact List.all_eq_true.mp ix_mok_90 mi (List.mem_range'_1.mpr (by omega))
  · exact List.all_eq_true.mp ix_mok_100 mi (List.mem_range'_1.mpr (by omega))
  · exact List.all_eq_true.mp ix_mok_110 mi (List.mem_range'_1.mpr (by omega))
  · exact List.all_eq_true.mp ix_mok_120 mi (List.mem_range'_1.mpr (by omega))
  · exact List.all_eq_true.mp ix_mok_130 mi (List.mem_range'_1.mpr (by omega))
  · exact List.all_eq_true.mp ix_mok_140 mi (List.mem_range'_1.mpr (by omega))
  · exact List.all_eq_true.mp ix_mok_150 mi (List.mem_range'_1.mpr (by omega))
  · exact List.all_eq_true.mp ix_mok_160 mi (List.mem_range'_1.mpr (by omega))
  · exact List.all_eq_true.mp ix_mok_170 mi (List.mem_range'_1.mpr (by omega))
  · exact List.all_eq_true.mp ix_mok_180 mi (List.mem_range'_1.mpr (by omega))
  · exact List.all_eq_true.mp ix_mok_190 mi (List.mem_range'_1.mpr (by omega))
  · exact List.all_eq_true.mp ix_mok_200 mi (List.mem_range'_1.mpr (by omega))
  · exact List.all_eq_true.mp ix_mok_210 mi (List.mem_range'_1.mpr (by omega))
  · exact List.all_eq_true.mp ix_mok_220 mi (List.mem_range'_1.mpr (by omega))
  · exact List.all_eq_true.mp ix_mok_230 mi (List.mem_range'_1.mpr (by omega))
  · exact List.all_eq_true.mp ix_mok_240 mi (List.mem_range'_1.mpr (by omega))
  · exact List.all_eq_true.mp ix_mok_250 mi (List.mem_range'_1.mpr (by omega))
theorem ix_mem_td {α : Type} {l : List α} {q : α} (a n : Nat) (h : q ∈ l.drop a) : q ∈ (l.drop a).take n ∨ q ∈ l.drop (a + n) := by
  rw [← List.take_append_drop n (l.drop a), List.drop_drop] at h
  exact List.mem_append.mp h
theorem ix_law_all : ∀ x ∈ ix_c256, ix_eok ix_m256 x.1 x.2 = true := by
  intro q hq
  have hq : q ∈ ix_c256.drop 0 := hq
  rcases ix_mem_td 0 50 hq with hq | hq
  · exact List.all_eq_true.mp ix_law_0 q hq
  rcases ix_mem_td 50 50 hq with hq | hq
  · exact List.all_eq_true.mp ix_law_50 q hq
  rcases ix_mem_td 100 50 hq with hq | hq
  · exact List.all_eq_true.mp ix_law_100 q hq
  rcases ix_mem_td 150 50 hq with hq | hq
  · exact List.all_eq_true.mp ix_law_150 q hq
  rcases ix_mem_td 200 50 hq with hq | hq
  · exact List.all_eq_true.mp ix_law_200 q hq
  rcases ix_mem_td 250 50 hq with hq | hq
  · exact List.all_eq_true.mp ix_law_250 q hq
  rcases ix_mem_td 300 50 hq with hq | hq
  · exact List.all_eq_true.mp ix_law_300 q hq
  rcases ix_mem_td 350 50 hq with hq | hq
  · exact List.all_eq_true.mp ix_law_350 q hq
  rcases ix_mem_td 400 50 hq with hq | hq
  · exact List.all_eq_true.mp ix_law_400 q hq
  rcases ix_mem_td 450 50 hq with hq | hq
  · exact List.all_eq_true.mp ix_law_450 q hq
  rcases ix_mem_td 500 50 hq with hq | hq
  · exact List.all_eq_true.mp ix_law_500 q hq
  rcases ix_mem_td 550 50 hq with hq | hq
  · exact List.all_eq_true.mp ix_law_550 q hq
  rcases ix_mem_td 600 50 hq with hq | hq
  · exact List.all_eq_true.mp ix_law_600 q hq
  rcases ix_mem_td 650 50 hq with hq | hq
  · exact List.all_eq_true.mp ix_law_650 q hq
  rcases ix_mem_td 700 50 hq with hq | hq
  · exact List.all_eq_true.mp ix_law_700 q hq
  exact absurd hq (by rw [List.drop_eq_nil_of_le (show ix_c256.length ≤ 750 by decide +kernel)]; exact List.not_mem_nil)
theorem ix_mt_len : ix_mt.length = 257 := by decide +kernel
theorem ix_chk_ok {mi : Nat} (h : mi < 257) : ix_chk mi = true := by
  by_cases h2 : mi < 256
  · exact ix_chk_lt h2
  · obtain rfl : mi = 256 := by omega
    exact List.all_eq_true.mpr ix_law_all
theorem ix_entry_ok {mi pc : Nat} {q : ixM} {e : ixE} (hq : ix_mt[mi]? = some q) (he : ix_nx mi pc = some e) : ix_eok q pc e = true := by
  have hl : mi < 257 := by rw [← ix_mt_len]; exact (List.getElem?_eq_some_iff.mp hq).1
  have h := ix_chk_ok hl
  unfold ix_chk at h
  rw [hq] at h
  unfold ix_nx at he
  cases hc : ix_cd[mi]? with
  | none => rw [hc] at h; cases h
  | some l =>
    rw [hc] at h
    rw [List.getD_eq_getElem?_getD, hc] at he
    exact List.all_eq_true.mp h (pc, e) (ix_lk_mem _ _ _ he)
theorem ix_meth_ok {mi : Nat} {q : ixM} (h : mi < 256) (hq : ix_mt[mi]? = some q) : ix_mok q = true := by
  have h1 := ix_mok_lt h
  rw [hq] at h1
  exact h1
