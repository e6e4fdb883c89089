/-! ===== by program (wip/whole/gen54.py): one call of the script as a relation; the law's loop ===== -/
def lawStep (N : Nat) (op a1 a2 a3 a4 a5 a6 a7 : Int32) (μ : sw_M) (ν : sw_N) (μ' : sw_M) (ν' : sw_N) : Prop :=
  if op = 0 then (∃ (rx : Int32 × sw_M) (rm : Int32 × sw_M), (f_x_feed N μ a1 a2 a3 a4 a5 = some rx) ∧ (f_m_feed N rx.2 a1 a2 a3 a4 a5 = some rm) ∧ (rx.1 = rm.1) ∧ μ' = rm.2 ∧ ν' = ν)
  else if op = 1 then (∃ (rq : Int32 × sw_M × sw_N) (rm : Int32 × sw_M) (rt : Int32), (f_L_country N μ ν a1 = some rq) ∧ (f_m_country N rq.2.1 a1 = some rm) ∧ (f_m_thrown N rm.2 = some rt) ∧ (rt = rq.1) ∧ (rq.1 = 0 → rq.2.2 87 0 = rm.1.toInt64) ∧ μ' = rm.2 ∧ ν' = rq.2.2)
  else if op = 2 then (∃ (rq : Int32 × sw_M × sw_N) (rm : Int32 × sw_M) (rt : Int32), (f_L_law N μ ν a1 = some rq) ∧ (f_m_law N rq.2.1 a1 = some rm) ∧ (f_m_thrown N rm.2 = some rt) ∧ (rt = rq.1) ∧ (rq.1 = 0 → rq.2.2 87 0 = rm.1.toInt64) ∧ μ' = rm.2 ∧ ν' = rq.2.2)
  else if op = 3 then (∃ (rq : Int32 × sw_M × sw_N) (rm : Int32 × sw_M) (rt : Int32), (f_L_work N μ ν a1 = some rq) ∧ (f_m_work N rq.2.1 a1 = some rm) ∧ (f_m_thrown N rm.2 = some rt) ∧ (rt = rq.1) ∧ (rq.1 = 0 → rq.2.2 87 0 = rm.1.toInt64) ∧ μ' = rm.2 ∧ ν' = rq.2.2)
  else if op = 4 then (∃ (rq : Int32 × sw_M × sw_N) (rm : Int32 × sw_M) (rt : Int32), (f_L_book N μ ν a1 = some rq) ∧ (f_m_book N rq.2.1 a1 = some rm) ∧ (f_m_thrown N rm.2 = some rt) ∧ (rt = rq.1) ∧ (rq.1 = 0 → rq.2.2 87 0 = rm.1.toInt64) ∧ μ' = rm.2 ∧ ν' = rq.2.2)
  else if op = 5 then (∃ (rx : Int32) (rm : Int32 × sw_M), (f_x_fault N μ  = some rx) ∧ (f_m_fault N μ  = some rm) ∧ (rx = rm.1) ∧ μ' = rm.2 ∧ ν' = ν)
  else if op = 6 then (∃ (rx : Int32 × sw_M) (rm : Int32 × sw_M), (f_x_undo N μ  = some rx) ∧ (f_m_undo N rx.2  = some rm) ∧ (rx.1 = rm.1) ∧ μ' = rm.2 ∧ ν' = ν)
  else if op = 7 then (∃ (rq : Int32 × sw_M × sw_N) (rm : Int32 × sw_M) (rt : Int32), (f_L_told N μ ν a1 = some rq) ∧ (f_m_told N rq.2.1 a1 = some rm) ∧ (f_m_thrown N rm.2 = some rt) ∧ (rt = rq.1) ∧ (rq.1 = 0 → rq.2.2 87 0 = rm.1.toInt64) ∧ μ' = rm.2 ∧ ν' = rq.2.2)
  else if op = 8 then (∃ (rq : Int32 × sw_M × sw_N) (rm : Int32 × sw_M) (rt : Int32), (f_L_field N μ ν a1 a2 = some rq) ∧ (f_m_field N rq.2.1 a1 a2 = some rm) ∧ (f_m_thrown N rm.2 = some rt) ∧ (rt = rq.1) ∧ (rq.1 = 0 → rq.2.2 87 0 = rm.1.toInt64) ∧ μ' = rm.2 ∧ ν' = rq.2.2)
  else if op = 9 then (∃ (rq : Int32 × sw_M × sw_N) (rm : Int32 × sw_M) (rt : Int32), (f_L_wire N μ ν a1 a2 = some rq) ∧ (f_m_wire N rq.2.1 a1 a2 = some rm) ∧ (f_m_thrown N rm.2 = some rt) ∧ (rt = rq.1) ∧ (rq.1 = 0 → rq.2.2 87 0 = rm.1.toInt64) ∧ μ' = rm.2 ∧ ν' = rq.2.2)
  else if op = 10 then (∃ (rq : Int32 × sw_M × sw_N) (rm : Int32 × sw_M) (rt : Int32), (f_L_thing N μ ν a1 a2 = some rq) ∧ (f_m_thing N rq.2.1 a1 a2 = some rm) ∧ (f_m_thrown N rm.2 = some rt) ∧ (rt = rq.1) ∧ (rq.1 = 0 → rq.2.2 87 0 = rm.1.toInt64) ∧ μ' = rm.2 ∧ ν' = rq.2.2)
  else if op = 11 then (∃ (rq : Int32 × sw_M × sw_N) (rm : Int32 × sw_M) (rt : Int32), (f_L_person N μ ν a1 a2 = some rq) ∧ (f_m_person N rq.2.1 a1 a2 = some rm) ∧ (f_m_thrown N rm.2 = some rt) ∧ (rt = rq.1) ∧ (rq.1 = 0 → rq.2.2 87 0 = rm.1.toInt64) ∧ μ' = rm.2 ∧ ν' = rq.2.2)
  else if op = 12 then (∃ (rq : Int32 × sw_M × sw_N) (rm : Int32 × sw_M) (rt : Int32), (f_L_toll N μ ν a1 a2 = some rq) ∧ (f_m_toll N rq.2.1 a1 a2 = some rm) ∧ (f_m_thrown N rm.2 = some rt) ∧ (rt = rq.1) ∧ (rq.1 = 0 → rq.2.2 87 0 = rm.1.toInt64) ∧ μ' = rm.2 ∧ ν' = rq.2.2)
  else if op = 13 then (∃ (rq : Int32 × sw_M × sw_N) (rm : Int32 × sw_M) (rt : Int32), (f_L_would N μ ν a1 a2 a3 a4 a5 a6 a7 = some rq) ∧ (f_m_would N rq.2.1 a1 a2 a3 a4 a5 a6 a7 = some rm) ∧ (f_m_thrown N rm.2 = some rt) ∧ (rt = rq.1) ∧ (rq.1 = 0 → rq.2.2 87 0 = rm.1.toInt64) ∧ μ' = rm.2 ∧ ν' = rq.2.2)
  else if op = 14 then (∃ (rq : Int32 × sw_M × sw_N) (rm : Int32 × sw_M) (rt : Int32), (f_L_can N μ ν a1 a2 = some rq) ∧ (f_m_can N rq.2.1 a1 a2 = some rm) ∧ (f_m_thrown N rm.2 = some rt) ∧ (rt = rq.1) ∧ (rq.1 = 0 → rq.2.2 87 0 = (if rm.1 = 0 then 0 else 1)) ∧ μ' = rm.2 ∧ ν' = rq.2.2)
  else if op = 15 then (∃ (rq : Int32 × sw_M × sw_N) (rm : Int32 × sw_M) (rt : Int32), (f_L_ahead N μ ν a1 a2 = some rq) ∧ (f_m_ahead N rq.2.1 a1 a2 = some rm) ∧ (f_m_thrown N rm.2 = some rt) ∧ (rt = rq.1) ∧ (rq.1 = 0 → rq.2.2 87 0 = rm.1.toInt64) ∧ μ' = rm.2 ∧ ν' = rq.2.2)
  else if op = 16 then (∃ (rq : Int32 × sw_M × sw_N) (rm : Int32 × sw_M) (rt : Int32), (f_L_arrives N μ ν a1 a2 = some rq) ∧ (f_m_arrives N rq.2.1 a1 a2 = some rm) ∧ (f_m_thrown N rm.2 = some rt) ∧ (rt = rq.1) ∧ (rq.1 = 0 → rq.2.2 87 0 = rm.1.toInt64) ∧ μ' = rm.2 ∧ ν' = rq.2.2)
  else if op = 17 then (∃ (rq : Int32 × sw_M × sw_N) (rm : Int32 × sw_M) (rt : Int32), (f_L_waits N μ ν a1 a2 = some rq) ∧ (f_m_waits N rq.2.1 a1 a2 = some rm) ∧ (f_m_thrown N rm.2 = some rt) ∧ (rt = rq.1) ∧ (rq.1 = 0 → rq.2.2 87 0 = rm.1.toInt64) ∧ μ' = rm.2 ∧ ν' = rq.2.2)
  else if op = 18 then (∃ (rq : Int32 × sw_M × sw_N) (rm : Int32 × sw_M) (rt : Int32), (f_L_grant N μ ν a1 a2 = some rq) ∧ (f_m_grant N rq.2.1 a1 a2 = some rm) ∧ (f_m_thrown N rm.2 = some rt) ∧ (rt = rq.1) ∧ (rq.1 = 0 → rq.2.2 87 0 = rm.1.toInt64) ∧ μ' = rm.2 ∧ ν' = rq.2.2)
  else if op = 19 then (∃ (rq : Int32 × sw_M × sw_N) (rm : Int32 × sw_M) (rt : Int32), (f_L_pliers N μ ν a1 a2 = some rq) ∧ (f_m_pliers N rq.2.1 a1 a2 = some rm) ∧ (f_m_thrown N rm.2 = some rt) ∧ (rt = rq.1) ∧ (rq.1 = 0 → rq.2.2 87 0 = rm.1.toInt64) ∧ μ' = rm.2 ∧ ν' = rq.2.2)
  else if op = 20 then (∃ (rq : Int32 × sw_M × sw_N) (rm : Int32 × sw_M) (rt : Int32), (f_L_haul N μ ν a1 a2 = some rq) ∧ (f_m_haul N rq.2.1 a1 a2 = some rm) ∧ (f_m_thrown N rm.2 = some rt) ∧ (rt = rq.1) ∧ (rq.1 = 0 → rq.2.2 87 0 = rm.1.toInt64) ∧ μ' = rm.2 ∧ ν' = rq.2.2)
  else if op = 21 then (∃ (rq : Int32 × sw_M × sw_N) (rm : Int32 × sw_M) (rt : Int32), (f_L_fits N μ ν a1 = some rq) ∧ (f_m_fits N rq.2.1 a1 = some rm) ∧ (f_m_thrown N rm.2 = some rt) ∧ (rt = rq.1) ∧ (rq.1 = 0 → rq.2.2 87 0 = rm.1.toInt64) ∧ μ' = rm.2 ∧ ν' = rq.2.2)
  else if op = 22 then (∃ (rq : Int32 × sw_M × sw_N) (rm : Int32 × sw_M) (rt : Int32), (f_L_look N μ ν a1 = some rq) ∧ (f_m_look N rq.2.1 a1 = some rm) ∧ (f_m_thrown N rm.2 = some rt) ∧ (rt = rq.1) ∧ (rq.1 = 0 → rq.2.2 87 0 = rm.1.toInt64) ∧ μ' = rm.2 ∧ ν' = rq.2.2)
  else if op = 23 then (∃ (rq : Int32 × sw_M × sw_N) (rm : Int32 × sw_M) (rt : Int32), (f_L_parts N μ ν a1 = some rq) ∧ (f_m_parts N rq.2.1 a1 = some rm) ∧ (f_m_thrown N rm.2 = some rt) ∧ (rt = rq.1) ∧ (rq.1 = 0 → rq.2.2 87 0 = rm.1.toInt64) ∧ μ' = rm.2 ∧ ν' = rq.2.2)
  else if op = 24 then (∃ (rq : Int32 × sw_M × sw_N) (rm : Int64 × sw_M) (rt : Int32), (f_L_tingle N μ ν a1 a2 a3 = some rq) ∧ (f_m_tingle N rq.2.1 a1 a2 a3 = some rm) ∧ (f_m_thrown N rm.2 = some rt) ∧ (rt = rq.1) ∧ (rq.1 = 0 → rq.2.2 87 0 = rm.1) ∧ μ' = rm.2 ∧ ν' = rq.2.2)
  else if op = 25 then (∃ (rq : Int32 × sw_M × sw_N) (rm : Int32 × sw_M) (rt : Int32), (f_L_lean N μ ν a1 a2 a3 = some rq) ∧ (f_m_lean N rq.2.1 a1 a2 a3 = some rm) ∧ (f_m_thrown N rm.2 = some rt) ∧ (rt = rq.1) ∧ (rq.1 = 0 → rq.2.2 87 0 = rm.1.toInt64) ∧ μ' = rm.2 ∧ ν' = rq.2.2)
  else if op = 26 then (∃ (rq : Int32 × sw_M × sw_N) (rm : Int32 × sw_M) (rt : Int32), (f_L_grace N μ ν a1 a2 a3 = some rq) ∧ (f_m_grace N rq.2.1 a1 a2 a3 = some rm) ∧ (f_m_thrown N rm.2 = some rt) ∧ (rt = rq.1) ∧ (rq.1 = 0 → rq.2.2 87 0 = rm.1.toInt64) ∧ μ' = rm.2 ∧ ν' = rq.2.2)
  else if op = 27 then (∃ (rq : Int32 × sw_M × sw_N) (rm : Int32 × sw_M) (rt : Int32), (f_L_next N μ ν a1 = some rq) ∧ (f_m_next N rq.2.1 a1 = some rm) ∧ (f_m_thrown N rm.2 = some rt) ∧ (rt = rq.1) ∧ (rq.1 = 0 → rq.2.2 87 0 = rm.1.toInt64) ∧ μ' = rm.2 ∧ ν' = rq.2.2)
  else if op = 28 then (∃ (rq : Int32 × sw_M × sw_N) (rm : Int32 × sw_M) (rt : Int32), (f_L_harp N μ ν a1 = some rq) ∧ (f_m_harp N rq.2.1 a1 = some rm) ∧ (f_m_thrown N rm.2 = some rt) ∧ (rt = rq.1) ∧ (rq.1 = 0 → rq.2.2 87 0 = rm.1.toInt64) ∧ μ' = rm.2 ∧ ν' = rq.2.2)
  else if op = 29 then (∃ (rx : Int32 × sw_M) (rm : Int32 × sw_M), (f_x_stuck N μ  = some rx) ∧ (f_m_stuck N rx.2  = some rm) ∧ (rx.1 = rm.1) ∧ μ' = rm.2 ∧ ν' = ν)
  else if op = 30 then (∃ (rx : Int32) (rm : Int32 × sw_M), (f_x_moved N μ  = some rx) ∧ (f_m_moved N μ  = some rm) ∧ (rx = rm.1) ∧ μ' = rm.2 ∧ ν' = ν)
  else if op = 31 then (∃ (rq : Int32 × sw_M × sw_N) (rm : Int32 × sw_M) (rt : Int32), (f_L_gates N μ ν a1 a2 = some rq) ∧ (f_m_gates N rq.2.1 a1 a2 = some rm) ∧ (f_m_thrown N rm.2 = some rt) ∧ (rt = rq.1) ∧ (rq.1 = 0 → rq.2.2 87 0 = rm.1.toInt64) ∧ μ' = rm.2 ∧ ν' = rq.2.2)
  else if op = 32 then (∃ (rq : Int32 × sw_M × sw_N) (rm : Int32 × sw_M) (rt : Int32), (f_L_ground N μ ν a1 a2 = some rq) ∧ (f_m_ground N rq.2.1 a1 a2 = some rm) ∧ (f_m_thrown N rm.2 = some rt) ∧ (rt = rq.1) ∧ (rq.1 = 0 → rq.2.2 87 0 = rm.1.toInt64) ∧ μ' = rm.2 ∧ ν' = rq.2.2)
  else if op = 33 then (∃ (rq : Int32 × sw_M × sw_N) (rm : Int32 × sw_M) (rt : Int32), (f_L_freest N μ ν a1 = some rq) ∧ (f_m_freest N rq.2.1 a1 = some rm) ∧ (f_m_thrown N rm.2 = some rt) ∧ (rt = rq.1) ∧ (rq.1 = 0 → rq.2.2 87 0 = rm.1.toInt64) ∧ μ' = rm.2 ∧ ν' = rq.2.2)
  else if op = 34 then (∃ (rq : Int32 × sw_M × sw_N) (rm : Int32 × sw_M) (rt : Int32), (f_L_autumn N μ ν a1 a2 a3 a4 = some rq) ∧ (f_m_autumn N rq.2.1 a1 a2 a3 a4 = some rm) ∧ (f_m_thrown N rm.2 = some rt) ∧ (rt = rq.1) ∧ (rq.1 = 0 → rq.2.2 87 0 = rm.1.toInt64) ∧ μ' = rm.2 ∧ ν' = rq.2.2)
  else if op = 35 then (∃ (rq : Int32 × sw_M × sw_N) (rm : Int32 × sw_M) (rt : Int32), (f_L_span N μ ν a1 a2 a3 a4 a5 a6 = some rq) ∧ (f_m_span N rq.2.1 a1 a2 a3 a4 a5 a6 = some rm) ∧ (f_m_thrown N rm.2 = some rt) ∧ (rt = rq.1) ∧ (rq.1 = 0 → rq.2.2 87 0 = rm.1.toInt64) ∧ μ' = rm.2 ∧ ν' = rq.2.2)
  else if op = 36 then (∃ (rx : Int32 × sw_M) (rm : Int32 × sw_M), (f_x_image N μ  = some rx) ∧ (f_m_image N rx.2  = some rm) ∧ (rx.1 = rm.1) ∧ μ' = rm.2 ∧ ν' = ν)
  else if op = 37 then (∃ (rx : Int32 × sw_M) (rm : Int32 × sw_M), (f_x_restore N μ  = some rx) ∧ (f_m_restore N rx.2  = some rm) ∧ (rx.1 = rm.1) ∧ μ' = rm.2 ∧ ν' = ν)
  else if op = 38 then (∃ (rx : Int32) (rm : Int32 × sw_M), (f_x_status N μ a1 = some rx) ∧ (f_m_status N μ a1 = some rm) ∧ (rx = rm.1) ∧ μ' = rm.2 ∧ ν' = ν)
  else if op = 39 then (∃ (rx : Int32) (rm : Int32 × sw_M), (f_x_count N μ a1 = some rx) ∧ (f_m_count N μ a1 = some rm) ∧ (rx = rm.1) ∧ μ' = rm.2 ∧ ν' = ν)
  else μ' = μ ∧ ν' = ν
theorem pT {c a b : Prop} [Decidable c] (hc : c) (h : if c then a else b) : a := by rw [if_pos hc] at h; exact h
theorem pF {c a b : Prop} [Decidable c] (hc : ¬ c) (h : if c then a else b) : b := by rw [if_neg hc] at h; exact h
theorem lt_ok : (sw_tt (40 : Nat) 0 (#[176, 249, 305, 361, 417, 473, 486, 499, 555, 623, 691, 759, 827, 895, 1027, 1102, 1170, 1238, 1306, 1374, 1442, 1510, 1566, 1622, 1678, 1757, 1837, 1917, 1973, 2029, 2042, 2055, 2123, 2191, 2247, 2339, 2457, 2470, 2483, 2508] : Array Int).toList = [(0, 216), (1, 289), (2, 345), (3, 401), (4, 457), (5, 513), (6, 526), (7, 539), (8, 595), (9, 663), (10, 731), (11, 799), (12, 867), (13, 935), (14, 1067), (15, 1142), (16, 1210), (17, 1278), (18, 1346), (19, 1414), (20, 1482), (21, 1550), (22, 1606), (23, 1662), (24, 1718), (25, 1797), (26, 1877), (27, 1957), (28, 2013), (29, 2069), (30, 2082), (31, 2095), (32, 2163), (33, 2231), (34, 2287), (35, 2379), (36, 2497), (37, 2510), (38, 2523), (39, 2548)] ∧ ((40 : Nat) : Int) + 2533 = ((2573 : Nat) : Int) ∧ (39 : Int) + 1 = 0 + ((#[176, 249, 305, 361, 417, 473, 486, 499, 555, 623, 691, 759, 827, 895, 1027, 1102, 1170, 1238, 1306, 1374, 1442, 1510, 1566, 1622, 1678, 1757, 1837, 1917, 1973, 2029, 2042, 2055, 2123, 2191, 2247, 2339, 2457, 2470, 2483, 2508] : Array Int).toList.length : Int) ∧ (-2147483648 : Int) ≤ 0 ∧ (39 : Int) + 1 < 2147483648) ∧ (#[176, 249, 305, 361, 417, 473, 486, 499, 555, 623, 691, 759, 827, 895, 1027, 1102, 1170, 1238, 1306, 1374, 1442, 1510, 1566, 1622, 1678, 1757, 1837, 1917, 1973, 2029, 2042, 2055, 2123, 2191, 2247, 2339, 2457, 2470, 2483, 2508] : Array Int).toList.all (fun o => decide (0 ≤ ((40 : Nat) : Int) + o)) = true := by decide +kernel
set_option maxRecDepth 100000 in
set_option maxHeartbeats 8000000 in
theorem law_sw {G : sw_G} {ad : Nat → Nat} {ν : sw_N} {μ : sw_M} {N cs sl b n : Nat} {xs : Nat → Int32} {i : Int32} (g : sw_ok G cL_law_ "DeadWiresLaw" (some .boolean) 1300 601024 7293033 ad) (hm : G.2.2.1.2.1.maxLocals = 8) (hX : va_X b n xs G.2.1.1 G.2.1.1.heap) (hbl : b < G.2.1.1.heap.size) (hbA : ¬ G.2.2.1.2.2.2 b) (h5 : ad 5000 = b) (hcs : cs + 10 ≤ 601024) (hsl : sl + 60 ≤ 7293033) {op a1 a2 a3 a4 a5 a6 a7 : Int32} (hb1 : ¬ (i + 1 < 0 ∨ n ≤ (i + 1).toNatClampNeg) ∧ xs (i + 1).toNatClampNeg = a1) (hb2 : ¬ (i + 2 < 0 ∨ n ≤ (i + 2).toNatClampNeg) ∧ xs (i + 2).toNatClampNeg = a2) (hb3 : ¬ (i + 3 < 0 ∨ n ≤ (i + 3).toNatClampNeg) ∧ xs (i + 3).toNatClampNeg = a3) (hb4 : ¬ (i + 4 < 0 ∨ n ≤ (i + 4).toNatClampNeg) ∧ xs (i + 4).toNatClampNeg = a4) (hb5 : ¬ (i + 5 < 0 ∨ n ≤ (i + 5).toNatClampNeg) ∧ xs (i + 5).toNatClampNeg = a5) (hb6 : ¬ (i + 6 < 0 ∨ n ≤ (i + 6).toNatClampNeg) ∧ xs (i + 6).toNatClampNeg = a6) (hb7 : ¬ (i + 7 < 0 ∨ n ≤ (i + 7).toNatClampNeg) ∧ xs (i + 7).toNatClampNeg = a7) {μ' : sw_M} {ν' : sw_N} (hst : lawStep N op a1 a2 a3 a4 a5 a6 a7 μ ν μ' ν')
    (hend : ∀ cs1 sl1 : Nat, cs1 ≤ cs + 10 → sl1 ≤ sl + 60 → SW G ad lay0 ν' cs1 sl1 2573 [some (.ref 5000), some (.ref 0), some (.ref 63), some (.ref 87), some (.int i), none, none, none] [] μ') : SW G ad lay0 ν cs sl 40 [some (.ref 5000), some (.ref 0), some (.ref 63), some (.ref 87), some (.int i), none, none, none] [.int op] μ := by
  refine SW.tsw (pc := 40) (dn := 2573) (tb := [(0, 216), (1, 289), (2, 345), (3, 401), (4, 457), (5, 513), (6, 526), (7, 539), (8, 595), (9, 663), (10, 731), (11, 799), (12, 867), (13, 935), (14, 1067), (15, 1142), (16, 1210), (17, 1278), (18, 1346), (19, 1414), (20, 1482), (21, 1550), (22, 1606), (23, 1662), (24, 1718), (25, 1797), (26, 1877), (27, 1957), (28, 2013), (29, 2069), (30, 2082), (31, 2095), (32, 2163), (33, 2231), (34, 2287), (35, 2379), (36, 2497), (37, 2510), (38, 2523), (39, 2548)]) g (dt dtl_0 24 rfl) lt_ok ?_
  unfold lawStep at hst
  refine sw_cons (fun hc => ?_) (fun hc => ?_)
  · have hst := pT hc hst
    obtain ⟨rx, rm, hx, hm9, heq, rfl, rfl⟩ := hst
    exact lc_0 g hm hX hbl hbA h5 hcs hsl hb1 hb2 hb3 hb4 hb5 rx rm hx hm9 heq (hend _ _ (by omega) (by omega))
  · have hst := pF hc hst
    refine sw_cons (fun hc => ?_) (fun hc => ?_)
    · have hst := pT hc hst
      obtain ⟨rq, rm, rt, hw, hm9, hth, ht, hv, rfl, rfl⟩ := hst
      exact lc_1 g hm hX hbl hbA h5 hcs hsl hb1 rq rm rt hw hm9 hth ht hv (hend _ _ (by omega) (by omega))
    · have hst := pF hc hst
      refine sw_cons (fun hc => ?_) (fun hc => ?_)
      · have hst := pT hc hst
        obtain ⟨rq, rm, rt, hw, hm9, hth, ht, hv, rfl, rfl⟩ := hst
        exact lc_2 g hm hX hbl hbA h5 hcs hsl hb1 rq rm rt hw hm9 hth ht hv (hend _ _ (by omega) (by omega))
      · have hst := pF hc hst
        refine sw_cons (fun hc => ?_) (fun hc => ?_)
        · have hst := pT hc hst
          obtain ⟨rq, rm, rt, hw, hm9, hth, ht, hv, rfl, rfl⟩ := hst
          exact lc_3 g hm hX hbl hbA h5 hcs hsl hb1 rq rm rt hw hm9 hth ht hv (hend _ _ (by omega) (by omega))
        · have hst := pF hc hst
          refine sw_cons (fun hc => ?_) (fun hc => ?_)
          · have hst := pT hc hst
            obtain ⟨rq, rm, rt, hw, hm9, hth, ht, hv, rfl, rfl⟩ := hst
            exact lc_4 g hm hX hbl hbA h5 hcs hsl hb1 rq rm rt hw hm9 hth ht hv (hend _ _ (by omega) (by omega))
          · have hst := pF hc hst
            refine sw_cons (fun hc => ?_) (fun hc => ?_)
            · have hst := pT hc hst
              obtain ⟨rx, rm, hx, hm9, heq, rfl, rfl⟩ := hst
              exact lc_5 g hm hX hbl hbA h5 hcs hsl  rx rm hx hm9 heq (hend _ _ (by omega) (by omega))
            · have hst := pF hc hst
              refine sw_cons (fun hc => ?_) (fun hc => ?_)
              · have hst := pT hc hst
                obtain ⟨rx, rm, hx, hm9, heq, rfl, rfl⟩ := hst
                exact lc_6 g hm hX hbl hbA h5 hcs hsl  rx rm hx hm9 heq (hend _ _ (by omega) (by omega))
              · have hst := pF hc hst
                refine sw_cons (fun hc => ?_) (fun hc => ?_)
                · have hst := pT hc hst
                  obtain ⟨rq, rm, rt, hw, hm9, hth, ht, hv, rfl, rfl⟩ := hst
                  exact lc_7 g hm hX hbl hbA h5 hcs hsl hb1 rq rm rt hw hm9 hth ht hv (hend _ _ (by omega) (by omega))
                · have hst := pF hc hst
                  refine sw_cons (fun hc => ?_) (fun hc => ?_)
                  · have hst := pT hc hst
                    obtain ⟨rq, rm, rt, hw, hm9, hth, ht, hv, rfl, rfl⟩ := hst
                    exact lc_8 g hm hX hbl hbA h5 hcs hsl hb1 hb2 rq rm rt hw hm9 hth ht hv (hend _ _ (by omega) (by omega))
                  · have hst := pF hc hst
                    refine sw_cons (fun hc => ?_) (fun hc => ?_)
                    · have hst := pT hc hst
                      obtain ⟨rq, rm, rt, hw, hm9, hth, ht, hv, rfl, rfl⟩ := hst
                      exact lc_9 g hm hX hbl hbA h5 hcs hsl hb1 hb2 rq rm rt hw hm9 hth ht hv (hend _ _ (by omega) (by omega))
                    · have hst := pF hc hst
                      refine sw_cons (fun hc => ?_) (fun hc => ?_)
                      · have hst := pT hc hst
                        obtain ⟨rq, rm, rt, hw, hm9, hth, ht, hv, rfl, rfl⟩ := hst
                        exact lc_10 g hm hX hbl hbA h5 hcs hsl hb1 hb2 rq rm rt hw hm9 hth ht hv (hend _ _ (by omega) (by omega))
                      · have hst := pF hc hst
                        refine sw_cons (fun hc => ?_) (fun hc => ?_)
                        · have hst := pT hc hst
                          obtain ⟨rq, rm, rt, hw, hm9, hth, ht, hv, rfl, rfl⟩ := hst
                          exact lc_11 g hm hX hbl hbA h5 hcs hsl hb1 hb2 rq rm rt hw hm9 hth ht hv (hend _ _ (by omega) (by omega))
                        · have hst := pF hc hst
                          refine sw_cons (fun hc => ?_) (fun hc => ?_)
                          · have hst := pT hc hst
                            obtain ⟨rq, rm, rt, hw, hm9, hth, ht, hv, rfl, rfl⟩ := hst
                            exact lc_12 g hm hX hbl hbA h5 hcs hsl hb1 hb2 rq rm rt hw hm9 hth ht hv (hend _ _ (by omega) (by omega))
                          · have hst := pF hc hst
                            refine sw_cons (fun hc => ?_) (fun hc => ?_)
                            · have hst := pT hc hst
                              obtain ⟨rq, rm, rt, hw, hm9, hth, ht, hv, rfl, rfl⟩ := hst
                              exact lc_13 g hm hX hbl hbA h5 hcs hsl hb1 hb2 hb3 hb4 hb5 hb6 hb7 rq rm rt hw hm9 hth ht hv (hend _ _ (by omega) (by omega))
                            · have hst := pF hc hst
                              refine sw_cons (fun hc => ?_) (fun hc => ?_)
                              · have hst := pT hc hst
                                obtain ⟨rq, rm, rt, hw, hm9, hth, ht, hv, rfl, rfl⟩ := hst
                                exact lc_14 g hm hX hbl hbA h5 hcs hsl hb1 hb2 rq rm rt hw hm9 hth ht hv (hend _ _ (by omega) (by omega))
                              · have hst := pF hc hst
                                refine sw_cons (fun hc => ?_) (fun hc => ?_)
                                · have hst := pT hc hst
                                  obtain ⟨rq, rm, rt, hw, hm9, hth, ht, hv, rfl, rfl⟩ := hst
                                  exact lc_15 g hm hX hbl hbA h5 hcs hsl hb1 hb2 rq rm rt hw hm9 hth ht hv (hend _ _ (by omega) (by omega))
                                · have hst := pF hc hst
                                  refine sw_cons (fun hc => ?_) (fun hc => ?_)
                                  · have hst := pT hc hst
                                    obtain ⟨rq, rm, rt, hw, hm9, hth, ht, hv, rfl, rfl⟩ := hst
                                    exact lc_16 g hm hX hbl hbA h5 hcs hsl hb1 hb2 rq rm rt hw hm9 hth ht hv (hend _ _ (by omega) (by omega))
                                  · have hst := pF hc hst
                                    refine sw_cons (fun hc => ?_) (fun hc => ?_)
                                    · have hst := pT hc hst
                                      obtain ⟨rq, rm, rt, hw, hm9, hth, ht, hv, rfl, rfl⟩ := hst
                                      exact lc_17 g hm hX hbl hbA h5 hcs hsl hb1 hb2 rq rm rt hw hm9 hth ht hv (hend _ _ (by omega) (by omega))
                                    · have hst := pF hc hst
                                      refine sw_cons (fun hc => ?_) (fun hc => ?_)
                                      · have hst := pT hc hst
                                        obtain ⟨rq, rm, rt, hw, hm9, hth, ht, hv, rfl, rfl⟩ := hst
                                        exact lc_18 g hm hX hbl hbA h5 hcs hsl hb1 hb2 rq rm rt hw hm9 hth ht hv (hend _ _ (by omega) (by omega))
                                      · have hst := pF hc hst
                                        refine sw_cons (fun hc => ?_) (fun hc => ?_)
                                        · have hst := pT hc hst
                                          obtain ⟨rq, rm, rt, hw, hm9, hth, ht, hv, rfl, rfl⟩ := hst
                                          exact lc_19 g hm hX hbl hbA h5 hcs hsl hb1 hb2 rq rm rt hw hm9 hth ht hv (hend _ _ (by omega) (by omega))
                                        · have hst := pF hc hst
                                          refine sw_cons (fun hc => ?_) (fun hc => ?_)
                                          · have hst := pT hc hst
                                            obtain ⟨rq, rm, rt, hw, hm9, hth, ht, hv, rfl, rfl⟩ := hst
                                            exact lc_20 g hm hX hbl hbA h5 hcs hsl hb1 hb2 rq rm rt hw hm9 hth ht hv (hend _ _ (by omega) (by omega))
                                          · have hst := pF hc hst
                                            refine sw_cons (fun hc => ?_) (fun hc => ?_)
                                            · have hst := pT hc hst
                                              obtain ⟨rq, rm, rt, hw, hm9, hth, ht, hv, rfl, rfl⟩ := hst
                                              exact lc_21 g hm hX hbl hbA h5 hcs hsl hb1 rq rm rt hw hm9 hth ht hv (hend _ _ (by omega) (by omega))
                                            · have hst := pF hc hst
                                              refine sw_cons (fun hc => ?_) (fun hc => ?_)
                                              · have hst := pT hc hst
                                                obtain ⟨rq, rm, rt, hw, hm9, hth, ht, hv, rfl, rfl⟩ := hst
                                                exact lc_22 g hm hX hbl hbA h5 hcs hsl hb1 rq rm rt hw hm9 hth ht hv (hend _ _ (by omega) (by omega))
                                              · have hst := pF hc hst
                                                refine sw_cons (fun hc => ?_) (fun hc => ?_)
                                                · have hst := pT hc hst
                                                  obtain ⟨rq, rm, rt, hw, hm9, hth, ht, hv, rfl, rfl⟩ := hst
                                                  exact lc_23 g hm hX hbl hbA h5 hcs hsl hb1 rq rm rt hw hm9 hth ht hv (hend _ _ (by omega) (by omega))
                                                · have hst := pF hc hst
                                                  refine sw_cons (fun hc => ?_) (fun hc => ?_)
                                                  · have hst := pT hc hst
                                                    obtain ⟨rq, rm, rt, hw, hm9, hth, ht, hv, rfl, rfl⟩ := hst
                                                    exact lc_24 g hm hX hbl hbA h5 hcs hsl hb1 hb2 hb3 rq rm rt hw hm9 hth ht hv (hend _ _ (by omega) (by omega))
                                                  · have hst := pF hc hst
                                                    refine sw_cons (fun hc => ?_) (fun hc => ?_)
                                                    · have hst := pT hc hst
                                                      obtain ⟨rq, rm, rt, hw, hm9, hth, ht, hv, rfl, rfl⟩ := hst
                                                      exact lc_25 g hm hX hbl hbA h5 hcs hsl hb1 hb2 hb3 rq rm rt hw hm9 hth ht hv (hend _ _ (by omega) (by omega))
                                                    · have hst := pF hc hst
                                                      refine sw_cons (fun hc => ?_) (fun hc => ?_)
                                                      · have hst := pT hc hst
                                                        obtain ⟨rq, rm, rt, hw, hm9, hth, ht, hv, rfl, rfl⟩ := hst
                                                        exact lc_26 g hm hX hbl hbA h5 hcs hsl hb1 hb2 hb3 rq rm rt hw hm9 hth ht hv (hend _ _ (by omega) (by omega))
                                                      · have hst := pF hc hst
                                                        refine sw_cons (fun hc => ?_) (fun hc => ?_)
                                                        · have hst := pT hc hst
                                                          obtain ⟨rq, rm, rt, hw, hm9, hth, ht, hv, rfl, rfl⟩ := hst
                                                          exact lc_27 g hm hX hbl hbA h5 hcs hsl hb1 rq rm rt hw hm9 hth ht hv (hend _ _ (by omega) (by omega))
                                                        · have hst := pF hc hst
                                                          refine sw_cons (fun hc => ?_) (fun hc => ?_)
                                                          · have hst := pT hc hst
                                                            obtain ⟨rq, rm, rt, hw, hm9, hth, ht, hv, rfl, rfl⟩ := hst
                                                            exact lc_28 g hm hX hbl hbA h5 hcs hsl hb1 rq rm rt hw hm9 hth ht hv (hend _ _ (by omega) (by omega))
                                                          · have hst := pF hc hst
                                                            refine sw_cons (fun hc => ?_) (fun hc => ?_)
                                                            · have hst := pT hc hst
                                                              obtain ⟨rx, rm, hx, hm9, heq, rfl, rfl⟩ := hst
                                                              exact lc_29 g hm hX hbl hbA h5 hcs hsl  rx rm hx hm9 heq (hend _ _ (by omega) (by omega))
                                                            · have hst := pF hc hst
                                                              refine sw_cons (fun hc => ?_) (fun hc => ?_)
                                                              · have hst := pT hc hst
                                                                obtain ⟨rx, rm, hx, hm9, heq, rfl, rfl⟩ := hst
                                                                exact lc_30 g hm hX hbl hbA h5 hcs hsl  rx rm hx hm9 heq (hend _ _ (by omega) (by omega))
                                                              · have hst := pF hc hst
                                                                refine sw_cons (fun hc => ?_) (fun hc => ?_)
                                                                · have hst := pT hc hst
                                                                  obtain ⟨rq, rm, rt, hw, hm9, hth, ht, hv, rfl, rfl⟩ := hst
                                                                  exact lc_31 g hm hX hbl hbA h5 hcs hsl hb1 hb2 rq rm rt hw hm9 hth ht hv (hend _ _ (by omega) (by omega))
                                                                · have hst := pF hc hst
                                                                  refine sw_cons (fun hc => ?_) (fun hc => ?_)
                                                                  · have hst := pT hc hst
                                                                    obtain ⟨rq, rm, rt, hw, hm9, hth, ht, hv, rfl, rfl⟩ := hst
                                                                    exact lc_32 g hm hX hbl hbA h5 hcs hsl hb1 hb2 rq rm rt hw hm9 hth ht hv (hend _ _ (by omega) (by omega))
                                                                  · have hst := pF hc hst
                                                                    refine sw_cons (fun hc => ?_) (fun hc => ?_)
                                                                    · have hst := pT hc hst
                                                                      obtain ⟨rq, rm, rt, hw, hm9, hth, ht, hv, rfl, rfl⟩ := hst
                                                                      exact lc_33 g hm hX hbl hbA h5 hcs hsl hb1 rq rm rt hw hm9 hth ht hv (hend _ _ (by omega) (by omega))
                                                                    · have hst := pF hc hst
                                                                      refine sw_cons (fun hc => ?_) (fun hc => ?_)
                                                                      · have hst := pT hc hst
                                                                        obtain ⟨rq, rm, rt, hw, hm9, hth, ht, hv, rfl, rfl⟩ := hst
                                                                        exact lc_34 g hm hX hbl hbA h5 hcs hsl hb1 hb2 hb3 hb4 rq rm rt hw hm9 hth ht hv (hend _ _ (by omega) (by omega))
                                                                      · have hst := pF hc hst
                                                                        refine sw_cons (fun hc => ?_) (fun hc => ?_)
                                                                        · have hst := pT hc hst
                                                                          obtain ⟨rq, rm, rt, hw, hm9, hth, ht, hv, rfl, rfl⟩ := hst
                                                                          exact lc_35 g hm hX hbl hbA h5 hcs hsl hb1 hb2 hb3 hb4 hb5 hb6 rq rm rt hw hm9 hth ht hv (hend _ _ (by omega) (by omega))
                                                                        · have hst := pF hc hst
                                                                          refine sw_cons (fun hc => ?_) (fun hc => ?_)
                                                                          · have hst := pT hc hst
                                                                            obtain ⟨rx, rm, hx, hm9, heq, rfl, rfl⟩ := hst
                                                                            exact lc_36 g hm hX hbl hbA h5 hcs hsl  rx rm hx hm9 heq (hend _ _ (by omega) (by omega))
                                                                          · have hst := pF hc hst
                                                                            refine sw_cons (fun hc => ?_) (fun hc => ?_)
                                                                            · have hst := pT hc hst
                                                                              obtain ⟨rx, rm, hx, hm9, heq, rfl, rfl⟩ := hst
                                                                              exact lc_37 g hm hX hbl hbA h5 hcs hsl  rx rm hx hm9 heq (hend _ _ (by omega) (by omega))
                                                                            · have hst := pF hc hst
                                                                              refine sw_cons (fun hc => ?_) (fun hc => ?_)
                                                                              · have hst := pT hc hst
                                                                                obtain ⟨rx, rm, hx, hm9, heq, rfl, rfl⟩ := hst
                                                                                exact lc_38 g hm hX hbl hbA h5 hcs hsl hb1 rx rm hx hm9 heq (hend _ _ (by omega) (by omega))
                                                                              · have hst := pF hc hst
                                                                                refine sw_cons (fun hc => ?_) (fun hc => ?_)
                                                                                · have hst := pT hc hst
                                                                                  obtain ⟨rx, rm, hx, hm9, heq, rfl, rfl⟩ := hst
                                                                                  exact lc_39 g hm hX hbl hbA h5 hcs hsl hb1 rx rm hx hm9 heq (hend _ _ (by omega) (by omega))
                                                                                · have hst := pF hc hst
                                                                                  obtain ⟨rfl, rfl⟩ := hst
                                                                                  exact hend _ _ (by omega) (by omega)
theorem kn_8 (x : Int32) : x + Int32.ofInt (8) = x + (8) := by rw [show Int32.ofInt (8) = (8 : Int32) by decide]
/-- the script's places of one call -/
theorem law_hb {n k : Nat} {xs : Nat → Int32} (hn : n ≤ 4096) (hk : 8 * k + 8 ≤ n) (j : Nat) (hj : j < 8) : ¬ (nI (8 * k) + nI j < 0 ∨ n ≤ (nI (8 * k) + nI j).toNatClampNeg) ∧ xs (nI (8 * k) + nI j).toNatClampNeg = xs (8 * k + j) := by
  rw [nI_add, nI_clamp (by omega)]
  refine ⟨?_, rfl⟩
  rintro (h | h)
  · exact nI_pos (by omega) h
  · omega
/-- what is left of the claim: no machine in it -/
def LawTrue : Prop := ∃ (N : Nat) (Inv : sw_M → Prop), (∃ r1 r2 : sw_M, f_x_init N (wrR (fun _ _ => 0) 0 (fun _ => 0)) = some r1 ∧ f_m_init N (wrR r1 63 (fun _ => 0)) = some r2 ∧ Inv r2) ∧
  ∀ (μ : sw_M) (ν : sw_N) (op a1 a2 a3 a4 a5 a6 a7 : Int32), Inv μ → ∃ (μ' : sw_M) (ν' : sw_N), lawStep N op a1 a2 a3 a4 a5 a6 a7 μ ν μ' ν' ∧ Inv μ'
set_option maxRecDepth 100000 in
set_option maxHeartbeats 4000000 in
theorem law_loop {G : sw_G} {ad : Nat → Nat} {N b n : Nat} {xs : Nat → Int32} {Inv : sw_M → Prop} (g : sw_ok G cL_law_ "DeadWiresLaw" (some .boolean) 1300 601024 7293033 ad) (hm : G.2.2.1.2.1.maxLocals = 8) (hX : va_X b n xs G.2.1.1 G.2.1.1.heap) (hbl : b < G.2.1.1.heap.size) (hbA : ¬ G.2.2.1.2.2.2 b) (h5 : ad 5000 = b) (hn : n ≤ 4096)
    (hI : ∀ (μ : sw_M) (ν : sw_N) (op a1 a2 a3 a4 a5 a6 a7 : Int32), Inv μ → ∃ (μ' : sw_M) (ν' : sw_N), lawStep N op a1 a2 a3 a4 a5 a6 a7 μ ν μ' ν' ∧ Inv μ')
    (hfin : ∀ (μ : sw_M) (ν : sw_N) (cs sl : Nat) (lv : List (Option Value)), cs ≤ 601024 → sl ≤ 7293033 → SW G ad lay0 ν cs sl 2579 lv [] μ) :
    ∀ (f k : Nat) (μ : sw_M) (ν : sw_N) (cs sl : Nat), n < 8 * k + 8 * f → 8 * k ≤ n → cs ≤ 1000 + 10 * k → sl ≤ 100000 + 60 * k → Inv μ → SW G ad lay0 ν cs sl 23 [some (.ref 5000), some (.ref 0), some (.ref 63), some (.ref 87), some (.int (nI (8 * k))), none, none, none] [] μ := by
  intro f
  induction f with
  | zero => intro k μ ν cs sl h1 h2; omega
  | succ f ih =>
    intro k μ ν cs sl h1 h2 h3 h4 hμ
    refine SW.iload (pc := 23) g (dt dtl_0 13 rfl) rfl ?_
    refine SW.aload_n (pc := 25) g (dt dtl_0 14 rfl) rfl ?_
    refine SW.slen (pc := 26) g (dt dtl_0 15 rfl) hX hbl hbA h5 ?_
    refine SW.bipush (pc := 27) (v := 8) g (dt dtl_0 16 rfl) kb_8 ?_
    refine SW.isub (pc := 29) g (dt dtl_0 17 rfl) ?_
    refine SW.icmp_gt (pc := 30) (t := 2579) g (dt dtl_0 18 rfl) rfl (fun hc => ?_) (fun hc => ?_)
    · exact hfin μ ν cs sl _ (by omega) (by omega)
    · have hk8 : 8 * k + 8 ≤ n := by
        rcases Nat.lt_or_ge n (8 * k + 8) with q | q
        · exfalso
          apply hc
          have e : (nI n - nI 8).toInt = (n : Int) - 8 := pk_sub_toInt (a := n) (b := 8) (by omega) (by omega)
          refine Int32.lt_iff_toInt_lt.mpr ?_
          show (nI n - nI 8).toInt < (nI (8 * k)).toInt
          rw [e, nI_toInt (by omega)]
          omega
        · exact q
      refine SW.aload_n (pc := 33) g (dt dtl_0 19 rfl) rfl ?_
      refine SW.iload (pc := 34) g (dt dtl_0 20 rfl) rfl ?_
      refine SW.sld (pc := 36) g (dt dtl_0 21 rfl) hX hbl hbA h5 (by
        rw [nI_clamp (by omega)]
        rintro (h | h)
        · exact nI_pos (by omega) h
        · omega) ?_
      refine SW.bipush (pc := 37) (v := 63) g (dt dtl_0 22 rfl) kb_63 ?_
      refine SW.iand (pc := 39) g (dt dtl_0 23 rfl) ?_
      obtain ⟨μ', ν', hst, hinv⟩ := hI μ ν (xs (nI (8 * k)).toNatClampNeg &&& 63) (xs (8 * k + 1)) (xs (8 * k + 2)) (xs (8 * k + 3)) (xs (8 * k + 4)) (xs (8 * k + 5)) (xs (8 * k + 6)) (xs (8 * k + 7)) hμ
      refine law_sw g hm hX hbl hbA h5 (by omega) (by omega) (law_hb hn hk8 1 (by omega)) (law_hb hn hk8 2 (by omega)) (law_hb hn hk8 3 (by omega)) (law_hb hn hk8 4 (by omega)) (law_hb hn hk8 5 (by omega)) (law_hb hn hk8 6 (by omega)) (law_hb hn hk8 7 (by omega)) hst (fun cs1 sl1 q1 q2 => ?_)
      refine SW.iinc (pc := 2573) (v := nI (8 * k) + 8) g (dt dtl_39 25 rfl) rfl (kn_8 _) (sw_ltm hm (Nat.le_of_ble_eq_true rfl)) rfl ?_
      refine SW.goto (pc := 2576) (t := 23) g (dt dtl_39 26 rfl) rfl ?_
      have e : nI (8 * k) + 8 = nI (8 * (k + 1)) := by
        rw [show (8 : Int32) = nI 8 from rfl, nI_add]
        rfl
      rw [e]
      exact ih (k + 1) μ' ν' cs1 sl1 (by omega) (by omega) (by omega) (by omega) hinv
