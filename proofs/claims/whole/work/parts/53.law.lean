/-! ===== by program (wip/whole/gen52.py): the law's cases ===== -/
theorem lgc_eq {x y : Int64} (h : x = y) : lg_cmp x y = 0 := by subst h; simp [lg_cmp]
theorem lw_ini : Cond.initialized yL_country.cls ∈ gtb := (gtb_of (tbm_1 (List.mem_of_getElem? (i := 0) rfl)) rfl)
set_option maxRecDepth 100000 in
set_option maxHeartbeats 4000000 in
theorem lc_0 {G : sw_G} {ad : Nat → Nat} {ν : sw_N} {μ : sw_M} {N cs sl b n : Nat} {xs : Nat → Int32} {i : Int32} (g : sw_ok G cL_law_ "DeadWiresLaw" (some .boolean) 1300 601024 7293033 ad) (hm : G.2.2.1.2.1.maxLocals = 8) (hX : va_X b n xs G.2.1.1 G.2.1.1.heap) (hbl : b < G.2.1.1.heap.size) (hbA : ¬ G.2.2.1.2.2.2 b) (h5 : ad 5000 = b) (hcs : cs + 10 ≤ 601024) (hsl : sl + 60 ≤ 7293033) {a1 a2 a3 a4 a5 : Int32} (hb1 : ¬ (i + 1 < 0 ∨ n ≤ (i + 1).toNatClampNeg) ∧ xs (i + 1).toNatClampNeg = a1) (hb2 : ¬ (i + 2 < 0 ∨ n ≤ (i + 2).toNatClampNeg) ∧ xs (i + 2).toNatClampNeg = a2) (hb3 : ¬ (i + 3 < 0 ∨ n ≤ (i + 3).toNatClampNeg) ∧ xs (i + 3).toNatClampNeg = a3) (hb4 : ¬ (i + 4 < 0 ∨ n ≤ (i + 4).toNatClampNeg) ∧ xs (i + 4).toNatClampNeg = a4) (hb5 : ¬ (i + 5 < 0 ∨ n ≤ (i + 5).toNatClampNeg) ∧ xs (i + 5).toNatClampNeg = a5) (rx : Int32 × sw_M) (rm : Int32 × sw_M) (hx : f_x_feed N μ a1 a2 a3 a4 a5 = some rx) (hm9 : f_m_feed N rx.2 a1 a2 a3 a4 a5 = some rm) (heq : rx.1 = rm.1) (hend0 : SW G ad lay0 ν (cs + 0) (sl + 0) 2573 [some (.ref 5000), some (.ref 0), some (.ref 63), some (.ref 87), some (.int i), none, none, none] [] rm.2) : SW G ad lay0 ν cs sl 216 [some (.ref 5000), some (.ref 0), some (.ref 63), some (.ref 87), some (.int i), none, none, none] [] μ := by
  refine SW.aload_n (pc := 216) g (dt dtl_0 25 rfl) rfl ?_
  refine SW.aload_n (pc := 217) g (dt dtl_0 26 rfl) rfl ?_
  refine SW.iload (pc := 218) g (dt dtl_0 27 rfl) rfl ?_
  refine SW.iconst (pc := 220) (v := 1) g (dt dtl_0 28 rfl) ki_1 ?_
  refine SW.iadd (pc := 221) g (dt dtl_0 29 rfl) ?_
  refine SW.sld (pc := 222) (i := i + 1) g (dt dtl_0 30 rfl) hX hbl hbA h5 (hb1).1 ?_
  rw [(hb1).2]
  refine SW.aload_n (pc := 223) g (dt dtl_0 31 rfl) rfl ?_
  refine SW.iload (pc := 224) g (dt dtl_0 32 rfl) rfl ?_
  refine SW.iconst (pc := 226) (v := 2) g (dt dtl_0 33 rfl) ki_2 ?_
  refine SW.iadd (pc := 227) g (dt dtl_0 34 rfl) ?_
  refine SW.sld (pc := 228) (i := i + 2) g (dt dtl_0 35 rfl) hX hbl hbA h5 (hb2).1 ?_
  rw [(hb2).2]
  refine SW.aload_n (pc := 229) g (dt dtl_0 36 rfl) rfl ?_
  refine SW.iload (pc := 230) g (dt dtl_0 37 rfl) rfl ?_
  refine SW.iconst (pc := 232) (v := 3) g (dt dtl_0 38 rfl) ki_3 ?_
  refine SW.iadd (pc := 233) g (dt dtl_0 39 rfl) ?_
  refine SW.sld (pc := 234) (i := i + 3) g (dt dtl_1 0 rfl) hX hbl hbA h5 (hb3).1 ?_
  rw [(hb3).2]
  refine SW.aload_n (pc := 235) g (dt dtl_1 1 rfl) rfl ?_
  refine SW.iload (pc := 236) g (dt dtl_1 2 rfl) rfl ?_
  refine SW.iconst (pc := 238) (v := 4) g (dt dtl_1 3 rfl) ki_4 ?_
  refine SW.iadd (pc := 239) g (dt dtl_1 4 rfl) ?_
  refine SW.sld (pc := 240) (i := i + 4) g (dt dtl_1 5 rfl) hX hbl hbA h5 (hb4).1 ?_
  rw [(hb4).2]
  refine SW.aload_n (pc := 241) g (dt dtl_1 6 rfl) rfl ?_
  refine SW.iload (pc := 242) g (dt dtl_1 7 rfl) rfl ?_
  refine SW.iconst (pc := 244) (v := 5) g (dt dtl_1 8 rfl) ki_5 ?_
  refine SW.iadd (pc := 245) g (dt dtl_1 9 rfl) ?_
  refine SW.sld (pc := 246) (i := i + 5) g (dt dtl_1 10 rfl) hX hbl hbA h5 (hb5).1 ?_
  rw [(hb5).2]
  refine SW.callVi (pc := 247) g (dt dtl_1 11 rfl) (mt_f_x_feed _ _ _ _ ad ν N μ a1 a2 a3 a4 a5 rx hx) me_X10_feed mv_X10_feed (gtb_of (tbm_2 (List.mem_of_getElem? (i := 215) rfl)) rfl) cell_0 rfl rfl (Nat.le_of_ble_eq_true rfl) (Nat.le_of_ble_eq_true rfl) (by omega) (by omega) rfl ?_
  refine SW.aload_n (pc := 250) g (dt dtl_1 12 rfl) rfl ?_
  refine SW.aload_n (pc := 251) g (dt dtl_1 13 rfl) rfl ?_
  refine SW.iload (pc := 252) g (dt dtl_1 14 rfl) rfl ?_
  refine SW.iconst (pc := 254) (v := 1) g (dt dtl_1 15 rfl) ki_1 ?_
  refine SW.iadd (pc := 255) g (dt dtl_1 16 rfl) ?_
  refine SW.sld (pc := 256) (i := i + 1) g (dt dtl_1 17 rfl) hX hbl hbA h5 (hb1).1 ?_
  rw [(hb1).2]
  refine SW.aload_n (pc := 257) g (dt dtl_1 18 rfl) rfl ?_
  refine SW.iload (pc := 258) g (dt dtl_1 19 rfl) rfl ?_
  refine SW.iconst (pc := 260) (v := 2) g (dt dtl_1 20 rfl) ki_2 ?_
  refine SW.iadd (pc := 261) g (dt dtl_1 21 rfl) ?_
  refine SW.sld (pc := 262) (i := i + 2) g (dt dtl_1 22 rfl) hX hbl hbA h5 (hb2).1 ?_
  rw [(hb2).2]
  refine SW.aload_n (pc := 263) g (dt dtl_1 23 rfl) rfl ?_
  refine SW.iload (pc := 264) g (dt dtl_1 24 rfl) rfl ?_
  refine SW.iconst (pc := 266) (v := 3) g (dt dtl_1 25 rfl) ki_3 ?_
  refine SW.iadd (pc := 267) g (dt dtl_1 26 rfl) ?_
  refine SW.sld (pc := 268) (i := i + 3) g (dt dtl_1 27 rfl) hX hbl hbA h5 (hb3).1 ?_
  rw [(hb3).2]
  refine SW.aload_n (pc := 269) g (dt dtl_1 28 rfl) rfl ?_
  refine SW.iload (pc := 270) g (dt dtl_1 29 rfl) rfl ?_
  refine SW.iconst (pc := 272) (v := 4) g (dt dtl_1 30 rfl) ki_4 ?_
  refine SW.iadd (pc := 273) g (dt dtl_1 31 rfl) ?_
  refine SW.sld (pc := 274) (i := i + 4) g (dt dtl_1 32 rfl) hX hbl hbA h5 (hb4).1 ?_
  rw [(hb4).2]
  refine SW.aload_n (pc := 275) g (dt dtl_1 33 rfl) rfl ?_
  refine SW.iload (pc := 276) g (dt dtl_1 34 rfl) rfl ?_
  refine SW.iconst (pc := 278) (v := 5) g (dt dtl_1 35 rfl) ki_5 ?_
  refine SW.iadd (pc := 279) g (dt dtl_1 36 rfl) ?_
  refine SW.sld (pc := 280) (i := i + 5) g (dt dtl_1 37 rfl) hX hbl hbA h5 (hb5).1 ?_
  rw [(hb5).2]
  refine SW.callVi (pc := 281) g (dt dtl_1 38 rfl) (mt_f_m_feed _ _ _ _ ad ν N rx.2 a1 a2 a3 a4 a5 rm hm9) me_X11_feed mv_X11_feed (gtb_of (tbm_7 (List.mem_of_getElem? (i := 156) rfl)) rfl) cell_63 rfl rfl (Nat.le_of_ble_eq_true rfl) (Nat.le_of_ble_eq_true rfl) (by omega) (by omega) rfl ?_
  refine SW.icmp_eq (pc := 284) (t := 2573) g (dt dtl_1 39 rfl) rfl (fun _ => ?_) (fun hc => absurd heq hc)
  refine SW.msk [true, true, true, true, true] ?_
  exact hend0
set_option maxRecDepth 100000 in
set_option maxHeartbeats 4000000 in
theorem lc_1 {G : sw_G} {ad : Nat → Nat} {ν : sw_N} {μ : sw_M} {N cs sl b n : Nat} {xs : Nat → Int32} {i : Int32} (g : sw_ok G cL_law_ "DeadWiresLaw" (some .boolean) 1300 601024 7293033 ad) (hm : G.2.2.1.2.1.maxLocals = 8) (hX : va_X b n xs G.2.1.1 G.2.1.1.heap) (hbl : b < G.2.1.1.heap.size) (hbA : ¬ G.2.2.1.2.2.2 b) (h5 : ad 5000 = b) (hcs : cs + 10 ≤ 601024) (hsl : sl + 60 ≤ 7293033) {a1 : Int32} (hb1 : ¬ (i + 1 < 0 ∨ n ≤ (i + 1).toNatClampNeg) ∧ xs (i + 1).toNatClampNeg = a1) (rq : Int32 × sw_M × sw_N) (rm : Int32 × sw_M) (rt : Int32) (hw : f_L_country N μ ν a1 = some rq) (hm9 : f_m_country N rq.2.1 a1 = some rm) (hth : f_m_thrown N rm.2 = some rt) (ht : rt = rq.1) (hv : rq.1 = 0 → rq.2.2 87 0 = rm.1.toInt64) (hend0 : SW G ad lay0 rq.2.2 (cs + 1) (sl + 6) 2573 [some (.ref 5000), some (.ref 0), some (.ref 63), some (.ref 87), some (.int i), none, none, none] [] rm.2) : SW G ad lay0 ν cs sl 289 [some (.ref 5000), some (.ref 0), some (.ref 63), some (.ref 87), some (.int i), none, none, none] [] μ := by
  refine SW.aload_n (pc := 289) g (dt dtl_2 2 rfl) rfl ?_
  refine SW.aload_n (pc := 290) g (dt dtl_2 3 rfl) rfl ?_
  refine SW.iload (pc := 291) g (dt dtl_2 4 rfl) rfl ?_
  refine SW.iconst (pc := 293) (v := 1) g (dt dtl_2 5 rfl) ki_1 ?_
  refine SW.iadd (pc := 294) g (dt dtl_2 6 rfl) ?_
  refine SW.sld (pc := 295) (i := i + 1) g (dt dtl_2 7 rfl) hX hbl hbA h5 (hb1).1 ?_
  rw [(hb1).2]
  refine SW.aload_n (pc := 296) g (dt dtl_2 8 rfl) rfl ?_
  refine SW.callW (pc := 297) (np := 3) g (dt dtl_2 9 rfl) (mw_f_L_country _ _ _ _ ad ν N μ a1 rq hw) cw_L_country lw_ini ⟨by decide +kernel, by decide +kernel⟩ (by decide +kernel) (Nat.le_of_ble_eq_true rfl) cs_L_country (gtb_of (tbm_3 (List.mem_of_getElem? (i := 125) rfl)) rfl) rfl (Nat.le_of_ble_eq_true rfl) (Nat.le_of_ble_eq_true rfl) (by omega) (by omega) rfl ?_
  refine SW.istore (pc := 300) g (dt dtl_2 10 rfl) (sw_ltm hm (Nat.le_of_ble_eq_true rfl)) rfl ?_
  refine SW.aload_n (pc := 302) g (dt dtl_2 11 rfl) rfl ?_
  refine SW.aload_n (pc := 303) g (dt dtl_2 12 rfl) rfl ?_
  refine SW.iload (pc := 304) g (dt dtl_2 13 rfl) rfl ?_
  refine SW.iconst (pc := 306) (v := 1) g (dt dtl_2 14 rfl) ki_1 ?_
  refine SW.iadd (pc := 307) g (dt dtl_2 15 rfl) ?_
  refine SW.sld (pc := 308) (i := i + 1) g (dt dtl_2 16 rfl) hX hbl hbA h5 (hb1).1 ?_
  rw [(hb1).2]
  refine SW.callVi (pc := 309) g (dt dtl_2 17 rfl) (mt_f_m_country _ _ _ _ ad rq.2.2 N rq.2.1 a1 rm hm9) me_X11_country mv_X11_country (gtb_of (tbm_7 (List.mem_of_getElem? (i := 164) rfl)) rfl) cell_63 rfl rfl (Nat.le_of_ble_eq_true rfl) (Nat.le_of_ble_eq_true rfl) (by omega) (by omega) rfl ?_
  refine SW.istore (pc := 312) g (dt dtl_2 18 rfl) (sw_ltm hm (Nat.le_of_ble_eq_true rfl)) rfl ?_
  refine SW.aload_n (pc := 314) g (dt dtl_2 19 rfl) rfl ?_
  refine SW.callVi (pc := 315) g (dt dtl_2 20 rfl) (mt_f_m_thrown _ _ _ _ ad rq.2.2 N rm.2  rt hth) me_X11_thrown mv_X11_thrown (gtb_of (tbm_6 (List.mem_of_getElem? (i := 220) rfl)) rfl) cell_63 rfl rfl (Nat.le_of_ble_eq_true rfl) (Nat.le_of_ble_eq_true rfl) (by omega) (by omega) rfl ?_
  refine SW.iload (pc := 318) g (dt dtl_2 21 rfl) rfl ?_
  refine SW.icmp_eq (pc := 320) (t := 325) g (dt dtl_2 22 rfl) rfl (fun _ => ?_) (fun hc => absurd ht hc)
  refine SW.iload (pc := 325) g (dt dtl_2 25 rfl) rfl ?_
  refine SW.if_ne (pc := 327) (t := 342) g (dt dtl_2 26 rfl) rfl (fun hc => ?_) (fun hc => ?_)
  · refine SW.goto (pc := 342) (t := 2573) g (dt dtl_2 36 rfl) rfl ?_
    refine SW.msk [true, true, true, true, true] ?_
    exact hend0
  · refine SW.aload_n (pc := 330) g (dt dtl_2 27 rfl) rfl ?_
    refine SW.iconst (pc := 331) (v := 0) g (dt dtl_2 28 rfl) ki_0 ?_
    refine SW.laload (pc := 332) g (dt dtl_2 29 rfl) cell_87 (by decide) ?_
    refine SW.iload (pc := 333) g (dt dtl_2 30 rfl) rfl ?_
    refine SW.i2l (pc := 335) g (dt dtl_2 31 rfl) ?_
    refine SW.lcmp (pc := 336) g (dt dtl_2 32 rfl) ?_
    refine SW.if_eq (pc := 337) (t := 342) g (dt dtl_2 33 rfl) rfl (fun _ => ?_) (fun hc9 => absurd (lgc_eq (hv hc)) hc9)
    refine SW.goto (pc := 342) (t := 2573) g (dt dtl_2 36 rfl) rfl ?_
    refine SW.msk [true, true, true, true, true] ?_
    exact hend0
set_option maxRecDepth 100000 in
set_option maxHeartbeats 4000000 in
theorem lc_2 {G : sw_G} {ad : Nat → Nat} {ν : sw_N} {μ : sw_M} {N cs sl b n : Nat} {xs : Nat → Int32} {i : Int32} (g : sw_ok G cL_law_ "DeadWiresLaw" (some .boolean) 1300 601024 7293033 ad) (hm : G.2.2.1.2.1.maxLocals = 8) (hX : va_X b n xs G.2.1.1 G.2.1.1.heap) (hbl : b < G.2.1.1.heap.size) (hbA : ¬ G.2.2.1.2.2.2 b) (h5 : ad 5000 = b) (hcs : cs + 10 ≤ 601024) (hsl : sl + 60 ≤ 7293033) {a1 : Int32} (hb1 : ¬ (i + 1 < 0 ∨ n ≤ (i + 1).toNatClampNeg) ∧ xs (i + 1).toNatClampNeg = a1) (rq : Int32 × sw_M × sw_N) (rm : Int32 × sw_M) (rt : Int32) (hw : f_L_law N μ ν a1 = some rq) (hm9 : f_m_law N rq.2.1 a1 = some rm) (hth : f_m_thrown N rm.2 = some rt) (ht : rt = rq.1) (hv : rq.1 = 0 → rq.2.2 87 0 = rm.1.toInt64) (hend0 : SW G ad lay0 rq.2.2 (cs + 1) (sl + 6) 2573 [some (.ref 5000), some (.ref 0), some (.ref 63), some (.ref 87), some (.int i), none, none, none] [] rm.2) : SW G ad lay0 ν cs sl 345 [some (.ref 5000), some (.ref 0), some (.ref 63), some (.ref 87), some (.int i), none, none, none] [] μ := by
  refine SW.aload_n (pc := 345) g (dt dtl_2 37 rfl) rfl ?_
  refine SW.aload_n (pc := 346) g (dt dtl_2 38 rfl) rfl ?_
  refine SW.iload (pc := 347) g (dt dtl_2 39 rfl) rfl ?_
  refine SW.iconst (pc := 349) (v := 1) g (dt dtl_3 0 rfl) ki_1 ?_
  refine SW.iadd (pc := 350) g (dt dtl_3 1 rfl) ?_
  refine SW.sld (pc := 351) (i := i + 1) g (dt dtl_3 2 rfl) hX hbl hbA h5 (hb1).1 ?_
  rw [(hb1).2]
  refine SW.aload_n (pc := 352) g (dt dtl_3 3 rfl) rfl ?_
  refine SW.callW (pc := 353) (np := 3) g (dt dtl_3 4 rfl) (mw_f_L_law _ _ _ _ ad ν N μ a1 rq hw) cw_L_law lw_ini ⟨by decide +kernel, by decide +kernel⟩ (by decide +kernel) (Nat.le_of_ble_eq_true rfl) cs_L_law (gtb_of (tbm_4 (List.mem_of_getElem? (i := 105) rfl)) rfl) rfl (Nat.le_of_ble_eq_true rfl) (Nat.le_of_ble_eq_true rfl) (by omega) (by omega) rfl ?_
  refine SW.istore (pc := 356) g (dt dtl_3 5 rfl) (sw_ltm hm (Nat.le_of_ble_eq_true rfl)) rfl ?_
  refine SW.aload_n (pc := 358) g (dt dtl_3 6 rfl) rfl ?_
  refine SW.aload_n (pc := 359) g (dt dtl_3 7 rfl) rfl ?_
  refine SW.iload (pc := 360) g (dt dtl_3 8 rfl) rfl ?_
  refine SW.iconst (pc := 362) (v := 1) g (dt dtl_3 9 rfl) ki_1 ?_
  refine SW.iadd (pc := 363) g (dt dtl_3 10 rfl) ?_
  refine SW.sld (pc := 364) (i := i + 1) g (dt dtl_3 11 rfl) hX hbl hbA h5 (hb1).1 ?_
  rw [(hb1).2]
  refine SW.callVi (pc := 365) g (dt dtl_3 12 rfl) (mt_f_m_law _ _ _ _ ad rq.2.2 N rq.2.1 a1 rm hm9) me_X11_law mv_X11_law (gtb_of (tbm_8 (List.mem_of_getElem? (i := 7) rfl)) rfl) cell_63 rfl rfl (Nat.le_of_ble_eq_true rfl) (Nat.le_of_ble_eq_true rfl) (by omega) (by omega) rfl ?_
  refine SW.istore (pc := 368) g (dt dtl_3 13 rfl) (sw_ltm hm (Nat.le_of_ble_eq_true rfl)) rfl ?_
  refine SW.aload_n (pc := 370) g (dt dtl_3 14 rfl) rfl ?_
  refine SW.callVi (pc := 371) g (dt dtl_3 15 rfl) (mt_f_m_thrown _ _ _ _ ad rq.2.2 N rm.2  rt hth) me_X11_thrown mv_X11_thrown (gtb_of (tbm_6 (List.mem_of_getElem? (i := 220) rfl)) rfl) cell_63 rfl rfl (Nat.le_of_ble_eq_true rfl) (Nat.le_of_ble_eq_true rfl) (by omega) (by omega) rfl ?_
  refine SW.iload (pc := 374) g (dt dtl_3 16 rfl) rfl ?_
  refine SW.icmp_eq (pc := 376) (t := 381) g (dt dtl_3 17 rfl) rfl (fun _ => ?_) (fun hc => absurd ht hc)
  refine SW.iload (pc := 381) g (dt dtl_3 20 rfl) rfl ?_
  refine SW.if_ne (pc := 383) (t := 398) g (dt dtl_3 21 rfl) rfl (fun hc => ?_) (fun hc => ?_)
  · refine SW.goto (pc := 398) (t := 2573) g (dt dtl_3 31 rfl) rfl ?_
    refine SW.msk [true, true, true, true, true] ?_
    exact hend0
  · refine SW.aload_n (pc := 386) g (dt dtl_3 22 rfl) rfl ?_
    refine SW.iconst (pc := 387) (v := 0) g (dt dtl_3 23 rfl) ki_0 ?_
    refine SW.laload (pc := 388) g (dt dtl_3 24 rfl) cell_87 (by decide) ?_
    refine SW.iload (pc := 389) g (dt dtl_3 25 rfl) rfl ?_
    refine SW.i2l (pc := 391) g (dt dtl_3 26 rfl) ?_
    refine SW.lcmp (pc := 392) g (dt dtl_3 27 rfl) ?_
    refine SW.if_eq (pc := 393) (t := 398) g (dt dtl_3 28 rfl) rfl (fun _ => ?_) (fun hc9 => absurd (lgc_eq (hv hc)) hc9)
    refine SW.goto (pc := 398) (t := 2573) g (dt dtl_3 31 rfl) rfl ?_
    refine SW.msk [true, true, true, true, true] ?_
    exact hend0
set_option maxRecDepth 100000 in
set_option maxHeartbeats 4000000 in
theorem lc_3 {G : sw_G} {ad : Nat → Nat} {ν : sw_N} {μ : sw_M} {N cs sl b n : Nat} {xs : Nat → Int32} {i : Int32} (g : sw_ok G cL_law_ "DeadWiresLaw" (some .boolean) 1300 601024 7293033 ad) (hm : G.2.2.1.2.1.maxLocals = 8) (hX : va_X b n xs G.2.1.1 G.2.1.1.heap) (hbl : b < G.2.1.1.heap.size) (hbA : ¬ G.2.2.1.2.2.2 b) (h5 : ad 5000 = b) (hcs : cs + 10 ≤ 601024) (hsl : sl + 60 ≤ 7293033) {a1 : Int32} (hb1 : ¬ (i + 1 < 0 ∨ n ≤ (i + 1).toNatClampNeg) ∧ xs (i + 1).toNatClampNeg = a1) (rq : Int32 × sw_M × sw_N) (rm : Int32 × sw_M) (rt : Int32) (hw : f_L_work N μ ν a1 = some rq) (hm9 : f_m_work N rq.2.1 a1 = some rm) (hth : f_m_thrown N rm.2 = some rt) (ht : rt = rq.1) (hv : rq.1 = 0 → rq.2.2 87 0 = rm.1.toInt64) (hend0 : SW G ad lay0 rq.2.2 (cs + 1) (sl + 6) 2573 [some (.ref 5000), some (.ref 0), some (.ref 63), some (.ref 87), some (.int i), none, none, none] [] rm.2) : SW G ad lay0 ν cs sl 401 [some (.ref 5000), some (.ref 0), some (.ref 63), some (.ref 87), some (.int i), none, none, none] [] μ := by
  refine SW.aload_n (pc := 401) g (dt dtl_3 32 rfl) rfl ?_
  refine SW.aload_n (pc := 402) g (dt dtl_3 33 rfl) rfl ?_
  refine SW.iload (pc := 403) g (dt dtl_3 34 rfl) rfl ?_
  refine SW.iconst (pc := 405) (v := 1) g (dt dtl_3 35 rfl) ki_1 ?_
  refine SW.iadd (pc := 406) g (dt dtl_3 36 rfl) ?_
  refine SW.sld (pc := 407) (i := i + 1) g (dt dtl_3 37 rfl) hX hbl hbA h5 (hb1).1 ?_
  rw [(hb1).2]
  refine SW.aload_n (pc := 408) g (dt dtl_3 38 rfl) rfl ?_
  refine SW.callW (pc := 409) (np := 3) g (dt dtl_3 39 rfl) (mw_f_L_work _ _ _ _ ad ν N μ a1 rq hw) cw_L_work lw_ini ⟨by decide +kernel, by decide +kernel⟩ (by decide +kernel) (Nat.le_of_ble_eq_true rfl) cs_L_work (gtb_of (tbm_4 (List.mem_of_getElem? (i := 155) rfl)) rfl) rfl (Nat.le_of_ble_eq_true rfl) (Nat.le_of_ble_eq_true rfl) (by omega) (by omega) rfl ?_
  refine SW.istore (pc := 412) g (dt dtl_4 0 rfl) (sw_ltm hm (Nat.le_of_ble_eq_true rfl)) rfl ?_
  refine SW.aload_n (pc := 414) g (dt dtl_4 1 rfl) rfl ?_
  refine SW.aload_n (pc := 415) g (dt dtl_4 2 rfl) rfl ?_
  refine SW.iload (pc := 416) g (dt dtl_4 3 rfl) rfl ?_
  refine SW.iconst (pc := 418) (v := 1) g (dt dtl_4 4 rfl) ki_1 ?_
  refine SW.iadd (pc := 419) g (dt dtl_4 5 rfl) ?_
  refine SW.sld (pc := 420) (i := i + 1) g (dt dtl_4 6 rfl) hX hbl hbA h5 (hb1).1 ?_
  rw [(hb1).2]
  refine SW.callVi (pc := 421) g (dt dtl_4 7 rfl) (mt_f_m_work _ _ _ _ ad rq.2.2 N rq.2.1 a1 rm hm9) me_X11_work mv_X11_work (gtb_of (tbm_8 (List.mem_of_getElem? (i := 47) rfl)) rfl) cell_63 rfl rfl (Nat.le_of_ble_eq_true rfl) (Nat.le_of_ble_eq_true rfl) (by omega) (by omega) rfl ?_
  refine SW.istore (pc := 424) g (dt dtl_4 8 rfl) (sw_ltm hm (Nat.le_of_ble_eq_true rfl)) rfl ?_
  refine SW.aload_n (pc := 426) g (dt dtl_4 9 rfl) rfl ?_
  refine SW.callVi (pc := 427) g (dt dtl_4 10 rfl) (mt_f_m_thrown _ _ _ _ ad rq.2.2 N rm.2  rt hth) me_X11_thrown mv_X11_thrown (gtb_of (tbm_6 (List.mem_of_getElem? (i := 220) rfl)) rfl) cell_63 rfl rfl (Nat.le_of_ble_eq_true rfl) (Nat.le_of_ble_eq_true rfl) (by omega) (by omega) rfl ?_
  refine SW.iload (pc := 430) g (dt dtl_4 11 rfl) rfl ?_
  refine SW.icmp_eq (pc := 432) (t := 437) g (dt dtl_4 12 rfl) rfl (fun _ => ?_) (fun hc => absurd ht hc)
  refine SW.iload (pc := 437) g (dt dtl_4 15 rfl) rfl ?_
  refine SW.if_ne (pc := 439) (t := 454) g (dt dtl_4 16 rfl) rfl (fun hc => ?_) (fun hc => ?_)
  · refine SW.goto (pc := 454) (t := 2573) g (dt dtl_4 26 rfl) rfl ?_
    refine SW.msk [true, true, true, true, true] ?_
    exact hend0
  · refine SW.aload_n (pc := 442) g (dt dtl_4 17 rfl) rfl ?_
    refine SW.iconst (pc := 443) (v := 0) g (dt dtl_4 18 rfl) ki_0 ?_
    refine SW.laload (pc := 444) g (dt dtl_4 19 rfl) cell_87 (by decide) ?_
    refine SW.iload (pc := 445) g (dt dtl_4 20 rfl) rfl ?_
    refine SW.i2l (pc := 447) g (dt dtl_4 21 rfl) ?_
    refine SW.lcmp (pc := 448) g (dt dtl_4 22 rfl) ?_
    refine SW.if_eq (pc := 449) (t := 454) g (dt dtl_4 23 rfl) rfl (fun _ => ?_) (fun hc9 => absurd (lgc_eq (hv hc)) hc9)
    refine SW.goto (pc := 454) (t := 2573) g (dt dtl_4 26 rfl) rfl ?_
    refine SW.msk [true, true, true, true, true] ?_
    exact hend0
set_option maxRecDepth 100000 in
set_option maxHeartbeats 4000000 in
theorem lc_4 {G : sw_G} {ad : Nat → Nat} {ν : sw_N} {μ : sw_M} {N cs sl b n : Nat} {xs : Nat → Int32} {i : Int32} (g : sw_ok G cL_law_ "DeadWiresLaw" (some .boolean) 1300 601024 7293033 ad) (hm : G.2.2.1.2.1.maxLocals = 8) (hX : va_X b n xs G.2.1.1 G.2.1.1.heap) (hbl : b < G.2.1.1.heap.size) (hbA : ¬ G.2.2.1.2.2.2 b) (h5 : ad 5000 = b) (hcs : cs + 10 ≤ 601024) (hsl : sl + 60 ≤ 7293033) {a1 : Int32} (hb1 : ¬ (i + 1 < 0 ∨ n ≤ (i + 1).toNatClampNeg) ∧ xs (i + 1).toNatClampNeg = a1) (rq : Int32 × sw_M × sw_N) (rm : Int32 × sw_M) (rt : Int32) (hw : f_L_book N μ ν a1 = some rq) (hm9 : f_m_book N rq.2.1 a1 = some rm) (hth : f_m_thrown N rm.2 = some rt) (ht : rt = rq.1) (hv : rq.1 = 0 → rq.2.2 87 0 = rm.1.toInt64) (hend0 : SW G ad lay0 rq.2.2 (cs + 1) (sl + 6) 2573 [some (.ref 5000), some (.ref 0), some (.ref 63), some (.ref 87), some (.int i), none, none, none] [] rm.2) : SW G ad lay0 ν cs sl 457 [some (.ref 5000), some (.ref 0), some (.ref 63), some (.ref 87), some (.int i), none, none, none] [] μ := by
  refine SW.aload_n (pc := 457) g (dt dtl_4 27 rfl) rfl ?_
  refine SW.aload_n (pc := 458) g (dt dtl_4 28 rfl) rfl ?_
  refine SW.iload (pc := 459) g (dt dtl_4 29 rfl) rfl ?_
  refine SW.iconst (pc := 461) (v := 1) g (dt dtl_4 30 rfl) ki_1 ?_
  refine SW.iadd (pc := 462) g (dt dtl_4 31 rfl) ?_
  refine SW.sld (pc := 463) (i := i + 1) g (dt dtl_4 32 rfl) hX hbl hbA h5 (hb1).1 ?_
  rw [(hb1).2]
  refine SW.aload_n (pc := 464) g (dt dtl_4 33 rfl) rfl ?_
  refine SW.callW (pc := 465) (np := 3) g (dt dtl_4 34 rfl) (mw_f_L_book _ _ _ _ ad ν N μ a1 rq hw) cw_L_book lw_ini ⟨by decide +kernel, by decide +kernel⟩ (by decide +kernel) (Nat.le_of_ble_eq_true rfl) cs_L_book (gtb_of (tbm_5 (List.mem_of_getElem? (i := 28) rfl)) rfl) rfl (Nat.le_of_ble_eq_true rfl) (Nat.le_of_ble_eq_true rfl) (by omega) (by omega) rfl ?_
  refine SW.istore (pc := 468) g (dt dtl_4 35 rfl) (sw_ltm hm (Nat.le_of_ble_eq_true rfl)) rfl ?_
  refine SW.aload_n (pc := 470) g (dt dtl_4 36 rfl) rfl ?_
  refine SW.aload_n (pc := 471) g (dt dtl_4 37 rfl) rfl ?_
  refine SW.iload (pc := 472) g (dt dtl_4 38 rfl) rfl ?_
  refine SW.iconst (pc := 474) (v := 1) g (dt dtl_4 39 rfl) ki_1 ?_
  refine SW.iadd (pc := 475) g (dt dtl_5 0 rfl) ?_
  refine SW.sld (pc := 476) (i := i + 1) g (dt dtl_5 1 rfl) hX hbl hbA h5 (hb1).1 ?_
  rw [(hb1).2]
  refine SW.callVi (pc := 477) g (dt dtl_5 2 rfl) (mt_f_m_book _ _ _ _ ad rq.2.2 N rq.2.1 a1 rm hm9) me_X11_book mv_X11_book (gtb_of (tbm_8 (List.mem_of_getElem? (i := 148) rfl)) rfl) cell_63 rfl rfl (Nat.le_of_ble_eq_true rfl) (Nat.le_of_ble_eq_true rfl) (by omega) (by omega) rfl ?_
  refine SW.istore (pc := 480) g (dt dtl_5 3 rfl) (sw_ltm hm (Nat.le_of_ble_eq_true rfl)) rfl ?_
  refine SW.aload_n (pc := 482) g (dt dtl_5 4 rfl) rfl ?_
  refine SW.callVi (pc := 483) g (dt dtl_5 5 rfl) (mt_f_m_thrown _ _ _ _ ad rq.2.2 N rm.2  rt hth) me_X11_thrown mv_X11_thrown (gtb_of (tbm_6 (List.mem_of_getElem? (i := 220) rfl)) rfl) cell_63 rfl rfl (Nat.le_of_ble_eq_true rfl) (Nat.le_of_ble_eq_true rfl) (by omega) (by omega) rfl ?_
  refine SW.iload (pc := 486) g (dt dtl_5 6 rfl) rfl ?_
  refine SW.icmp_eq (pc := 488) (t := 493) g (dt dtl_5 7 rfl) rfl (fun _ => ?_) (fun hc => absurd ht hc)
  refine SW.iload (pc := 493) g (dt dtl_5 10 rfl) rfl ?_
  refine SW.if_ne (pc := 495) (t := 510) g (dt dtl_5 11 rfl) rfl (fun hc => ?_) (fun hc => ?_)
  · refine SW.goto (pc := 510) (t := 2573) g (dt dtl_5 21 rfl) rfl ?_
    refine SW.msk [true, true, true, true, true] ?_
    exact hend0
  · refine SW.aload_n (pc := 498) g (dt dtl_5 12 rfl) rfl ?_
    refine SW.iconst (pc := 499) (v := 0) g (dt dtl_5 13 rfl) ki_0 ?_
    refine SW.laload (pc := 500) g (dt dtl_5 14 rfl) cell_87 (by decide) ?_
    refine SW.iload (pc := 501) g (dt dtl_5 15 rfl) rfl ?_
    refine SW.i2l (pc := 503) g (dt dtl_5 16 rfl) ?_
    refine SW.lcmp (pc := 504) g (dt dtl_5 17 rfl) ?_
    refine SW.if_eq (pc := 505) (t := 510) g (dt dtl_5 18 rfl) rfl (fun _ => ?_) (fun hc9 => absurd (lgc_eq (hv hc)) hc9)
    refine SW.goto (pc := 510) (t := 2573) g (dt dtl_5 21 rfl) rfl ?_
    refine SW.msk [true, true, true, true, true] ?_
    exact hend0
set_option maxRecDepth 100000 in
set_option maxHeartbeats 4000000 in
theorem lc_5 {G : sw_G} {ad : Nat → Nat} {ν : sw_N} {μ : sw_M} {N cs sl b n : Nat} {xs : Nat → Int32} {i : Int32} (g : sw_ok G cL_law_ "DeadWiresLaw" (some .boolean) 1300 601024 7293033 ad) (hm : G.2.2.1.2.1.maxLocals = 8) (hX : va_X b n xs G.2.1.1 G.2.1.1.heap) (hbl : b < G.2.1.1.heap.size) (hbA : ¬ G.2.2.1.2.2.2 b) (h5 : ad 5000 = b) (hcs : cs + 10 ≤ 601024) (hsl : sl + 60 ≤ 7293033)   (rx : Int32) (rm : Int32 × sw_M) (hx : f_x_fault N μ  = some rx) (hm9 : f_m_fault N μ  = some rm) (heq : rx = rm.1) (hend0 : SW G ad lay0 ν (cs + 0) (sl + 0) 2573 [some (.ref 5000), some (.ref 0), some (.ref 63), some (.ref 87), some (.int i), none, none, none] [] rm.2) : SW G ad lay0 ν cs sl 513 [some (.ref 5000), some (.ref 0), some (.ref 63), some (.ref 87), some (.int i), none, none, none] [] μ := by
  refine SW.aload_n (pc := 513) g (dt dtl_5 22 rfl) rfl ?_
  refine SW.callVi (pc := 514) g (dt dtl_5 23 rfl) (mt_f_x_fault _ _ _ _ ad ν N μ  rx hx) me_X10_fault mv_X10_fault (gtb_of (tbm_2 (List.mem_of_getElem? (i := 227) rfl)) rfl) cell_0 rfl rfl (Nat.le_of_ble_eq_true rfl) (Nat.le_of_ble_eq_true rfl) (by omega) (by omega) rfl ?_
  refine SW.aload_n (pc := 517) g (dt dtl_5 24 rfl) rfl ?_
  refine SW.callVi (pc := 518) g (dt dtl_5 25 rfl) (mt_f_m_fault _ _ _ _ ad ν N μ  rm hm9) me_X11_fault mv_X11_fault (gtb_of (tbm_7 (List.mem_of_getElem? (i := 160) rfl)) rfl) cell_63 rfl rfl (Nat.le_of_ble_eq_true rfl) (Nat.le_of_ble_eq_true rfl) (by omega) (by omega) rfl ?_
  refine SW.icmp_eq (pc := 521) (t := 2573) g (dt dtl_5 26 rfl) rfl (fun _ => ?_) (fun hc => absurd heq hc)
  refine SW.msk [true, true, true, true, true] ?_
  exact hend0
set_option maxRecDepth 100000 in
set_option maxHeartbeats 4000000 in
theorem lc_6 {G : sw_G} {ad : Nat → Nat} {ν : sw_N} {μ : sw_M} {N cs sl b n : Nat} {xs : Nat → Int32} {i : Int32} (g : sw_ok G cL_law_ "DeadWiresLaw" (some .boolean) 1300 601024 7293033 ad) (hm : G.2.2.1.2.1.maxLocals = 8) (hX : va_X b n xs G.2.1.1 G.2.1.1.heap) (hbl : b < G.2.1.1.heap.size) (hbA : ¬ G.2.2.1.2.2.2 b) (h5 : ad 5000 = b) (hcs : cs + 10 ≤ 601024) (hsl : sl + 60 ≤ 7293033)   (rx : Int32 × sw_M) (rm : Int32 × sw_M) (hx : f_x_undo N μ  = some rx) (hm9 : f_m_undo N rx.2  = some rm) (heq : rx.1 = rm.1) (hend0 : SW G ad lay0 ν (cs + 0) (sl + 0) 2573 [some (.ref 5000), some (.ref 0), some (.ref 63), some (.ref 87), some (.int i), none, none, none] [] rm.2) : SW G ad lay0 ν cs sl 526 [some (.ref 5000), some (.ref 0), some (.ref 63), some (.ref 87), some (.int i), none, none, none] [] μ := by
  refine SW.aload_n (pc := 526) g (dt dtl_5 29 rfl) rfl ?_
  refine SW.callVi (pc := 527) g (dt dtl_5 30 rfl) (mt_f_x_undo _ _ _ _ ad ν N μ  rx hx) me_X10_undo mv_X10_undo (gtb_of (tbm_2 (List.mem_of_getElem? (i := 231) rfl)) rfl) cell_0 rfl rfl (Nat.le_of_ble_eq_true rfl) (Nat.le_of_ble_eq_true rfl) (by omega) (by omega) rfl ?_
  refine SW.aload_n (pc := 530) g (dt dtl_5 31 rfl) rfl ?_
  refine SW.callVi (pc := 531) g (dt dtl_5 32 rfl) (mt_f_m_undo _ _ _ _ ad ν N rx.2  rm hm9) me_X11_undo mv_X11_undo (gtb_of (tbm_8 (List.mem_of_getElem? (i := 152) rfl)) rfl) cell_63 rfl rfl (Nat.le_of_ble_eq_true rfl) (Nat.le_of_ble_eq_true rfl) (by omega) (by omega) rfl ?_
  refine SW.icmp_eq (pc := 534) (t := 2573) g (dt dtl_5 33 rfl) rfl (fun _ => ?_) (fun hc => absurd heq hc)
  refine SW.msk [true, true, true, true, true] ?_
  exact hend0
set_option maxRecDepth 100000 in
set_option maxHeartbeats 4000000 in
theorem lc_7 {G : sw_G} {ad : Nat → Nat} {ν : sw_N} {μ : sw_M} {N cs sl b n : Nat} {xs : Nat → Int32} {i : Int32} (g : sw_ok G cL_law_ "DeadWiresLaw" (some .boolean) 1300 601024 7293033 ad) (hm : G.2.2.1.2.1.maxLocals = 8) (hX : va_X b n xs G.2.1.1 G.2.1.1.heap) (hbl : b < G.2.1.1.heap.size) (hbA : ¬ G.2.2.1.2.2.2 b) (h5 : ad 5000 = b) (hcs : cs + 10 ≤ 601024) (hsl : sl + 60 ≤ 7293033) {a1 : Int32} (hb1 : ¬ (i + 1 < 0 ∨ n ≤ (i + 1).toNatClampNeg) ∧ xs (i + 1).toNatClampNeg = a1) (rq : Int32 × sw_M × sw_N) (rm : Int32 × sw_M) (rt : Int32) (hw : f_L_told N μ ν a1 = some rq) (hm9 : f_m_told N rq.2.1 a1 = some rm) (hth : f_m_thrown N rm.2 = some rt) (ht : rt = rq.1) (hv : rq.1 = 0 → rq.2.2 87 0 = rm.1.toInt64) (hend0 : SW G ad lay0 rq.2.2 (cs + 1) (sl + 6) 2573 [some (.ref 5000), some (.ref 0), some (.ref 63), some (.ref 87), some (.int i), none, none, none] [] rm.2) : SW G ad lay0 ν cs sl 539 [some (.ref 5000), some (.ref 0), some (.ref 63), some (.ref 87), some (.int i), none, none, none] [] μ := by
  refine SW.aload_n (pc := 539) g (dt dtl_5 36 rfl) rfl ?_
  refine SW.aload_n (pc := 540) g (dt dtl_5 37 rfl) rfl ?_
  refine SW.iload (pc := 541) g (dt dtl_5 38 rfl) rfl ?_
  refine SW.iconst (pc := 543) (v := 1) g (dt dtl_5 39 rfl) ki_1 ?_
  refine SW.iadd (pc := 544) g (dt dtl_6 0 rfl) ?_
  refine SW.sld (pc := 545) (i := i + 1) g (dt dtl_6 1 rfl) hX hbl hbA h5 (hb1).1 ?_
  rw [(hb1).2]
  refine SW.aload_n (pc := 546) g (dt dtl_6 2 rfl) rfl ?_
  refine SW.callW (pc := 547) (np := 3) g (dt dtl_6 3 rfl) (mw_f_L_told _ _ _ _ ad ν N μ a1 rq hw) cw_L_told lw_ini ⟨by decide +kernel, by decide +kernel⟩ (by decide +kernel) (Nat.le_of_ble_eq_true rfl) cs_L_told (gtb_of (tbm_5 (List.mem_of_getElem? (i := 56) rfl)) rfl) rfl (Nat.le_of_ble_eq_true rfl) (Nat.le_of_ble_eq_true rfl) (by omega) (by omega) rfl ?_
  refine SW.istore (pc := 550) g (dt dtl_6 4 rfl) (sw_ltm hm (Nat.le_of_ble_eq_true rfl)) rfl ?_
  refine SW.aload_n (pc := 552) g (dt dtl_6 5 rfl) rfl ?_
  refine SW.aload_n (pc := 553) g (dt dtl_6 6 rfl) rfl ?_
  refine SW.iload (pc := 554) g (dt dtl_6 7 rfl) rfl ?_
  refine SW.iconst (pc := 556) (v := 1) g (dt dtl_6 8 rfl) ki_1 ?_
  refine SW.iadd (pc := 557) g (dt dtl_6 9 rfl) ?_
  refine SW.sld (pc := 558) (i := i + 1) g (dt dtl_6 10 rfl) hX hbl hbA h5 (hb1).1 ?_
  rw [(hb1).2]
  refine SW.callVi (pc := 559) g (dt dtl_6 11 rfl) (mt_f_m_told _ _ _ _ ad rq.2.2 N rq.2.1 a1 rm hm9) me_X11_told mv_X11_told (gtb_of (tbm_8 (List.mem_of_getElem? (i := 156) rfl)) rfl) cell_63 rfl rfl (Nat.le_of_ble_eq_true rfl) (Nat.le_of_ble_eq_true rfl) (by omega) (by omega) rfl ?_
  refine SW.istore (pc := 562) g (dt dtl_6 12 rfl) (sw_ltm hm (Nat.le_of_ble_eq_true rfl)) rfl ?_
  refine SW.aload_n (pc := 564) g (dt dtl_6 13 rfl) rfl ?_
  refine SW.callVi (pc := 565) g (dt dtl_6 14 rfl) (mt_f_m_thrown _ _ _ _ ad rq.2.2 N rm.2  rt hth) me_X11_thrown mv_X11_thrown (gtb_of (tbm_6 (List.mem_of_getElem? (i := 220) rfl)) rfl) cell_63 rfl rfl (Nat.le_of_ble_eq_true rfl) (Nat.le_of_ble_eq_true rfl) (by omega) (by omega) rfl ?_
  refine SW.iload (pc := 568) g (dt dtl_6 15 rfl) rfl ?_
  refine SW.icmp_eq (pc := 570) (t := 575) g (dt dtl_6 16 rfl) rfl (fun _ => ?_) (fun hc => absurd ht hc)
  refine SW.iload (pc := 575) g (dt dtl_6 19 rfl) rfl ?_
  refine SW.if_ne (pc := 577) (t := 592) g (dt dtl_6 20 rfl) rfl (fun hc => ?_) (fun hc => ?_)
  · refine SW.goto (pc := 592) (t := 2573) g (dt dtl_6 30 rfl) rfl ?_
    refine SW.msk [true, true, true, true, true] ?_
    exact hend0
  · refine SW.aload_n (pc := 580) g (dt dtl_6 21 rfl) rfl ?_
    refine SW.iconst (pc := 581) (v := 0) g (dt dtl_6 22 rfl) ki_0 ?_
    refine SW.laload (pc := 582) g (dt dtl_6 23 rfl) cell_87 (by decide) ?_
    refine SW.iload (pc := 583) g (dt dtl_6 24 rfl) rfl ?_
    refine SW.i2l (pc := 585) g (dt dtl_6 25 rfl) ?_
    refine SW.lcmp (pc := 586) g (dt dtl_6 26 rfl) ?_
    refine SW.if_eq (pc := 587) (t := 592) g (dt dtl_6 27 rfl) rfl (fun _ => ?_) (fun hc9 => absurd (lgc_eq (hv hc)) hc9)
    refine SW.goto (pc := 592) (t := 2573) g (dt dtl_6 30 rfl) rfl ?_
    refine SW.msk [true, true, true, true, true] ?_
    exact hend0
set_option maxRecDepth 100000 in
set_option maxHeartbeats 4000000 in
theorem lc_8 {G : sw_G} {ad : Nat → Nat} {ν : sw_N} {μ : sw_M} {N cs sl b n : Nat} {xs : Nat → Int32} {i : Int32} (g : sw_ok G cL_law_ "DeadWiresLaw" (some .boolean) 1300 601024 7293033 ad) (hm : G.2.2.1.2.1.maxLocals = 8) (hX : va_X b n xs G.2.1.1 G.2.1.1.heap) (hbl : b < G.2.1.1.heap.size) (hbA : ¬ G.2.2.1.2.2.2 b) (h5 : ad 5000 = b) (hcs : cs + 10 ≤ 601024) (hsl : sl + 60 ≤ 7293033) {a1 a2 : Int32} (hb1 : ¬ (i + 1 < 0 ∨ n ≤ (i + 1).toNatClampNeg) ∧ xs (i + 1).toNatClampNeg = a1) (hb2 : ¬ (i + 2 < 0 ∨ n ≤ (i + 2).toNatClampNeg) ∧ xs (i + 2).toNatClampNeg = a2) (rq : Int32 × sw_M × sw_N) (rm : Int32 × sw_M) (rt : Int32) (hw : f_L_field N μ ν a1 a2 = some rq) (hm9 : f_m_field N rq.2.1 a1 a2 = some rm) (hth : f_m_thrown N rm.2 = some rt) (ht : rt = rq.1) (hv : rq.1 = 0 → rq.2.2 87 0 = rm.1.toInt64) (hend0 : SW G ad lay0 rq.2.2 (cs + 2) (sl + 12) 2573 [some (.ref 5000), some (.ref 0), some (.ref 63), some (.ref 87), some (.int i), none, none, none] [] rm.2) : SW G ad lay0 ν cs sl 595 [some (.ref 5000), some (.ref 0), some (.ref 63), some (.ref 87), some (.int i), none, none, none] [] μ := by
  refine SW.aload_n (pc := 595) g (dt dtl_6 31 rfl) rfl ?_
  refine SW.aload_n (pc := 596) g (dt dtl_6 32 rfl) rfl ?_
  refine SW.iload (pc := 597) g (dt dtl_6 33 rfl) rfl ?_
  refine SW.iconst (pc := 599) (v := 1) g (dt dtl_6 34 rfl) ki_1 ?_
  refine SW.iadd (pc := 600) g (dt dtl_6 35 rfl) ?_
  refine SW.sld (pc := 601) (i := i + 1) g (dt dtl_6 36 rfl) hX hbl hbA h5 (hb1).1 ?_
  rw [(hb1).2]
  refine SW.aload_n (pc := 602) g (dt dtl_6 37 rfl) rfl ?_
  refine SW.iload (pc := 603) g (dt dtl_6 38 rfl) rfl ?_
  refine SW.iconst (pc := 605) (v := 2) g (dt dtl_6 39 rfl) ki_2 ?_
  refine SW.iadd (pc := 606) g (dt dtl_7 0 rfl) ?_
  refine SW.sld (pc := 607) (i := i + 2) g (dt dtl_7 1 rfl) hX hbl hbA h5 (hb2).1 ?_
  rw [(hb2).2]
  refine SW.aload_n (pc := 608) g (dt dtl_7 2 rfl) rfl ?_
  refine SW.callW (pc := 609) (np := 4) g (dt dtl_7 3 rfl) (mw_f_L_field _ _ _ _ ad ν N μ a1 a2 rq hw) cw_L_field lw_ini ⟨by decide +kernel, by decide +kernel⟩ (by decide +kernel) (Nat.le_of_ble_eq_true rfl) cs_L_field (gtb_of (tbm_5 (List.mem_of_getElem? (i := 75) rfl)) rfl) rfl (Nat.le_of_ble_eq_true rfl) (Nat.le_of_ble_eq_true rfl) (by omega) (by omega) rfl ?_
  refine SW.istore (pc := 612) g (dt dtl_7 4 rfl) (sw_ltm hm (Nat.le_of_ble_eq_true rfl)) rfl ?_
  refine SW.aload_n (pc := 614) g (dt dtl_7 5 rfl) rfl ?_
  refine SW.aload_n (pc := 615) g (dt dtl_7 6 rfl) rfl ?_
  refine SW.iload (pc := 616) g (dt dtl_7 7 rfl) rfl ?_
  refine SW.iconst (pc := 618) (v := 1) g (dt dtl_7 8 rfl) ki_1 ?_
  refine SW.iadd (pc := 619) g (dt dtl_7 9 rfl) ?_
  refine SW.sld (pc := 620) (i := i + 1) g (dt dtl_7 10 rfl) hX hbl hbA h5 (hb1).1 ?_
  rw [(hb1).2]
  refine SW.aload_n (pc := 621) g (dt dtl_7 11 rfl) rfl ?_
  refine SW.iload (pc := 622) g (dt dtl_7 12 rfl) rfl ?_
  refine SW.iconst (pc := 624) (v := 2) g (dt dtl_7 13 rfl) ki_2 ?_
  refine SW.iadd (pc := 625) g (dt dtl_7 14 rfl) ?_
  refine SW.sld (pc := 626) (i := i + 2) g (dt dtl_7 15 rfl) hX hbl hbA h5 (hb2).1 ?_
  rw [(hb2).2]
  refine SW.callVi (pc := 627) g (dt dtl_7 16 rfl) (mt_f_m_field _ _ _ _ ad rq.2.2 N rq.2.1 a1 a2 rm hm9) me_X11_field mv_X11_field (gtb_of (tbm_8 (List.mem_of_getElem? (i := 175) rfl)) rfl) cell_63 rfl rfl (Nat.le_of_ble_eq_true rfl) (Nat.le_of_ble_eq_true rfl) (by omega) (by omega) rfl ?_
  refine SW.istore (pc := 630) g (dt dtl_7 17 rfl) (sw_ltm hm (Nat.le_of_ble_eq_true rfl)) rfl ?_
  refine SW.aload_n (pc := 632) g (dt dtl_7 18 rfl) rfl ?_
  refine SW.callVi (pc := 633) g (dt dtl_7 19 rfl) (mt_f_m_thrown _ _ _ _ ad rq.2.2 N rm.2  rt hth) me_X11_thrown mv_X11_thrown (gtb_of (tbm_6 (List.mem_of_getElem? (i := 220) rfl)) rfl) cell_63 rfl rfl (Nat.le_of_ble_eq_true rfl) (Nat.le_of_ble_eq_true rfl) (by omega) (by omega) rfl ?_
  refine SW.iload (pc := 636) g (dt dtl_7 20 rfl) rfl ?_
  refine SW.icmp_eq (pc := 638) (t := 643) g (dt dtl_7 21 rfl) rfl (fun _ => ?_) (fun hc => absurd ht hc)
  refine SW.iload (pc := 643) g (dt dtl_7 24 rfl) rfl ?_
  refine SW.if_ne (pc := 645) (t := 660) g (dt dtl_7 25 rfl) rfl (fun hc => ?_) (fun hc => ?_)
  · refine SW.goto (pc := 660) (t := 2573) g (dt dtl_7 35 rfl) rfl ?_
    refine SW.msk [true, true, true, true, true] ?_
    exact hend0
  · refine SW.aload_n (pc := 648) g (dt dtl_7 26 rfl) rfl ?_
    refine SW.iconst (pc := 649) (v := 0) g (dt dtl_7 27 rfl) ki_0 ?_
    refine SW.laload (pc := 650) g (dt dtl_7 28 rfl) cell_87 (by decide) ?_
    refine SW.iload (pc := 651) g (dt dtl_7 29 rfl) rfl ?_
    refine SW.i2l (pc := 653) g (dt dtl_7 30 rfl) ?_
    refine SW.lcmp (pc := 654) g (dt dtl_7 31 rfl) ?_
    refine SW.if_eq (pc := 655) (t := 660) g (dt dtl_7 32 rfl) rfl (fun _ => ?_) (fun hc9 => absurd (lgc_eq (hv hc)) hc9)
    refine SW.goto (pc := 660) (t := 2573) g (dt dtl_7 35 rfl) rfl ?_
    refine SW.msk [true, true, true, true, true] ?_
    exact hend0
set_option maxRecDepth 100000 in
set_option maxHeartbeats 4000000 in
theorem lc_9 {G : sw_G} {ad : Nat → Nat} {ν : sw_N} {μ : sw_M} {N cs sl b n : Nat} {xs : Nat → Int32} {i : Int32} (g : sw_ok G cL_law_ "DeadWiresLaw" (some .boolean) 1300 601024 7293033 ad) (hm : G.2.2.1.2.1.maxLocals = 8) (hX : va_X b n xs G.2.1.1 G.2.1.1.heap) (hbl : b < G.2.1.1.heap.size) (hbA : ¬ G.2.2.1.2.2.2 b) (h5 : ad 5000 = b) (hcs : cs + 10 ≤ 601024) (hsl : sl + 60 ≤ 7293033) {a1 a2 : Int32} (hb1 : ¬ (i + 1 < 0 ∨ n ≤ (i + 1).toNatClampNeg) ∧ xs (i + 1).toNatClampNeg = a1) (hb2 : ¬ (i + 2 < 0 ∨ n ≤ (i + 2).toNatClampNeg) ∧ xs (i + 2).toNatClampNeg = a2) (rq : Int32 × sw_M × sw_N) (rm : Int32 × sw_M) (rt : Int32) (hw : f_L_wire N μ ν a1 a2 = some rq) (hm9 : f_m_wire N rq.2.1 a1 a2 = some rm) (hth : f_m_thrown N rm.2 = some rt) (ht : rt = rq.1) (hv : rq.1 = 0 → rq.2.2 87 0 = rm.1.toInt64) (hend0 : SW G ad lay0 rq.2.2 (cs + 2) (sl + 12) 2573 [some (.ref 5000), some (.ref 0), some (.ref 63), some (.ref 87), some (.int i), none, none, none] [] rm.2) : SW G ad lay0 ν cs sl 663 [some (.ref 5000), some (.ref 0), some (.ref 63), some (.ref 87), some (.int i), none, none, none] [] μ := by
  refine SW.aload_n (pc := 663) g (dt dtl_7 36 rfl) rfl ?_
  refine SW.aload_n (pc := 664) g (dt dtl_7 37 rfl) rfl ?_
  refine SW.iload (pc := 665) g (dt dtl_7 38 rfl) rfl ?_
  refine SW.iconst (pc := 667) (v := 1) g (dt dtl_7 39 rfl) ki_1 ?_
  refine SW.iadd (pc := 668) g (dt dtl_8 0 rfl) ?_
  refine SW.sld (pc := 669) (i := i + 1) g (dt dtl_8 1 rfl) hX hbl hbA h5 (hb1).1 ?_
  rw [(hb1).2]
  refine SW.aload_n (pc := 670) g (dt dtl_8 2 rfl) rfl ?_
  refine SW.iload (pc := 671) g (dt dtl_8 3 rfl) rfl ?_
  refine SW.iconst (pc := 673) (v := 2) g (dt dtl_8 4 rfl) ki_2 ?_
  refine SW.iadd (pc := 674) g (dt dtl_8 5 rfl) ?_
  refine SW.sld (pc := 675) (i := i + 2) g (dt dtl_8 6 rfl) hX hbl hbA h5 (hb2).1 ?_
  rw [(hb2).2]
  refine SW.aload_n (pc := 676) g (dt dtl_8 7 rfl) rfl ?_
  refine SW.callW (pc := 677) (np := 4) g (dt dtl_8 8 rfl) (mw_f_L_wire _ _ _ _ ad ν N μ a1 a2 rq hw) cw_L_wire lw_ini ⟨by decide +kernel, by decide +kernel⟩ (by decide +kernel) (Nat.le_of_ble_eq_true rfl) cs_L_wire (gtb_of (tbm_5 (List.mem_of_getElem? (i := 118) rfl)) rfl) rfl (Nat.le_of_ble_eq_true rfl) (Nat.le_of_ble_eq_true rfl) (by omega) (by omega) rfl ?_
  refine SW.istore (pc := 680) g (dt dtl_8 9 rfl) (sw_ltm hm (Nat.le_of_ble_eq_true rfl)) rfl ?_
  refine SW.aload_n (pc := 682) g (dt dtl_8 10 rfl) rfl ?_
  refine SW.aload_n (pc := 683) g (dt dtl_8 11 rfl) rfl ?_
  refine SW.iload (pc := 684) g (dt dtl_8 12 rfl) rfl ?_
  refine SW.iconst (pc := 686) (v := 1) g (dt dtl_8 13 rfl) ki_1 ?_
  refine SW.iadd (pc := 687) g (dt dtl_8 14 rfl) ?_
  refine SW.sld (pc := 688) (i := i + 1) g (dt dtl_8 15 rfl) hX hbl hbA h5 (hb1).1 ?_
  rw [(hb1).2]
  refine SW.aload_n (pc := 689) g (dt dtl_8 16 rfl) rfl ?_
  refine SW.iload (pc := 690) g (dt dtl_8 17 rfl) rfl ?_
  refine SW.iconst (pc := 692) (v := 2) g (dt dtl_8 18 rfl) ki_2 ?_
  refine SW.iadd (pc := 693) g (dt dtl_8 19 rfl) ?_
  refine SW.sld (pc := 694) (i := i + 2) g (dt dtl_8 20 rfl) hX hbl hbA h5 (hb2).1 ?_
  rw [(hb2).2]
  refine SW.callVi (pc := 695) g (dt dtl_8 21 rfl) (mt_f_m_wire _ _ _ _ ad rq.2.2 N rq.2.1 a1 a2 rm hm9) me_X11_wire mv_X11_wire (gtb_of (tbm_8 (List.mem_of_getElem? (i := 191) rfl)) rfl) cell_63 rfl rfl (Nat.le_of_ble_eq_true rfl) (Nat.le_of_ble_eq_true rfl) (by omega) (by omega) rfl ?_
  refine SW.istore (pc := 698) g (dt dtl_8 22 rfl) (sw_ltm hm (Nat.le_of_ble_eq_true rfl)) rfl ?_
  refine SW.aload_n (pc := 700) g (dt dtl_8 23 rfl) rfl ?_
  refine SW.callVi (pc := 701) g (dt dtl_8 24 rfl) (mt_f_m_thrown _ _ _ _ ad rq.2.2 N rm.2  rt hth) me_X11_thrown mv_X11_thrown (gtb_of (tbm_6 (List.mem_of_getElem? (i := 220) rfl)) rfl) cell_63 rfl rfl (Nat.le_of_ble_eq_true rfl) (Nat.le_of_ble_eq_true rfl) (by omega) (by omega) rfl ?_
  refine SW.iload (pc := 704) g (dt dtl_8 25 rfl) rfl ?_
  refine SW.icmp_eq (pc := 706) (t := 711) g (dt dtl_8 26 rfl) rfl (fun _ => ?_) (fun hc => absurd ht hc)
  refine SW.iload (pc := 711) g (dt dtl_8 29 rfl) rfl ?_
  refine SW.if_ne (pc := 713) (t := 728) g (dt dtl_8 30 rfl) rfl (fun hc => ?_) (fun hc => ?_)
  · refine SW.goto (pc := 728) (t := 2573) g (dt dtl_9 0 rfl) rfl ?_
    refine SW.msk [true, true, true, true, true] ?_
    exact hend0
  · refine SW.aload_n (pc := 716) g (dt dtl_8 31 rfl) rfl ?_
    refine SW.iconst (pc := 717) (v := 0) g (dt dtl_8 32 rfl) ki_0 ?_
    refine SW.laload (pc := 718) g (dt dtl_8 33 rfl) cell_87 (by decide) ?_
    refine SW.iload (pc := 719) g (dt dtl_8 34 rfl) rfl ?_
    refine SW.i2l (pc := 721) g (dt dtl_8 35 rfl) ?_
    refine SW.lcmp (pc := 722) g (dt dtl_8 36 rfl) ?_
    refine SW.if_eq (pc := 723) (t := 728) g (dt dtl_8 37 rfl) rfl (fun _ => ?_) (fun hc9 => absurd (lgc_eq (hv hc)) hc9)
    refine SW.goto (pc := 728) (t := 2573) g (dt dtl_9 0 rfl) rfl ?_
    refine SW.msk [true, true, true, true, true] ?_
    exact hend0
set_option maxRecDepth 100000 in
set_option maxHeartbeats 4000000 in
theorem lc_10 {G : sw_G} {ad : Nat → Nat} {ν : sw_N} {μ : sw_M} {N cs sl b n : Nat} {xs : Nat → Int32} {i : Int32} (g : sw_ok G cL_law_ "DeadWiresLaw" (some .boolean) 1300 601024 7293033 ad) (hm : G.2.2.1.2.1.maxLocals = 8) (hX : va_X b n xs G.2.1.1 G.2.1.1.heap) (hbl : b < G.2.1.1.heap.size) (hbA : ¬ G.2.2.1.2.2.2 b) (h5 : ad 5000 = b) (hcs : cs + 10 ≤ 601024) (hsl : sl + 60 ≤ 7293033) {a1 a2 : Int32} (hb1 : ¬ (i + 1 < 0 ∨ n ≤ (i + 1).toNatClampNeg) ∧ xs (i + 1).toNatClampNeg = a1) (hb2 : ¬ (i + 2 < 0 ∨ n ≤ (i + 2).toNatClampNeg) ∧ xs (i + 2).toNatClampNeg = a2) (rq : Int32 × sw_M × sw_N) (rm : Int32 × sw_M) (rt : Int32) (hw : f_L_thing N μ ν a1 a2 = some rq) (hm9 : f_m_thing N rq.2.1 a1 a2 = some rm) (hth : f_m_thrown N rm.2 = some rt) (ht : rt = rq.1) (hv : rq.1 = 0 → rq.2.2 87 0 = rm.1.toInt64) (hend0 : SW G ad lay0 rq.2.2 (cs + 2) (sl + 12) 2573 [some (.ref 5000), some (.ref 0), some (.ref 63), some (.ref 87), some (.int i), none, none, none] [] rm.2) : SW G ad lay0 ν cs sl 731 [some (.ref 5000), some (.ref 0), some (.ref 63), some (.ref 87), some (.int i), none, none, none] [] μ := by
  refine SW.aload_n (pc := 731) g (dt dtl_9 1 rfl) rfl ?_
  refine SW.aload_n (pc := 732) g (dt dtl_9 2 rfl) rfl ?_
  refine SW.iload (pc := 733) g (dt dtl_9 3 rfl) rfl ?_
  refine SW.iconst (pc := 735) (v := 1) g (dt dtl_9 4 rfl) ki_1 ?_
  refine SW.iadd (pc := 736) g (dt dtl_9 5 rfl) ?_
  refine SW.sld (pc := 737) (i := i + 1) g (dt dtl_9 6 rfl) hX hbl hbA h5 (hb1).1 ?_
  rw [(hb1).2]
  refine SW.aload_n (pc := 738) g (dt dtl_9 7 rfl) rfl ?_
  refine SW.iload (pc := 739) g (dt dtl_9 8 rfl) rfl ?_
  refine SW.iconst (pc := 741) (v := 2) g (dt dtl_9 9 rfl) ki_2 ?_
  refine SW.iadd (pc := 742) g (dt dtl_9 10 rfl) ?_
  refine SW.sld (pc := 743) (i := i + 2) g (dt dtl_9 11 rfl) hX hbl hbA h5 (hb2).1 ?_
  rw [(hb2).2]
  refine SW.aload_n (pc := 744) g (dt dtl_9 12 rfl) rfl ?_
  refine SW.callW (pc := 745) (np := 4) g (dt dtl_9 13 rfl) (mw_f_L_thing _ _ _ _ ad ν N μ a1 a2 rq hw) cw_L_thing lw_ini ⟨by decide +kernel, by decide +kernel⟩ (by decide +kernel) (Nat.le_of_ble_eq_true rfl) cs_L_thing (gtb_of (tbm_5 (List.mem_of_getElem? (i := 133) rfl)) rfl) rfl (Nat.le_of_ble_eq_true rfl) (Nat.le_of_ble_eq_true rfl) (by omega) (by omega) rfl ?_
  refine SW.istore (pc := 748) g (dt dtl_9 14 rfl) (sw_ltm hm (Nat.le_of_ble_eq_true rfl)) rfl ?_
  refine SW.aload_n (pc := 750) g (dt dtl_9 15 rfl) rfl ?_
  refine SW.aload_n (pc := 751) g (dt dtl_9 16 rfl) rfl ?_
  refine SW.iload (pc := 752) g (dt dtl_9 17 rfl) rfl ?_
  refine SW.iconst (pc := 754) (v := 1) g (dt dtl_9 18 rfl) ki_1 ?_
  refine SW.iadd (pc := 755) g (dt dtl_9 19 rfl) ?_
  refine SW.sld (pc := 756) (i := i + 1) g (dt dtl_9 20 rfl) hX hbl hbA h5 (hb1).1 ?_
  rw [(hb1).2]
  refine SW.aload_n (pc := 757) g (dt dtl_9 21 rfl) rfl ?_
  refine SW.iload (pc := 758) g (dt dtl_9 22 rfl) rfl ?_
  refine SW.iconst (pc := 760) (v := 2) g (dt dtl_9 23 rfl) ki_2 ?_
  refine SW.iadd (pc := 761) g (dt dtl_9 24 rfl) ?_
  refine SW.sld (pc := 762) (i := i + 2) g (dt dtl_9 25 rfl) hX hbl hbA h5 (hb2).1 ?_
  rw [(hb2).2]
  refine SW.callVi (pc := 763) g (dt dtl_9 26 rfl) (mt_f_m_thing _ _ _ _ ad rq.2.2 N rq.2.1 a1 a2 rm hm9) me_X11_thing mv_X11_thing (gtb_of (tbm_8 (List.mem_of_getElem? (i := 199) rfl)) rfl) cell_63 rfl rfl (Nat.le_of_ble_eq_true rfl) (Nat.le_of_ble_eq_true rfl) (by omega) (by omega) rfl ?_
  refine SW.istore (pc := 766) g (dt dtl_9 27 rfl) (sw_ltm hm (Nat.le_of_ble_eq_true rfl)) rfl ?_
  refine SW.aload_n (pc := 768) g (dt dtl_9 28 rfl) rfl ?_
  refine SW.callVi (pc := 769) g (dt dtl_9 29 rfl) (mt_f_m_thrown _ _ _ _ ad rq.2.2 N rm.2  rt hth) me_X11_thrown mv_X11_thrown (gtb_of (tbm_6 (List.mem_of_getElem? (i := 220) rfl)) rfl) cell_63 rfl rfl (Nat.le_of_ble_eq_true rfl) (Nat.le_of_ble_eq_true rfl) (by omega) (by omega) rfl ?_
  refine SW.iload (pc := 772) g (dt dtl_9 30 rfl) rfl ?_
  refine SW.icmp_eq (pc := 774) (t := 779) g (dt dtl_9 31 rfl) rfl (fun _ => ?_) (fun hc => absurd ht hc)
  refine SW.iload (pc := 779) g (dt dtl_9 34 rfl) rfl ?_
  refine SW.if_ne (pc := 781) (t := 796) g (dt dtl_9 35 rfl) rfl (fun hc => ?_) (fun hc => ?_)
  · refine SW.goto (pc := 796) (t := 2573) g (dt dtl_10 5 rfl) rfl ?_
    refine SW.msk [true, true, true, true, true] ?_
    exact hend0
  · refine SW.aload_n (pc := 784) g (dt dtl_9 36 rfl) rfl ?_
    refine SW.iconst (pc := 785) (v := 0) g (dt dtl_9 37 rfl) ki_0 ?_
    refine SW.laload (pc := 786) g (dt dtl_9 38 rfl) cell_87 (by decide) ?_
    refine SW.iload (pc := 787) g (dt dtl_9 39 rfl) rfl ?_
    refine SW.i2l (pc := 789) g (dt dtl_10 0 rfl) ?_
    refine SW.lcmp (pc := 790) g (dt dtl_10 1 rfl) ?_
    refine SW.if_eq (pc := 791) (t := 796) g (dt dtl_10 2 rfl) rfl (fun _ => ?_) (fun hc9 => absurd (lgc_eq (hv hc)) hc9)
    refine SW.goto (pc := 796) (t := 2573) g (dt dtl_10 5 rfl) rfl ?_
    refine SW.msk [true, true, true, true, true] ?_
    exact hend0
set_option maxRecDepth 100000 in
set_option maxHeartbeats 4000000 in
theorem lc_11 {G : sw_G} {ad : Nat → Nat} {ν : sw_N} {μ : sw_M} {N cs sl b n : Nat} {xs : Nat → Int32} {i : Int32} (g : sw_ok G cL_law_ "DeadWiresLaw" (some .boolean) 1300 601024 7293033 ad) (hm : G.2.2.1.2.1.maxLocals = 8) (hX : va_X b n xs G.2.1.1 G.2.1.1.heap) (hbl : b < G.2.1.1.heap.size) (hbA : ¬ G.2.2.1.2.2.2 b) (h5 : ad 5000 = b) (hcs : cs + 10 ≤ 601024) (hsl : sl + 60 ≤ 7293033) {a1 a2 : Int32} (hb1 : ¬ (i + 1 < 0 ∨ n ≤ (i + 1).toNatClampNeg) ∧ xs (i + 1).toNatClampNeg = a1) (hb2 : ¬ (i + 2 < 0 ∨ n ≤ (i + 2).toNatClampNeg) ∧ xs (i + 2).toNatClampNeg = a2) (rq : Int32 × sw_M × sw_N) (rm : Int32 × sw_M) (rt : Int32) (hw : f_L_person N μ ν a1 a2 = some rq) (hm9 : f_m_person N rq.2.1 a1 a2 = some rm) (hth : f_m_thrown N rm.2 = some rt) (ht : rt = rq.1) (hv : rq.1 = 0 → rq.2.2 87 0 = rm.1.toInt64) (hend0 : SW G ad lay0 rq.2.2 (cs + 2) (sl + 12) 2573 [some (.ref 5000), some (.ref 0), some (.ref 63), some (.ref 87), some (.int i), none, none, none] [] rm.2) : SW G ad lay0 ν cs sl 799 [some (.ref 5000), some (.ref 0), some (.ref 63), some (.ref 87), some (.int i), none, none, none] [] μ := by
  refine SW.aload_n (pc := 799) g (dt dtl_10 6 rfl) rfl ?_
  refine SW.aload_n (pc := 800) g (dt dtl_10 7 rfl) rfl ?_
  refine SW.iload (pc := 801) g (dt dtl_10 8 rfl) rfl ?_
  refine SW.iconst (pc := 803) (v := 1) g (dt dtl_10 9 rfl) ki_1 ?_
  refine SW.iadd (pc := 804) g (dt dtl_10 10 rfl) ?_
  refine SW.sld (pc := 805) (i := i + 1) g (dt dtl_10 11 rfl) hX hbl hbA h5 (hb1).1 ?_
  rw [(hb1).2]
  refine SW.aload_n (pc := 806) g (dt dtl_10 12 rfl) rfl ?_
  refine SW.iload (pc := 807) g (dt dtl_10 13 rfl) rfl ?_
  refine SW.iconst (pc := 809) (v := 2) g (dt dtl_10 14 rfl) ki_2 ?_
  refine SW.iadd (pc := 810) g (dt dtl_10 15 rfl) ?_
  refine SW.sld (pc := 811) (i := i + 2) g (dt dtl_10 16 rfl) hX hbl hbA h5 (hb2).1 ?_
  rw [(hb2).2]
  refine SW.aload_n (pc := 812) g (dt dtl_10 17 rfl) rfl ?_
  refine SW.callW (pc := 813) (np := 4) g (dt dtl_10 18 rfl) (mw_f_L_person _ _ _ _ ad ν N μ a1 a2 rq hw) cw_L_person lw_ini ⟨by decide +kernel, by decide +kernel⟩ (by decide +kernel) (Nat.le_of_ble_eq_true rfl) cs_L_person (gtb_of (tbm_5 (List.mem_of_getElem? (i := 144) rfl)) rfl) rfl (Nat.le_of_ble_eq_true rfl) (Nat.le_of_ble_eq_true rfl) (by omega) (by omega) rfl ?_
  refine SW.istore (pc := 816) g (dt dtl_10 19 rfl) (sw_ltm hm (Nat.le_of_ble_eq_true rfl)) rfl ?_
  refine SW.aload_n (pc := 818) g (dt dtl_10 20 rfl) rfl ?_
  refine SW.aload_n (pc := 819) g (dt dtl_10 21 rfl) rfl ?_
  refine SW.iload (pc := 820) g (dt dtl_10 22 rfl) rfl ?_
  refine SW.iconst (pc := 822) (v := 1) g (dt dtl_10 23 rfl) ki_1 ?_
  refine SW.iadd (pc := 823) g (dt dtl_10 24 rfl) ?_
  refine SW.sld (pc := 824) (i := i + 1) g (dt dtl_10 25 rfl) hX hbl hbA h5 (hb1).1 ?_
  rw [(hb1).2]
  refine SW.aload_n (pc := 825) g (dt dtl_10 26 rfl) rfl ?_
  refine SW.iload (pc := 826) g (dt dtl_10 27 rfl) rfl ?_
  refine SW.iconst (pc := 828) (v := 2) g (dt dtl_10 28 rfl) ki_2 ?_
  refine SW.iadd (pc := 829) g (dt dtl_10 29 rfl) ?_
  refine SW.sld (pc := 830) (i := i + 2) g (dt dtl_10 30 rfl) hX hbl hbA h5 (hb2).1 ?_
  rw [(hb2).2]
  refine SW.callVi (pc := 831) g (dt dtl_10 31 rfl) (mt_f_m_person _ _ _ _ ad rq.2.2 N rq.2.1 a1 a2 rm hm9) me_X11_person mv_X11_person (gtb_of (tbm_8 (List.mem_of_getElem? (i := 203) rfl)) rfl) cell_63 rfl rfl (Nat.le_of_ble_eq_true rfl) (Nat.le_of_ble_eq_true rfl) (by omega) (by omega) rfl ?_
  refine SW.istore (pc := 834) g (dt dtl_10 32 rfl) (sw_ltm hm (Nat.le_of_ble_eq_true rfl)) rfl ?_
  refine SW.aload_n (pc := 836) g (dt dtl_10 33 rfl) rfl ?_
  refine SW.callVi (pc := 837) g (dt dtl_10 34 rfl) (mt_f_m_thrown _ _ _ _ ad rq.2.2 N rm.2  rt hth) me_X11_thrown mv_X11_thrown (gtb_of (tbm_6 (List.mem_of_getElem? (i := 220) rfl)) rfl) cell_63 rfl rfl (Nat.le_of_ble_eq_true rfl) (Nat.le_of_ble_eq_true rfl) (by omega) (by omega) rfl ?_
  refine SW.iload (pc := 840) g (dt dtl_10 35 rfl) rfl ?_
  refine SW.icmp_eq (pc := 842) (t := 847) g (dt dtl_10 36 rfl) rfl (fun _ => ?_) (fun hc => absurd ht hc)
  refine SW.iload (pc := 847) g (dt dtl_10 39 rfl) rfl ?_
  refine SW.if_ne (pc := 849) (t := 864) g (dt dtl_11 0 rfl) rfl (fun hc => ?_) (fun hc => ?_)
  · refine SW.goto (pc := 864) (t := 2573) g (dt dtl_11 10 rfl) rfl ?_
    refine SW.msk [true, true, true, true, true] ?_
    exact hend0
  · refine SW.aload_n (pc := 852) g (dt dtl_11 1 rfl) rfl ?_
    refine SW.iconst (pc := 853) (v := 0) g (dt dtl_11 2 rfl) ki_0 ?_
    refine SW.laload (pc := 854) g (dt dtl_11 3 rfl) cell_87 (by decide) ?_
    refine SW.iload (pc := 855) g (dt dtl_11 4 rfl) rfl ?_
    refine SW.i2l (pc := 857) g (dt dtl_11 5 rfl) ?_
    refine SW.lcmp (pc := 858) g (dt dtl_11 6 rfl) ?_
    refine SW.if_eq (pc := 859) (t := 864) g (dt dtl_11 7 rfl) rfl (fun _ => ?_) (fun hc9 => absurd (lgc_eq (hv hc)) hc9)
    refine SW.goto (pc := 864) (t := 2573) g (dt dtl_11 10 rfl) rfl ?_
    refine SW.msk [true, true, true, true, true] ?_
    exact hend0
set_option maxRecDepth 100000 in
set_option maxHeartbeats 4000000 in
theorem lc_12 {G : sw_G} {ad : Nat → Nat} {ν : sw_N} {μ : sw_M} {N cs sl b n : Nat} {xs : Nat → Int32} {i : Int32} (g : sw_ok G cL_law_ "DeadWiresLaw" (some .boolean) 1300 601024 7293033 ad) (hm : G.2.2.1.2.1.maxLocals = 8) (hX : va_X b n xs G.2.1.1 G.2.1.1.heap) (hbl : b < G.2.1.1.heap.size) (hbA : ¬ G.2.2.1.2.2.2 b) (h5 : ad 5000 = b) (hcs : cs + 10 ≤ 601024) (hsl : sl + 60 ≤ 7293033) {a1 a2 : Int32} (hb1 : ¬ (i + 1 < 0 ∨ n ≤ (i + 1).toNatClampNeg) ∧ xs (i + 1).toNatClampNeg = a1) (hb2 : ¬ (i + 2 < 0 ∨ n ≤ (i + 2).toNatClampNeg) ∧ xs (i + 2).toNatClampNeg = a2) (rq : Int32 × sw_M × sw_N) (rm : Int32 × sw_M) (rt : Int32) (hw : f_L_toll N μ ν a1 a2 = some rq) (hm9 : f_m_toll N rq.2.1 a1 a2 = some rm) (hth : f_m_thrown N rm.2 = some rt) (ht : rt = rq.1) (hv : rq.1 = 0 → rq.2.2 87 0 = rm.1.toInt64) (hend0 : SW G ad lay0 rq.2.2 (cs + 2) (sl + 12) 2573 [some (.ref 5000), some (.ref 0), some (.ref 63), some (.ref 87), some (.int i), none, none, none] [] rm.2) : SW G ad lay0 ν cs sl 867 [some (.ref 5000), some (.ref 0), some (.ref 63), some (.ref 87), some (.int i), none, none, none] [] μ := by
  refine SW.aload_n (pc := 867) g (dt dtl_11 11 rfl) rfl ?_
  refine SW.aload_n (pc := 868) g (dt dtl_11 12 rfl) rfl ?_
  refine SW.iload (pc := 869) g (dt dtl_11 13 rfl) rfl ?_
  refine SW.iconst (pc := 871) (v := 1) g (dt dtl_11 14 rfl) ki_1 ?_
  refine SW.iadd (pc := 872) g (dt dtl_11 15 rfl) ?_
  refine SW.sld (pc := 873) (i := i + 1) g (dt dtl_11 16 rfl) hX hbl hbA h5 (hb1).1 ?_
  rw [(hb1).2]
  refine SW.aload_n (pc := 874) g (dt dtl_11 17 rfl) rfl ?_
  refine SW.iload (pc := 875) g (dt dtl_11 18 rfl) rfl ?_
  refine SW.iconst (pc := 877) (v := 2) g (dt dtl_11 19 rfl) ki_2 ?_
  refine SW.iadd (pc := 878) g (dt dtl_11 20 rfl) ?_
  refine SW.sld (pc := 879) (i := i + 2) g (dt dtl_11 21 rfl) hX hbl hbA h5 (hb2).1 ?_
  rw [(hb2).2]
  refine SW.aload_n (pc := 880) g (dt dtl_11 22 rfl) rfl ?_
  refine SW.callW (pc := 881) (np := 4) g (dt dtl_11 23 rfl) (mw_f_L_toll _ _ _ _ ad ν N μ a1 a2 rq hw) cw_L_toll lw_ini ⟨by decide +kernel, by decide +kernel⟩ (by decide +kernel) (Nat.le_of_ble_eq_true rfl) cs_L_toll (gtb_of (tbm_5 (List.mem_of_getElem? (i := 160) rfl)) rfl) rfl (Nat.le_of_ble_eq_true rfl) (Nat.le_of_ble_eq_true rfl) (by omega) (by omega) rfl ?_
  refine SW.istore (pc := 884) g (dt dtl_11 24 rfl) (sw_ltm hm (Nat.le_of_ble_eq_true rfl)) rfl ?_
  refine SW.aload_n (pc := 886) g (dt dtl_11 25 rfl) rfl ?_
  refine SW.aload_n (pc := 887) g (dt dtl_11 26 rfl) rfl ?_
  refine SW.iload (pc := 888) g (dt dtl_11 27 rfl) rfl ?_
  refine SW.iconst (pc := 890) (v := 1) g (dt dtl_11 28 rfl) ki_1 ?_
  refine SW.iadd (pc := 891) g (dt dtl_11 29 rfl) ?_
  refine SW.sld (pc := 892) (i := i + 1) g (dt dtl_11 30 rfl) hX hbl hbA h5 (hb1).1 ?_
  rw [(hb1).2]
  refine SW.aload_n (pc := 893) g (dt dtl_11 31 rfl) rfl ?_
  refine SW.iload (pc := 894) g (dt dtl_11 32 rfl) rfl ?_
  refine SW.iconst (pc := 896) (v := 2) g (dt dtl_11 33 rfl) ki_2 ?_
  refine SW.iadd (pc := 897) g (dt dtl_11 34 rfl) ?_
  refine SW.sld (pc := 898) (i := i + 2) g (dt dtl_11 35 rfl) hX hbl hbA h5 (hb2).1 ?_
  rw [(hb2).2]
  refine SW.callVi (pc := 899) g (dt dtl_11 36 rfl) (mt_f_m_toll _ _ _ _ ad rq.2.2 N rq.2.1 a1 a2 rm hm9) me_X11_toll mv_X11_toll (gtb_of (tbm_8 (List.mem_of_getElem? (i := 211) rfl)) rfl) cell_63 rfl rfl (Nat.le_of_ble_eq_true rfl) (Nat.le_of_ble_eq_true rfl) (by omega) (by omega) rfl ?_
  refine SW.istore (pc := 902) g (dt dtl_11 37 rfl) (sw_ltm hm (Nat.le_of_ble_eq_true rfl)) rfl ?_
  refine SW.aload_n (pc := 904) g (dt dtl_11 38 rfl) rfl ?_
  refine SW.callVi (pc := 905) g (dt dtl_11 39 rfl) (mt_f_m_thrown _ _ _ _ ad rq.2.2 N rm.2  rt hth) me_X11_thrown mv_X11_thrown (gtb_of (tbm_6 (List.mem_of_getElem? (i := 220) rfl)) rfl) cell_63 rfl rfl (Nat.le_of_ble_eq_true rfl) (Nat.le_of_ble_eq_true rfl) (by omega) (by omega) rfl ?_
  refine SW.iload (pc := 908) g (dt dtl_12 0 rfl) rfl ?_
  refine SW.icmp_eq (pc := 910) (t := 915) g (dt dtl_12 1 rfl) rfl (fun _ => ?_) (fun hc => absurd ht hc)
  refine SW.iload (pc := 915) g (dt dtl_12 4 rfl) rfl ?_
  refine SW.if_ne (pc := 917) (t := 932) g (dt dtl_12 5 rfl) rfl (fun hc => ?_) (fun hc => ?_)
  · refine SW.goto (pc := 932) (t := 2573) g (dt dtl_12 15 rfl) rfl ?_
    refine SW.msk [true, true, true, true, true] ?_
    exact hend0
  · refine SW.aload_n (pc := 920) g (dt dtl_12 6 rfl) rfl ?_
    refine SW.iconst (pc := 921) (v := 0) g (dt dtl_12 7 rfl) ki_0 ?_
    refine SW.laload (pc := 922) g (dt dtl_12 8 rfl) cell_87 (by decide) ?_
    refine SW.iload (pc := 923) g (dt dtl_12 9 rfl) rfl ?_
    refine SW.i2l (pc := 925) g (dt dtl_12 10 rfl) ?_
    refine SW.lcmp (pc := 926) g (dt dtl_12 11 rfl) ?_
    refine SW.if_eq (pc := 927) (t := 932) g (dt dtl_12 12 rfl) rfl (fun _ => ?_) (fun hc9 => absurd (lgc_eq (hv hc)) hc9)
    refine SW.goto (pc := 932) (t := 2573) g (dt dtl_12 15 rfl) rfl ?_
    refine SW.msk [true, true, true, true, true] ?_
    exact hend0
set_option maxRecDepth 100000 in
set_option maxHeartbeats 4000000 in
theorem lc_13 {G : sw_G} {ad : Nat → Nat} {ν : sw_N} {μ : sw_M} {N cs sl b n : Nat} {xs : Nat → Int32} {i : Int32} (g : sw_ok G cL_law_ "DeadWiresLaw" (some .boolean) 1300 601024 7293033 ad) (hm : G.2.2.1.2.1.maxLocals = 8) (hX : va_X b n xs G.2.1.1 G.2.1.1.heap) (hbl : b < G.2.1.1.heap.size) (hbA : ¬ G.2.2.1.2.2.2 b) (h5 : ad 5000 = b) (hcs : cs + 10 ≤ 601024) (hsl : sl + 60 ≤ 7293033) {a1 a2 a3 a4 a5 a6 a7 : Int32} (hb1 : ¬ (i + 1 < 0 ∨ n ≤ (i + 1).toNatClampNeg) ∧ xs (i + 1).toNatClampNeg = a1) (hb2 : ¬ (i + 2 < 0 ∨ n ≤ (i + 2).toNatClampNeg) ∧ xs (i + 2).toNatClampNeg = a2) (hb3 : ¬ (i + 3 < 0 ∨ n ≤ (i + 3).toNatClampNeg) ∧ xs (i + 3).toNatClampNeg = a3) (hb4 : ¬ (i + 4 < 0 ∨ n ≤ (i + 4).toNatClampNeg) ∧ xs (i + 4).toNatClampNeg = a4) (hb5 : ¬ (i + 5 < 0 ∨ n ≤ (i + 5).toNatClampNeg) ∧ xs (i + 5).toNatClampNeg = a5) (hb6 : ¬ (i + 6 < 0 ∨ n ≤ (i + 6).toNatClampNeg) ∧ xs (i + 6).toNatClampNeg = a6) (hb7 : ¬ (i + 7 < 0 ∨ n ≤ (i + 7).toNatClampNeg) ∧ xs (i + 7).toNatClampNeg = a7) (rq : Int32 × sw_M × sw_N) (rm : Int32 × sw_M) (rt : Int32) (hw : f_L_would N μ ν a1 a2 a3 a4 a5 a6 a7 = some rq) (hm9 : f_m_would N rq.2.1 a1 a2 a3 a4 a5 a6 a7 = some rm) (hth : f_m_thrown N rm.2 = some rt) (ht : rt = rq.1) (hv : rq.1 = 0 → rq.2.2 87 0 = rm.1.toInt64) (hend0 : SW G ad lay0 rq.2.2 (cs + 3) (sl + 18) 2573 [some (.ref 5000), some (.ref 0), some (.ref 63), some (.ref 87), some (.int i), none, none, none] [] rm.2) : SW G ad lay0 ν cs sl 935 [some (.ref 5000), some (.ref 0), some (.ref 63), some (.ref 87), some (.int i), none, none, none] [] μ := by
  refine SW.aload_n (pc := 935) g (dt dtl_12 16 rfl) rfl ?_
  refine SW.aload_n (pc := 936) g (dt dtl_12 17 rfl) rfl ?_
  refine SW.iload (pc := 937) g (dt dtl_12 18 rfl) rfl ?_
  refine SW.iconst (pc := 939) (v := 1) g (dt dtl_12 19 rfl) ki_1 ?_
  refine SW.iadd (pc := 940) g (dt dtl_12 20 rfl) ?_
  refine SW.sld (pc := 941) (i := i + 1) g (dt dtl_12 21 rfl) hX hbl hbA h5 (hb1).1 ?_
  rw [(hb1).2]
  refine SW.aload_n (pc := 942) g (dt dtl_12 22 rfl) rfl ?_
  refine SW.iload (pc := 943) g (dt dtl_12 23 rfl) rfl ?_
  refine SW.iconst (pc := 945) (v := 2) g (dt dtl_12 24 rfl) ki_2 ?_
  refine SW.iadd (pc := 946) g (dt dtl_12 25 rfl) ?_
  refine SW.sld (pc := 947) (i := i + 2) g (dt dtl_12 26 rfl) hX hbl hbA h5 (hb2).1 ?_
  rw [(hb2).2]
  refine SW.aload_n (pc := 948) g (dt dtl_12 27 rfl) rfl ?_
  refine SW.iload (pc := 949) g (dt dtl_12 28 rfl) rfl ?_
  refine SW.iconst (pc := 951) (v := 3) g (dt dtl_12 29 rfl) ki_3 ?_
  refine SW.iadd (pc := 952) g (dt dtl_12 30 rfl) ?_
  refine SW.sld (pc := 953) (i := i + 3) g (dt dtl_12 31 rfl) hX hbl hbA h5 (hb3).1 ?_
  rw [(hb3).2]
  refine SW.aload_n (pc := 954) g (dt dtl_12 32 rfl) rfl ?_
  refine SW.iload (pc := 955) g (dt dtl_12 33 rfl) rfl ?_
  refine SW.iconst (pc := 957) (v := 4) g (dt dtl_12 34 rfl) ki_4 ?_
  refine SW.iadd (pc := 958) g (dt dtl_12 35 rfl) ?_
  refine SW.sld (pc := 959) (i := i + 4) g (dt dtl_12 36 rfl) hX hbl hbA h5 (hb4).1 ?_
  rw [(hb4).2]
  refine SW.aload_n (pc := 960) g (dt dtl_12 37 rfl) rfl ?_
  refine SW.iload (pc := 961) g (dt dtl_12 38 rfl) rfl ?_
  refine SW.iconst (pc := 963) (v := 5) g (dt dtl_12 39 rfl) ki_5 ?_
  refine SW.iadd (pc := 964) g (dt dtl_13 0 rfl) ?_
  refine SW.sld (pc := 965) (i := i + 5) g (dt dtl_13 1 rfl) hX hbl hbA h5 (hb5).1 ?_
  rw [(hb5).2]
  refine SW.aload_n (pc := 966) g (dt dtl_13 2 rfl) rfl ?_
  refine SW.iload (pc := 967) g (dt dtl_13 3 rfl) rfl ?_
  refine SW.bipush (pc := 969) (v := 6) g (dt dtl_13 4 rfl) kb_6 ?_
  refine SW.iadd (pc := 971) g (dt dtl_13 5 rfl) ?_
  refine SW.sld (pc := 972) (i := i + 6) g (dt dtl_13 6 rfl) hX hbl hbA h5 (hb6).1 ?_
  rw [(hb6).2]
  refine SW.aload_n (pc := 973) g (dt dtl_13 7 rfl) rfl ?_
  refine SW.iload (pc := 974) g (dt dtl_13 8 rfl) rfl ?_
  refine SW.bipush (pc := 976) (v := 7) g (dt dtl_13 9 rfl) kb_7 ?_
  refine SW.iadd (pc := 978) g (dt dtl_13 10 rfl) ?_
  refine SW.sld (pc := 979) (i := i + 7) g (dt dtl_13 11 rfl) hX hbl hbA h5 (hb7).1 ?_
  rw [(hb7).2]
  refine SW.aload_n (pc := 980) g (dt dtl_13 12 rfl) rfl ?_
  refine SW.callW (pc := 981) (np := 9) g (dt dtl_13 13 rfl) (mw_f_L_would _ _ _ _ ad ν N μ a1 a2 a3 a4 a5 a6 a7 rq hw) cw_L_would lw_ini ⟨by decide +kernel, by decide +kernel⟩ (by decide +kernel) (Nat.le_of_ble_eq_true rfl) cs_L_would (gtb_of (tbm_5 (List.mem_of_getElem? (i := 168) rfl)) rfl) rfl (Nat.le_of_ble_eq_true rfl) (Nat.le_of_ble_eq_true rfl) (by omega) (by omega) rfl ?_
  refine SW.istore (pc := 984) g (dt dtl_13 14 rfl) (sw_ltm hm (Nat.le_of_ble_eq_true rfl)) rfl ?_
  refine SW.aload_n (pc := 986) g (dt dtl_13 15 rfl) rfl ?_
  refine SW.aload_n (pc := 987) g (dt dtl_13 16 rfl) rfl ?_
  refine SW.iload (pc := 988) g (dt dtl_13 17 rfl) rfl ?_
  refine SW.iconst (pc := 990) (v := 1) g (dt dtl_13 18 rfl) ki_1 ?_
  refine SW.iadd (pc := 991) g (dt dtl_13 19 rfl) ?_
  refine SW.sld (pc := 992) (i := i + 1) g (dt dtl_13 20 rfl) hX hbl hbA h5 (hb1).1 ?_
  rw [(hb1).2]
  refine SW.aload_n (pc := 993) g (dt dtl_13 21 rfl) rfl ?_
  refine SW.iload (pc := 994) g (dt dtl_13 22 rfl) rfl ?_
  refine SW.iconst (pc := 996) (v := 2) g (dt dtl_13 23 rfl) ki_2 ?_
  refine SW.iadd (pc := 997) g (dt dtl_13 24 rfl) ?_
  refine SW.sld (pc := 998) (i := i + 2) g (dt dtl_13 25 rfl) hX hbl hbA h5 (hb2).1 ?_
  rw [(hb2).2]
  refine SW.aload_n (pc := 999) g (dt dtl_13 26 rfl) rfl ?_
  refine SW.iload (pc := 1000) g (dt dtl_13 27 rfl) rfl ?_
  refine SW.iconst (pc := 1002) (v := 3) g (dt dtl_13 28 rfl) ki_3 ?_
  refine SW.iadd (pc := 1003) g (dt dtl_13 29 rfl) ?_
  refine SW.sld (pc := 1004) (i := i + 3) g (dt dtl_13 30 rfl) hX hbl hbA h5 (hb3).1 ?_
  rw [(hb3).2]
  refine SW.aload_n (pc := 1005) g (dt dtl_13 31 rfl) rfl ?_
  refine SW.iload (pc := 1006) g (dt dtl_13 32 rfl) rfl ?_
  refine SW.iconst (pc := 1008) (v := 4) g (dt dtl_13 33 rfl) ki_4 ?_
  refine SW.iadd (pc := 1009) g (dt dtl_13 34 rfl) ?_
  refine SW.sld (pc := 1010) (i := i + 4) g (dt dtl_13 35 rfl) hX hbl hbA h5 (hb4).1 ?_
  rw [(hb4).2]
  refine SW.aload_n (pc := 1011) g (dt dtl_13 36 rfl) rfl ?_
  refine SW.iload (pc := 1012) g (dt dtl_13 37 rfl) rfl ?_
  refine SW.iconst (pc := 1014) (v := 5) g (dt dtl_13 38 rfl) ki_5 ?_
  refine SW.iadd (pc := 1015) g (dt dtl_13 39 rfl) ?_
  refine SW.sld (pc := 1016) (i := i + 5) g (dt dtl_14 0 rfl) hX hbl hbA h5 (hb5).1 ?_
  rw [(hb5).2]
  refine SW.aload_n (pc := 1017) g (dt dtl_14 1 rfl) rfl ?_
  refine SW.iload (pc := 1018) g (dt dtl_14 2 rfl) rfl ?_
  refine SW.bipush (pc := 1020) (v := 6) g (dt dtl_14 3 rfl) kb_6 ?_
  refine SW.iadd (pc := 1022) g (dt dtl_14 4 rfl) ?_
  refine SW.sld (pc := 1023) (i := i + 6) g (dt dtl_14 5 rfl) hX hbl hbA h5 (hb6).1 ?_
  rw [(hb6).2]
  refine SW.aload_n (pc := 1024) g (dt dtl_14 6 rfl) rfl ?_
  refine SW.iload (pc := 1025) g (dt dtl_14 7 rfl) rfl ?_
  refine SW.bipush (pc := 1027) (v := 7) g (dt dtl_14 8 rfl) kb_7 ?_
  refine SW.iadd (pc := 1029) g (dt dtl_14 9 rfl) ?_
  refine SW.sld (pc := 1030) (i := i + 7) g (dt dtl_14 10 rfl) hX hbl hbA h5 (hb7).1 ?_
  rw [(hb7).2]
  refine SW.callVi (pc := 1031) g (dt dtl_14 11 rfl) (mt_f_m_would _ _ _ _ ad rq.2.2 N rq.2.1 a1 a2 a3 a4 a5 a6 a7 rm hm9) me_X11_would mv_X11_would (gtb_of (tbm_8 (List.mem_of_getElem? (i := 215) rfl)) rfl) cell_63 rfl rfl (Nat.le_of_ble_eq_true rfl) (Nat.le_of_ble_eq_true rfl) (by omega) (by omega) rfl ?_
  refine SW.istore (pc := 1034) g (dt dtl_14 12 rfl) (sw_ltm hm (Nat.le_of_ble_eq_true rfl)) rfl ?_
  refine SW.aload_n (pc := 1036) g (dt dtl_14 13 rfl) rfl ?_
  refine SW.callVi (pc := 1037) g (dt dtl_14 14 rfl) (mt_f_m_thrown _ _ _ _ ad rq.2.2 N rm.2  rt hth) me_X11_thrown mv_X11_thrown (gtb_of (tbm_6 (List.mem_of_getElem? (i := 220) rfl)) rfl) cell_63 rfl rfl (Nat.le_of_ble_eq_true rfl) (Nat.le_of_ble_eq_true rfl) (by omega) (by omega) rfl ?_
  refine SW.iload (pc := 1040) g (dt dtl_14 15 rfl) rfl ?_
  refine SW.icmp_eq (pc := 1042) (t := 1047) g (dt dtl_14 16 rfl) rfl (fun _ => ?_) (fun hc => absurd ht hc)
  refine SW.iload (pc := 1047) g (dt dtl_14 19 rfl) rfl ?_
  refine SW.if_ne (pc := 1049) (t := 1064) g (dt dtl_14 20 rfl) rfl (fun hc => ?_) (fun hc => ?_)
  · refine SW.goto (pc := 1064) (t := 2573) g (dt dtl_14 30 rfl) rfl ?_
    refine SW.msk [true, true, true, true, true] ?_
    exact hend0
  · refine SW.aload_n (pc := 1052) g (dt dtl_14 21 rfl) rfl ?_
    refine SW.iconst (pc := 1053) (v := 0) g (dt dtl_14 22 rfl) ki_0 ?_
    refine SW.laload (pc := 1054) g (dt dtl_14 23 rfl) cell_87 (by decide) ?_
    refine SW.iload (pc := 1055) g (dt dtl_14 24 rfl) rfl ?_
    refine SW.i2l (pc := 1057) g (dt dtl_14 25 rfl) ?_
    refine SW.lcmp (pc := 1058) g (dt dtl_14 26 rfl) ?_
    refine SW.if_eq (pc := 1059) (t := 1064) g (dt dtl_14 27 rfl) rfl (fun _ => ?_) (fun hc9 => absurd (lgc_eq (hv hc)) hc9)
    refine SW.goto (pc := 1064) (t := 2573) g (dt dtl_14 30 rfl) rfl ?_
    refine SW.msk [true, true, true, true, true] ?_
    exact hend0
set_option maxRecDepth 100000 in
set_option maxHeartbeats 4000000 in
theorem lc_14 {G : sw_G} {ad : Nat → Nat} {ν : sw_N} {μ : sw_M} {N cs sl b n : Nat} {xs : Nat → Int32} {i : Int32} (g : sw_ok G cL_law_ "DeadWiresLaw" (some .boolean) 1300 601024 7293033 ad) (hm : G.2.2.1.2.1.maxLocals = 8) (hX : va_X b n xs G.2.1.1 G.2.1.1.heap) (hbl : b < G.2.1.1.heap.size) (hbA : ¬ G.2.2.1.2.2.2 b) (h5 : ad 5000 = b) (hcs : cs + 10 ≤ 601024) (hsl : sl + 60 ≤ 7293033) {a1 a2 : Int32} (hb1 : ¬ (i + 1 < 0 ∨ n ≤ (i + 1).toNatClampNeg) ∧ xs (i + 1).toNatClampNeg = a1) (hb2 : ¬ (i + 2 < 0 ∨ n ≤ (i + 2).toNatClampNeg) ∧ xs (i + 2).toNatClampNeg = a2) (rq : Int32 × sw_M × sw_N) (rm : Int32 × sw_M) (rt : Int32) (hw : f_L_can N μ ν a1 a2 = some rq) (hm9 : f_m_can N rq.2.1 a1 a2 = some rm) (hth : f_m_thrown N rm.2 = some rt) (ht : rt = rq.1) (hv : rq.1 = 0 → rq.2.2 87 0 = (if rm.1 = 0 then 0 else 1)) (hend0 : SW G ad lay0 rq.2.2 (cs + 2) (sl + 12) 2573 [some (.ref 5000), some (.ref 0), some (.ref 63), some (.ref 87), some (.int i), none, none, none] [] rm.2) : SW G ad lay0 ν cs sl 1067 [some (.ref 5000), some (.ref 0), some (.ref 63), some (.ref 87), some (.int i), none, none, none] [] μ := by
  refine SW.aload_n (pc := 1067) g (dt dtl_14 31 rfl) rfl ?_
  refine SW.aload_n (pc := 1068) g (dt dtl_14 32 rfl) rfl ?_
  refine SW.iload (pc := 1069) g (dt dtl_14 33 rfl) rfl ?_
  refine SW.iconst (pc := 1071) (v := 1) g (dt dtl_14 34 rfl) ki_1 ?_
  refine SW.iadd (pc := 1072) g (dt dtl_14 35 rfl) ?_
  refine SW.sld (pc := 1073) (i := i + 1) g (dt dtl_14 36 rfl) hX hbl hbA h5 (hb1).1 ?_
  rw [(hb1).2]
  refine SW.aload_n (pc := 1074) g (dt dtl_14 37 rfl) rfl ?_
  refine SW.iload (pc := 1075) g (dt dtl_14 38 rfl) rfl ?_
  refine SW.iconst (pc := 1077) (v := 2) g (dt dtl_14 39 rfl) ki_2 ?_
  refine SW.iadd (pc := 1078) g (dt dtl_15 0 rfl) ?_
  refine SW.sld (pc := 1079) (i := i + 2) g (dt dtl_15 1 rfl) hX hbl hbA h5 (hb2).1 ?_
  rw [(hb2).2]
  refine SW.aload_n (pc := 1080) g (dt dtl_15 2 rfl) rfl ?_
  refine SW.callW (pc := 1081) (np := 4) g (dt dtl_15 3 rfl) (mw_f_L_can _ _ _ _ ad ν N μ a1 a2 rq hw) cw_L_can lw_ini ⟨by decide +kernel, by decide +kernel⟩ (by decide +kernel) (Nat.le_of_ble_eq_true rfl) cs_L_can (gtb_of (tbm_5 (List.mem_of_getElem? (i := 177) rfl)) rfl) rfl (Nat.le_of_ble_eq_true rfl) (Nat.le_of_ble_eq_true rfl) (by omega) (by omega) rfl ?_
  refine SW.istore (pc := 1084) g (dt dtl_15 4 rfl) (sw_ltm hm (Nat.le_of_ble_eq_true rfl)) rfl ?_
  refine SW.aload_n (pc := 1086) g (dt dtl_15 5 rfl) rfl ?_
  refine SW.aload_n (pc := 1087) g (dt dtl_15 6 rfl) rfl ?_
  refine SW.iload (pc := 1088) g (dt dtl_15 7 rfl) rfl ?_
  refine SW.iconst (pc := 1090) (v := 1) g (dt dtl_15 8 rfl) ki_1 ?_
  refine SW.iadd (pc := 1091) g (dt dtl_15 9 rfl) ?_
  refine SW.sld (pc := 1092) (i := i + 1) g (dt dtl_15 10 rfl) hX hbl hbA h5 (hb1).1 ?_
  rw [(hb1).2]
  refine SW.aload_n (pc := 1093) g (dt dtl_15 11 rfl) rfl ?_
  refine SW.iload (pc := 1094) g (dt dtl_15 12 rfl) rfl ?_
  refine SW.iconst (pc := 1096) (v := 2) g (dt dtl_15 13 rfl) ki_2 ?_
  refine SW.iadd (pc := 1097) g (dt dtl_15 14 rfl) ?_
  refine SW.sld (pc := 1098) (i := i + 2) g (dt dtl_15 15 rfl) hX hbl hbA h5 (hb2).1 ?_
  rw [(hb2).2]
  refine SW.callVi (pc := 1099) g (dt dtl_15 16 rfl) (mt_f_m_can _ _ _ _ ad rq.2.2 N rq.2.1 a1 a2 rm hm9) me_X11_can mv_X11_can (gtb_of (tbm_8 (List.mem_of_getElem? (i := 219) rfl)) rfl) cell_63 rfl rfl (Nat.le_of_ble_eq_true rfl) (Nat.le_of_ble_eq_true rfl) (by omega) (by omega) rfl ?_
  refine SW.istore (pc := 1102) g (dt dtl_15 17 rfl) (sw_ltm hm (Nat.le_of_ble_eq_true rfl)) rfl ?_
  refine SW.aload_n (pc := 1104) g (dt dtl_15 18 rfl) rfl ?_
  refine SW.callVi (pc := 1105) g (dt dtl_15 19 rfl) (mt_f_m_thrown _ _ _ _ ad rq.2.2 N rm.2  rt hth) me_X11_thrown mv_X11_thrown (gtb_of (tbm_6 (List.mem_of_getElem? (i := 220) rfl)) rfl) cell_63 rfl rfl (Nat.le_of_ble_eq_true rfl) (Nat.le_of_ble_eq_true rfl) (by omega) (by omega) rfl ?_
  refine SW.iload (pc := 1108) g (dt dtl_15 20 rfl) rfl ?_
  refine SW.icmp_eq (pc := 1110) (t := 1115) g (dt dtl_15 21 rfl) rfl (fun _ => ?_) (fun hc => absurd ht hc)
  refine SW.iload (pc := 1115) g (dt dtl_15 24 rfl) rfl ?_
  refine SW.if_ne (pc := 1117) (t := 1139) g (dt dtl_15 25 rfl) rfl (fun hc => ?_) (fun hc => ?_)
  · refine SW.goto (pc := 1139) (t := 2573) g (dt dtl_15 38 rfl) rfl ?_
    refine SW.msk [true, true, true, true, true] ?_
    exact hend0
  · refine SW.aload_n (pc := 1120) g (dt dtl_15 26 rfl) rfl ?_
    refine SW.iconst (pc := 1121) (v := 0) g (dt dtl_15 27 rfl) ki_0 ?_
    refine SW.laload (pc := 1122) g (dt dtl_15 28 rfl) cell_87 (by decide) ?_
    refine SW.iload (pc := 1123) g (dt dtl_15 29 rfl) rfl ?_
    refine SW.if_eq (pc := 1125) (t := 1132) g (dt dtl_15 30 rfl) rfl (fun hc2 => ?_) (fun hc2 => ?_)
    · have hv2 := hv hc
      rw [if_pos hc2] at hv2
      refine SW.lconst (pc := 1132) (v := 0) g (dt dtl_15 33 rfl) rfl ?_
      refine SW.lcmp (pc := 1133) g (dt dtl_15 34 rfl) ?_
      refine SW.if_eq (pc := 1134) (t := 1139) g (dt dtl_15 35 rfl) rfl (fun _ => ?_) (fun hc9 => absurd (lgc_eq hv2) hc9)
      refine SW.goto (pc := 1139) (t := 2573) g (dt dtl_15 38 rfl) rfl ?_
      refine SW.msk [true, true, true, true, true] ?_
      exact hend0
    · have hv2 := hv hc
      rw [if_neg hc2] at hv2
      refine SW.lconst (pc := 1128) (v := 1) g (dt dtl_15 31 rfl) rfl ?_
      refine SW.goto (pc := 1129) (t := 1133) g (dt dtl_15 32 rfl) rfl ?_
      refine SW.lcmp (pc := 1133) g (dt dtl_15 34 rfl) ?_
      refine SW.if_eq (pc := 1134) (t := 1139) g (dt dtl_15 35 rfl) rfl (fun _ => ?_) (fun hc9 => absurd (lgc_eq hv2) hc9)
      refine SW.goto (pc := 1139) (t := 2573) g (dt dtl_15 38 rfl) rfl ?_
      refine SW.msk [true, true, true, true, true] ?_
      exact hend0
set_option maxRecDepth 100000 in
set_option maxHeartbeats 4000000 in
theorem lc_15 {G : sw_G} {ad : Nat → Nat} {ν : sw_N} {μ : sw_M} {N cs sl b n : Nat} {xs : Nat → Int32} {i : Int32} (g : sw_ok G cL_law_ "DeadWiresLaw" (some .boolean) 1300 601024 7293033 ad) (hm : G.2.2.1.2.1.maxLocals = 8) (hX : va_X b n xs G.2.1.1 G.2.1.1.heap) (hbl : b < G.2.1.1.heap.size) (hbA : ¬ G.2.2.1.2.2.2 b) (h5 : ad 5000 = b) (hcs : cs + 10 ≤ 601024) (hsl : sl + 60 ≤ 7293033) {a1 a2 : Int32} (hb1 : ¬ (i + 1 < 0 ∨ n ≤ (i + 1).toNatClampNeg) ∧ xs (i + 1).toNatClampNeg = a1) (hb2 : ¬ (i + 2 < 0 ∨ n ≤ (i + 2).toNatClampNeg) ∧ xs (i + 2).toNatClampNeg = a2) (rq : Int32 × sw_M × sw_N) (rm : Int32 × sw_M) (rt : Int32) (hw : f_L_ahead N μ ν a1 a2 = some rq) (hm9 : f_m_ahead N rq.2.1 a1 a2 = some rm) (hth : f_m_thrown N rm.2 = some rt) (ht : rt = rq.1) (hv : rq.1 = 0 → rq.2.2 87 0 = rm.1.toInt64) (hend0 : SW G ad lay0 rq.2.2 (cs + 2) (sl + 12) 2573 [some (.ref 5000), some (.ref 0), some (.ref 63), some (.ref 87), some (.int i), none, none, none] [] rm.2) : SW G ad lay0 ν cs sl 1142 [some (.ref 5000), some (.ref 0), some (.ref 63), some (.ref 87), some (.int i), none, none, none] [] μ := by
  refine SW.aload_n (pc := 1142) g (dt dtl_15 39 rfl) rfl ?_
  refine SW.aload_n (pc := 1143) g (dt dtl_16 0 rfl) rfl ?_
  refine SW.iload (pc := 1144) g (dt dtl_16 1 rfl) rfl ?_
  refine SW.iconst (pc := 1146) (v := 1) g (dt dtl_16 2 rfl) ki_1 ?_
  refine SW.iadd (pc := 1147) g (dt dtl_16 3 rfl) ?_
  refine SW.sld (pc := 1148) (i := i + 1) g (dt dtl_16 4 rfl) hX hbl hbA h5 (hb1).1 ?_
  rw [(hb1).2]
  refine SW.aload_n (pc := 1149) g (dt dtl_16 5 rfl) rfl ?_
  refine SW.iload (pc := 1150) g (dt dtl_16 6 rfl) rfl ?_
  refine SW.iconst (pc := 1152) (v := 2) g (dt dtl_16 7 rfl) ki_2 ?_
  refine SW.iadd (pc := 1153) g (dt dtl_16 8 rfl) ?_
  refine SW.sld (pc := 1154) (i := i + 2) g (dt dtl_16 9 rfl) hX hbl hbA h5 (hb2).1 ?_
  rw [(hb2).2]
  refine SW.aload_n (pc := 1155) g (dt dtl_16 10 rfl) rfl ?_
  refine SW.callW (pc := 1156) (np := 4) g (dt dtl_16 11 rfl) (mw_f_L_ahead _ _ _ _ ad ν N μ a1 a2 rq hw) cw_L_ahead lw_ini ⟨by decide +kernel, by decide +kernel⟩ (by decide +kernel) (Nat.le_of_ble_eq_true rfl) cs_L_ahead (gtb_of (tbm_5 (List.mem_of_getElem? (i := 185) rfl)) rfl) rfl (Nat.le_of_ble_eq_true rfl) (Nat.le_of_ble_eq_true rfl) (by omega) (by omega) rfl ?_
  refine SW.istore (pc := 1159) g (dt dtl_16 12 rfl) (sw_ltm hm (Nat.le_of_ble_eq_true rfl)) rfl ?_
  refine SW.aload_n (pc := 1161) g (dt dtl_16 13 rfl) rfl ?_
  refine SW.aload_n (pc := 1162) g (dt dtl_16 14 rfl) rfl ?_
  refine SW.iload (pc := 1163) g (dt dtl_16 15 rfl) rfl ?_
  refine SW.iconst (pc := 1165) (v := 1) g (dt dtl_16 16 rfl) ki_1 ?_
  refine SW.iadd (pc := 1166) g (dt dtl_16 17 rfl) ?_
  refine SW.sld (pc := 1167) (i := i + 1) g (dt dtl_16 18 rfl) hX hbl hbA h5 (hb1).1 ?_
  rw [(hb1).2]
  refine SW.aload_n (pc := 1168) g (dt dtl_16 19 rfl) rfl ?_
  refine SW.iload (pc := 1169) g (dt dtl_16 20 rfl) rfl ?_
  refine SW.iconst (pc := 1171) (v := 2) g (dt dtl_16 21 rfl) ki_2 ?_
  refine SW.iadd (pc := 1172) g (dt dtl_16 22 rfl) ?_
  refine SW.sld (pc := 1173) (i := i + 2) g (dt dtl_16 23 rfl) hX hbl hbA h5 (hb2).1 ?_
  rw [(hb2).2]
  refine SW.callVi (pc := 1174) g (dt dtl_16 24 rfl) (mt_f_m_ahead _ _ _ _ ad rq.2.2 N rq.2.1 a1 a2 rm hm9) me_X11_ahead mv_X11_ahead (gtb_of (tbm_8 (List.mem_of_getElem? (i := 223) rfl)) rfl) cell_63 rfl rfl (Nat.le_of_ble_eq_true rfl) (Nat.le_of_ble_eq_true rfl) (by omega) (by omega) rfl ?_
  refine SW.istore (pc := 1177) g (dt dtl_16 25 rfl) (sw_ltm hm (Nat.le_of_ble_eq_true rfl)) rfl ?_
  refine SW.aload_n (pc := 1179) g (dt dtl_16 26 rfl) rfl ?_
  refine SW.callVi (pc := 1180) g (dt dtl_16 27 rfl) (mt_f_m_thrown _ _ _ _ ad rq.2.2 N rm.2  rt hth) me_X11_thrown mv_X11_thrown (gtb_of (tbm_6 (List.mem_of_getElem? (i := 220) rfl)) rfl) cell_63 rfl rfl (Nat.le_of_ble_eq_true rfl) (Nat.le_of_ble_eq_true rfl) (by omega) (by omega) rfl ?_
  refine SW.iload (pc := 1183) g (dt dtl_16 28 rfl) rfl ?_
  refine SW.icmp_eq (pc := 1185) (t := 1190) g (dt dtl_16 29 rfl) rfl (fun _ => ?_) (fun hc => absurd ht hc)
  refine SW.iload (pc := 1190) g (dt dtl_16 32 rfl) rfl ?_
  refine SW.if_ne (pc := 1192) (t := 1207) g (dt dtl_16 33 rfl) rfl (fun hc => ?_) (fun hc => ?_)
  · refine SW.goto (pc := 1207) (t := 2573) g (dt dtl_17 3 rfl) rfl ?_
    refine SW.msk [true, true, true, true, true] ?_
    exact hend0
  · refine SW.aload_n (pc := 1195) g (dt dtl_16 34 rfl) rfl ?_
    refine SW.iconst (pc := 1196) (v := 0) g (dt dtl_16 35 rfl) ki_0 ?_
    refine SW.laload (pc := 1197) g (dt dtl_16 36 rfl) cell_87 (by decide) ?_
    refine SW.iload (pc := 1198) g (dt dtl_16 37 rfl) rfl ?_
    refine SW.i2l (pc := 1200) g (dt dtl_16 38 rfl) ?_
    refine SW.lcmp (pc := 1201) g (dt dtl_16 39 rfl) ?_
    refine SW.if_eq (pc := 1202) (t := 1207) g (dt dtl_17 0 rfl) rfl (fun _ => ?_) (fun hc9 => absurd (lgc_eq (hv hc)) hc9)
    refine SW.goto (pc := 1207) (t := 2573) g (dt dtl_17 3 rfl) rfl ?_
    refine SW.msk [true, true, true, true, true] ?_
    exact hend0
set_option maxRecDepth 100000 in
set_option maxHeartbeats 4000000 in
theorem lc_16 {G : sw_G} {ad : Nat → Nat} {ν : sw_N} {μ : sw_M} {N cs sl b n : Nat} {xs : Nat → Int32} {i : Int32} (g : sw_ok G cL_law_ "DeadWiresLaw" (some .boolean) 1300 601024 7293033 ad) (hm : G.2.2.1.2.1.maxLocals = 8) (hX : va_X b n xs G.2.1.1 G.2.1.1.heap) (hbl : b < G.2.1.1.heap.size) (hbA : ¬ G.2.2.1.2.2.2 b) (h5 : ad 5000 = b) (hcs : cs + 10 ≤ 601024) (hsl : sl + 60 ≤ 7293033) {a1 a2 : Int32} (hb1 : ¬ (i + 1 < 0 ∨ n ≤ (i + 1).toNatClampNeg) ∧ xs (i + 1).toNatClampNeg = a1) (hb2 : ¬ (i + 2 < 0 ∨ n ≤ (i + 2).toNatClampNeg) ∧ xs (i + 2).toNatClampNeg = a2) (rq : Int32 × sw_M × sw_N) (rm : Int32 × sw_M) (rt : Int32) (hw : f_L_arrives N μ ν a1 a2 = some rq) (hm9 : f_m_arrives N rq.2.1 a1 a2 = some rm) (hth : f_m_thrown N rm.2 = some rt) (ht : rt = rq.1) (hv : rq.1 = 0 → rq.2.2 87 0 = rm.1.toInt64) (hend0 : SW G ad lay0 rq.2.2 (cs + 2) (sl + 12) 2573 [some (.ref 5000), some (.ref 0), some (.ref 63), some (.ref 87), some (.int i), none, none, none] [] rm.2) : SW G ad lay0 ν cs sl 1210 [some (.ref 5000), some (.ref 0), some (.ref 63), some (.ref 87), some (.int i), none, none, none] [] μ := by
  refine SW.aload_n (pc := 1210) g (dt dtl_17 4 rfl) rfl ?_
  refine SW.aload_n (pc := 1211) g (dt dtl_17 5 rfl) rfl ?_
  refine SW.iload (pc := 1212) g (dt dtl_17 6 rfl) rfl ?_
  refine SW.iconst (pc := 1214) (v := 1) g (dt dtl_17 7 rfl) ki_1 ?_
  refine SW.iadd (pc := 1215) g (dt dtl_17 8 rfl) ?_
  refine SW.sld (pc := 1216) (i := i + 1) g (dt dtl_17 9 rfl) hX hbl hbA h5 (hb1).1 ?_
  rw [(hb1).2]
  refine SW.aload_n (pc := 1217) g (dt dtl_17 10 rfl) rfl ?_
  refine SW.iload (pc := 1218) g (dt dtl_17 11 rfl) rfl ?_
  refine SW.iconst (pc := 1220) (v := 2) g (dt dtl_17 12 rfl) ki_2 ?_
  refine SW.iadd (pc := 1221) g (dt dtl_17 13 rfl) ?_
  refine SW.sld (pc := 1222) (i := i + 2) g (dt dtl_17 14 rfl) hX hbl hbA h5 (hb2).1 ?_
  rw [(hb2).2]
  refine SW.aload_n (pc := 1223) g (dt dtl_17 15 rfl) rfl ?_
  refine SW.callW (pc := 1224) (np := 4) g (dt dtl_17 16 rfl) (mw_f_L_arrives _ _ _ _ ad ν N μ a1 a2 rq hw) cw_L_arrives lw_ini ⟨by decide +kernel, by decide +kernel⟩ (by decide +kernel) (Nat.le_of_ble_eq_true rfl) cs_L_arrives (gtb_of (tbm_5 (List.mem_of_getElem? (i := 200) rfl)) rfl) rfl (Nat.le_of_ble_eq_true rfl) (Nat.le_of_ble_eq_true rfl) (by omega) (by omega) rfl ?_
  refine SW.istore (pc := 1227) g (dt dtl_17 17 rfl) (sw_ltm hm (Nat.le_of_ble_eq_true rfl)) rfl ?_
  refine SW.aload_n (pc := 1229) g (dt dtl_17 18 rfl) rfl ?_
  refine SW.aload_n (pc := 1230) g (dt dtl_17 19 rfl) rfl ?_
  refine SW.iload (pc := 1231) g (dt dtl_17 20 rfl) rfl ?_
  refine SW.iconst (pc := 1233) (v := 1) g (dt dtl_17 21 rfl) ki_1 ?_
  refine SW.iadd (pc := 1234) g (dt dtl_17 22 rfl) ?_
  refine SW.sld (pc := 1235) (i := i + 1) g (dt dtl_17 23 rfl) hX hbl hbA h5 (hb1).1 ?_
  rw [(hb1).2]
  refine SW.aload_n (pc := 1236) g (dt dtl_17 24 rfl) rfl ?_
  refine SW.iload (pc := 1237) g (dt dtl_17 25 rfl) rfl ?_
  refine SW.iconst (pc := 1239) (v := 2) g (dt dtl_17 26 rfl) ki_2 ?_
  refine SW.iadd (pc := 1240) g (dt dtl_17 27 rfl) ?_
  refine SW.sld (pc := 1241) (i := i + 2) g (dt dtl_17 28 rfl) hX hbl hbA h5 (hb2).1 ?_
  rw [(hb2).2]
  refine SW.callVi (pc := 1242) g (dt dtl_17 29 rfl) (mt_f_m_arrives _ _ _ _ ad rq.2.2 N rq.2.1 a1 a2 rm hm9) me_X11_arrives mv_X11_arrives (gtb_of (tbm_8 (List.mem_of_getElem? (i := 231) rfl)) rfl) cell_63 rfl rfl (Nat.le_of_ble_eq_true rfl) (Nat.le_of_ble_eq_true rfl) (by omega) (by omega) rfl ?_
  refine SW.istore (pc := 1245) g (dt dtl_17 30 rfl) (sw_ltm hm (Nat.le_of_ble_eq_true rfl)) rfl ?_
  refine SW.aload_n (pc := 1247) g (dt dtl_17 31 rfl) rfl ?_
  refine SW.callVi (pc := 1248) g (dt dtl_17 32 rfl) (mt_f_m_thrown _ _ _ _ ad rq.2.2 N rm.2  rt hth) me_X11_thrown mv_X11_thrown (gtb_of (tbm_6 (List.mem_of_getElem? (i := 220) rfl)) rfl) cell_63 rfl rfl (Nat.le_of_ble_eq_true rfl) (Nat.le_of_ble_eq_true rfl) (by omega) (by omega) rfl ?_
  refine SW.iload (pc := 1251) g (dt dtl_17 33 rfl) rfl ?_
  refine SW.icmp_eq (pc := 1253) (t := 1258) g (dt dtl_17 34 rfl) rfl (fun _ => ?_) (fun hc => absurd ht hc)
  refine SW.iload (pc := 1258) g (dt dtl_17 37 rfl) rfl ?_
  refine SW.if_ne (pc := 1260) (t := 1275) g (dt dtl_17 38 rfl) rfl (fun hc => ?_) (fun hc => ?_)
  · refine SW.goto (pc := 1275) (t := 2573) g (dt dtl_18 8 rfl) rfl ?_
    refine SW.msk [true, true, true, true, true] ?_
    exact hend0
  · refine SW.aload_n (pc := 1263) g (dt dtl_17 39 rfl) rfl ?_
    refine SW.iconst (pc := 1264) (v := 0) g (dt dtl_18 0 rfl) ki_0 ?_
    refine SW.laload (pc := 1265) g (dt dtl_18 1 rfl) cell_87 (by decide) ?_
    refine SW.iload (pc := 1266) g (dt dtl_18 2 rfl) rfl ?_
    refine SW.i2l (pc := 1268) g (dt dtl_18 3 rfl) ?_
    refine SW.lcmp (pc := 1269) g (dt dtl_18 4 rfl) ?_
    refine SW.if_eq (pc := 1270) (t := 1275) g (dt dtl_18 5 rfl) rfl (fun _ => ?_) (fun hc9 => absurd (lgc_eq (hv hc)) hc9)
    refine SW.goto (pc := 1275) (t := 2573) g (dt dtl_18 8 rfl) rfl ?_
    refine SW.msk [true, true, true, true, true] ?_
    exact hend0
set_option maxRecDepth 100000 in
set_option maxHeartbeats 4000000 in
theorem lc_17 {G : sw_G} {ad : Nat → Nat} {ν : sw_N} {μ : sw_M} {N cs sl b n : Nat} {xs : Nat → Int32} {i : Int32} (g : sw_ok G cL_law_ "DeadWiresLaw" (some .boolean) 1300 601024 7293033 ad) (hm : G.2.2.1.2.1.maxLocals = 8) (hX : va_X b n xs G.2.1.1 G.2.1.1.heap) (hbl : b < G.2.1.1.heap.size) (hbA : ¬ G.2.2.1.2.2.2 b) (h5 : ad 5000 = b) (hcs : cs + 10 ≤ 601024) (hsl : sl + 60 ≤ 7293033) {a1 a2 : Int32} (hb1 : ¬ (i + 1 < 0 ∨ n ≤ (i + 1).toNatClampNeg) ∧ xs (i + 1).toNatClampNeg = a1) (hb2 : ¬ (i + 2 < 0 ∨ n ≤ (i + 2).toNatClampNeg) ∧ xs (i + 2).toNatClampNeg = a2) (rq : Int32 × sw_M × sw_N) (rm : Int32 × sw_M) (rt : Int32) (hw : f_L_waits N μ ν a1 a2 = some rq) (hm9 : f_m_waits N rq.2.1 a1 a2 = some rm) (hth : f_m_thrown N rm.2 = some rt) (ht : rt = rq.1) (hv : rq.1 = 0 → rq.2.2 87 0 = rm.1.toInt64) (hend0 : SW G ad lay0 rq.2.2 (cs + 2) (sl + 12) 2573 [some (.ref 5000), some (.ref 0), some (.ref 63), some (.ref 87), some (.int i), none, none, none] [] rm.2) : SW G ad lay0 ν cs sl 1278 [some (.ref 5000), some (.ref 0), some (.ref 63), some (.ref 87), some (.int i), none, none, none] [] μ := by
  refine SW.aload_n (pc := 1278) g (dt dtl_18 9 rfl) rfl ?_
  refine SW.aload_n (pc := 1279) g (dt dtl_18 10 rfl) rfl ?_
  refine SW.iload (pc := 1280) g (dt dtl_18 11 rfl) rfl ?_
  refine SW.iconst (pc := 1282) (v := 1) g (dt dtl_18 12 rfl) ki_1 ?_
  refine SW.iadd (pc := 1283) g (dt dtl_18 13 rfl) ?_
  refine SW.sld (pc := 1284) (i := i + 1) g (dt dtl_18 14 rfl) hX hbl hbA h5 (hb1).1 ?_
  rw [(hb1).2]
  refine SW.aload_n (pc := 1285) g (dt dtl_18 15 rfl) rfl ?_
  refine SW.iload (pc := 1286) g (dt dtl_18 16 rfl) rfl ?_
  refine SW.iconst (pc := 1288) (v := 2) g (dt dtl_18 17 rfl) ki_2 ?_
  refine SW.iadd (pc := 1289) g (dt dtl_18 18 rfl) ?_
  refine SW.sld (pc := 1290) (i := i + 2) g (dt dtl_18 19 rfl) hX hbl hbA h5 (hb2).1 ?_
  rw [(hb2).2]
  refine SW.aload_n (pc := 1291) g (dt dtl_18 20 rfl) rfl ?_
  refine SW.callW (pc := 1292) (np := 4) g (dt dtl_18 21 rfl) (mw_f_L_waits _ _ _ _ ad ν N μ a1 a2 rq hw) cw_L_waits lw_ini ⟨by decide +kernel, by decide +kernel⟩ (by decide +kernel) (Nat.le_of_ble_eq_true rfl) cs_L_waits (gtb_of (tbm_5 (List.mem_of_getElem? (i := 212) rfl)) rfl) rfl (Nat.le_of_ble_eq_true rfl) (Nat.le_of_ble_eq_true rfl) (by omega) (by omega) rfl ?_
  refine SW.istore (pc := 1295) g (dt dtl_18 22 rfl) (sw_ltm hm (Nat.le_of_ble_eq_true rfl)) rfl ?_
  refine SW.aload_n (pc := 1297) g (dt dtl_18 23 rfl) rfl ?_
  refine SW.aload_n (pc := 1298) g (dt dtl_18 24 rfl) rfl ?_
  refine SW.iload (pc := 1299) g (dt dtl_18 25 rfl) rfl ?_
  refine SW.iconst (pc := 1301) (v := 1) g (dt dtl_18 26 rfl) ki_1 ?_
  refine SW.iadd (pc := 1302) g (dt dtl_18 27 rfl) ?_
  refine SW.sld (pc := 1303) (i := i + 1) g (dt dtl_18 28 rfl) hX hbl hbA h5 (hb1).1 ?_
  rw [(hb1).2]
  refine SW.aload_n (pc := 1304) g (dt dtl_18 29 rfl) rfl ?_
  refine SW.iload (pc := 1305) g (dt dtl_18 30 rfl) rfl ?_
  refine SW.iconst (pc := 1307) (v := 2) g (dt dtl_18 31 rfl) ki_2 ?_
  refine SW.iadd (pc := 1308) g (dt dtl_18 32 rfl) ?_
  refine SW.sld (pc := 1309) (i := i + 2) g (dt dtl_18 33 rfl) hX hbl hbA h5 (hb2).1 ?_
  rw [(hb2).2]
  refine SW.callVi (pc := 1310) g (dt dtl_18 34 rfl) (mt_f_m_waits _ _ _ _ ad rq.2.2 N rq.2.1 a1 a2 rm hm9) me_X11_waits mv_X11_waits (gtb_of (tbm_8 (List.mem_of_getElem? (i := 239) rfl)) rfl) cell_63 rfl rfl (Nat.le_of_ble_eq_true rfl) (Nat.le_of_ble_eq_true rfl) (by omega) (by omega) rfl ?_
  refine SW.istore (pc := 1313) g (dt dtl_18 35 rfl) (sw_ltm hm (Nat.le_of_ble_eq_true rfl)) rfl ?_
  refine SW.aload_n (pc := 1315) g (dt dtl_18 36 rfl) rfl ?_
  refine SW.callVi (pc := 1316) g (dt dtl_18 37 rfl) (mt_f_m_thrown _ _ _ _ ad rq.2.2 N rm.2  rt hth) me_X11_thrown mv_X11_thrown (gtb_of (tbm_6 (List.mem_of_getElem? (i := 220) rfl)) rfl) cell_63 rfl rfl (Nat.le_of_ble_eq_true rfl) (Nat.le_of_ble_eq_true rfl) (by omega) (by omega) rfl ?_
  refine SW.iload (pc := 1319) g (dt dtl_18 38 rfl) rfl ?_
  refine SW.icmp_eq (pc := 1321) (t := 1326) g (dt dtl_18 39 rfl) rfl (fun _ => ?_) (fun hc => absurd ht hc)
  refine SW.iload (pc := 1326) g (dt dtl_19 2 rfl) rfl ?_
  refine SW.if_ne (pc := 1328) (t := 1343) g (dt dtl_19 3 rfl) rfl (fun hc => ?_) (fun hc => ?_)
  · refine SW.goto (pc := 1343) (t := 2573) g (dt dtl_19 13 rfl) rfl ?_
    refine SW.msk [true, true, true, true, true] ?_
    exact hend0
  · refine SW.aload_n (pc := 1331) g (dt dtl_19 4 rfl) rfl ?_
    refine SW.iconst (pc := 1332) (v := 0) g (dt dtl_19 5 rfl) ki_0 ?_
    refine SW.laload (pc := 1333) g (dt dtl_19 6 rfl) cell_87 (by decide) ?_
    refine SW.iload (pc := 1334) g (dt dtl_19 7 rfl) rfl ?_
    refine SW.i2l (pc := 1336) g (dt dtl_19 8 rfl) ?_
    refine SW.lcmp (pc := 1337) g (dt dtl_19 9 rfl) ?_
    refine SW.if_eq (pc := 1338) (t := 1343) g (dt dtl_19 10 rfl) rfl (fun _ => ?_) (fun hc9 => absurd (lgc_eq (hv hc)) hc9)
    refine SW.goto (pc := 1343) (t := 2573) g (dt dtl_19 13 rfl) rfl ?_
    refine SW.msk [true, true, true, true, true] ?_
    exact hend0
set_option maxRecDepth 100000 in
set_option maxHeartbeats 4000000 in
theorem lc_18 {G : sw_G} {ad : Nat → Nat} {ν : sw_N} {μ : sw_M} {N cs sl b n : Nat} {xs : Nat → Int32} {i : Int32} (g : sw_ok G cL_law_ "DeadWiresLaw" (some .boolean) 1300 601024 7293033 ad) (hm : G.2.2.1.2.1.maxLocals = 8) (hX : va_X b n xs G.2.1.1 G.2.1.1.heap) (hbl : b < G.2.1.1.heap.size) (hbA : ¬ G.2.2.1.2.2.2 b) (h5 : ad 5000 = b) (hcs : cs + 10 ≤ 601024) (hsl : sl + 60 ≤ 7293033) {a1 a2 : Int32} (hb1 : ¬ (i + 1 < 0 ∨ n ≤ (i + 1).toNatClampNeg) ∧ xs (i + 1).toNatClampNeg = a1) (hb2 : ¬ (i + 2 < 0 ∨ n ≤ (i + 2).toNatClampNeg) ∧ xs (i + 2).toNatClampNeg = a2) (rq : Int32 × sw_M × sw_N) (rm : Int32 × sw_M) (rt : Int32) (hw : f_L_grant N μ ν a1 a2 = some rq) (hm9 : f_m_grant N rq.2.1 a1 a2 = some rm) (hth : f_m_thrown N rm.2 = some rt) (ht : rt = rq.1) (hv : rq.1 = 0 → rq.2.2 87 0 = rm.1.toInt64) (hend0 : SW G ad lay0 rq.2.2 (cs + 2) (sl + 12) 2573 [some (.ref 5000), some (.ref 0), some (.ref 63), some (.ref 87), some (.int i), none, none, none] [] rm.2) : SW G ad lay0 ν cs sl 1346 [some (.ref 5000), some (.ref 0), some (.ref 63), some (.ref 87), some (.int i), none, none, none] [] μ := by
  refine SW.aload_n (pc := 1346) g (dt dtl_19 14 rfl) rfl ?_
  refine SW.aload_n (pc := 1347) g (dt dtl_19 15 rfl) rfl ?_
  refine SW.iload (pc := 1348) g (dt dtl_19 16 rfl) rfl ?_
  refine SW.iconst (pc := 1350) (v := 1) g (dt dtl_19 17 rfl) ki_1 ?_
  refine SW.iadd (pc := 1351) g (dt dtl_19 18 rfl) ?_
  refine SW.sld (pc := 1352) (i := i + 1) g (dt dtl_19 19 rfl) hX hbl hbA h5 (hb1).1 ?_
  rw [(hb1).2]
  refine SW.aload_n (pc := 1353) g (dt dtl_19 20 rfl) rfl ?_
  refine SW.iload (pc := 1354) g (dt dtl_19 21 rfl) rfl ?_
  refine SW.iconst (pc := 1356) (v := 2) g (dt dtl_19 22 rfl) ki_2 ?_
  refine SW.iadd (pc := 1357) g (dt dtl_19 23 rfl) ?_
  refine SW.sld (pc := 1358) (i := i + 2) g (dt dtl_19 24 rfl) hX hbl hbA h5 (hb2).1 ?_
  rw [(hb2).2]
  refine SW.aload_n (pc := 1359) g (dt dtl_19 25 rfl) rfl ?_
  refine SW.callW (pc := 1360) (np := 4) g (dt dtl_19 26 rfl) (mw_f_L_grant _ _ _ _ ad ν N μ a1 a2 rq hw) cw_L_grant lw_ini ⟨by decide +kernel, by decide +kernel⟩ (by decide +kernel) (Nat.le_of_ble_eq_true rfl) cs_L_grant (gtb_of (tbm_5 (List.mem_of_getElem? (i := 224) rfl)) rfl) rfl (Nat.le_of_ble_eq_true rfl) (Nat.le_of_ble_eq_true rfl) (by omega) (by omega) rfl ?_
  refine SW.istore (pc := 1363) g (dt dtl_19 27 rfl) (sw_ltm hm (Nat.le_of_ble_eq_true rfl)) rfl ?_
  refine SW.aload_n (pc := 1365) g (dt dtl_19 28 rfl) rfl ?_
  refine SW.aload_n (pc := 1366) g (dt dtl_19 29 rfl) rfl ?_
  refine SW.iload (pc := 1367) g (dt dtl_19 30 rfl) rfl ?_
  refine SW.iconst (pc := 1369) (v := 1) g (dt dtl_19 31 rfl) ki_1 ?_
  refine SW.iadd (pc := 1370) g (dt dtl_19 32 rfl) ?_
  refine SW.sld (pc := 1371) (i := i + 1) g (dt dtl_19 33 rfl) hX hbl hbA h5 (hb1).1 ?_
  rw [(hb1).2]
  refine SW.aload_n (pc := 1372) g (dt dtl_19 34 rfl) rfl ?_
  refine SW.iload (pc := 1373) g (dt dtl_19 35 rfl) rfl ?_
  refine SW.iconst (pc := 1375) (v := 2) g (dt dtl_19 36 rfl) ki_2 ?_
  refine SW.iadd (pc := 1376) g (dt dtl_19 37 rfl) ?_
  refine SW.sld (pc := 1377) (i := i + 2) g (dt dtl_19 38 rfl) hX hbl hbA h5 (hb2).1 ?_
  rw [(hb2).2]
  refine SW.callVi (pc := 1378) g (dt dtl_19 39 rfl) (mt_f_m_grant _ _ _ _ ad rq.2.2 N rq.2.1 a1 a2 rm hm9) me_X11_grant mv_X11_grant (gtb_of (tbm_9 (List.mem_of_getElem? (i := 3) rfl)) rfl) cell_63 rfl rfl (Nat.le_of_ble_eq_true rfl) (Nat.le_of_ble_eq_true rfl) (by omega) (by omega) rfl ?_
  refine SW.istore (pc := 1381) g (dt dtl_20 0 rfl) (sw_ltm hm (Nat.le_of_ble_eq_true rfl)) rfl ?_
  refine SW.aload_n (pc := 1383) g (dt dtl_20 1 rfl) rfl ?_
  refine SW.callVi (pc := 1384) g (dt dtl_20 2 rfl) (mt_f_m_thrown _ _ _ _ ad rq.2.2 N rm.2  rt hth) me_X11_thrown mv_X11_thrown (gtb_of (tbm_6 (List.mem_of_getElem? (i := 220) rfl)) rfl) cell_63 rfl rfl (Nat.le_of_ble_eq_true rfl) (Nat.le_of_ble_eq_true rfl) (by omega) (by omega) rfl ?_
  refine SW.iload (pc := 1387) g (dt dtl_20 3 rfl) rfl ?_
  refine SW.icmp_eq (pc := 1389) (t := 1394) g (dt dtl_20 4 rfl) rfl (fun _ => ?_) (fun hc => absurd ht hc)
  refine SW.iload (pc := 1394) g (dt dtl_20 7 rfl) rfl ?_
  refine SW.if_ne (pc := 1396) (t := 1411) g (dt dtl_20 8 rfl) rfl (fun hc => ?_) (fun hc => ?_)
  · refine SW.goto (pc := 1411) (t := 2573) g (dt dtl_20 18 rfl) rfl ?_
    refine SW.msk [true, true, true, true, true] ?_
    exact hend0
  · refine SW.aload_n (pc := 1399) g (dt dtl_20 9 rfl) rfl ?_
    refine SW.iconst (pc := 1400) (v := 0) g (dt dtl_20 10 rfl) ki_0 ?_
    refine SW.laload (pc := 1401) g (dt dtl_20 11 rfl) cell_87 (by decide) ?_
    refine SW.iload (pc := 1402) g (dt dtl_20 12 rfl) rfl ?_
    refine SW.i2l (pc := 1404) g (dt dtl_20 13 rfl) ?_
    refine SW.lcmp (pc := 1405) g (dt dtl_20 14 rfl) ?_
    refine SW.if_eq (pc := 1406) (t := 1411) g (dt dtl_20 15 rfl) rfl (fun _ => ?_) (fun hc9 => absurd (lgc_eq (hv hc)) hc9)
    refine SW.goto (pc := 1411) (t := 2573) g (dt dtl_20 18 rfl) rfl ?_
    refine SW.msk [true, true, true, true, true] ?_
    exact hend0
set_option maxRecDepth 100000 in
set_option maxHeartbeats 4000000 in
theorem lc_19 {G : sw_G} {ad : Nat → Nat} {ν : sw_N} {μ : sw_M} {N cs sl b n : Nat} {xs : Nat → Int32} {i : Int32} (g : sw_ok G cL_law_ "DeadWiresLaw" (some .boolean) 1300 601024 7293033 ad) (hm : G.2.2.1.2.1.maxLocals = 8) (hX : va_X b n xs G.2.1.1 G.2.1.1.heap) (hbl : b < G.2.1.1.heap.size) (hbA : ¬ G.2.2.1.2.2.2 b) (h5 : ad 5000 = b) (hcs : cs + 10 ≤ 601024) (hsl : sl + 60 ≤ 7293033) {a1 a2 : Int32} (hb1 : ¬ (i + 1 < 0 ∨ n ≤ (i + 1).toNatClampNeg) ∧ xs (i + 1).toNatClampNeg = a1) (hb2 : ¬ (i + 2 < 0 ∨ n ≤ (i + 2).toNatClampNeg) ∧ xs (i + 2).toNatClampNeg = a2) (rq : Int32 × sw_M × sw_N) (rm : Int32 × sw_M) (rt : Int32) (hw : f_L_pliers N μ ν a1 a2 = some rq) (hm9 : f_m_pliers N rq.2.1 a1 a2 = some rm) (hth : f_m_thrown N rm.2 = some rt) (ht : rt = rq.1) (hv : rq.1 = 0 → rq.2.2 87 0 = rm.1.toInt64) (hend0 : SW G ad lay0 rq.2.2 (cs + 2) (sl + 12) 2573 [some (.ref 5000), some (.ref 0), some (.ref 63), some (.ref 87), some (.int i), none, none, none] [] rm.2) : SW G ad lay0 ν cs sl 1414 [some (.ref 5000), some (.ref 0), some (.ref 63), some (.ref 87), some (.int i), none, none, none] [] μ := by
  refine SW.aload_n (pc := 1414) g (dt dtl_20 19 rfl) rfl ?_
  refine SW.aload_n (pc := 1415) g (dt dtl_20 20 rfl) rfl ?_
  refine SW.iload (pc := 1416) g (dt dtl_20 21 rfl) rfl ?_
  refine SW.iconst (pc := 1418) (v := 1) g (dt dtl_20 22 rfl) ki_1 ?_
  refine SW.iadd (pc := 1419) g (dt dtl_20 23 rfl) ?_
  refine SW.sld (pc := 1420) (i := i + 1) g (dt dtl_20 24 rfl) hX hbl hbA h5 (hb1).1 ?_
  rw [(hb1).2]
  refine SW.aload_n (pc := 1421) g (dt dtl_20 25 rfl) rfl ?_
  refine SW.iload (pc := 1422) g (dt dtl_20 26 rfl) rfl ?_
  refine SW.iconst (pc := 1424) (v := 2) g (dt dtl_20 27 rfl) ki_2 ?_
  refine SW.iadd (pc := 1425) g (dt dtl_20 28 rfl) ?_
  refine SW.sld (pc := 1426) (i := i + 2) g (dt dtl_20 29 rfl) hX hbl hbA h5 (hb2).1 ?_
  rw [(hb2).2]
  refine SW.aload_n (pc := 1427) g (dt dtl_20 30 rfl) rfl ?_
  refine SW.callW (pc := 1428) (np := 4) g (dt dtl_20 31 rfl) (mw_f_L_pliers _ _ _ _ ad ν N μ a1 a2 rq hw) cw_L_pliers lw_ini ⟨by decide +kernel, by decide +kernel⟩ (by decide +kernel) (Nat.le_of_ble_eq_true rfl) cs_L_pliers (gtb_of (tbm_5 (List.mem_of_getElem? (i := 235) rfl)) rfl) rfl (Nat.le_of_ble_eq_true rfl) (Nat.le_of_ble_eq_true rfl) (by omega) (by omega) rfl ?_
  refine SW.istore (pc := 1431) g (dt dtl_20 32 rfl) (sw_ltm hm (Nat.le_of_ble_eq_true rfl)) rfl ?_
  refine SW.aload_n (pc := 1433) g (dt dtl_20 33 rfl) rfl ?_
  refine SW.aload_n (pc := 1434) g (dt dtl_20 34 rfl) rfl ?_
  refine SW.iload (pc := 1435) g (dt dtl_20 35 rfl) rfl ?_
  refine SW.iconst (pc := 1437) (v := 1) g (dt dtl_20 36 rfl) ki_1 ?_
  refine SW.iadd (pc := 1438) g (dt dtl_20 37 rfl) ?_
  refine SW.sld (pc := 1439) (i := i + 1) g (dt dtl_20 38 rfl) hX hbl hbA h5 (hb1).1 ?_
  rw [(hb1).2]
  refine SW.aload_n (pc := 1440) g (dt dtl_20 39 rfl) rfl ?_
  refine SW.iload (pc := 1441) g (dt dtl_21 0 rfl) rfl ?_
  refine SW.iconst (pc := 1443) (v := 2) g (dt dtl_21 1 rfl) ki_2 ?_
  refine SW.iadd (pc := 1444) g (dt dtl_21 2 rfl) ?_
  refine SW.sld (pc := 1445) (i := i + 2) g (dt dtl_21 3 rfl) hX hbl hbA h5 (hb2).1 ?_
  rw [(hb2).2]
  refine SW.callVi (pc := 1446) g (dt dtl_21 4 rfl) (mt_f_m_pliers _ _ _ _ ad rq.2.2 N rq.2.1 a1 a2 rm hm9) me_X11_pliers mv_X11_pliers (gtb_of (tbm_9 (List.mem_of_getElem? (i := 7) rfl)) rfl) cell_63 rfl rfl (Nat.le_of_ble_eq_true rfl) (Nat.le_of_ble_eq_true rfl) (by omega) (by omega) rfl ?_
  refine SW.istore (pc := 1449) g (dt dtl_21 5 rfl) (sw_ltm hm (Nat.le_of_ble_eq_true rfl)) rfl ?_
  refine SW.aload_n (pc := 1451) g (dt dtl_21 6 rfl) rfl ?_
  refine SW.callVi (pc := 1452) g (dt dtl_21 7 rfl) (mt_f_m_thrown _ _ _ _ ad rq.2.2 N rm.2  rt hth) me_X11_thrown mv_X11_thrown (gtb_of (tbm_6 (List.mem_of_getElem? (i := 220) rfl)) rfl) cell_63 rfl rfl (Nat.le_of_ble_eq_true rfl) (Nat.le_of_ble_eq_true rfl) (by omega) (by omega) rfl ?_
  refine SW.iload (pc := 1455) g (dt dtl_21 8 rfl) rfl ?_
  refine SW.icmp_eq (pc := 1457) (t := 1462) g (dt dtl_21 9 rfl) rfl (fun _ => ?_) (fun hc => absurd ht hc)
  refine SW.iload (pc := 1462) g (dt dtl_21 12 rfl) rfl ?_
  refine SW.if_ne (pc := 1464) (t := 1479) g (dt dtl_21 13 rfl) rfl (fun hc => ?_) (fun hc => ?_)
  · refine SW.goto (pc := 1479) (t := 2573) g (dt dtl_21 23 rfl) rfl ?_
    refine SW.msk [true, true, true, true, true] ?_
    exact hend0
  · refine SW.aload_n (pc := 1467) g (dt dtl_21 14 rfl) rfl ?_
    refine SW.iconst (pc := 1468) (v := 0) g (dt dtl_21 15 rfl) ki_0 ?_
    refine SW.laload (pc := 1469) g (dt dtl_21 16 rfl) cell_87 (by decide) ?_
    refine SW.iload (pc := 1470) g (dt dtl_21 17 rfl) rfl ?_
    refine SW.i2l (pc := 1472) g (dt dtl_21 18 rfl) ?_
    refine SW.lcmp (pc := 1473) g (dt dtl_21 19 rfl) ?_
    refine SW.if_eq (pc := 1474) (t := 1479) g (dt dtl_21 20 rfl) rfl (fun _ => ?_) (fun hc9 => absurd (lgc_eq (hv hc)) hc9)
    refine SW.goto (pc := 1479) (t := 2573) g (dt dtl_21 23 rfl) rfl ?_
    refine SW.msk [true, true, true, true, true] ?_
    exact hend0
set_option maxRecDepth 100000 in
set_option maxHeartbeats 4000000 in
theorem lc_20 {G : sw_G} {ad : Nat → Nat} {ν : sw_N} {μ : sw_M} {N cs sl b n : Nat} {xs : Nat → Int32} {i : Int32} (g : sw_ok G cL_law_ "DeadWiresLaw" (some .boolean) 1300 601024 7293033 ad) (hm : G.2.2.1.2.1.maxLocals = 8) (hX : va_X b n xs G.2.1.1 G.2.1.1.heap) (hbl : b < G.2.1.1.heap.size) (hbA : ¬ G.2.2.1.2.2.2 b) (h5 : ad 5000 = b) (hcs : cs + 10 ≤ 601024) (hsl : sl + 60 ≤ 7293033) {a1 a2 : Int32} (hb1 : ¬ (i + 1 < 0 ∨ n ≤ (i + 1).toNatClampNeg) ∧ xs (i + 1).toNatClampNeg = a1) (hb2 : ¬ (i + 2 < 0 ∨ n ≤ (i + 2).toNatClampNeg) ∧ xs (i + 2).toNatClampNeg = a2) (rq : Int32 × sw_M × sw_N) (rm : Int32 × sw_M) (rt : Int32) (hw : f_L_haul N μ ν a1 a2 = some rq) (hm9 : f_m_haul N rq.2.1 a1 a2 = some rm) (hth : f_m_thrown N rm.2 = some rt) (ht : rt = rq.1) (hv : rq.1 = 0 → rq.2.2 87 0 = rm.1.toInt64) (hend0 : SW G ad lay0 rq.2.2 (cs + 2) (sl + 12) 2573 [some (.ref 5000), some (.ref 0), some (.ref 63), some (.ref 87), some (.int i), none, none, none] [] rm.2) : SW G ad lay0 ν cs sl 1482 [some (.ref 5000), some (.ref 0), some (.ref 63), some (.ref 87), some (.int i), none, none, none] [] μ := by
  refine SW.aload_n (pc := 1482) g (dt dtl_21 24 rfl) rfl ?_
  refine SW.aload_n (pc := 1483) g (dt dtl_21 25 rfl) rfl ?_
  refine SW.iload (pc := 1484) g (dt dtl_21 26 rfl) rfl ?_
  refine SW.iconst (pc := 1486) (v := 1) g (dt dtl_21 27 rfl) ki_1 ?_
  refine SW.iadd (pc := 1487) g (dt dtl_21 28 rfl) ?_
  refine SW.sld (pc := 1488) (i := i + 1) g (dt dtl_21 29 rfl) hX hbl hbA h5 (hb1).1 ?_
  rw [(hb1).2]
  refine SW.aload_n (pc := 1489) g (dt dtl_21 30 rfl) rfl ?_
  refine SW.iload (pc := 1490) g (dt dtl_21 31 rfl) rfl ?_
  refine SW.iconst (pc := 1492) (v := 2) g (dt dtl_21 32 rfl) ki_2 ?_
  refine SW.iadd (pc := 1493) g (dt dtl_21 33 rfl) ?_
  refine SW.sld (pc := 1494) (i := i + 2) g (dt dtl_21 34 rfl) hX hbl hbA h5 (hb2).1 ?_
  rw [(hb2).2]
  refine SW.aload_n (pc := 1495) g (dt dtl_21 35 rfl) rfl ?_
  refine SW.callW (pc := 1496) (np := 4) g (dt dtl_21 36 rfl) (mw_f_L_haul _ _ _ _ ad ν N μ a1 a2 rq hw) cw_L_haul lw_ini ⟨by decide +kernel, by decide +kernel⟩ (by decide +kernel) (Nat.le_of_ble_eq_true rfl) cs_L_haul (gtb_of (tbm_6 (List.mem_of_getElem? (i := 14) rfl)) rfl) rfl (Nat.le_of_ble_eq_true rfl) (Nat.le_of_ble_eq_true rfl) (by omega) (by omega) rfl ?_
  refine SW.istore (pc := 1499) g (dt dtl_21 37 rfl) (sw_ltm hm (Nat.le_of_ble_eq_true rfl)) rfl ?_
  refine SW.aload_n (pc := 1501) g (dt dtl_21 38 rfl) rfl ?_
  refine SW.aload_n (pc := 1502) g (dt dtl_21 39 rfl) rfl ?_
  refine SW.iload (pc := 1503) g (dt dtl_22 0 rfl) rfl ?_
  refine SW.iconst (pc := 1505) (v := 1) g (dt dtl_22 1 rfl) ki_1 ?_
  refine SW.iadd (pc := 1506) g (dt dtl_22 2 rfl) ?_
  refine SW.sld (pc := 1507) (i := i + 1) g (dt dtl_22 3 rfl) hX hbl hbA h5 (hb1).1 ?_
  rw [(hb1).2]
  refine SW.aload_n (pc := 1508) g (dt dtl_22 4 rfl) rfl ?_
  refine SW.iload (pc := 1509) g (dt dtl_22 5 rfl) rfl ?_
  refine SW.iconst (pc := 1511) (v := 2) g (dt dtl_22 6 rfl) ki_2 ?_
  refine SW.iadd (pc := 1512) g (dt dtl_22 7 rfl) ?_
  refine SW.sld (pc := 1513) (i := i + 2) g (dt dtl_22 8 rfl) hX hbl hbA h5 (hb2).1 ?_
  rw [(hb2).2]
  refine SW.callVi (pc := 1514) g (dt dtl_22 9 rfl) (mt_f_m_haul _ _ _ _ ad rq.2.2 N rq.2.1 a1 a2 rm hm9) me_X11_haul mv_X11_haul (gtb_of (tbm_9 (List.mem_of_getElem? (i := 22) rfl)) rfl) cell_63 rfl rfl (Nat.le_of_ble_eq_true rfl) (Nat.le_of_ble_eq_true rfl) (by omega) (by omega) rfl ?_
  refine SW.istore (pc := 1517) g (dt dtl_22 10 rfl) (sw_ltm hm (Nat.le_of_ble_eq_true rfl)) rfl ?_
  refine SW.aload_n (pc := 1519) g (dt dtl_22 11 rfl) rfl ?_
  refine SW.callVi (pc := 1520) g (dt dtl_22 12 rfl) (mt_f_m_thrown _ _ _ _ ad rq.2.2 N rm.2  rt hth) me_X11_thrown mv_X11_thrown (gtb_of (tbm_6 (List.mem_of_getElem? (i := 220) rfl)) rfl) cell_63 rfl rfl (Nat.le_of_ble_eq_true rfl) (Nat.le_of_ble_eq_true rfl) (by omega) (by omega) rfl ?_
  refine SW.iload (pc := 1523) g (dt dtl_22 13 rfl) rfl ?_
  refine SW.icmp_eq (pc := 1525) (t := 1530) g (dt dtl_22 14 rfl) rfl (fun _ => ?_) (fun hc => absurd ht hc)
  refine SW.iload (pc := 1530) g (dt dtl_22 17 rfl) rfl ?_
  refine SW.if_ne (pc := 1532) (t := 1547) g (dt dtl_22 18 rfl) rfl (fun hc => ?_) (fun hc => ?_)
  · refine SW.goto (pc := 1547) (t := 2573) g (dt dtl_22 28 rfl) rfl ?_
    refine SW.msk [true, true, true, true, true] ?_
    exact hend0
  · refine SW.aload_n (pc := 1535) g (dt dtl_22 19 rfl) rfl ?_
    refine SW.iconst (pc := 1536) (v := 0) g (dt dtl_22 20 rfl) ki_0 ?_
    refine SW.laload (pc := 1537) g (dt dtl_22 21 rfl) cell_87 (by decide) ?_
    refine SW.iload (pc := 1538) g (dt dtl_22 22 rfl) rfl ?_
    refine SW.i2l (pc := 1540) g (dt dtl_22 23 rfl) ?_
    refine SW.lcmp (pc := 1541) g (dt dtl_22 24 rfl) ?_
    refine SW.if_eq (pc := 1542) (t := 1547) g (dt dtl_22 25 rfl) rfl (fun _ => ?_) (fun hc9 => absurd (lgc_eq (hv hc)) hc9)
    refine SW.goto (pc := 1547) (t := 2573) g (dt dtl_22 28 rfl) rfl ?_
    refine SW.msk [true, true, true, true, true] ?_
    exact hend0
set_option maxRecDepth 100000 in
set_option maxHeartbeats 4000000 in
theorem lc_21 {G : sw_G} {ad : Nat → Nat} {ν : sw_N} {μ : sw_M} {N cs sl b n : Nat} {xs : Nat → Int32} {i : Int32} (g : sw_ok G cL_law_ "DeadWiresLaw" (some .boolean) 1300 601024 7293033 ad) (hm : G.2.2.1.2.1.maxLocals = 8) (hX : va_X b n xs G.2.1.1 G.2.1.1.heap) (hbl : b < G.2.1.1.heap.size) (hbA : ¬ G.2.2.1.2.2.2 b) (h5 : ad 5000 = b) (hcs : cs + 10 ≤ 601024) (hsl : sl + 60 ≤ 7293033) {a1 : Int32} (hb1 : ¬ (i + 1 < 0 ∨ n ≤ (i + 1).toNatClampNeg) ∧ xs (i + 1).toNatClampNeg = a1) (rq : Int32 × sw_M × sw_N) (rm : Int32 × sw_M) (rt : Int32) (hw : f_L_fits N μ ν a1 = some rq) (hm9 : f_m_fits N rq.2.1 a1 = some rm) (hth : f_m_thrown N rm.2 = some rt) (ht : rt = rq.1) (hv : rq.1 = 0 → rq.2.2 87 0 = rm.1.toInt64) (hend0 : SW G ad lay0 rq.2.2 (cs + 1) (sl + 6) 2573 [some (.ref 5000), some (.ref 0), some (.ref 63), some (.ref 87), some (.int i), none, none, none] [] rm.2) : SW G ad lay0 ν cs sl 1550 [some (.ref 5000), some (.ref 0), some (.ref 63), some (.ref 87), some (.int i), none, none, none] [] μ := by
  refine SW.aload_n (pc := 1550) g (dt dtl_22 29 rfl) rfl ?_
  refine SW.aload_n (pc := 1551) g (dt dtl_22 30 rfl) rfl ?_
  refine SW.iload (pc := 1552) g (dt dtl_22 31 rfl) rfl ?_
  refine SW.iconst (pc := 1554) (v := 1) g (dt dtl_22 32 rfl) ki_1 ?_
  refine SW.iadd (pc := 1555) g (dt dtl_22 33 rfl) ?_
  refine SW.sld (pc := 1556) (i := i + 1) g (dt dtl_22 34 rfl) hX hbl hbA h5 (hb1).1 ?_
  rw [(hb1).2]
  refine SW.aload_n (pc := 1557) g (dt dtl_22 35 rfl) rfl ?_
  refine SW.callW (pc := 1558) (np := 3) g (dt dtl_22 36 rfl) (mw_f_L_fits _ _ _ _ ad ν N μ a1 rq hw) cw_L_fits lw_ini ⟨by decide +kernel, by decide +kernel⟩ (by decide +kernel) (Nat.le_of_ble_eq_true rfl) cs_L_fits (gtb_of (tbm_6 (List.mem_of_getElem? (i := 31) rfl)) rfl) rfl (Nat.le_of_ble_eq_true rfl) (Nat.le_of_ble_eq_true rfl) (by omega) (by omega) rfl ?_
  refine SW.istore (pc := 1561) g (dt dtl_22 37 rfl) (sw_ltm hm (Nat.le_of_ble_eq_true rfl)) rfl ?_
  refine SW.aload_n (pc := 1563) g (dt dtl_22 38 rfl) rfl ?_
  refine SW.aload_n (pc := 1564) g (dt dtl_22 39 rfl) rfl ?_
  refine SW.iload (pc := 1565) g (dt dtl_23 0 rfl) rfl ?_
  refine SW.iconst (pc := 1567) (v := 1) g (dt dtl_23 1 rfl) ki_1 ?_
  refine SW.iadd (pc := 1568) g (dt dtl_23 2 rfl) ?_
  refine SW.sld (pc := 1569) (i := i + 1) g (dt dtl_23 3 rfl) hX hbl hbA h5 (hb1).1 ?_
  rw [(hb1).2]
  refine SW.callVi (pc := 1570) g (dt dtl_23 4 rfl) (mt_f_m_fits _ _ _ _ ad rq.2.2 N rq.2.1 a1 rm hm9) me_X11_fits mv_X11_fits (gtb_of (tbm_9 (List.mem_of_getElem? (i := 26) rfl)) rfl) cell_63 rfl rfl (Nat.le_of_ble_eq_true rfl) (Nat.le_of_ble_eq_true rfl) (by omega) (by omega) rfl ?_
  refine SW.istore (pc := 1573) g (dt dtl_23 5 rfl) (sw_ltm hm (Nat.le_of_ble_eq_true rfl)) rfl ?_
  refine SW.aload_n (pc := 1575) g (dt dtl_23 6 rfl) rfl ?_
  refine SW.callVi (pc := 1576) g (dt dtl_23 7 rfl) (mt_f_m_thrown _ _ _ _ ad rq.2.2 N rm.2  rt hth) me_X11_thrown mv_X11_thrown (gtb_of (tbm_6 (List.mem_of_getElem? (i := 220) rfl)) rfl) cell_63 rfl rfl (Nat.le_of_ble_eq_true rfl) (Nat.le_of_ble_eq_true rfl) (by omega) (by omega) rfl ?_
  refine SW.iload (pc := 1579) g (dt dtl_23 8 rfl) rfl ?_
  refine SW.icmp_eq (pc := 1581) (t := 1586) g (dt dtl_23 9 rfl) rfl (fun _ => ?_) (fun hc => absurd ht hc)
  refine SW.iload (pc := 1586) g (dt dtl_23 12 rfl) rfl ?_
  refine SW.if_ne (pc := 1588) (t := 1603) g (dt dtl_23 13 rfl) rfl (fun hc => ?_) (fun hc => ?_)
  · refine SW.goto (pc := 1603) (t := 2573) g (dt dtl_23 23 rfl) rfl ?_
    refine SW.msk [true, true, true, true, true] ?_
    exact hend0
  · refine SW.aload_n (pc := 1591) g (dt dtl_23 14 rfl) rfl ?_
    refine SW.iconst (pc := 1592) (v := 0) g (dt dtl_23 15 rfl) ki_0 ?_
    refine SW.laload (pc := 1593) g (dt dtl_23 16 rfl) cell_87 (by decide) ?_
    refine SW.iload (pc := 1594) g (dt dtl_23 17 rfl) rfl ?_
    refine SW.i2l (pc := 1596) g (dt dtl_23 18 rfl) ?_
    refine SW.lcmp (pc := 1597) g (dt dtl_23 19 rfl) ?_
    refine SW.if_eq (pc := 1598) (t := 1603) g (dt dtl_23 20 rfl) rfl (fun _ => ?_) (fun hc9 => absurd (lgc_eq (hv hc)) hc9)
    refine SW.goto (pc := 1603) (t := 2573) g (dt dtl_23 23 rfl) rfl ?_
    refine SW.msk [true, true, true, true, true] ?_
    exact hend0
set_option maxRecDepth 100000 in
set_option maxHeartbeats 4000000 in
theorem lc_22 {G : sw_G} {ad : Nat → Nat} {ν : sw_N} {μ : sw_M} {N cs sl b n : Nat} {xs : Nat → Int32} {i : Int32} (g : sw_ok G cL_law_ "DeadWiresLaw" (some .boolean) 1300 601024 7293033 ad) (hm : G.2.2.1.2.1.maxLocals = 8) (hX : va_X b n xs G.2.1.1 G.2.1.1.heap) (hbl : b < G.2.1.1.heap.size) (hbA : ¬ G.2.2.1.2.2.2 b) (h5 : ad 5000 = b) (hcs : cs + 10 ≤ 601024) (hsl : sl + 60 ≤ 7293033) {a1 : Int32} (hb1 : ¬ (i + 1 < 0 ∨ n ≤ (i + 1).toNatClampNeg) ∧ xs (i + 1).toNatClampNeg = a1) (rq : Int32 × sw_M × sw_N) (rm : Int32 × sw_M) (rt : Int32) (hw : f_L_look N μ ν a1 = some rq) (hm9 : f_m_look N rq.2.1 a1 = some rm) (hth : f_m_thrown N rm.2 = some rt) (ht : rt = rq.1) (hv : rq.1 = 0 → rq.2.2 87 0 = rm.1.toInt64) (hend0 : SW G ad lay0 rq.2.2 (cs + 1) (sl + 6) 2573 [some (.ref 5000), some (.ref 0), some (.ref 63), some (.ref 87), some (.int i), none, none, none] [] rm.2) : SW G ad lay0 ν cs sl 1606 [some (.ref 5000), some (.ref 0), some (.ref 63), some (.ref 87), some (.int i), none, none, none] [] μ := by
  refine SW.aload_n (pc := 1606) g (dt dtl_23 24 rfl) rfl ?_
  refine SW.aload_n (pc := 1607) g (dt dtl_23 25 rfl) rfl ?_
  refine SW.iload (pc := 1608) g (dt dtl_23 26 rfl) rfl ?_
  refine SW.iconst (pc := 1610) (v := 1) g (dt dtl_23 27 rfl) ki_1 ?_
  refine SW.iadd (pc := 1611) g (dt dtl_23 28 rfl) ?_
  refine SW.sld (pc := 1612) (i := i + 1) g (dt dtl_23 29 rfl) hX hbl hbA h5 (hb1).1 ?_
  rw [(hb1).2]
  refine SW.aload_n (pc := 1613) g (dt dtl_23 30 rfl) rfl ?_
  refine SW.callW (pc := 1614) (np := 3) g (dt dtl_23 31 rfl) (mw_f_L_look _ _ _ _ ad ν N μ a1 rq hw) cw_L_look lw_ini ⟨by decide +kernel, by decide +kernel⟩ (by decide +kernel) (Nat.le_of_ble_eq_true rfl) cs_L_look (gtb_of (tbm_6 (List.mem_of_getElem? (i := 58) rfl)) rfl) rfl (Nat.le_of_ble_eq_true rfl) (Nat.le_of_ble_eq_true rfl) (by omega) (by omega) rfl ?_
  refine SW.istore (pc := 1617) g (dt dtl_23 32 rfl) (sw_ltm hm (Nat.le_of_ble_eq_true rfl)) rfl ?_
  refine SW.aload_n (pc := 1619) g (dt dtl_23 33 rfl) rfl ?_
  refine SW.aload_n (pc := 1620) g (dt dtl_23 34 rfl) rfl ?_
  refine SW.iload (pc := 1621) g (dt dtl_23 35 rfl) rfl ?_
  refine SW.iconst (pc := 1623) (v := 1) g (dt dtl_23 36 rfl) ki_1 ?_
  refine SW.iadd (pc := 1624) g (dt dtl_23 37 rfl) ?_
  refine SW.sld (pc := 1625) (i := i + 1) g (dt dtl_23 38 rfl) hX hbl hbA h5 (hb1).1 ?_
  rw [(hb1).2]
  refine SW.callVi (pc := 1626) g (dt dtl_23 39 rfl) (mt_f_m_look _ _ _ _ ad rq.2.2 N rq.2.1 a1 rm hm9) me_X11_look mv_X11_look (gtb_of (tbm_9 (List.mem_of_getElem? (i := 38) rfl)) rfl) cell_63 rfl rfl (Nat.le_of_ble_eq_true rfl) (Nat.le_of_ble_eq_true rfl) (by omega) (by omega) rfl ?_
  refine SW.istore (pc := 1629) g (dt dtl_24 0 rfl) (sw_ltm hm (Nat.le_of_ble_eq_true rfl)) rfl ?_
  refine SW.aload_n (pc := 1631) g (dt dtl_24 1 rfl) rfl ?_
  refine SW.callVi (pc := 1632) g (dt dtl_24 2 rfl) (mt_f_m_thrown _ _ _ _ ad rq.2.2 N rm.2  rt hth) me_X11_thrown mv_X11_thrown (gtb_of (tbm_6 (List.mem_of_getElem? (i := 220) rfl)) rfl) cell_63 rfl rfl (Nat.le_of_ble_eq_true rfl) (Nat.le_of_ble_eq_true rfl) (by omega) (by omega) rfl ?_
  refine SW.iload (pc := 1635) g (dt dtl_24 3 rfl) rfl ?_
  refine SW.icmp_eq (pc := 1637) (t := 1642) g (dt dtl_24 4 rfl) rfl (fun _ => ?_) (fun hc => absurd ht hc)
  refine SW.iload (pc := 1642) g (dt dtl_24 7 rfl) rfl ?_
  refine SW.if_ne (pc := 1644) (t := 1659) g (dt dtl_24 8 rfl) rfl (fun hc => ?_) (fun hc => ?_)
  · refine SW.goto (pc := 1659) (t := 2573) g (dt dtl_24 18 rfl) rfl ?_
    refine SW.msk [true, true, true, true, true] ?_
    exact hend0
  · refine SW.aload_n (pc := 1647) g (dt dtl_24 9 rfl) rfl ?_
    refine SW.iconst (pc := 1648) (v := 0) g (dt dtl_24 10 rfl) ki_0 ?_
    refine SW.laload (pc := 1649) g (dt dtl_24 11 rfl) cell_87 (by decide) ?_
    refine SW.iload (pc := 1650) g (dt dtl_24 12 rfl) rfl ?_
    refine SW.i2l (pc := 1652) g (dt dtl_24 13 rfl) ?_
    refine SW.lcmp (pc := 1653) g (dt dtl_24 14 rfl) ?_
    refine SW.if_eq (pc := 1654) (t := 1659) g (dt dtl_24 15 rfl) rfl (fun _ => ?_) (fun hc9 => absurd (lgc_eq (hv hc)) hc9)
    refine SW.goto (pc := 1659) (t := 2573) g (dt dtl_24 18 rfl) rfl ?_
    refine SW.msk [true, true, true, true, true] ?_
    exact hend0
set_option maxRecDepth 100000 in
set_option maxHeartbeats 4000000 in
theorem lc_23 {G : sw_G} {ad : Nat → Nat} {ν : sw_N} {μ : sw_M} {N cs sl b n : Nat} {xs : Nat → Int32} {i : Int32} (g : sw_ok G cL_law_ "DeadWiresLaw" (some .boolean) 1300 601024 7293033 ad) (hm : G.2.2.1.2.1.maxLocals = 8) (hX : va_X b n xs G.2.1.1 G.2.1.1.heap) (hbl : b < G.2.1.1.heap.size) (hbA : ¬ G.2.2.1.2.2.2 b) (h5 : ad 5000 = b) (hcs : cs + 10 ≤ 601024) (hsl : sl + 60 ≤ 7293033) {a1 : Int32} (hb1 : ¬ (i + 1 < 0 ∨ n ≤ (i + 1).toNatClampNeg) ∧ xs (i + 1).toNatClampNeg = a1) (rq : Int32 × sw_M × sw_N) (rm : Int32 × sw_M) (rt : Int32) (hw : f_L_parts N μ ν a1 = some rq) (hm9 : f_m_parts N rq.2.1 a1 = some rm) (hth : f_m_thrown N rm.2 = some rt) (ht : rt = rq.1) (hv : rq.1 = 0 → rq.2.2 87 0 = rm.1.toInt64) (hend0 : SW G ad lay0 rq.2.2 (cs + 1) (sl + 6) 2573 [some (.ref 5000), some (.ref 0), some (.ref 63), some (.ref 87), some (.int i), none, none, none] [] rm.2) : SW G ad lay0 ν cs sl 1662 [some (.ref 5000), some (.ref 0), some (.ref 63), some (.ref 87), some (.int i), none, none, none] [] μ := by
  refine SW.aload_n (pc := 1662) g (dt dtl_24 19 rfl) rfl ?_
  refine SW.aload_n (pc := 1663) g (dt dtl_24 20 rfl) rfl ?_
  refine SW.iload (pc := 1664) g (dt dtl_24 21 rfl) rfl ?_
  refine SW.iconst (pc := 1666) (v := 1) g (dt dtl_24 22 rfl) ki_1 ?_
  refine SW.iadd (pc := 1667) g (dt dtl_24 23 rfl) ?_
  refine SW.sld (pc := 1668) (i := i + 1) g (dt dtl_24 24 rfl) hX hbl hbA h5 (hb1).1 ?_
  rw [(hb1).2]
  refine SW.aload_n (pc := 1669) g (dt dtl_24 25 rfl) rfl ?_
  refine SW.callW (pc := 1670) (np := 3) g (dt dtl_24 26 rfl) (mw_f_L_parts _ _ _ _ ad ν N μ a1 rq hw) cw_L_parts lw_ini ⟨by decide +kernel, by decide +kernel⟩ (by decide +kernel) (Nat.le_of_ble_eq_true rfl) cs_L_parts (gtb_of (tbm_6 (List.mem_of_getElem? (i := 75) rfl)) rfl) rfl (Nat.le_of_ble_eq_true rfl) (Nat.le_of_ble_eq_true rfl) (by omega) (by omega) rfl ?_
  refine SW.istore (pc := 1673) g (dt dtl_24 27 rfl) (sw_ltm hm (Nat.le_of_ble_eq_true rfl)) rfl ?_
  refine SW.aload_n (pc := 1675) g (dt dtl_24 28 rfl) rfl ?_
  refine SW.aload_n (pc := 1676) g (dt dtl_24 29 rfl) rfl ?_
  refine SW.iload (pc := 1677) g (dt dtl_24 30 rfl) rfl ?_
  refine SW.iconst (pc := 1679) (v := 1) g (dt dtl_24 31 rfl) ki_1 ?_
  refine SW.iadd (pc := 1680) g (dt dtl_24 32 rfl) ?_
  refine SW.sld (pc := 1681) (i := i + 1) g (dt dtl_24 33 rfl) hX hbl hbA h5 (hb1).1 ?_
  rw [(hb1).2]
  refine SW.callVi (pc := 1682) g (dt dtl_24 34 rfl) (mt_f_m_parts _ _ _ _ ad rq.2.2 N rq.2.1 a1 rm hm9) me_X11_parts mv_X11_parts (gtb_of (tbm_9 (List.mem_of_getElem? (i := 18) rfl)) rfl) cell_63 rfl rfl (Nat.le_of_ble_eq_true rfl) (Nat.le_of_ble_eq_true rfl) (by omega) (by omega) rfl ?_
  refine SW.istore (pc := 1685) g (dt dtl_24 35 rfl) (sw_ltm hm (Nat.le_of_ble_eq_true rfl)) rfl ?_
  refine SW.aload_n (pc := 1687) g (dt dtl_24 36 rfl) rfl ?_
  refine SW.callVi (pc := 1688) g (dt dtl_24 37 rfl) (mt_f_m_thrown _ _ _ _ ad rq.2.2 N rm.2  rt hth) me_X11_thrown mv_X11_thrown (gtb_of (tbm_6 (List.mem_of_getElem? (i := 220) rfl)) rfl) cell_63 rfl rfl (Nat.le_of_ble_eq_true rfl) (Nat.le_of_ble_eq_true rfl) (by omega) (by omega) rfl ?_
  refine SW.iload (pc := 1691) g (dt dtl_24 38 rfl) rfl ?_
  refine SW.icmp_eq (pc := 1693) (t := 1698) g (dt dtl_24 39 rfl) rfl (fun _ => ?_) (fun hc => absurd ht hc)
  refine SW.iload (pc := 1698) g (dt dtl_25 2 rfl) rfl ?_
  refine SW.if_ne (pc := 1700) (t := 1715) g (dt dtl_25 3 rfl) rfl (fun hc => ?_) (fun hc => ?_)
  · refine SW.goto (pc := 1715) (t := 2573) g (dt dtl_25 13 rfl) rfl ?_
    refine SW.msk [true, true, true, true, true] ?_
    exact hend0
  · refine SW.aload_n (pc := 1703) g (dt dtl_25 4 rfl) rfl ?_
    refine SW.iconst (pc := 1704) (v := 0) g (dt dtl_25 5 rfl) ki_0 ?_
    refine SW.laload (pc := 1705) g (dt dtl_25 6 rfl) cell_87 (by decide) ?_
    refine SW.iload (pc := 1706) g (dt dtl_25 7 rfl) rfl ?_
    refine SW.i2l (pc := 1708) g (dt dtl_25 8 rfl) ?_
    refine SW.lcmp (pc := 1709) g (dt dtl_25 9 rfl) ?_
    refine SW.if_eq (pc := 1710) (t := 1715) g (dt dtl_25 10 rfl) rfl (fun _ => ?_) (fun hc9 => absurd (lgc_eq (hv hc)) hc9)
    refine SW.goto (pc := 1715) (t := 2573) g (dt dtl_25 13 rfl) rfl ?_
    refine SW.msk [true, true, true, true, true] ?_
    exact hend0
set_option maxRecDepth 100000 in
set_option maxHeartbeats 4000000 in
theorem lc_24 {G : sw_G} {ad : Nat → Nat} {ν : sw_N} {μ : sw_M} {N cs sl b n : Nat} {xs : Nat → Int32} {i : Int32} (g : sw_ok G cL_law_ "DeadWiresLaw" (some .boolean) 1300 601024 7293033 ad) (hm : G.2.2.1.2.1.maxLocals = 8) (hX : va_X b n xs G.2.1.1 G.2.1.1.heap) (hbl : b < G.2.1.1.heap.size) (hbA : ¬ G.2.2.1.2.2.2 b) (h5 : ad 5000 = b) (hcs : cs + 10 ≤ 601024) (hsl : sl + 60 ≤ 7293033) {a1 a2 a3 : Int32} (hb1 : ¬ (i + 1 < 0 ∨ n ≤ (i + 1).toNatClampNeg) ∧ xs (i + 1).toNatClampNeg = a1) (hb2 : ¬ (i + 2 < 0 ∨ n ≤ (i + 2).toNatClampNeg) ∧ xs (i + 2).toNatClampNeg = a2) (hb3 : ¬ (i + 3 < 0 ∨ n ≤ (i + 3).toNatClampNeg) ∧ xs (i + 3).toNatClampNeg = a3) (rq : Int32 × sw_M × sw_N) (rm : Int64 × sw_M) (rt : Int32) (hw : f_L_tingle N μ ν a1 a2 a3 = some rq) (hm9 : f_m_tingle N rq.2.1 a1 a2 a3 = some rm) (hth : f_m_thrown N rm.2 = some rt) (ht : rt = rq.1) (hv : rq.1 = 0 → rq.2.2 87 0 = rm.1) (hend0 : SW G ad lay0 rq.2.2 (cs + 2) (sl + 12) 2573 [some (.ref 5000), some (.ref 0), some (.ref 63), some (.ref 87), some (.int i), none, none, none] [] rm.2) : SW G ad lay0 ν cs sl 1718 [some (.ref 5000), some (.ref 0), some (.ref 63), some (.ref 87), some (.int i), none, none, none] [] μ := by
  refine SW.aload_n (pc := 1718) g (dt dtl_25 14 rfl) rfl ?_
  refine SW.aload_n (pc := 1719) g (dt dtl_25 15 rfl) rfl ?_
  refine SW.iload (pc := 1720) g (dt dtl_25 16 rfl) rfl ?_
  refine SW.iconst (pc := 1722) (v := 1) g (dt dtl_25 17 rfl) ki_1 ?_
  refine SW.iadd (pc := 1723) g (dt dtl_25 18 rfl) ?_
  refine SW.sld (pc := 1724) (i := i + 1) g (dt dtl_25 19 rfl) hX hbl hbA h5 (hb1).1 ?_
  rw [(hb1).2]
  refine SW.aload_n (pc := 1725) g (dt dtl_25 20 rfl) rfl ?_
  refine SW.iload (pc := 1726) g (dt dtl_25 21 rfl) rfl ?_
  refine SW.iconst (pc := 1728) (v := 2) g (dt dtl_25 22 rfl) ki_2 ?_
  refine SW.iadd (pc := 1729) g (dt dtl_25 23 rfl) ?_
  refine SW.sld (pc := 1730) (i := i + 2) g (dt dtl_25 24 rfl) hX hbl hbA h5 (hb2).1 ?_
  rw [(hb2).2]
  refine SW.aload_n (pc := 1731) g (dt dtl_25 25 rfl) rfl ?_
  refine SW.iload (pc := 1732) g (dt dtl_25 26 rfl) rfl ?_
  refine SW.iconst (pc := 1734) (v := 3) g (dt dtl_25 27 rfl) ki_3 ?_
  refine SW.iadd (pc := 1735) g (dt dtl_25 28 rfl) ?_
  refine SW.sld (pc := 1736) (i := i + 3) g (dt dtl_25 29 rfl) hX hbl hbA h5 (hb3).1 ?_
  rw [(hb3).2]
  refine SW.aload_n (pc := 1737) g (dt dtl_25 30 rfl) rfl ?_
  refine SW.callW (pc := 1738) (np := 5) g (dt dtl_25 31 rfl) (mw_f_L_tingle _ _ _ _ ad ν N μ a1 a2 a3 rq hw) cw_L_tingle lw_ini ⟨by decide +kernel, by decide +kernel⟩ (by decide +kernel) (Nat.le_of_ble_eq_true rfl) cs_L_tingle (gtb_of (tbm_6 (List.mem_of_getElem? (i := 90) rfl)) rfl) rfl (Nat.le_of_ble_eq_true rfl) (Nat.le_of_ble_eq_true rfl) (by omega) (by omega) rfl ?_
  refine SW.istore (pc := 1741) g (dt dtl_25 32 rfl) (sw_ltm hm (Nat.le_of_ble_eq_true rfl)) rfl ?_
  refine SW.aload_n (pc := 1743) g (dt dtl_25 33 rfl) rfl ?_
  refine SW.aload_n (pc := 1744) g (dt dtl_25 34 rfl) rfl ?_
  refine SW.iload (pc := 1745) g (dt dtl_25 35 rfl) rfl ?_
  refine SW.iconst (pc := 1747) (v := 1) g (dt dtl_25 36 rfl) ki_1 ?_
  refine SW.iadd (pc := 1748) g (dt dtl_25 37 rfl) ?_
  refine SW.sld (pc := 1749) (i := i + 1) g (dt dtl_25 38 rfl) hX hbl hbA h5 (hb1).1 ?_
  rw [(hb1).2]
  refine SW.aload_n (pc := 1750) g (dt dtl_25 39 rfl) rfl ?_
  refine SW.iload (pc := 1751) g (dt dtl_26 0 rfl) rfl ?_
  refine SW.iconst (pc := 1753) (v := 2) g (dt dtl_26 1 rfl) ki_2 ?_
  refine SW.iadd (pc := 1754) g (dt dtl_26 2 rfl) ?_
  refine SW.sld (pc := 1755) (i := i + 2) g (dt dtl_26 3 rfl) hX hbl hbA h5 (hb2).1 ?_
  rw [(hb2).2]
  refine SW.aload_n (pc := 1756) g (dt dtl_26 4 rfl) rfl ?_
  refine SW.iload (pc := 1757) g (dt dtl_26 5 rfl) rfl ?_
  refine SW.iconst (pc := 1759) (v := 3) g (dt dtl_26 6 rfl) ki_3 ?_
  refine SW.iadd (pc := 1760) g (dt dtl_26 7 rfl) ?_
  refine SW.sld (pc := 1761) (i := i + 3) g (dt dtl_26 8 rfl) hX hbl hbA h5 (hb3).1 ?_
  rw [(hb3).2]
  refine SW.callVl (pc := 1762) g (dt dtl_26 9 rfl) (mt_f_m_tingle _ _ _ _ ad rq.2.2 N rq.2.1 a1 a2 a3 rm hm9) me_X11_tingle mv_X11_tingle (gtb_of (tbm_9 (List.mem_of_getElem? (i := 42) rfl)) rfl) cell_63 rfl rfl (Nat.le_of_ble_eq_true rfl) (Nat.le_of_ble_eq_true rfl) (by omega) (by omega) rfl ?_
  refine SW.lstore (pc := 1765) g (dt dtl_26 10 rfl) (sw_ltm hm (Nat.le_of_ble_eq_true rfl)) rfl ?_
  refine SW.aload_n (pc := 1767) g (dt dtl_26 11 rfl) rfl ?_
  refine SW.callVi (pc := 1768) g (dt dtl_26 12 rfl) (mt_f_m_thrown _ _ _ _ ad rq.2.2 N rm.2  rt hth) me_X11_thrown mv_X11_thrown (gtb_of (tbm_6 (List.mem_of_getElem? (i := 220) rfl)) rfl) cell_63 rfl rfl (Nat.le_of_ble_eq_true rfl) (Nat.le_of_ble_eq_true rfl) (by omega) (by omega) rfl ?_
  refine SW.iload (pc := 1771) g (dt dtl_26 13 rfl) rfl ?_
  refine SW.icmp_eq (pc := 1773) (t := 1778) g (dt dtl_26 14 rfl) rfl (fun _ => ?_) (fun hc => absurd ht hc)
  refine SW.iload (pc := 1778) g (dt dtl_26 17 rfl) rfl ?_
  refine SW.if_ne (pc := 1780) (t := 1794) g (dt dtl_26 18 rfl) rfl (fun hc => ?_) (fun hc => ?_)
  · refine SW.goto (pc := 1794) (t := 2573) g (dt dtl_26 27 rfl) rfl ?_
    refine SW.msk [true, true, true, true, true] ?_
    exact hend0
  · refine SW.aload_n (pc := 1783) g (dt dtl_26 19 rfl) rfl ?_
    refine SW.iconst (pc := 1784) (v := 0) g (dt dtl_26 20 rfl) ki_0 ?_
    refine SW.laload (pc := 1785) g (dt dtl_26 21 rfl) cell_87 (by decide) ?_
    refine SW.lload (pc := 1786) g (dt dtl_26 22 rfl) rfl ?_
    refine SW.lcmp (pc := 1788) g (dt dtl_26 23 rfl) ?_
    refine SW.if_eq (pc := 1789) (t := 1794) g (dt dtl_26 24 rfl) rfl (fun _ => ?_) (fun hc9 => absurd (lgc_eq (hv hc)) hc9)
    refine SW.goto (pc := 1794) (t := 2573) g (dt dtl_26 27 rfl) rfl ?_
    refine SW.msk [true, true, true, true, true] ?_
    exact hend0
set_option maxRecDepth 100000 in
set_option maxHeartbeats 4000000 in
theorem lc_25 {G : sw_G} {ad : Nat → Nat} {ν : sw_N} {μ : sw_M} {N cs sl b n : Nat} {xs : Nat → Int32} {i : Int32} (g : sw_ok G cL_law_ "DeadWiresLaw" (some .boolean) 1300 601024 7293033 ad) (hm : G.2.2.1.2.1.maxLocals = 8) (hX : va_X b n xs G.2.1.1 G.2.1.1.heap) (hbl : b < G.2.1.1.heap.size) (hbA : ¬ G.2.2.1.2.2.2 b) (h5 : ad 5000 = b) (hcs : cs + 10 ≤ 601024) (hsl : sl + 60 ≤ 7293033) {a1 a2 a3 : Int32} (hb1 : ¬ (i + 1 < 0 ∨ n ≤ (i + 1).toNatClampNeg) ∧ xs (i + 1).toNatClampNeg = a1) (hb2 : ¬ (i + 2 < 0 ∨ n ≤ (i + 2).toNatClampNeg) ∧ xs (i + 2).toNatClampNeg = a2) (hb3 : ¬ (i + 3 < 0 ∨ n ≤ (i + 3).toNatClampNeg) ∧ xs (i + 3).toNatClampNeg = a3) (rq : Int32 × sw_M × sw_N) (rm : Int32 × sw_M) (rt : Int32) (hw : f_L_lean N μ ν a1 a2 a3 = some rq) (hm9 : f_m_lean N rq.2.1 a1 a2 a3 = some rm) (hth : f_m_thrown N rm.2 = some rt) (ht : rt = rq.1) (hv : rq.1 = 0 → rq.2.2 87 0 = rm.1.toInt64) (hend0 : SW G ad lay0 rq.2.2 (cs + 2) (sl + 12) 2573 [some (.ref 5000), some (.ref 0), some (.ref 63), some (.ref 87), some (.int i), none, none, none] [] rm.2) : SW G ad lay0 ν cs sl 1797 [some (.ref 5000), some (.ref 0), some (.ref 63), some (.ref 87), some (.int i), none, none, none] [] μ := by
  refine SW.aload_n (pc := 1797) g (dt dtl_26 28 rfl) rfl ?_
  refine SW.aload_n (pc := 1798) g (dt dtl_26 29 rfl) rfl ?_
  refine SW.iload (pc := 1799) g (dt dtl_26 30 rfl) rfl ?_
  refine SW.iconst (pc := 1801) (v := 1) g (dt dtl_26 31 rfl) ki_1 ?_
  refine SW.iadd (pc := 1802) g (dt dtl_26 32 rfl) ?_
  refine SW.sld (pc := 1803) (i := i + 1) g (dt dtl_26 33 rfl) hX hbl hbA h5 (hb1).1 ?_
  rw [(hb1).2]
  refine SW.aload_n (pc := 1804) g (dt dtl_26 34 rfl) rfl ?_
  refine SW.iload (pc := 1805) g (dt dtl_26 35 rfl) rfl ?_
  refine SW.iconst (pc := 1807) (v := 2) g (dt dtl_26 36 rfl) ki_2 ?_
  refine SW.iadd (pc := 1808) g (dt dtl_26 37 rfl) ?_
  refine SW.sld (pc := 1809) (i := i + 2) g (dt dtl_26 38 rfl) hX hbl hbA h5 (hb2).1 ?_
  rw [(hb2).2]
  refine SW.aload_n (pc := 1810) g (dt dtl_26 39 rfl) rfl ?_
  refine SW.iload (pc := 1811) g (dt dtl_27 0 rfl) rfl ?_
  refine SW.iconst (pc := 1813) (v := 3) g (dt dtl_27 1 rfl) ki_3 ?_
  refine SW.iadd (pc := 1814) g (dt dtl_27 2 rfl) ?_
  refine SW.sld (pc := 1815) (i := i + 3) g (dt dtl_27 3 rfl) hX hbl hbA h5 (hb3).1 ?_
  rw [(hb3).2]
  refine SW.aload_n (pc := 1816) g (dt dtl_27 4 rfl) rfl ?_
  refine SW.callW (pc := 1817) (np := 5) g (dt dtl_27 5 rfl) (mw_f_L_lean _ _ _ _ ad ν N μ a1 a2 a3 rq hw) cw_L_lean lw_ini ⟨by decide +kernel, by decide +kernel⟩ (by decide +kernel) (Nat.le_of_ble_eq_true rfl) cs_L_lean (gtb_of (tbm_6 (List.mem_of_getElem? (i := 103) rfl)) rfl) rfl (Nat.le_of_ble_eq_true rfl) (Nat.le_of_ble_eq_true rfl) (by omega) (by omega) rfl ?_
  refine SW.istore (pc := 1820) g (dt dtl_27 6 rfl) (sw_ltm hm (Nat.le_of_ble_eq_true rfl)) rfl ?_
  refine SW.aload_n (pc := 1822) g (dt dtl_27 7 rfl) rfl ?_
  refine SW.aload_n (pc := 1823) g (dt dtl_27 8 rfl) rfl ?_
  refine SW.iload (pc := 1824) g (dt dtl_27 9 rfl) rfl ?_
  refine SW.iconst (pc := 1826) (v := 1) g (dt dtl_27 10 rfl) ki_1 ?_
  refine SW.iadd (pc := 1827) g (dt dtl_27 11 rfl) ?_
  refine SW.sld (pc := 1828) (i := i + 1) g (dt dtl_27 12 rfl) hX hbl hbA h5 (hb1).1 ?_
  rw [(hb1).2]
  refine SW.aload_n (pc := 1829) g (dt dtl_27 13 rfl) rfl ?_
  refine SW.iload (pc := 1830) g (dt dtl_27 14 rfl) rfl ?_
  refine SW.iconst (pc := 1832) (v := 2) g (dt dtl_27 15 rfl) ki_2 ?_
  refine SW.iadd (pc := 1833) g (dt dtl_27 16 rfl) ?_
  refine SW.sld (pc := 1834) (i := i + 2) g (dt dtl_27 17 rfl) hX hbl hbA h5 (hb2).1 ?_
  rw [(hb2).2]
  refine SW.aload_n (pc := 1835) g (dt dtl_27 18 rfl) rfl ?_
  refine SW.iload (pc := 1836) g (dt dtl_27 19 rfl) rfl ?_
  refine SW.iconst (pc := 1838) (v := 3) g (dt dtl_27 20 rfl) ki_3 ?_
  refine SW.iadd (pc := 1839) g (dt dtl_27 21 rfl) ?_
  refine SW.sld (pc := 1840) (i := i + 3) g (dt dtl_27 22 rfl) hX hbl hbA h5 (hb3).1 ?_
  rw [(hb3).2]
  refine SW.callVi (pc := 1841) g (dt dtl_27 23 rfl) (mt_f_m_lean _ _ _ _ ad rq.2.2 N rq.2.1 a1 a2 a3 rm hm9) me_X11_lean mv_X11_lean (gtb_of (tbm_9 (List.mem_of_getElem? (i := 50) rfl)) rfl) cell_63 rfl rfl (Nat.le_of_ble_eq_true rfl) (Nat.le_of_ble_eq_true rfl) (by omega) (by omega) rfl ?_
  refine SW.istore (pc := 1844) g (dt dtl_27 24 rfl) (sw_ltm hm (Nat.le_of_ble_eq_true rfl)) rfl ?_
  refine SW.aload_n (pc := 1846) g (dt dtl_27 25 rfl) rfl ?_
  refine SW.callVi (pc := 1847) g (dt dtl_27 26 rfl) (mt_f_m_thrown _ _ _ _ ad rq.2.2 N rm.2  rt hth) me_X11_thrown mv_X11_thrown (gtb_of (tbm_6 (List.mem_of_getElem? (i := 220) rfl)) rfl) cell_63 rfl rfl (Nat.le_of_ble_eq_true rfl) (Nat.le_of_ble_eq_true rfl) (by omega) (by omega) rfl ?_
  refine SW.iload (pc := 1850) g (dt dtl_27 27 rfl) rfl ?_
  refine SW.icmp_eq (pc := 1852) (t := 1857) g (dt dtl_27 28 rfl) rfl (fun _ => ?_) (fun hc => absurd ht hc)
  refine SW.iload (pc := 1857) g (dt dtl_27 31 rfl) rfl ?_
  refine SW.if_ne (pc := 1859) (t := 1874) g (dt dtl_27 32 rfl) rfl (fun hc => ?_) (fun hc => ?_)
  · refine SW.goto (pc := 1874) (t := 2573) g (dt dtl_28 2 rfl) rfl ?_
    refine SW.msk [true, true, true, true, true] ?_
    exact hend0
  · refine SW.aload_n (pc := 1862) g (dt dtl_27 33 rfl) rfl ?_
    refine SW.iconst (pc := 1863) (v := 0) g (dt dtl_27 34 rfl) ki_0 ?_
    refine SW.laload (pc := 1864) g (dt dtl_27 35 rfl) cell_87 (by decide) ?_
    refine SW.iload (pc := 1865) g (dt dtl_27 36 rfl) rfl ?_
    refine SW.i2l (pc := 1867) g (dt dtl_27 37 rfl) ?_
    refine SW.lcmp (pc := 1868) g (dt dtl_27 38 rfl) ?_
    refine SW.if_eq (pc := 1869) (t := 1874) g (dt dtl_27 39 rfl) rfl (fun _ => ?_) (fun hc9 => absurd (lgc_eq (hv hc)) hc9)
    refine SW.goto (pc := 1874) (t := 2573) g (dt dtl_28 2 rfl) rfl ?_
    refine SW.msk [true, true, true, true, true] ?_
    exact hend0
set_option maxRecDepth 100000 in
set_option maxHeartbeats 4000000 in
theorem lc_26 {G : sw_G} {ad : Nat → Nat} {ν : sw_N} {μ : sw_M} {N cs sl b n : Nat} {xs : Nat → Int32} {i : Int32} (g : sw_ok G cL_law_ "DeadWiresLaw" (some .boolean) 1300 601024 7293033 ad) (hm : G.2.2.1.2.1.maxLocals = 8) (hX : va_X b n xs G.2.1.1 G.2.1.1.heap) (hbl : b < G.2.1.1.heap.size) (hbA : ¬ G.2.2.1.2.2.2 b) (h5 : ad 5000 = b) (hcs : cs + 10 ≤ 601024) (hsl : sl + 60 ≤ 7293033) {a1 a2 a3 : Int32} (hb1 : ¬ (i + 1 < 0 ∨ n ≤ (i + 1).toNatClampNeg) ∧ xs (i + 1).toNatClampNeg = a1) (hb2 : ¬ (i + 2 < 0 ∨ n ≤ (i + 2).toNatClampNeg) ∧ xs (i + 2).toNatClampNeg = a2) (hb3 : ¬ (i + 3 < 0 ∨ n ≤ (i + 3).toNatClampNeg) ∧ xs (i + 3).toNatClampNeg = a3) (rq : Int32 × sw_M × sw_N) (rm : Int32 × sw_M) (rt : Int32) (hw : f_L_grace N μ ν a1 a2 a3 = some rq) (hm9 : f_m_grace N rq.2.1 a1 a2 a3 = some rm) (hth : f_m_thrown N rm.2 = some rt) (ht : rt = rq.1) (hv : rq.1 = 0 → rq.2.2 87 0 = rm.1.toInt64) (hend0 : SW G ad lay0 rq.2.2 (cs + 2) (sl + 12) 2573 [some (.ref 5000), some (.ref 0), some (.ref 63), some (.ref 87), some (.int i), none, none, none] [] rm.2) : SW G ad lay0 ν cs sl 1877 [some (.ref 5000), some (.ref 0), some (.ref 63), some (.ref 87), some (.int i), none, none, none] [] μ := by
  refine SW.aload_n (pc := 1877) g (dt dtl_28 3 rfl) rfl ?_
  refine SW.aload_n (pc := 1878) g (dt dtl_28 4 rfl) rfl ?_
  refine SW.iload (pc := 1879) g (dt dtl_28 5 rfl) rfl ?_
  refine SW.iconst (pc := 1881) (v := 1) g (dt dtl_28 6 rfl) ki_1 ?_
  refine SW.iadd (pc := 1882) g (dt dtl_28 7 rfl) ?_
  refine SW.sld (pc := 1883) (i := i + 1) g (dt dtl_28 8 rfl) hX hbl hbA h5 (hb1).1 ?_
  rw [(hb1).2]
  refine SW.aload_n (pc := 1884) g (dt dtl_28 9 rfl) rfl ?_
  refine SW.iload (pc := 1885) g (dt dtl_28 10 rfl) rfl ?_
  refine SW.iconst (pc := 1887) (v := 2) g (dt dtl_28 11 rfl) ki_2 ?_
  refine SW.iadd (pc := 1888) g (dt dtl_28 12 rfl) ?_
  refine SW.sld (pc := 1889) (i := i + 2) g (dt dtl_28 13 rfl) hX hbl hbA h5 (hb2).1 ?_
  rw [(hb2).2]
  refine SW.aload_n (pc := 1890) g (dt dtl_28 14 rfl) rfl ?_
  refine SW.iload (pc := 1891) g (dt dtl_28 15 rfl) rfl ?_
  refine SW.iconst (pc := 1893) (v := 3) g (dt dtl_28 16 rfl) ki_3 ?_
  refine SW.iadd (pc := 1894) g (dt dtl_28 17 rfl) ?_
  refine SW.sld (pc := 1895) (i := i + 3) g (dt dtl_28 18 rfl) hX hbl hbA h5 (hb3).1 ?_
  rw [(hb3).2]
  refine SW.aload_n (pc := 1896) g (dt dtl_28 19 rfl) rfl ?_
  refine SW.callW (pc := 1897) (np := 5) g (dt dtl_28 20 rfl) (mw_f_L_grace _ _ _ _ ad ν N μ a1 a2 a3 rq hw) cw_L_grace lw_ini ⟨by decide +kernel, by decide +kernel⟩ (by decide +kernel) (Nat.le_of_ble_eq_true rfl) cs_L_grace (gtb_of (tbm_6 (List.mem_of_getElem? (i := 116) rfl)) rfl) rfl (Nat.le_of_ble_eq_true rfl) (Nat.le_of_ble_eq_true rfl) (by omega) (by omega) rfl ?_
  refine SW.istore (pc := 1900) g (dt dtl_28 21 rfl) (sw_ltm hm (Nat.le_of_ble_eq_true rfl)) rfl ?_
  refine SW.aload_n (pc := 1902) g (dt dtl_28 22 rfl) rfl ?_
  refine SW.aload_n (pc := 1903) g (dt dtl_28 23 rfl) rfl ?_
  refine SW.iload (pc := 1904) g (dt dtl_28 24 rfl) rfl ?_
  refine SW.iconst (pc := 1906) (v := 1) g (dt dtl_28 25 rfl) ki_1 ?_
  refine SW.iadd (pc := 1907) g (dt dtl_28 26 rfl) ?_
  refine SW.sld (pc := 1908) (i := i + 1) g (dt dtl_28 27 rfl) hX hbl hbA h5 (hb1).1 ?_
  rw [(hb1).2]
  refine SW.aload_n (pc := 1909) g (dt dtl_28 28 rfl) rfl ?_
  refine SW.iload (pc := 1910) g (dt dtl_28 29 rfl) rfl ?_
  refine SW.iconst (pc := 1912) (v := 2) g (dt dtl_28 30 rfl) ki_2 ?_
  refine SW.iadd (pc := 1913) g (dt dtl_28 31 rfl) ?_
  refine SW.sld (pc := 1914) (i := i + 2) g (dt dtl_28 32 rfl) hX hbl hbA h5 (hb2).1 ?_
  rw [(hb2).2]
  refine SW.aload_n (pc := 1915) g (dt dtl_28 33 rfl) rfl ?_
  refine SW.iload (pc := 1916) g (dt dtl_28 34 rfl) rfl ?_
  refine SW.iconst (pc := 1918) (v := 3) g (dt dtl_28 35 rfl) ki_3 ?_
  refine SW.iadd (pc := 1919) g (dt dtl_28 36 rfl) ?_
  refine SW.sld (pc := 1920) (i := i + 3) g (dt dtl_28 37 rfl) hX hbl hbA h5 (hb3).1 ?_
  rw [(hb3).2]
  refine SW.callVi (pc := 1921) g (dt dtl_28 38 rfl) (mt_f_m_grace _ _ _ _ ad rq.2.2 N rq.2.1 a1 a2 a3 rm hm9) me_X11_grace mv_X11_grace (gtb_of (tbm_9 (List.mem_of_getElem? (i := 57) rfl)) rfl) cell_63 rfl rfl (Nat.le_of_ble_eq_true rfl) (Nat.le_of_ble_eq_true rfl) (by omega) (by omega) rfl ?_
  refine SW.istore (pc := 1924) g (dt dtl_28 39 rfl) (sw_ltm hm (Nat.le_of_ble_eq_true rfl)) rfl ?_
  refine SW.aload_n (pc := 1926) g (dt dtl_29 0 rfl) rfl ?_
  refine SW.callVi (pc := 1927) g (dt dtl_29 1 rfl) (mt_f_m_thrown _ _ _ _ ad rq.2.2 N rm.2  rt hth) me_X11_thrown mv_X11_thrown (gtb_of (tbm_6 (List.mem_of_getElem? (i := 220) rfl)) rfl) cell_63 rfl rfl (Nat.le_of_ble_eq_true rfl) (Nat.le_of_ble_eq_true rfl) (by omega) (by omega) rfl ?_
  refine SW.iload (pc := 1930) g (dt dtl_29 2 rfl) rfl ?_
  refine SW.icmp_eq (pc := 1932) (t := 1937) g (dt dtl_29 3 rfl) rfl (fun _ => ?_) (fun hc => absurd ht hc)
  refine SW.iload (pc := 1937) g (dt dtl_29 6 rfl) rfl ?_
  refine SW.if_ne (pc := 1939) (t := 1954) g (dt dtl_29 7 rfl) rfl (fun hc => ?_) (fun hc => ?_)
  · refine SW.goto (pc := 1954) (t := 2573) g (dt dtl_29 17 rfl) rfl ?_
    refine SW.msk [true, true, true, true, true] ?_
    exact hend0
  · refine SW.aload_n (pc := 1942) g (dt dtl_29 8 rfl) rfl ?_
    refine SW.iconst (pc := 1943) (v := 0) g (dt dtl_29 9 rfl) ki_0 ?_
    refine SW.laload (pc := 1944) g (dt dtl_29 10 rfl) cell_87 (by decide) ?_
    refine SW.iload (pc := 1945) g (dt dtl_29 11 rfl) rfl ?_
    refine SW.i2l (pc := 1947) g (dt dtl_29 12 rfl) ?_
    refine SW.lcmp (pc := 1948) g (dt dtl_29 13 rfl) ?_
    refine SW.if_eq (pc := 1949) (t := 1954) g (dt dtl_29 14 rfl) rfl (fun _ => ?_) (fun hc9 => absurd (lgc_eq (hv hc)) hc9)
    refine SW.goto (pc := 1954) (t := 2573) g (dt dtl_29 17 rfl) rfl ?_
    refine SW.msk [true, true, true, true, true] ?_
    exact hend0
set_option maxRecDepth 100000 in
set_option maxHeartbeats 4000000 in
theorem lc_27 {G : sw_G} {ad : Nat → Nat} {ν : sw_N} {μ : sw_M} {N cs sl b n : Nat} {xs : Nat → Int32} {i : Int32} (g : sw_ok G cL_law_ "DeadWiresLaw" (some .boolean) 1300 601024 7293033 ad) (hm : G.2.2.1.2.1.maxLocals = 8) (hX : va_X b n xs G.2.1.1 G.2.1.1.heap) (hbl : b < G.2.1.1.heap.size) (hbA : ¬ G.2.2.1.2.2.2 b) (h5 : ad 5000 = b) (hcs : cs + 10 ≤ 601024) (hsl : sl + 60 ≤ 7293033) {a1 : Int32} (hb1 : ¬ (i + 1 < 0 ∨ n ≤ (i + 1).toNatClampNeg) ∧ xs (i + 1).toNatClampNeg = a1) (rq : Int32 × sw_M × sw_N) (rm : Int32 × sw_M) (rt : Int32) (hw : f_L_next N μ ν a1 = some rq) (hm9 : f_m_next N rq.2.1 a1 = some rm) (hth : f_m_thrown N rm.2 = some rt) (ht : rt = rq.1) (hv : rq.1 = 0 → rq.2.2 87 0 = rm.1.toInt64) (hend0 : SW G ad lay0 rq.2.2 (cs + 1) (sl + 6) 2573 [some (.ref 5000), some (.ref 0), some (.ref 63), some (.ref 87), some (.int i), none, none, none] [] rm.2) : SW G ad lay0 ν cs sl 1957 [some (.ref 5000), some (.ref 0), some (.ref 63), some (.ref 87), some (.int i), none, none, none] [] μ := by
  refine SW.aload_n (pc := 1957) g (dt dtl_29 18 rfl) rfl ?_
  refine SW.aload_n (pc := 1958) g (dt dtl_29 19 rfl) rfl ?_
  refine SW.iload (pc := 1959) g (dt dtl_29 20 rfl) rfl ?_
  refine SW.iconst (pc := 1961) (v := 1) g (dt dtl_29 21 rfl) ki_1 ?_
  refine SW.iadd (pc := 1962) g (dt dtl_29 22 rfl) ?_
  refine SW.sld (pc := 1963) (i := i + 1) g (dt dtl_29 23 rfl) hX hbl hbA h5 (hb1).1 ?_
  rw [(hb1).2]
  refine SW.aload_n (pc := 1964) g (dt dtl_29 24 rfl) rfl ?_
  refine SW.callW (pc := 1965) (np := 3) g (dt dtl_29 25 rfl) (mw_f_L_next _ _ _ _ ad ν N μ a1 rq hw) cw_L_next lw_ini ⟨by decide +kernel, by decide +kernel⟩ (by decide +kernel) (Nat.le_of_ble_eq_true rfl) cs_L_next (gtb_of (tbm_6 (List.mem_of_getElem? (i := 132) rfl)) rfl) rfl (Nat.le_of_ble_eq_true rfl) (Nat.le_of_ble_eq_true rfl) (by omega) (by omega) rfl ?_
  refine SW.istore (pc := 1968) g (dt dtl_29 26 rfl) (sw_ltm hm (Nat.le_of_ble_eq_true rfl)) rfl ?_
  refine SW.aload_n (pc := 1970) g (dt dtl_29 27 rfl) rfl ?_
  refine SW.aload_n (pc := 1971) g (dt dtl_29 28 rfl) rfl ?_
  refine SW.iload (pc := 1972) g (dt dtl_29 29 rfl) rfl ?_
  refine SW.iconst (pc := 1974) (v := 1) g (dt dtl_29 30 rfl) ki_1 ?_
  refine SW.iadd (pc := 1975) g (dt dtl_29 31 rfl) ?_
  refine SW.sld (pc := 1976) (i := i + 1) g (dt dtl_29 32 rfl) hX hbl hbA h5 (hb1).1 ?_
  rw [(hb1).2]
  refine SW.callVi (pc := 1977) g (dt dtl_29 33 rfl) (mt_f_m_next _ _ _ _ ad rq.2.2 N rq.2.1 a1 rm hm9) me_X11_next mv_X11_next (gtb_of (tbm_9 (List.mem_of_getElem? (i := 65) rfl)) rfl) cell_63 rfl rfl (Nat.le_of_ble_eq_true rfl) (Nat.le_of_ble_eq_true rfl) (by omega) (by omega) rfl ?_
  refine SW.istore (pc := 1980) g (dt dtl_29 34 rfl) (sw_ltm hm (Nat.le_of_ble_eq_true rfl)) rfl ?_
  refine SW.aload_n (pc := 1982) g (dt dtl_29 35 rfl) rfl ?_
  refine SW.callVi (pc := 1983) g (dt dtl_29 36 rfl) (mt_f_m_thrown _ _ _ _ ad rq.2.2 N rm.2  rt hth) me_X11_thrown mv_X11_thrown (gtb_of (tbm_6 (List.mem_of_getElem? (i := 220) rfl)) rfl) cell_63 rfl rfl (Nat.le_of_ble_eq_true rfl) (Nat.le_of_ble_eq_true rfl) (by omega) (by omega) rfl ?_
  refine SW.iload (pc := 1986) g (dt dtl_29 37 rfl) rfl ?_
  refine SW.icmp_eq (pc := 1988) (t := 1993) g (dt dtl_29 38 rfl) rfl (fun _ => ?_) (fun hc => absurd ht hc)
  refine SW.iload (pc := 1993) g (dt dtl_30 1 rfl) rfl ?_
  refine SW.if_ne (pc := 1995) (t := 2010) g (dt dtl_30 2 rfl) rfl (fun hc => ?_) (fun hc => ?_)
  · refine SW.goto (pc := 2010) (t := 2573) g (dt dtl_30 12 rfl) rfl ?_
    refine SW.msk [true, true, true, true, true] ?_
    exact hend0
  · refine SW.aload_n (pc := 1998) g (dt dtl_30 3 rfl) rfl ?_
    refine SW.iconst (pc := 1999) (v := 0) g (dt dtl_30 4 rfl) ki_0 ?_
    refine SW.laload (pc := 2000) g (dt dtl_30 5 rfl) cell_87 (by decide) ?_
    refine SW.iload (pc := 2001) g (dt dtl_30 6 rfl) rfl ?_
    refine SW.i2l (pc := 2003) g (dt dtl_30 7 rfl) ?_
    refine SW.lcmp (pc := 2004) g (dt dtl_30 8 rfl) ?_
    refine SW.if_eq (pc := 2005) (t := 2010) g (dt dtl_30 9 rfl) rfl (fun _ => ?_) (fun hc9 => absurd (lgc_eq (hv hc)) hc9)
    refine SW.goto (pc := 2010) (t := 2573) g (dt dtl_30 12 rfl) rfl ?_
    refine SW.msk [true, true, true, true, true] ?_
    exact hend0
set_option maxRecDepth 100000 in
set_option maxHeartbeats 4000000 in
theorem lc_28 {G : sw_G} {ad : Nat → Nat} {ν : sw_N} {μ : sw_M} {N cs sl b n : Nat} {xs : Nat → Int32} {i : Int32} (g : sw_ok G cL_law_ "DeadWiresLaw" (some .boolean) 1300 601024 7293033 ad) (hm : G.2.2.1.2.1.maxLocals = 8) (hX : va_X b n xs G.2.1.1 G.2.1.1.heap) (hbl : b < G.2.1.1.heap.size) (hbA : ¬ G.2.2.1.2.2.2 b) (h5 : ad 5000 = b) (hcs : cs + 10 ≤ 601024) (hsl : sl + 60 ≤ 7293033) {a1 : Int32} (hb1 : ¬ (i + 1 < 0 ∨ n ≤ (i + 1).toNatClampNeg) ∧ xs (i + 1).toNatClampNeg = a1) (rq : Int32 × sw_M × sw_N) (rm : Int32 × sw_M) (rt : Int32) (hw : f_L_harp N μ ν a1 = some rq) (hm9 : f_m_harp N rq.2.1 a1 = some rm) (hth : f_m_thrown N rm.2 = some rt) (ht : rt = rq.1) (hv : rq.1 = 0 → rq.2.2 87 0 = rm.1.toInt64) (hend0 : SW G ad lay0 rq.2.2 (cs + 1) (sl + 6) 2573 [some (.ref 5000), some (.ref 0), some (.ref 63), some (.ref 87), some (.int i), none, none, none] [] rm.2) : SW G ad lay0 ν cs sl 2013 [some (.ref 5000), some (.ref 0), some (.ref 63), some (.ref 87), some (.int i), none, none, none] [] μ := by
  refine SW.aload_n (pc := 2013) g (dt dtl_30 13 rfl) rfl ?_
  refine SW.aload_n (pc := 2014) g (dt dtl_30 14 rfl) rfl ?_
  refine SW.iload (pc := 2015) g (dt dtl_30 15 rfl) rfl ?_
  refine SW.iconst (pc := 2017) (v := 1) g (dt dtl_30 16 rfl) ki_1 ?_
  refine SW.iadd (pc := 2018) g (dt dtl_30 17 rfl) ?_
  refine SW.sld (pc := 2019) (i := i + 1) g (dt dtl_30 18 rfl) hX hbl hbA h5 (hb1).1 ?_
  rw [(hb1).2]
  refine SW.aload_n (pc := 2020) g (dt dtl_30 19 rfl) rfl ?_
  refine SW.callW (pc := 2021) (np := 3) g (dt dtl_30 20 rfl) (mw_f_L_harp _ _ _ _ ad ν N μ a1 rq hw) cw_L_harp lw_ini ⟨by decide +kernel, by decide +kernel⟩ (by decide +kernel) (Nat.le_of_ble_eq_true rfl) cs_L_harp (gtb_of (tbm_6 (List.mem_of_getElem? (i := 143) rfl)) rfl) rfl (Nat.le_of_ble_eq_true rfl) (Nat.le_of_ble_eq_true rfl) (by omega) (by omega) rfl ?_
  refine SW.istore (pc := 2024) g (dt dtl_30 21 rfl) (sw_ltm hm (Nat.le_of_ble_eq_true rfl)) rfl ?_
  refine SW.aload_n (pc := 2026) g (dt dtl_30 22 rfl) rfl ?_
  refine SW.aload_n (pc := 2027) g (dt dtl_30 23 rfl) rfl ?_
  refine SW.iload (pc := 2028) g (dt dtl_30 24 rfl) rfl ?_
  refine SW.iconst (pc := 2030) (v := 1) g (dt dtl_30 25 rfl) ki_1 ?_
  refine SW.iadd (pc := 2031) g (dt dtl_30 26 rfl) ?_
  refine SW.sld (pc := 2032) (i := i + 1) g (dt dtl_30 27 rfl) hX hbl hbA h5 (hb1).1 ?_
  rw [(hb1).2]
  refine SW.callVi (pc := 2033) g (dt dtl_30 28 rfl) (mt_f_m_harp _ _ _ _ ad rq.2.2 N rq.2.1 a1 rm hm9) me_X11_harp mv_X11_harp (gtb_of (tbm_9 (List.mem_of_getElem? (i := 69) rfl)) rfl) cell_63 rfl rfl (Nat.le_of_ble_eq_true rfl) (Nat.le_of_ble_eq_true rfl) (by omega) (by omega) rfl ?_
  refine SW.istore (pc := 2036) g (dt dtl_30 29 rfl) (sw_ltm hm (Nat.le_of_ble_eq_true rfl)) rfl ?_
  refine SW.aload_n (pc := 2038) g (dt dtl_30 30 rfl) rfl ?_
  refine SW.callVi (pc := 2039) g (dt dtl_30 31 rfl) (mt_f_m_thrown _ _ _ _ ad rq.2.2 N rm.2  rt hth) me_X11_thrown mv_X11_thrown (gtb_of (tbm_6 (List.mem_of_getElem? (i := 220) rfl)) rfl) cell_63 rfl rfl (Nat.le_of_ble_eq_true rfl) (Nat.le_of_ble_eq_true rfl) (by omega) (by omega) rfl ?_
  refine SW.iload (pc := 2042) g (dt dtl_30 32 rfl) rfl ?_
  refine SW.icmp_eq (pc := 2044) (t := 2049) g (dt dtl_30 33 rfl) rfl (fun _ => ?_) (fun hc => absurd ht hc)
  refine SW.iload (pc := 2049) g (dt dtl_30 36 rfl) rfl ?_
  refine SW.if_ne (pc := 2051) (t := 2066) g (dt dtl_30 37 rfl) rfl (fun hc => ?_) (fun hc => ?_)
  · refine SW.goto (pc := 2066) (t := 2573) g (dt dtl_31 7 rfl) rfl ?_
    refine SW.msk [true, true, true, true, true] ?_
    exact hend0
  · refine SW.aload_n (pc := 2054) g (dt dtl_30 38 rfl) rfl ?_
    refine SW.iconst (pc := 2055) (v := 0) g (dt dtl_30 39 rfl) ki_0 ?_
    refine SW.laload (pc := 2056) g (dt dtl_31 0 rfl) cell_87 (by decide) ?_
    refine SW.iload (pc := 2057) g (dt dtl_31 1 rfl) rfl ?_
    refine SW.i2l (pc := 2059) g (dt dtl_31 2 rfl) ?_
    refine SW.lcmp (pc := 2060) g (dt dtl_31 3 rfl) ?_
    refine SW.if_eq (pc := 2061) (t := 2066) g (dt dtl_31 4 rfl) rfl (fun _ => ?_) (fun hc9 => absurd (lgc_eq (hv hc)) hc9)
    refine SW.goto (pc := 2066) (t := 2573) g (dt dtl_31 7 rfl) rfl ?_
    refine SW.msk [true, true, true, true, true] ?_
    exact hend0
set_option maxRecDepth 100000 in
set_option maxHeartbeats 4000000 in
theorem lc_29 {G : sw_G} {ad : Nat → Nat} {ν : sw_N} {μ : sw_M} {N cs sl b n : Nat} {xs : Nat → Int32} {i : Int32} (g : sw_ok G cL_law_ "DeadWiresLaw" (some .boolean) 1300 601024 7293033 ad) (hm : G.2.2.1.2.1.maxLocals = 8) (hX : va_X b n xs G.2.1.1 G.2.1.1.heap) (hbl : b < G.2.1.1.heap.size) (hbA : ¬ G.2.2.1.2.2.2 b) (h5 : ad 5000 = b) (hcs : cs + 10 ≤ 601024) (hsl : sl + 60 ≤ 7293033)   (rx : Int32 × sw_M) (rm : Int32 × sw_M) (hx : f_x_stuck N μ  = some rx) (hm9 : f_m_stuck N rx.2  = some rm) (heq : rx.1 = rm.1) (hend0 : SW G ad lay0 ν (cs + 0) (sl + 0) 2573 [some (.ref 5000), some (.ref 0), some (.ref 63), some (.ref 87), some (.int i), none, none, none] [] rm.2) : SW G ad lay0 ν cs sl 2069 [some (.ref 5000), some (.ref 0), some (.ref 63), some (.ref 87), some (.int i), none, none, none] [] μ := by
  refine SW.aload_n (pc := 2069) g (dt dtl_31 8 rfl) rfl ?_
  refine SW.callVi (pc := 2070) g (dt dtl_31 9 rfl) (mt_f_x_stuck _ _ _ _ ad ν N μ  rx hx) me_X10_stuck mv_X10_stuck (gtb_of (tbm_3 (List.mem_of_getElem? (i := 6) rfl)) rfl) cell_0 rfl rfl (Nat.le_of_ble_eq_true rfl) (Nat.le_of_ble_eq_true rfl) (by omega) (by omega) rfl ?_
  refine SW.aload_n (pc := 2073) g (dt dtl_31 10 rfl) rfl ?_
  refine SW.callVi (pc := 2074) g (dt dtl_31 11 rfl) (mt_f_m_stuck _ _ _ _ ad ν N rx.2  rm hm9) me_X11_stuck mv_X11_stuck (gtb_of (tbm_9 (List.mem_of_getElem? (i := 73) rfl)) rfl) cell_63 rfl rfl (Nat.le_of_ble_eq_true rfl) (Nat.le_of_ble_eq_true rfl) (by omega) (by omega) rfl ?_
  refine SW.icmp_eq (pc := 2077) (t := 2573) g (dt dtl_31 12 rfl) rfl (fun _ => ?_) (fun hc => absurd heq hc)
  refine SW.msk [true, true, true, true, true] ?_
  exact hend0
set_option maxRecDepth 100000 in
set_option maxHeartbeats 4000000 in
theorem lc_30 {G : sw_G} {ad : Nat → Nat} {ν : sw_N} {μ : sw_M} {N cs sl b n : Nat} {xs : Nat → Int32} {i : Int32} (g : sw_ok G cL_law_ "DeadWiresLaw" (some .boolean) 1300 601024 7293033 ad) (hm : G.2.2.1.2.1.maxLocals = 8) (hX : va_X b n xs G.2.1.1 G.2.1.1.heap) (hbl : b < G.2.1.1.heap.size) (hbA : ¬ G.2.2.1.2.2.2 b) (h5 : ad 5000 = b) (hcs : cs + 10 ≤ 601024) (hsl : sl + 60 ≤ 7293033)   (rx : Int32) (rm : Int32 × sw_M) (hx : f_x_moved N μ  = some rx) (hm9 : f_m_moved N μ  = some rm) (heq : rx = rm.1) (hend0 : SW G ad lay0 ν (cs + 0) (sl + 0) 2573 [some (.ref 5000), some (.ref 0), some (.ref 63), some (.ref 87), some (.int i), none, none, none] [] rm.2) : SW G ad lay0 ν cs sl 2082 [some (.ref 5000), some (.ref 0), some (.ref 63), some (.ref 87), some (.int i), none, none, none] [] μ := by
  refine SW.aload_n (pc := 2082) g (dt dtl_31 15 rfl) rfl ?_
  refine SW.callVi (pc := 2083) g (dt dtl_31 16 rfl) (mt_f_x_moved _ _ _ _ ad ν N μ  rx hx) me_X10_moved mv_X10_moved (gtb_of (tbm_3 (List.mem_of_getElem? (i := 88) rfl)) rfl) cell_0 rfl rfl (Nat.le_of_ble_eq_true rfl) (Nat.le_of_ble_eq_true rfl) (by omega) (by omega) rfl ?_
  refine SW.aload_n (pc := 2086) g (dt dtl_31 17 rfl) rfl ?_
  refine SW.callVi (pc := 2087) g (dt dtl_31 18 rfl) (mt_f_m_moved _ _ _ _ ad ν N μ  rm hm9) me_X11_moved mv_X11_moved (gtb_of (tbm_9 (List.mem_of_getElem? (i := 77) rfl)) rfl) cell_63 rfl rfl (Nat.le_of_ble_eq_true rfl) (Nat.le_of_ble_eq_true rfl) (by omega) (by omega) rfl ?_
  refine SW.icmp_eq (pc := 2090) (t := 2573) g (dt dtl_31 19 rfl) rfl (fun _ => ?_) (fun hc => absurd heq hc)
  refine SW.msk [true, true, true, true, true] ?_
  exact hend0
set_option maxRecDepth 100000 in
set_option maxHeartbeats 4000000 in
theorem lc_31 {G : sw_G} {ad : Nat → Nat} {ν : sw_N} {μ : sw_M} {N cs sl b n : Nat} {xs : Nat → Int32} {i : Int32} (g : sw_ok G cL_law_ "DeadWiresLaw" (some .boolean) 1300 601024 7293033 ad) (hm : G.2.2.1.2.1.maxLocals = 8) (hX : va_X b n xs G.2.1.1 G.2.1.1.heap) (hbl : b < G.2.1.1.heap.size) (hbA : ¬ G.2.2.1.2.2.2 b) (h5 : ad 5000 = b) (hcs : cs + 10 ≤ 601024) (hsl : sl + 60 ≤ 7293033) {a1 a2 : Int32} (hb1 : ¬ (i + 1 < 0 ∨ n ≤ (i + 1).toNatClampNeg) ∧ xs (i + 1).toNatClampNeg = a1) (hb2 : ¬ (i + 2 < 0 ∨ n ≤ (i + 2).toNatClampNeg) ∧ xs (i + 2).toNatClampNeg = a2) (rq : Int32 × sw_M × sw_N) (rm : Int32 × sw_M) (rt : Int32) (hw : f_L_gates N μ ν a1 a2 = some rq) (hm9 : f_m_gates N rq.2.1 a1 a2 = some rm) (hth : f_m_thrown N rm.2 = some rt) (ht : rt = rq.1) (hv : rq.1 = 0 → rq.2.2 87 0 = rm.1.toInt64) (hend0 : SW G ad lay0 rq.2.2 (cs + 2) (sl + 12) 2573 [some (.ref 5000), some (.ref 0), some (.ref 63), some (.ref 87), some (.int i), none, none, none] [] rm.2) : SW G ad lay0 ν cs sl 2095 [some (.ref 5000), some (.ref 0), some (.ref 63), some (.ref 87), some (.int i), none, none, none] [] μ := by
  refine SW.aload_n (pc := 2095) g (dt dtl_31 22 rfl) rfl ?_
  refine SW.aload_n (pc := 2096) g (dt dtl_31 23 rfl) rfl ?_
  refine SW.iload (pc := 2097) g (dt dtl_31 24 rfl) rfl ?_
  refine SW.iconst (pc := 2099) (v := 1) g (dt dtl_31 25 rfl) ki_1 ?_
  refine SW.iadd (pc := 2100) g (dt dtl_31 26 rfl) ?_
  refine SW.sld (pc := 2101) (i := i + 1) g (dt dtl_31 27 rfl) hX hbl hbA h5 (hb1).1 ?_
  rw [(hb1).2]
  refine SW.aload_n (pc := 2102) g (dt dtl_31 28 rfl) rfl ?_
  refine SW.iload (pc := 2103) g (dt dtl_31 29 rfl) rfl ?_
  refine SW.iconst (pc := 2105) (v := 2) g (dt dtl_31 30 rfl) ki_2 ?_
  refine SW.iadd (pc := 2106) g (dt dtl_31 31 rfl) ?_
  refine SW.sld (pc := 2107) (i := i + 2) g (dt dtl_31 32 rfl) hX hbl hbA h5 (hb2).1 ?_
  rw [(hb2).2]
  refine SW.aload_n (pc := 2108) g (dt dtl_31 33 rfl) rfl ?_
  refine SW.callW (pc := 2109) (np := 4) g (dt dtl_31 34 rfl) (mw_f_L_gates _ _ _ _ ad ν N μ a1 a2 rq hw) cw_L_gates lw_ini ⟨by decide +kernel, by decide +kernel⟩ (by decide +kernel) (Nat.le_of_ble_eq_true rfl) cs_L_gates (gtb_of (tbm_6 (List.mem_of_getElem? (i := 150) rfl)) rfl) rfl (Nat.le_of_ble_eq_true rfl) (Nat.le_of_ble_eq_true rfl) (by omega) (by omega) rfl ?_
  refine SW.istore (pc := 2112) g (dt dtl_31 35 rfl) (sw_ltm hm (Nat.le_of_ble_eq_true rfl)) rfl ?_
  refine SW.aload_n (pc := 2114) g (dt dtl_31 36 rfl) rfl ?_
  refine SW.aload_n (pc := 2115) g (dt dtl_31 37 rfl) rfl ?_
  refine SW.iload (pc := 2116) g (dt dtl_31 38 rfl) rfl ?_
  refine SW.iconst (pc := 2118) (v := 1) g (dt dtl_31 39 rfl) ki_1 ?_
  refine SW.iadd (pc := 2119) g (dt dtl_32 0 rfl) ?_
  refine SW.sld (pc := 2120) (i := i + 1) g (dt dtl_32 1 rfl) hX hbl hbA h5 (hb1).1 ?_
  rw [(hb1).2]
  refine SW.aload_n (pc := 2121) g (dt dtl_32 2 rfl) rfl ?_
  refine SW.iload (pc := 2122) g (dt dtl_32 3 rfl) rfl ?_
  refine SW.iconst (pc := 2124) (v := 2) g (dt dtl_32 4 rfl) ki_2 ?_
  refine SW.iadd (pc := 2125) g (dt dtl_32 5 rfl) ?_
  refine SW.sld (pc := 2126) (i := i + 2) g (dt dtl_32 6 rfl) hX hbl hbA h5 (hb2).1 ?_
  rw [(hb2).2]
  refine SW.callVi (pc := 2127) g (dt dtl_32 7 rfl) (mt_f_m_gates _ _ _ _ ad rq.2.2 N rq.2.1 a1 a2 rm hm9) me_X11_gates mv_X11_gates (gtb_of (tbm_9 (List.mem_of_getElem? (i := 81) rfl)) rfl) cell_63 rfl rfl (Nat.le_of_ble_eq_true rfl) (Nat.le_of_ble_eq_true rfl) (by omega) (by omega) rfl ?_
  refine SW.istore (pc := 2130) g (dt dtl_32 8 rfl) (sw_ltm hm (Nat.le_of_ble_eq_true rfl)) rfl ?_
  refine SW.aload_n (pc := 2132) g (dt dtl_32 9 rfl) rfl ?_
  refine SW.callVi (pc := 2133) g (dt dtl_32 10 rfl) (mt_f_m_thrown _ _ _ _ ad rq.2.2 N rm.2  rt hth) me_X11_thrown mv_X11_thrown (gtb_of (tbm_6 (List.mem_of_getElem? (i := 220) rfl)) rfl) cell_63 rfl rfl (Nat.le_of_ble_eq_true rfl) (Nat.le_of_ble_eq_true rfl) (by omega) (by omega) rfl ?_
  refine SW.iload (pc := 2136) g (dt dtl_32 11 rfl) rfl ?_
  refine SW.icmp_eq (pc := 2138) (t := 2143) g (dt dtl_32 12 rfl) rfl (fun _ => ?_) (fun hc => absurd ht hc)
  refine SW.iload (pc := 2143) g (dt dtl_32 15 rfl) rfl ?_
  refine SW.if_ne (pc := 2145) (t := 2160) g (dt dtl_32 16 rfl) rfl (fun hc => ?_) (fun hc => ?_)
  · refine SW.goto (pc := 2160) (t := 2573) g (dt dtl_32 26 rfl) rfl ?_
    refine SW.msk [true, true, true, true, true] ?_
    exact hend0
  · refine SW.aload_n (pc := 2148) g (dt dtl_32 17 rfl) rfl ?_
    refine SW.iconst (pc := 2149) (v := 0) g (dt dtl_32 18 rfl) ki_0 ?_
    refine SW.laload (pc := 2150) g (dt dtl_32 19 rfl) cell_87 (by decide) ?_
    refine SW.iload (pc := 2151) g (dt dtl_32 20 rfl) rfl ?_
    refine SW.i2l (pc := 2153) g (dt dtl_32 21 rfl) ?_
    refine SW.lcmp (pc := 2154) g (dt dtl_32 22 rfl) ?_
    refine SW.if_eq (pc := 2155) (t := 2160) g (dt dtl_32 23 rfl) rfl (fun _ => ?_) (fun hc9 => absurd (lgc_eq (hv hc)) hc9)
    refine SW.goto (pc := 2160) (t := 2573) g (dt dtl_32 26 rfl) rfl ?_
    refine SW.msk [true, true, true, true, true] ?_
    exact hend0
set_option maxRecDepth 100000 in
set_option maxHeartbeats 4000000 in
theorem lc_32 {G : sw_G} {ad : Nat → Nat} {ν : sw_N} {μ : sw_M} {N cs sl b n : Nat} {xs : Nat → Int32} {i : Int32} (g : sw_ok G cL_law_ "DeadWiresLaw" (some .boolean) 1300 601024 7293033 ad) (hm : G.2.2.1.2.1.maxLocals = 8) (hX : va_X b n xs G.2.1.1 G.2.1.1.heap) (hbl : b < G.2.1.1.heap.size) (hbA : ¬ G.2.2.1.2.2.2 b) (h5 : ad 5000 = b) (hcs : cs + 10 ≤ 601024) (hsl : sl + 60 ≤ 7293033) {a1 a2 : Int32} (hb1 : ¬ (i + 1 < 0 ∨ n ≤ (i + 1).toNatClampNeg) ∧ xs (i + 1).toNatClampNeg = a1) (hb2 : ¬ (i + 2 < 0 ∨ n ≤ (i + 2).toNatClampNeg) ∧ xs (i + 2).toNatClampNeg = a2) (rq : Int32 × sw_M × sw_N) (rm : Int32 × sw_M) (rt : Int32) (hw : f_L_ground N μ ν a1 a2 = some rq) (hm9 : f_m_ground N rq.2.1 a1 a2 = some rm) (hth : f_m_thrown N rm.2 = some rt) (ht : rt = rq.1) (hv : rq.1 = 0 → rq.2.2 87 0 = rm.1.toInt64) (hend0 : SW G ad lay0 rq.2.2 (cs + 2) (sl + 12) 2573 [some (.ref 5000), some (.ref 0), some (.ref 63), some (.ref 87), some (.int i), none, none, none] [] rm.2) : SW G ad lay0 ν cs sl 2163 [some (.ref 5000), some (.ref 0), some (.ref 63), some (.ref 87), some (.int i), none, none, none] [] μ := by
  refine SW.aload_n (pc := 2163) g (dt dtl_32 27 rfl) rfl ?_
  refine SW.aload_n (pc := 2164) g (dt dtl_32 28 rfl) rfl ?_
  refine SW.iload (pc := 2165) g (dt dtl_32 29 rfl) rfl ?_
  refine SW.iconst (pc := 2167) (v := 1) g (dt dtl_32 30 rfl) ki_1 ?_
  refine SW.iadd (pc := 2168) g (dt dtl_32 31 rfl) ?_
  refine SW.sld (pc := 2169) (i := i + 1) g (dt dtl_32 32 rfl) hX hbl hbA h5 (hb1).1 ?_
  rw [(hb1).2]
  refine SW.aload_n (pc := 2170) g (dt dtl_32 33 rfl) rfl ?_
  refine SW.iload (pc := 2171) g (dt dtl_32 34 rfl) rfl ?_
  refine SW.iconst (pc := 2173) (v := 2) g (dt dtl_32 35 rfl) ki_2 ?_
  refine SW.iadd (pc := 2174) g (dt dtl_32 36 rfl) ?_
  refine SW.sld (pc := 2175) (i := i + 2) g (dt dtl_32 37 rfl) hX hbl hbA h5 (hb2).1 ?_
  rw [(hb2).2]
  refine SW.aload_n (pc := 2176) g (dt dtl_32 38 rfl) rfl ?_
  refine SW.callW (pc := 2177) (np := 4) g (dt dtl_32 39 rfl) (mw_f_L_ground _ _ _ _ ad ν N μ a1 a2 rq hw) cw_L_ground lw_ini ⟨by decide +kernel, by decide +kernel⟩ (by decide +kernel) (Nat.le_of_ble_eq_true rfl) cs_L_ground (gtb_of (tbm_6 (List.mem_of_getElem? (i := 158) rfl)) rfl) rfl (Nat.le_of_ble_eq_true rfl) (Nat.le_of_ble_eq_true rfl) (by omega) (by omega) rfl ?_
  refine SW.istore (pc := 2180) g (dt dtl_33 0 rfl) (sw_ltm hm (Nat.le_of_ble_eq_true rfl)) rfl ?_
  refine SW.aload_n (pc := 2182) g (dt dtl_33 1 rfl) rfl ?_
  refine SW.aload_n (pc := 2183) g (dt dtl_33 2 rfl) rfl ?_
  refine SW.iload (pc := 2184) g (dt dtl_33 3 rfl) rfl ?_
  refine SW.iconst (pc := 2186) (v := 1) g (dt dtl_33 4 rfl) ki_1 ?_
  refine SW.iadd (pc := 2187) g (dt dtl_33 5 rfl) ?_
  refine SW.sld (pc := 2188) (i := i + 1) g (dt dtl_33 6 rfl) hX hbl hbA h5 (hb1).1 ?_
  rw [(hb1).2]
  refine SW.aload_n (pc := 2189) g (dt dtl_33 7 rfl) rfl ?_
  refine SW.iload (pc := 2190) g (dt dtl_33 8 rfl) rfl ?_
  refine SW.iconst (pc := 2192) (v := 2) g (dt dtl_33 9 rfl) ki_2 ?_
  refine SW.iadd (pc := 2193) g (dt dtl_33 10 rfl) ?_
  refine SW.sld (pc := 2194) (i := i + 2) g (dt dtl_33 11 rfl) hX hbl hbA h5 (hb2).1 ?_
  rw [(hb2).2]
  refine SW.callVi (pc := 2195) g (dt dtl_33 12 rfl) (mt_f_m_ground _ _ _ _ ad rq.2.2 N rq.2.1 a1 a2 rm hm9) me_X11_ground mv_X11_ground (gtb_of (tbm_9 (List.mem_of_getElem? (i := 85) rfl)) rfl) cell_63 rfl rfl (Nat.le_of_ble_eq_true rfl) (Nat.le_of_ble_eq_true rfl) (by omega) (by omega) rfl ?_
  refine SW.istore (pc := 2198) g (dt dtl_33 13 rfl) (sw_ltm hm (Nat.le_of_ble_eq_true rfl)) rfl ?_
  refine SW.aload_n (pc := 2200) g (dt dtl_33 14 rfl) rfl ?_
  refine SW.callVi (pc := 2201) g (dt dtl_33 15 rfl) (mt_f_m_thrown _ _ _ _ ad rq.2.2 N rm.2  rt hth) me_X11_thrown mv_X11_thrown (gtb_of (tbm_6 (List.mem_of_getElem? (i := 220) rfl)) rfl) cell_63 rfl rfl (Nat.le_of_ble_eq_true rfl) (Nat.le_of_ble_eq_true rfl) (by omega) (by omega) rfl ?_
  refine SW.iload (pc := 2204) g (dt dtl_33 16 rfl) rfl ?_
  refine SW.icmp_eq (pc := 2206) (t := 2211) g (dt dtl_33 17 rfl) rfl (fun _ => ?_) (fun hc => absurd ht hc)
  refine SW.iload (pc := 2211) g (dt dtl_33 20 rfl) rfl ?_
  refine SW.if_ne (pc := 2213) (t := 2228) g (dt dtl_33 21 rfl) rfl (fun hc => ?_) (fun hc => ?_)
  · refine SW.goto (pc := 2228) (t := 2573) g (dt dtl_33 31 rfl) rfl ?_
    refine SW.msk [true, true, true, true, true] ?_
    exact hend0
  · refine SW.aload_n (pc := 2216) g (dt dtl_33 22 rfl) rfl ?_
    refine SW.iconst (pc := 2217) (v := 0) g (dt dtl_33 23 rfl) ki_0 ?_
    refine SW.laload (pc := 2218) g (dt dtl_33 24 rfl) cell_87 (by decide) ?_
    refine SW.iload (pc := 2219) g (dt dtl_33 25 rfl) rfl ?_
    refine SW.i2l (pc := 2221) g (dt dtl_33 26 rfl) ?_
    refine SW.lcmp (pc := 2222) g (dt dtl_33 27 rfl) ?_
    refine SW.if_eq (pc := 2223) (t := 2228) g (dt dtl_33 28 rfl) rfl (fun _ => ?_) (fun hc9 => absurd (lgc_eq (hv hc)) hc9)
    refine SW.goto (pc := 2228) (t := 2573) g (dt dtl_33 31 rfl) rfl ?_
    refine SW.msk [true, true, true, true, true] ?_
    exact hend0
set_option maxRecDepth 100000 in
set_option maxHeartbeats 4000000 in
theorem lc_33 {G : sw_G} {ad : Nat → Nat} {ν : sw_N} {μ : sw_M} {N cs sl b n : Nat} {xs : Nat → Int32} {i : Int32} (g : sw_ok G cL_law_ "DeadWiresLaw" (some .boolean) 1300 601024 7293033 ad) (hm : G.2.2.1.2.1.maxLocals = 8) (hX : va_X b n xs G.2.1.1 G.2.1.1.heap) (hbl : b < G.2.1.1.heap.size) (hbA : ¬ G.2.2.1.2.2.2 b) (h5 : ad 5000 = b) (hcs : cs + 10 ≤ 601024) (hsl : sl + 60 ≤ 7293033) {a1 : Int32} (hb1 : ¬ (i + 1 < 0 ∨ n ≤ (i + 1).toNatClampNeg) ∧ xs (i + 1).toNatClampNeg = a1) (rq : Int32 × sw_M × sw_N) (rm : Int32 × sw_M) (rt : Int32) (hw : f_L_freest N μ ν a1 = some rq) (hm9 : f_m_freest N rq.2.1 a1 = some rm) (hth : f_m_thrown N rm.2 = some rt) (ht : rt = rq.1) (hv : rq.1 = 0 → rq.2.2 87 0 = rm.1.toInt64) (hend0 : SW G ad lay0 rq.2.2 (cs + 1) (sl + 6) 2573 [some (.ref 5000), some (.ref 0), some (.ref 63), some (.ref 87), some (.int i), none, none, none] [] rm.2) : SW G ad lay0 ν cs sl 2231 [some (.ref 5000), some (.ref 0), some (.ref 63), some (.ref 87), some (.int i), none, none, none] [] μ := by
  refine SW.aload_n (pc := 2231) g (dt dtl_33 32 rfl) rfl ?_
  refine SW.aload_n (pc := 2232) g (dt dtl_33 33 rfl) rfl ?_
  refine SW.iload (pc := 2233) g (dt dtl_33 34 rfl) rfl ?_
  refine SW.iconst (pc := 2235) (v := 1) g (dt dtl_33 35 rfl) ki_1 ?_
  refine SW.iadd (pc := 2236) g (dt dtl_33 36 rfl) ?_
  refine SW.sld (pc := 2237) (i := i + 1) g (dt dtl_33 37 rfl) hX hbl hbA h5 (hb1).1 ?_
  rw [(hb1).2]
  refine SW.aload_n (pc := 2238) g (dt dtl_33 38 rfl) rfl ?_
  refine SW.callW (pc := 2239) (np := 3) g (dt dtl_33 39 rfl) (mw_f_L_freest _ _ _ _ ad ν N μ a1 rq hw) cw_L_freest lw_ini ⟨by decide +kernel, by decide +kernel⟩ (by decide +kernel) (Nat.le_of_ble_eq_true rfl) cs_L_freest (gtb_of (tbm_6 (List.mem_of_getElem? (i := 169) rfl)) rfl) rfl (Nat.le_of_ble_eq_true rfl) (Nat.le_of_ble_eq_true rfl) (by omega) (by omega) rfl ?_
  refine SW.istore (pc := 2242) g (dt dtl_34 0 rfl) (sw_ltm hm (Nat.le_of_ble_eq_true rfl)) rfl ?_
  refine SW.aload_n (pc := 2244) g (dt dtl_34 1 rfl) rfl ?_
  refine SW.aload_n (pc := 2245) g (dt dtl_34 2 rfl) rfl ?_
  refine SW.iload (pc := 2246) g (dt dtl_34 3 rfl) rfl ?_
  refine SW.iconst (pc := 2248) (v := 1) g (dt dtl_34 4 rfl) ki_1 ?_
  refine SW.iadd (pc := 2249) g (dt dtl_34 5 rfl) ?_
  refine SW.sld (pc := 2250) (i := i + 1) g (dt dtl_34 6 rfl) hX hbl hbA h5 (hb1).1 ?_
  rw [(hb1).2]
  refine SW.callVi (pc := 2251) g (dt dtl_34 7 rfl) (mt_f_m_freest _ _ _ _ ad rq.2.2 N rq.2.1 a1 rm hm9) me_X11_freest mv_X11_freest (gtb_of (tbm_9 (List.mem_of_getElem? (i := 89) rfl)) rfl) cell_63 rfl rfl (Nat.le_of_ble_eq_true rfl) (Nat.le_of_ble_eq_true rfl) (by omega) (by omega) rfl ?_
  refine SW.istore (pc := 2254) g (dt dtl_34 8 rfl) (sw_ltm hm (Nat.le_of_ble_eq_true rfl)) rfl ?_
  refine SW.aload_n (pc := 2256) g (dt dtl_34 9 rfl) rfl ?_
  refine SW.callVi (pc := 2257) g (dt dtl_34 10 rfl) (mt_f_m_thrown _ _ _ _ ad rq.2.2 N rm.2  rt hth) me_X11_thrown mv_X11_thrown (gtb_of (tbm_6 (List.mem_of_getElem? (i := 220) rfl)) rfl) cell_63 rfl rfl (Nat.le_of_ble_eq_true rfl) (Nat.le_of_ble_eq_true rfl) (by omega) (by omega) rfl ?_
  refine SW.iload (pc := 2260) g (dt dtl_34 11 rfl) rfl ?_
  refine SW.icmp_eq (pc := 2262) (t := 2267) g (dt dtl_34 12 rfl) rfl (fun _ => ?_) (fun hc => absurd ht hc)
  refine SW.iload (pc := 2267) g (dt dtl_34 15 rfl) rfl ?_
  refine SW.if_ne (pc := 2269) (t := 2284) g (dt dtl_34 16 rfl) rfl (fun hc => ?_) (fun hc => ?_)
  · refine SW.goto (pc := 2284) (t := 2573) g (dt dtl_34 26 rfl) rfl ?_
    refine SW.msk [true, true, true, true, true] ?_
    exact hend0
  · refine SW.aload_n (pc := 2272) g (dt dtl_34 17 rfl) rfl ?_
    refine SW.iconst (pc := 2273) (v := 0) g (dt dtl_34 18 rfl) ki_0 ?_
    refine SW.laload (pc := 2274) g (dt dtl_34 19 rfl) cell_87 (by decide) ?_
    refine SW.iload (pc := 2275) g (dt dtl_34 20 rfl) rfl ?_
    refine SW.i2l (pc := 2277) g (dt dtl_34 21 rfl) ?_
    refine SW.lcmp (pc := 2278) g (dt dtl_34 22 rfl) ?_
    refine SW.if_eq (pc := 2279) (t := 2284) g (dt dtl_34 23 rfl) rfl (fun _ => ?_) (fun hc9 => absurd (lgc_eq (hv hc)) hc9)
    refine SW.goto (pc := 2284) (t := 2573) g (dt dtl_34 26 rfl) rfl ?_
    refine SW.msk [true, true, true, true, true] ?_
    exact hend0
set_option maxRecDepth 100000 in
set_option maxHeartbeats 4000000 in
theorem lc_34 {G : sw_G} {ad : Nat → Nat} {ν : sw_N} {μ : sw_M} {N cs sl b n : Nat} {xs : Nat → Int32} {i : Int32} (g : sw_ok G cL_law_ "DeadWiresLaw" (some .boolean) 1300 601024 7293033 ad) (hm : G.2.2.1.2.1.maxLocals = 8) (hX : va_X b n xs G.2.1.1 G.2.1.1.heap) (hbl : b < G.2.1.1.heap.size) (hbA : ¬ G.2.2.1.2.2.2 b) (h5 : ad 5000 = b) (hcs : cs + 10 ≤ 601024) (hsl : sl + 60 ≤ 7293033) {a1 a2 a3 a4 : Int32} (hb1 : ¬ (i + 1 < 0 ∨ n ≤ (i + 1).toNatClampNeg) ∧ xs (i + 1).toNatClampNeg = a1) (hb2 : ¬ (i + 2 < 0 ∨ n ≤ (i + 2).toNatClampNeg) ∧ xs (i + 2).toNatClampNeg = a2) (hb3 : ¬ (i + 3 < 0 ∨ n ≤ (i + 3).toNatClampNeg) ∧ xs (i + 3).toNatClampNeg = a3) (hb4 : ¬ (i + 4 < 0 ∨ n ≤ (i + 4).toNatClampNeg) ∧ xs (i + 4).toNatClampNeg = a4) (rq : Int32 × sw_M × sw_N) (rm : Int32 × sw_M) (rt : Int32) (hw : f_L_autumn N μ ν a1 a2 a3 a4 = some rq) (hm9 : f_m_autumn N rq.2.1 a1 a2 a3 a4 = some rm) (hth : f_m_thrown N rm.2 = some rt) (ht : rt = rq.1) (hv : rq.1 = 0 → rq.2.2 87 0 = rm.1.toInt64) (hend0 : SW G ad lay0 rq.2.2 (cs + 2) (sl + 12) 2573 [some (.ref 5000), some (.ref 0), some (.ref 63), some (.ref 87), some (.int i), none, none, none] [] rm.2) : SW G ad lay0 ν cs sl 2287 [some (.ref 5000), some (.ref 0), some (.ref 63), some (.ref 87), some (.int i), none, none, none] [] μ := by
  refine SW.aload_n (pc := 2287) g (dt dtl_34 27 rfl) rfl ?_
  refine SW.aload_n (pc := 2288) g (dt dtl_34 28 rfl) rfl ?_
  refine SW.iload (pc := 2289) g (dt dtl_34 29 rfl) rfl ?_
  refine SW.iconst (pc := 2291) (v := 1) g (dt dtl_34 30 rfl) ki_1 ?_
  refine SW.iadd (pc := 2292) g (dt dtl_34 31 rfl) ?_
  refine SW.sld (pc := 2293) (i := i + 1) g (dt dtl_34 32 rfl) hX hbl hbA h5 (hb1).1 ?_
  rw [(hb1).2]
  refine SW.aload_n (pc := 2294) g (dt dtl_34 33 rfl) rfl ?_
  refine SW.iload (pc := 2295) g (dt dtl_34 34 rfl) rfl ?_
  refine SW.iconst (pc := 2297) (v := 2) g (dt dtl_34 35 rfl) ki_2 ?_
  refine SW.iadd (pc := 2298) g (dt dtl_34 36 rfl) ?_
  refine SW.sld (pc := 2299) (i := i + 2) g (dt dtl_34 37 rfl) hX hbl hbA h5 (hb2).1 ?_
  rw [(hb2).2]
  refine SW.aload_n (pc := 2300) g (dt dtl_34 38 rfl) rfl ?_
  refine SW.iload (pc := 2301) g (dt dtl_34 39 rfl) rfl ?_
  refine SW.iconst (pc := 2303) (v := 3) g (dt dtl_35 0 rfl) ki_3 ?_
  refine SW.iadd (pc := 2304) g (dt dtl_35 1 rfl) ?_
  refine SW.sld (pc := 2305) (i := i + 3) g (dt dtl_35 2 rfl) hX hbl hbA h5 (hb3).1 ?_
  rw [(hb3).2]
  refine SW.aload_n (pc := 2306) g (dt dtl_35 3 rfl) rfl ?_
  refine SW.iload (pc := 2307) g (dt dtl_35 4 rfl) rfl ?_
  refine SW.iconst (pc := 2309) (v := 4) g (dt dtl_35 5 rfl) ki_4 ?_
  refine SW.iadd (pc := 2310) g (dt dtl_35 6 rfl) ?_
  refine SW.sld (pc := 2311) (i := i + 4) g (dt dtl_35 7 rfl) hX hbl hbA h5 (hb4).1 ?_
  rw [(hb4).2]
  refine SW.aload_n (pc := 2312) g (dt dtl_35 8 rfl) rfl ?_
  refine SW.callW (pc := 2313) (np := 6) g (dt dtl_35 9 rfl) (mw_f_L_autumn _ _ _ _ ad ν N μ a1 a2 a3 a4 rq hw) cw_L_autumn lw_ini ⟨by decide +kernel, by decide +kernel⟩ (by decide +kernel) (Nat.le_of_ble_eq_true rfl) cs_L_autumn (gtb_of (tbm_6 (List.mem_of_getElem? (i := 177) rfl)) rfl) rfl (Nat.le_of_ble_eq_true rfl) (Nat.le_of_ble_eq_true rfl) (by omega) (by omega) rfl ?_
  refine SW.istore (pc := 2316) g (dt dtl_35 10 rfl) (sw_ltm hm (Nat.le_of_ble_eq_true rfl)) rfl ?_
  refine SW.aload_n (pc := 2318) g (dt dtl_35 11 rfl) rfl ?_
  refine SW.aload_n (pc := 2319) g (dt dtl_35 12 rfl) rfl ?_
  refine SW.iload (pc := 2320) g (dt dtl_35 13 rfl) rfl ?_
  refine SW.iconst (pc := 2322) (v := 1) g (dt dtl_35 14 rfl) ki_1 ?_
  refine SW.iadd (pc := 2323) g (dt dtl_35 15 rfl) ?_
  refine SW.sld (pc := 2324) (i := i + 1) g (dt dtl_35 16 rfl) hX hbl hbA h5 (hb1).1 ?_
  rw [(hb1).2]
  refine SW.aload_n (pc := 2325) g (dt dtl_35 17 rfl) rfl ?_
  refine SW.iload (pc := 2326) g (dt dtl_35 18 rfl) rfl ?_
  refine SW.iconst (pc := 2328) (v := 2) g (dt dtl_35 19 rfl) ki_2 ?_
  refine SW.iadd (pc := 2329) g (dt dtl_35 20 rfl) ?_
  refine SW.sld (pc := 2330) (i := i + 2) g (dt dtl_35 21 rfl) hX hbl hbA h5 (hb2).1 ?_
  rw [(hb2).2]
  refine SW.aload_n (pc := 2331) g (dt dtl_35 22 rfl) rfl ?_
  refine SW.iload (pc := 2332) g (dt dtl_35 23 rfl) rfl ?_
  refine SW.iconst (pc := 2334) (v := 3) g (dt dtl_35 24 rfl) ki_3 ?_
  refine SW.iadd (pc := 2335) g (dt dtl_35 25 rfl) ?_
  refine SW.sld (pc := 2336) (i := i + 3) g (dt dtl_35 26 rfl) hX hbl hbA h5 (hb3).1 ?_
  rw [(hb3).2]
  refine SW.aload_n (pc := 2337) g (dt dtl_35 27 rfl) rfl ?_
  refine SW.iload (pc := 2338) g (dt dtl_35 28 rfl) rfl ?_
  refine SW.iconst (pc := 2340) (v := 4) g (dt dtl_35 29 rfl) ki_4 ?_
  refine SW.iadd (pc := 2341) g (dt dtl_35 30 rfl) ?_
  refine SW.sld (pc := 2342) (i := i + 4) g (dt dtl_35 31 rfl) hX hbl hbA h5 (hb4).1 ?_
  rw [(hb4).2]
  refine SW.callVi (pc := 2343) g (dt dtl_35 32 rfl) (mt_f_m_autumn _ _ _ _ ad rq.2.2 N rq.2.1 a1 a2 a3 a4 rm hm9) me_X11_autumn mv_X11_autumn (gtb_of (tbm_9 (List.mem_of_getElem? (i := 93) rfl)) rfl) cell_63 rfl rfl (Nat.le_of_ble_eq_true rfl) (Nat.le_of_ble_eq_true rfl) (by omega) (by omega) rfl ?_
  refine SW.istore (pc := 2346) g (dt dtl_35 33 rfl) (sw_ltm hm (Nat.le_of_ble_eq_true rfl)) rfl ?_
  refine SW.aload_n (pc := 2348) g (dt dtl_35 34 rfl) rfl ?_
  refine SW.callVi (pc := 2349) g (dt dtl_35 35 rfl) (mt_f_m_thrown _ _ _ _ ad rq.2.2 N rm.2  rt hth) me_X11_thrown mv_X11_thrown (gtb_of (tbm_6 (List.mem_of_getElem? (i := 220) rfl)) rfl) cell_63 rfl rfl (Nat.le_of_ble_eq_true rfl) (Nat.le_of_ble_eq_true rfl) (by omega) (by omega) rfl ?_
  refine SW.iload (pc := 2352) g (dt dtl_35 36 rfl) rfl ?_
  refine SW.icmp_eq (pc := 2354) (t := 2359) g (dt dtl_35 37 rfl) rfl (fun _ => ?_) (fun hc => absurd ht hc)
  refine SW.iload (pc := 2359) g (dt dtl_36 0 rfl) rfl ?_
  refine SW.if_ne (pc := 2361) (t := 2376) g (dt dtl_36 1 rfl) rfl (fun hc => ?_) (fun hc => ?_)
  · refine SW.goto (pc := 2376) (t := 2573) g (dt dtl_36 11 rfl) rfl ?_
    refine SW.msk [true, true, true, true, true] ?_
    exact hend0
  · refine SW.aload_n (pc := 2364) g (dt dtl_36 2 rfl) rfl ?_
    refine SW.iconst (pc := 2365) (v := 0) g (dt dtl_36 3 rfl) ki_0 ?_
    refine SW.laload (pc := 2366) g (dt dtl_36 4 rfl) cell_87 (by decide) ?_
    refine SW.iload (pc := 2367) g (dt dtl_36 5 rfl) rfl ?_
    refine SW.i2l (pc := 2369) g (dt dtl_36 6 rfl) ?_
    refine SW.lcmp (pc := 2370) g (dt dtl_36 7 rfl) ?_
    refine SW.if_eq (pc := 2371) (t := 2376) g (dt dtl_36 8 rfl) rfl (fun _ => ?_) (fun hc9 => absurd (lgc_eq (hv hc)) hc9)
    refine SW.goto (pc := 2376) (t := 2573) g (dt dtl_36 11 rfl) rfl ?_
    refine SW.msk [true, true, true, true, true] ?_
    exact hend0
set_option maxRecDepth 100000 in
set_option maxHeartbeats 4000000 in
theorem lc_35 {G : sw_G} {ad : Nat → Nat} {ν : sw_N} {μ : sw_M} {N cs sl b n : Nat} {xs : Nat → Int32} {i : Int32} (g : sw_ok G cL_law_ "DeadWiresLaw" (some .boolean) 1300 601024 7293033 ad) (hm : G.2.2.1.2.1.maxLocals = 8) (hX : va_X b n xs G.2.1.1 G.2.1.1.heap) (hbl : b < G.2.1.1.heap.size) (hbA : ¬ G.2.2.1.2.2.2 b) (h5 : ad 5000 = b) (hcs : cs + 10 ≤ 601024) (hsl : sl + 60 ≤ 7293033) {a1 a2 a3 a4 a5 a6 : Int32} (hb1 : ¬ (i + 1 < 0 ∨ n ≤ (i + 1).toNatClampNeg) ∧ xs (i + 1).toNatClampNeg = a1) (hb2 : ¬ (i + 2 < 0 ∨ n ≤ (i + 2).toNatClampNeg) ∧ xs (i + 2).toNatClampNeg = a2) (hb3 : ¬ (i + 3 < 0 ∨ n ≤ (i + 3).toNatClampNeg) ∧ xs (i + 3).toNatClampNeg = a3) (hb4 : ¬ (i + 4 < 0 ∨ n ≤ (i + 4).toNatClampNeg) ∧ xs (i + 4).toNatClampNeg = a4) (hb5 : ¬ (i + 5 < 0 ∨ n ≤ (i + 5).toNatClampNeg) ∧ xs (i + 5).toNatClampNeg = a5) (hb6 : ¬ (i + 6 < 0 ∨ n ≤ (i + 6).toNatClampNeg) ∧ xs (i + 6).toNatClampNeg = a6) (rq : Int32 × sw_M × sw_N) (rm : Int32 × sw_M) (rt : Int32) (hw : f_L_span N μ ν a1 a2 a3 a4 a5 a6 = some rq) (hm9 : f_m_span N rq.2.1 a1 a2 a3 a4 a5 a6 = some rm) (hth : f_m_thrown N rm.2 = some rt) (ht : rt = rq.1) (hv : rq.1 = 0 → rq.2.2 87 0 = rm.1.toInt64) (hend0 : SW G ad lay0 rq.2.2 (cs + 3) (sl + 18) 2573 [some (.ref 5000), some (.ref 0), some (.ref 63), some (.ref 87), some (.int i), none, none, none] [] rm.2) : SW G ad lay0 ν cs sl 2379 [some (.ref 5000), some (.ref 0), some (.ref 63), some (.ref 87), some (.int i), none, none, none] [] μ := by
  refine SW.aload_n (pc := 2379) g (dt dtl_36 12 rfl) rfl ?_
  refine SW.aload_n (pc := 2380) g (dt dtl_36 13 rfl) rfl ?_
  refine SW.iload (pc := 2381) g (dt dtl_36 14 rfl) rfl ?_
  refine SW.iconst (pc := 2383) (v := 1) g (dt dtl_36 15 rfl) ki_1 ?_
  refine SW.iadd (pc := 2384) g (dt dtl_36 16 rfl) ?_
  refine SW.sld (pc := 2385) (i := i + 1) g (dt dtl_36 17 rfl) hX hbl hbA h5 (hb1).1 ?_
  rw [(hb1).2]
  refine SW.aload_n (pc := 2386) g (dt dtl_36 18 rfl) rfl ?_
  refine SW.iload (pc := 2387) g (dt dtl_36 19 rfl) rfl ?_
  refine SW.iconst (pc := 2389) (v := 2) g (dt dtl_36 20 rfl) ki_2 ?_
  refine SW.iadd (pc := 2390) g (dt dtl_36 21 rfl) ?_
  refine SW.sld (pc := 2391) (i := i + 2) g (dt dtl_36 22 rfl) hX hbl hbA h5 (hb2).1 ?_
  rw [(hb2).2]
  refine SW.aload_n (pc := 2392) g (dt dtl_36 23 rfl) rfl ?_
  refine SW.iload (pc := 2393) g (dt dtl_36 24 rfl) rfl ?_
  refine SW.iconst (pc := 2395) (v := 3) g (dt dtl_36 25 rfl) ki_3 ?_
  refine SW.iadd (pc := 2396) g (dt dtl_36 26 rfl) ?_
  refine SW.sld (pc := 2397) (i := i + 3) g (dt dtl_36 27 rfl) hX hbl hbA h5 (hb3).1 ?_
  rw [(hb3).2]
  refine SW.aload_n (pc := 2398) g (dt dtl_36 28 rfl) rfl ?_
  refine SW.iload (pc := 2399) g (dt dtl_36 29 rfl) rfl ?_
  refine SW.iconst (pc := 2401) (v := 4) g (dt dtl_36 30 rfl) ki_4 ?_
  refine SW.iadd (pc := 2402) g (dt dtl_36 31 rfl) ?_
  refine SW.sld (pc := 2403) (i := i + 4) g (dt dtl_36 32 rfl) hX hbl hbA h5 (hb4).1 ?_
  rw [(hb4).2]
  refine SW.aload_n (pc := 2404) g (dt dtl_36 33 rfl) rfl ?_
  refine SW.iload (pc := 2405) g (dt dtl_36 34 rfl) rfl ?_
  refine SW.iconst (pc := 2407) (v := 5) g (dt dtl_36 35 rfl) ki_5 ?_
  refine SW.iadd (pc := 2408) g (dt dtl_36 36 rfl) ?_
  refine SW.sld (pc := 2409) (i := i + 5) g (dt dtl_36 37 rfl) hX hbl hbA h5 (hb5).1 ?_
  rw [(hb5).2]
  refine SW.aload_n (pc := 2410) g (dt dtl_36 38 rfl) rfl ?_
  refine SW.iload (pc := 2411) g (dt dtl_36 39 rfl) rfl ?_
  refine SW.bipush (pc := 2413) (v := 6) g (dt dtl_37 0 rfl) kb_6 ?_
  refine SW.iadd (pc := 2415) g (dt dtl_37 1 rfl) ?_
  refine SW.sld (pc := 2416) (i := i + 6) g (dt dtl_37 2 rfl) hX hbl hbA h5 (hb6).1 ?_
  rw [(hb6).2]
  refine SW.aload_n (pc := 2417) g (dt dtl_37 3 rfl) rfl ?_
  refine SW.callW (pc := 2418) (np := 8) g (dt dtl_37 4 rfl) (mw_f_L_span _ _ _ _ ad ν N μ a1 a2 a3 a4 a5 a6 rq hw) cw_L_span lw_ini ⟨by decide +kernel, by decide +kernel⟩ (by decide +kernel) (Nat.le_of_ble_eq_true rfl) cs_L_span (gtb_of (tbm_6 (List.mem_of_getElem? (i := 207) rfl)) rfl) rfl (Nat.le_of_ble_eq_true rfl) (Nat.le_of_ble_eq_true rfl) (by omega) (by omega) rfl ?_
  refine SW.istore (pc := 2421) g (dt dtl_37 5 rfl) (sw_ltm hm (Nat.le_of_ble_eq_true rfl)) rfl ?_
  refine SW.aload_n (pc := 2423) g (dt dtl_37 6 rfl) rfl ?_
  refine SW.aload_n (pc := 2424) g (dt dtl_37 7 rfl) rfl ?_
  refine SW.iload (pc := 2425) g (dt dtl_37 8 rfl) rfl ?_
  refine SW.iconst (pc := 2427) (v := 1) g (dt dtl_37 9 rfl) ki_1 ?_
  refine SW.iadd (pc := 2428) g (dt dtl_37 10 rfl) ?_
  refine SW.sld (pc := 2429) (i := i + 1) g (dt dtl_37 11 rfl) hX hbl hbA h5 (hb1).1 ?_
  rw [(hb1).2]
  refine SW.aload_n (pc := 2430) g (dt dtl_37 12 rfl) rfl ?_
  refine SW.iload (pc := 2431) g (dt dtl_37 13 rfl) rfl ?_
  refine SW.iconst (pc := 2433) (v := 2) g (dt dtl_37 14 rfl) ki_2 ?_
  refine SW.iadd (pc := 2434) g (dt dtl_37 15 rfl) ?_
  refine SW.sld (pc := 2435) (i := i + 2) g (dt dtl_37 16 rfl) hX hbl hbA h5 (hb2).1 ?_
  rw [(hb2).2]
  refine SW.aload_n (pc := 2436) g (dt dtl_37 17 rfl) rfl ?_
  refine SW.iload (pc := 2437) g (dt dtl_37 18 rfl) rfl ?_
  refine SW.iconst (pc := 2439) (v := 3) g (dt dtl_37 19 rfl) ki_3 ?_
  refine SW.iadd (pc := 2440) g (dt dtl_37 20 rfl) ?_
  refine SW.sld (pc := 2441) (i := i + 3) g (dt dtl_37 21 rfl) hX hbl hbA h5 (hb3).1 ?_
  rw [(hb3).2]
  refine SW.aload_n (pc := 2442) g (dt dtl_37 22 rfl) rfl ?_
  refine SW.iload (pc := 2443) g (dt dtl_37 23 rfl) rfl ?_
  refine SW.iconst (pc := 2445) (v := 4) g (dt dtl_37 24 rfl) ki_4 ?_
  refine SW.iadd (pc := 2446) g (dt dtl_37 25 rfl) ?_
  refine SW.sld (pc := 2447) (i := i + 4) g (dt dtl_37 26 rfl) hX hbl hbA h5 (hb4).1 ?_
  rw [(hb4).2]
  refine SW.aload_n (pc := 2448) g (dt dtl_37 27 rfl) rfl ?_
  refine SW.iload (pc := 2449) g (dt dtl_37 28 rfl) rfl ?_
  refine SW.iconst (pc := 2451) (v := 5) g (dt dtl_37 29 rfl) ki_5 ?_
  refine SW.iadd (pc := 2452) g (dt dtl_37 30 rfl) ?_
  refine SW.sld (pc := 2453) (i := i + 5) g (dt dtl_37 31 rfl) hX hbl hbA h5 (hb5).1 ?_
  rw [(hb5).2]
  refine SW.aload_n (pc := 2454) g (dt dtl_37 32 rfl) rfl ?_
  refine SW.iload (pc := 2455) g (dt dtl_37 33 rfl) rfl ?_
  refine SW.bipush (pc := 2457) (v := 6) g (dt dtl_37 34 rfl) kb_6 ?_
  refine SW.iadd (pc := 2459) g (dt dtl_37 35 rfl) ?_
  refine SW.sld (pc := 2460) (i := i + 6) g (dt dtl_37 36 rfl) hX hbl hbA h5 (hb6).1 ?_
  rw [(hb6).2]
  refine SW.callVi (pc := 2461) g (dt dtl_37 37 rfl) (mt_f_m_span _ _ _ _ ad rq.2.2 N rq.2.1 a1 a2 a3 a4 a5 a6 rm hm9) me_X11_span mv_X11_span (gtb_of (tbm_9 (List.mem_of_getElem? (i := 109) rfl)) rfl) cell_63 rfl rfl (Nat.le_of_ble_eq_true rfl) (Nat.le_of_ble_eq_true rfl) (by omega) (by omega) rfl ?_
  refine SW.istore (pc := 2464) g (dt dtl_37 38 rfl) (sw_ltm hm (Nat.le_of_ble_eq_true rfl)) rfl ?_
  refine SW.aload_n (pc := 2466) g (dt dtl_37 39 rfl) rfl ?_
  refine SW.callVi (pc := 2467) g (dt dtl_38 0 rfl) (mt_f_m_thrown _ _ _ _ ad rq.2.2 N rm.2  rt hth) me_X11_thrown mv_X11_thrown (gtb_of (tbm_6 (List.mem_of_getElem? (i := 220) rfl)) rfl) cell_63 rfl rfl (Nat.le_of_ble_eq_true rfl) (Nat.le_of_ble_eq_true rfl) (by omega) (by omega) rfl ?_
  refine SW.iload (pc := 2470) g (dt dtl_38 1 rfl) rfl ?_
  refine SW.icmp_eq (pc := 2472) (t := 2477) g (dt dtl_38 2 rfl) rfl (fun _ => ?_) (fun hc => absurd ht hc)
  refine SW.iload (pc := 2477) g (dt dtl_38 5 rfl) rfl ?_
  refine SW.if_ne (pc := 2479) (t := 2494) g (dt dtl_38 6 rfl) rfl (fun hc => ?_) (fun hc => ?_)
  · refine SW.goto (pc := 2494) (t := 2573) g (dt dtl_38 16 rfl) rfl ?_
    refine SW.msk [true, true, true, true, true] ?_
    exact hend0
  · refine SW.aload_n (pc := 2482) g (dt dtl_38 7 rfl) rfl ?_
    refine SW.iconst (pc := 2483) (v := 0) g (dt dtl_38 8 rfl) ki_0 ?_
    refine SW.laload (pc := 2484) g (dt dtl_38 9 rfl) cell_87 (by decide) ?_
    refine SW.iload (pc := 2485) g (dt dtl_38 10 rfl) rfl ?_
    refine SW.i2l (pc := 2487) g (dt dtl_38 11 rfl) ?_
    refine SW.lcmp (pc := 2488) g (dt dtl_38 12 rfl) ?_
    refine SW.if_eq (pc := 2489) (t := 2494) g (dt dtl_38 13 rfl) rfl (fun _ => ?_) (fun hc9 => absurd (lgc_eq (hv hc)) hc9)
    refine SW.goto (pc := 2494) (t := 2573) g (dt dtl_38 16 rfl) rfl ?_
    refine SW.msk [true, true, true, true, true] ?_
    exact hend0
set_option maxRecDepth 100000 in
set_option maxHeartbeats 4000000 in
theorem lc_36 {G : sw_G} {ad : Nat → Nat} {ν : sw_N} {μ : sw_M} {N cs sl b n : Nat} {xs : Nat → Int32} {i : Int32} (g : sw_ok G cL_law_ "DeadWiresLaw" (some .boolean) 1300 601024 7293033 ad) (hm : G.2.2.1.2.1.maxLocals = 8) (hX : va_X b n xs G.2.1.1 G.2.1.1.heap) (hbl : b < G.2.1.1.heap.size) (hbA : ¬ G.2.2.1.2.2.2 b) (h5 : ad 5000 = b) (hcs : cs + 10 ≤ 601024) (hsl : sl + 60 ≤ 7293033)   (rx : Int32 × sw_M) (rm : Int32 × sw_M) (hx : f_x_image N μ  = some rx) (hm9 : f_m_image N rx.2  = some rm) (heq : rx.1 = rm.1) (hend0 : SW G ad lay0 ν (cs + 0) (sl + 0) 2573 [some (.ref 5000), some (.ref 0), some (.ref 63), some (.ref 87), some (.int i), none, none, none] [] rm.2) : SW G ad lay0 ν cs sl 2497 [some (.ref 5000), some (.ref 0), some (.ref 63), some (.ref 87), some (.int i), none, none, none] [] μ := by
  refine SW.aload_n (pc := 2497) g (dt dtl_38 17 rfl) rfl ?_
  refine SW.callVi (pc := 2498) g (dt dtl_38 18 rfl) (mt_f_x_image _ _ _ _ ad ν N μ  rx hx) me_X10_image mv_X10_image (gtb_of (tbm_3 (List.mem_of_getElem? (i := 96) rfl)) rfl) cell_0 rfl rfl (Nat.le_of_ble_eq_true rfl) (Nat.le_of_ble_eq_true rfl) (by omega) (by omega) rfl ?_
  refine SW.aload_n (pc := 2501) g (dt dtl_38 19 rfl) rfl ?_
  refine SW.callVi (pc := 2502) g (dt dtl_38 20 rfl) (mt_f_m_image _ _ _ _ ad ν N rx.2  rm hm9) me_X11_image mv_X11_image (gtb_of (tbm_9 (List.mem_of_getElem? (i := 113) rfl)) rfl) cell_63 rfl rfl (Nat.le_of_ble_eq_true rfl) (Nat.le_of_ble_eq_true rfl) (by omega) (by omega) rfl ?_
  refine SW.icmp_eq (pc := 2505) (t := 2573) g (dt dtl_38 21 rfl) rfl (fun _ => ?_) (fun hc => absurd heq hc)
  refine SW.msk [true, true, true, true, true] ?_
  exact hend0
set_option maxRecDepth 100000 in
set_option maxHeartbeats 4000000 in
theorem lc_37 {G : sw_G} {ad : Nat → Nat} {ν : sw_N} {μ : sw_M} {N cs sl b n : Nat} {xs : Nat → Int32} {i : Int32} (g : sw_ok G cL_law_ "DeadWiresLaw" (some .boolean) 1300 601024 7293033 ad) (hm : G.2.2.1.2.1.maxLocals = 8) (hX : va_X b n xs G.2.1.1 G.2.1.1.heap) (hbl : b < G.2.1.1.heap.size) (hbA : ¬ G.2.2.1.2.2.2 b) (h5 : ad 5000 = b) (hcs : cs + 10 ≤ 601024) (hsl : sl + 60 ≤ 7293033)   (rx : Int32 × sw_M) (rm : Int32 × sw_M) (hx : f_x_restore N μ  = some rx) (hm9 : f_m_restore N rx.2  = some rm) (heq : rx.1 = rm.1) (hend0 : SW G ad lay0 ν (cs + 0) (sl + 0) 2573 [some (.ref 5000), some (.ref 0), some (.ref 63), some (.ref 87), some (.int i), none, none, none] [] rm.2) : SW G ad lay0 ν cs sl 2510 [some (.ref 5000), some (.ref 0), some (.ref 63), some (.ref 87), some (.int i), none, none, none] [] μ := by
  refine SW.aload_n (pc := 2510) g (dt dtl_38 24 rfl) rfl ?_
  refine SW.callVi (pc := 2511) g (dt dtl_38 25 rfl) (mt_f_x_restore _ _ _ _ ad ν N μ  rx hx) me_X10_restore mv_X10_restore (gtb_of (tbm_3 (List.mem_of_getElem? (i := 109) rfl)) rfl) cell_0 rfl rfl (Nat.le_of_ble_eq_true rfl) (Nat.le_of_ble_eq_true rfl) (by omega) (by omega) rfl ?_
  refine SW.aload_n (pc := 2514) g (dt dtl_38 26 rfl) rfl ?_
  refine SW.callVi (pc := 2515) g (dt dtl_38 27 rfl) (mt_f_m_restore _ _ _ _ ad ν N rx.2  rm hm9) me_X11_restore mv_X11_restore (gtb_of (tbm_9 (List.mem_of_getElem? (i := 125) rfl)) rfl) cell_63 rfl rfl (Nat.le_of_ble_eq_true rfl) (Nat.le_of_ble_eq_true rfl) (by omega) (by omega) rfl ?_
  refine SW.icmp_eq (pc := 2518) (t := 2573) g (dt dtl_38 28 rfl) rfl (fun _ => ?_) (fun hc => absurd heq hc)
  refine SW.msk [true, true, true, true, true] ?_
  exact hend0
set_option maxRecDepth 100000 in
set_option maxHeartbeats 4000000 in
theorem lc_38 {G : sw_G} {ad : Nat → Nat} {ν : sw_N} {μ : sw_M} {N cs sl b n : Nat} {xs : Nat → Int32} {i : Int32} (g : sw_ok G cL_law_ "DeadWiresLaw" (some .boolean) 1300 601024 7293033 ad) (hm : G.2.2.1.2.1.maxLocals = 8) (hX : va_X b n xs G.2.1.1 G.2.1.1.heap) (hbl : b < G.2.1.1.heap.size) (hbA : ¬ G.2.2.1.2.2.2 b) (h5 : ad 5000 = b) (hcs : cs + 10 ≤ 601024) (hsl : sl + 60 ≤ 7293033) {a1 : Int32} (hb1 : ¬ (i + 1 < 0 ∨ n ≤ (i + 1).toNatClampNeg) ∧ xs (i + 1).toNatClampNeg = a1) (rx : Int32) (rm : Int32 × sw_M) (hx : f_x_status N μ a1 = some rx) (hm9 : f_m_status N μ a1 = some rm) (heq : rx = rm.1) (hend0 : SW G ad lay0 ν (cs + 0) (sl + 0) 2573 [some (.ref 5000), some (.ref 0), some (.ref 63), some (.ref 87), some (.int i), none, none, none] [] rm.2) : SW G ad lay0 ν cs sl 2523 [some (.ref 5000), some (.ref 0), some (.ref 63), some (.ref 87), some (.int i), none, none, none] [] μ := by
  refine SW.aload_n (pc := 2523) g (dt dtl_38 31 rfl) rfl ?_
  refine SW.aload_n (pc := 2524) g (dt dtl_38 32 rfl) rfl ?_
  refine SW.iload (pc := 2525) g (dt dtl_38 33 rfl) rfl ?_
  refine SW.iconst (pc := 2527) (v := 1) g (dt dtl_38 34 rfl) ki_1 ?_
  refine SW.iadd (pc := 2528) g (dt dtl_38 35 rfl) ?_
  refine SW.sld (pc := 2529) (i := i + 1) g (dt dtl_38 36 rfl) hX hbl hbA h5 (hb1).1 ?_
  rw [(hb1).2]
  refine SW.callVi (pc := 2530) g (dt dtl_38 37 rfl) (mt_f_x_status _ _ _ _ ad ν N μ a1 rx hx) me_X10_status mv_X10_status (gtb_of (tbm_3 (List.mem_of_getElem? (i := 117) rfl)) rfl) cell_0 rfl rfl (Nat.le_of_ble_eq_true rfl) (Nat.le_of_ble_eq_true rfl) (by omega) (by omega) rfl ?_
  refine SW.aload_n (pc := 2533) g (dt dtl_38 38 rfl) rfl ?_
  refine SW.aload_n (pc := 2534) g (dt dtl_38 39 rfl) rfl ?_
  refine SW.iload (pc := 2535) g (dt dtl_39 0 rfl) rfl ?_
  refine SW.iconst (pc := 2537) (v := 1) g (dt dtl_39 1 rfl) ki_1 ?_
  refine SW.iadd (pc := 2538) g (dt dtl_39 2 rfl) ?_
  refine SW.sld (pc := 2539) (i := i + 1) g (dt dtl_39 3 rfl) hX hbl hbA h5 (hb1).1 ?_
  rw [(hb1).2]
  refine SW.callVi (pc := 2540) g (dt dtl_39 4 rfl) (mt_f_m_status _ _ _ _ ad ν N μ a1 rm hm9) me_X11_status mv_X11_status (gtb_of (tbm_9 (List.mem_of_getElem? (i := 129) rfl)) rfl) cell_63 rfl rfl (Nat.le_of_ble_eq_true rfl) (Nat.le_of_ble_eq_true rfl) (by omega) (by omega) rfl ?_
  refine SW.icmp_eq (pc := 2543) (t := 2573) g (dt dtl_39 5 rfl) rfl (fun _ => ?_) (fun hc => absurd heq hc)
  refine SW.msk [true, true, true, true, true] ?_
  exact hend0
set_option maxRecDepth 100000 in
set_option maxHeartbeats 4000000 in
theorem lc_39 {G : sw_G} {ad : Nat → Nat} {ν : sw_N} {μ : sw_M} {N cs sl b n : Nat} {xs : Nat → Int32} {i : Int32} (g : sw_ok G cL_law_ "DeadWiresLaw" (some .boolean) 1300 601024 7293033 ad) (hm : G.2.2.1.2.1.maxLocals = 8) (hX : va_X b n xs G.2.1.1 G.2.1.1.heap) (hbl : b < G.2.1.1.heap.size) (hbA : ¬ G.2.2.1.2.2.2 b) (h5 : ad 5000 = b) (hcs : cs + 10 ≤ 601024) (hsl : sl + 60 ≤ 7293033) {a1 : Int32} (hb1 : ¬ (i + 1 < 0 ∨ n ≤ (i + 1).toNatClampNeg) ∧ xs (i + 1).toNatClampNeg = a1) (rx : Int32) (rm : Int32 × sw_M) (hx : f_x_count N μ a1 = some rx) (hm9 : f_m_count N μ a1 = some rm) (heq : rx = rm.1) (hend0 : SW G ad lay0 ν (cs + 0) (sl + 0) 2573 [some (.ref 5000), some (.ref 0), some (.ref 63), some (.ref 87), some (.int i), none, none, none] [] rm.2) : SW G ad lay0 ν cs sl 2548 [some (.ref 5000), some (.ref 0), some (.ref 63), some (.ref 87), some (.int i), none, none, none] [] μ := by
  refine SW.aload_n (pc := 2548) g (dt dtl_39 8 rfl) rfl ?_
  refine SW.aload_n (pc := 2549) g (dt dtl_39 9 rfl) rfl ?_
  refine SW.iload (pc := 2550) g (dt dtl_39 10 rfl) rfl ?_
  refine SW.iconst (pc := 2552) (v := 1) g (dt dtl_39 11 rfl) ki_1 ?_
  refine SW.iadd (pc := 2553) g (dt dtl_39 12 rfl) ?_
  refine SW.sld (pc := 2554) (i := i + 1) g (dt dtl_39 13 rfl) hX hbl hbA h5 (hb1).1 ?_
  rw [(hb1).2]
  refine SW.callVi (pc := 2555) g (dt dtl_39 14 rfl) (mt_f_x_count _ _ _ _ ad ν N μ a1 rx hx) me_X10_count mv_X10_count (gtb_of (tbm_3 (List.mem_of_getElem? (i := 121) rfl)) rfl) cell_0 rfl rfl (Nat.le_of_ble_eq_true rfl) (Nat.le_of_ble_eq_true rfl) (by omega) (by omega) rfl ?_
  refine SW.aload_n (pc := 2558) g (dt dtl_39 15 rfl) rfl ?_
  refine SW.aload_n (pc := 2559) g (dt dtl_39 16 rfl) rfl ?_
  refine SW.iload (pc := 2560) g (dt dtl_39 17 rfl) rfl ?_
  refine SW.iconst (pc := 2562) (v := 1) g (dt dtl_39 18 rfl) ki_1 ?_
  refine SW.iadd (pc := 2563) g (dt dtl_39 19 rfl) ?_
  refine SW.sld (pc := 2564) (i := i + 1) g (dt dtl_39 20 rfl) hX hbl hbA h5 (hb1).1 ?_
  rw [(hb1).2]
  refine SW.callVi (pc := 2565) g (dt dtl_39 21 rfl) (mt_f_m_count _ _ _ _ ad ν N μ a1 rm hm9) me_X11_count mv_X11_count (gtb_of (tbm_9 (List.mem_of_getElem? (i := 133) rfl)) rfl) cell_63 rfl rfl (Nat.le_of_ble_eq_true rfl) (Nat.le_of_ble_eq_true rfl) (by omega) (by omega) rfl ?_
  refine SW.icmp_eq (pc := 2568) (t := 2573) g (dt dtl_39 22 rfl) rfl (fun _ => ?_) (fun hc => absurd heq hc)
  refine SW.msk [true, true, true, true, true] ?_
  exact hend0
