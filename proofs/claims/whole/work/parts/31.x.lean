/-! ===== by program (wip/whole/all.py): functions over the memory, and that the machine does just that ===== -/
def f_x_feed (N : Nat)  (μ : sw_M) (a1 : Int32) (a2 : Int32) (a3 : Int32) (a4 : Int32) (a5 : Int32) : Option (Int32 × sw_M) :=
  Option.bind (f_tape_hasRoom N  μ ) (fun r1 =>
    if r1 = 0 then
      some ((-1), μ)
    else
      Option.bind (f_tape_add N  μ a1) (fun r3 =>
        Option.bind (f_tape_add N  r3 a2) (fun r5 =>
          Option.bind (f_tape_add N  r5 a3) (fun r7 =>
            Option.bind (f_tape_add N  r7 a4) (fun r9 =>
              Option.bind (f_tape_add N  r9 a5) (fun r11 =>
                some (r11 1 3, r11)))))))
set_option maxRecDepth 100000 in
set_option maxHeartbeats 4000000 in
theorem ok_f_x_feed {G : sw_G} {ad : Nat → Nat} {ν : sw_N}   {N : Nat} {o : Int32 × sw_M} (g : sw_ok G cX10_feed "DeadWires" (some .int) 2 0 0 ad) (hm : G.2.2.1.2.1.maxLocals = 6)  (μ : sw_M) (ho : sw_out G 0 0 (fun a => a = ad) (.inl (some (.int o.1))) lay0 o.2 ν) (a1 : Int32) (a2 : Int32) (a3 : Int32) (a4 : Int32) (a5 : Int32) (h : f_x_feed N  μ a1 a2 a3 a4 a5 = some o) : SW G ad lay0 ν 0 0 0 [some (.ref 0), some (.int a1), some (.int a2), some (.int a3), some (.int a4), some (.int a5)] [] μ := by
  unfold f_x_feed at h
  refine SW.aload_n (pc := 0) g (dt dt_X10_feed 0 rfl) rfl ?_
  refine SW.getR (pc := 1) g (dt dt_X10_feed 1 rfl) fl_X10_10 cell_0 rfl ?_
  obtain ⟨r1, h2, h⟩ := bindI h
  refine SW.callVi (pc := 4) g (dt dt_X10_feed 2 rfl) (mt_f_tape_hasRoom _ _ _ _ ad ν   N μ  r1 h2) me_X7_hasRoom mv_X7_hasRoom ml_X10_94 cell_1 rfl rfl (Nat.le_of_ble_eq_true rfl) (Nat.le_of_ble_eq_true rfl) (Nat.le_of_ble_eq_true rfl) (Nat.le_of_ble_eq_true rfl) rfl ?_
  refine SW.if_ne (pc := 7) (t := 12) g (dt dt_X10_feed 3 rfl) rfl (fun hc => ?_) (fun hc => ?_)
  · have h := iteF hc h
    refine SW.aload_n (pc := 12) g (dt dt_X10_feed 6 rfl) rfl ?_
    refine SW.getR (pc := 13) g (dt dt_X10_feed 7 rfl) fl_X10_10 cell_0 rfl ?_
    refine SW.iload_n (pc := 16) g (dt dt_X10_feed 8 rfl) rfl ?_
    obtain ⟨r3, h4, h⟩ := bindI h
    refine SW.callVv (pc := 17) g (dt dt_X10_feed 9 rfl) (mt_f_tape_add _ _ _ _ ad ν   N μ a1 r3 h4) me_X7_add mv_X7_add ml_X10_98 cell_1 rfl rfl (Nat.le_of_ble_eq_true rfl) (Nat.le_of_ble_eq_true rfl) (Nat.le_of_ble_eq_true rfl) (Nat.le_of_ble_eq_true rfl) rfl ?_
    refine SW.aload_n (pc := 20) g (dt dt_X10_feed 10 rfl) rfl ?_
    refine SW.getR (pc := 21) g (dt dt_X10_feed 11 rfl) fl_X10_10 cell_0 rfl ?_
    refine SW.iload_n (pc := 24) g (dt dt_X10_feed 12 rfl) rfl ?_
    obtain ⟨r5, h6, h⟩ := bindI h
    refine SW.callVv (pc := 25) g (dt dt_X10_feed 13 rfl) (mt_f_tape_add _ _ _ _ ad ν   N r3 a2 r5 h6) me_X7_add mv_X7_add ml_X10_98 cell_1 rfl rfl (Nat.le_of_ble_eq_true rfl) (Nat.le_of_ble_eq_true rfl) (Nat.le_of_ble_eq_true rfl) (Nat.le_of_ble_eq_true rfl) rfl ?_
    refine SW.aload_n (pc := 28) g (dt dt_X10_feed 14 rfl) rfl ?_
    refine SW.getR (pc := 29) g (dt dt_X10_feed 15 rfl) fl_X10_10 cell_0 rfl ?_
    refine SW.iload_n (pc := 32) g (dt dt_X10_feed 16 rfl) rfl ?_
    obtain ⟨r7, h8, h⟩ := bindI h
    refine SW.callVv (pc := 33) g (dt dt_X10_feed 17 rfl) (mt_f_tape_add _ _ _ _ ad ν   N r5 a3 r7 h8) me_X7_add mv_X7_add ml_X10_98 cell_1 rfl rfl (Nat.le_of_ble_eq_true rfl) (Nat.le_of_ble_eq_true rfl) (Nat.le_of_ble_eq_true rfl) (Nat.le_of_ble_eq_true rfl) rfl ?_
    refine SW.aload_n (pc := 36) g (dt dt_X10_feed 18 rfl) rfl ?_
    refine SW.getR (pc := 37) g (dt dt_X10_feed 19 rfl) fl_X10_10 cell_0 rfl ?_
    refine SW.iload (pc := 40) g (dt dt_X10_feed 20 rfl) rfl ?_
    obtain ⟨r9, h10, h⟩ := bindI h
    refine SW.callVv (pc := 42) g (dt dt_X10_feed 21 rfl) (mt_f_tape_add _ _ _ _ ad ν   N r7 a4 r9 h10) me_X7_add mv_X7_add ml_X10_98 cell_1 rfl rfl (Nat.le_of_ble_eq_true rfl) (Nat.le_of_ble_eq_true rfl) (Nat.le_of_ble_eq_true rfl) (Nat.le_of_ble_eq_true rfl) rfl ?_
    refine SW.aload_n (pc := 45) g (dt dt_X10_feed 22 rfl) rfl ?_
    refine SW.getR (pc := 46) g (dt dt_X10_feed 23 rfl) fl_X10_10 cell_0 rfl ?_
    refine SW.iload (pc := 49) g (dt dt_X10_feed 24 rfl) rfl ?_
    obtain ⟨r11, h12, h⟩ := bindI h
    refine SW.callVv (pc := 51) g (dt dt_X10_feed 25 rfl) (mt_f_tape_add _ _ _ _ ad ν   N r9 a5 r11 h12) me_X7_add mv_X7_add ml_X10_98 cell_1 rfl rfl (Nat.le_of_ble_eq_true rfl) (Nat.le_of_ble_eq_true rfl) (Nat.le_of_ble_eq_true rfl) (Nat.le_of_ble_eq_true rfl) rfl ?_
    refine SW.aload_n (pc := 54) g (dt dt_X10_feed 26 rfl) rfl ?_
    refine SW.getR (pc := 55) g (dt dt_X10_feed 27 rfl) fl_X10_10 cell_0 rfl ?_
    refine SW.getI (pc := 58) g (dt dt_X10_feed 28 rfl) fl_X10_102 cell_1 rfl ?_
    exact SW.ireturn (pc := 61) g (leafW h ho) rfl (Nat.le_of_ble_eq_true rfl) (Nat.le_of_ble_eq_true rfl) (dt dt_X10_feed 29 rfl)
  · have h := iteT hc h
    refine SW.iconst (pc := 10) (v := (-1)) g (dt dt_X10_feed 4 rfl) ki_m1 ?_
    exact SW.ireturn (pc := 11) g (leafW h ho) rfl (Nat.le_of_ble_eq_true rfl) (Nat.le_of_ble_eq_true rfl) (dt dt_X10_feed 5 rfl)
set_option maxRecDepth 100000 in
set_option maxHeartbeats 4000000 in
theorem mt_f_x_feed (l : Launch) (D : va_G) (cI cL : ClassId) (ad : Nat → Nat) (ν : sw_N)    (N : Nat) (μ : sw_M) (a1 : Int32) (a2 : Int32) (a3 : Int32) (a4 : Int32) (a5 : Int32) (o : Int32 × sw_M) (h : f_x_feed N  μ a1 a2 a3 a4 a5 = some o) : MetR l D cI cL yX10_feed cX10_feed 6 (some .int) 2 0 0 (fun a => a = ad) ad [.ref 0, .int a1, .int a2, .int a3, .int a4, .int a5] lay0 μ ν (some (.int o.1)) lay0 o.2 ν :=
  MetR.of (n := 0) rfl (Nat.le_of_ble_eq_true rfl) (fun G g ho hm _ _ => ok_f_x_feed  g hm  μ ho a1 a2 a3 a4 a5 h)
def f_x_need (N : Nat)  (μ : sw_M) (a1 : Int32) : Option (sw_M ⊕ (String × sw_M)) :=
  if a1 = 0 then
    wb (wr μ 0 14 ((μ 0 14) + 1)) (fun μ1 =>
      some (.inr ("java/lang/IllegalArgumentException", μ1)))
  else
    some (.inl μ)
set_option maxRecDepth 100000 in
set_option maxHeartbeats 4000000 in
theorem ok_f_x_need {G : sw_G} {ad : Nat → Nat} {ν : sw_N}   {N : Nat} {o : sw_M ⊕ (String × sw_M)} (g : sw_ok G cX10_need "DeadWires" none 8 1 6 ad) (hm : G.2.2.1.2.1.maxLocals = 2) (htab : ∀ x ∈ G.2.2.1.2.1.exceptionTable.toList, False)  (μ : sw_M) (ho : sw_out G 1 6 (fun a => a = ad) (xo_v o).1 lay0 (xo_v o).2 ν) (a1 : Int32) (h : f_x_need N  μ a1 = some o) : SW G ad lay0 ν 0 0 0 [some (.ref 0), some (.int a1)] [] μ := by
  unfold f_x_need at h
  refine SW.iload_n (pc := 0) g (dt dt_X10_need 0 rfl) rfl ?_
  refine SW.if_ne (pc := 1) (t := 22) g (dt dt_X10_need 1 rfl) rfl (fun hc => ?_) (fun hc => ?_)
  · have h := iteF hc h
    exact SW.vreturn (pc := 22) g (leafXv h ho) rfl (Nat.le_of_ble_eq_true rfl) (Nat.le_of_ble_eq_true rfl) (dt dt_X10_need 12 rfl)
  · have h := iteT hc h
    refine SW.aload_n (pc := 4) g (dt dt_X10_need 2 rfl) rfl ?_
    refine SW.dup (pc := 5) g (dt dt_X10_need 3 rfl) rfl ?_
    refine SW.getI (pc := 6) g (dt dt_X10_need 4 rfl) fl_X10_419 cell_0 rfl ?_
    refine SW.iconst (pc := 9) (v := 1) g (dt dt_X10_need 5 rfl) ki_1 ?_
    refine SW.iadd (pc := 10) g (dt dt_X10_need 6 rfl) ?_
    refine SW.putI (pc := 11) g (dt dt_X10_need 7 rfl) fl_X10_419 cell_0 rfl ?_
    refine SW.genM h (fun μ1 h => ?_)
    exact SW.throw0 (pc := 14) g (leafTv h ho) rfl htab tw_iae (dt dt_X10_need 8 rfl) (dt dt_X10_need 9 rfl) (dt dt_X10_need 10 rfl) (dt dt_X10_need 11 rfl) (Nat.le_of_ble_eq_true rfl) (Nat.le_of_ble_eq_true rfl) (Nat.le_of_ble_eq_true rfl) (Nat.le_of_ble_eq_true rfl)
set_option maxRecDepth 100000 in
set_option maxHeartbeats 4000000 in
theorem mtx_f_x_need (l : Launch) (D : va_G) (cI cL : ClassId) (ad : Nat → Nat) (ν : sw_N) (N : Nat) (μ : sw_M) (a1 : Int32) (o : sw_M ⊕ (String × sw_M)) (h : f_x_need N μ a1 = some o) : MetX l D cI cL yX10_need cX10_need 2 none 8 1 6 (fun a => a = ad) ad [.ref 0, .int a1] lay0 μ ν (xo_v o).1 lay0 (xo_v o).2 ν :=
  MetX.of (n := 0) rfl (Nat.le_of_ble_eq_true rfl) (fun G g ho hm htab => ok_f_x_need  g hm htab  μ ho a1 h)
def f_x_needText (N : Nat)  (μ : sw_M) (a1 : Int32) (a2 : Int32) : Option (sw_M ⊕ (String × sw_M)) :=
  Option.bind (f_sx_within N  μ a1 0 (if a2 < (μ 1 3) then a2 else (μ 1 3))) (fun r1 =>
    tb (f_x_need N μ r1) (fun r3 =>
      some (.inl r3)))
set_option maxRecDepth 100000 in
set_option maxHeartbeats 4000000 in
theorem ok_f_x_needText {G : sw_G} {ad : Nat → Nat} {ν : sw_N}   {N : Nat} {o : sw_M ⊕ (String × sw_M)} (g : sw_ok G cX10_needText "DeadWires" none 9 1 6 ad) (hm : G.2.2.1.2.1.maxLocals = 3) (htab : ∀ x ∈ G.2.2.1.2.1.exceptionTable.toList, False)  (μ : sw_M) (ho : sw_out G 1 6 (fun a => a = ad) (xo_v o).1 lay0 (xo_v o).2 ν) (a1 : Int32) (a2 : Int32) (h : f_x_needText N  μ a1 a2 = some o) : SW G ad lay0 ν 0 0 0 [some (.ref 0), some (.int a1), some (.int a2)] [] μ := by
  unfold f_x_needText at h
  refine SW.aload_n (pc := 0) g (dt dt_X10_needText 0 rfl) rfl ?_
  refine SW.iload_n (pc := 1) g (dt dt_X10_needText 1 rfl) rfl ?_
  refine SW.iconst (pc := 2) (v := 0) g (dt dt_X10_needText 2 rfl) ki_0 ?_
  refine SW.aload_n (pc := 3) g (dt dt_X10_needText 3 rfl) rfl ?_
  refine SW.getR (pc := 4) g (dt dt_X10_needText 4 rfl) fl_X10_10 cell_0 rfl ?_
  refine SW.getI (pc := 7) g (dt dt_X10_needText 5 rfl) fl_X10_102 cell_1 rfl ?_
  refine SW.iload_n (pc := 10) g (dt dt_X10_needText 6 rfl) rfl ?_
  refine SW.mmin (pc := 11) g (dt dt_X10_needText 7 rfl) ml_X10_369 ms_J9_min_7cf53 mt_init me_J9_min_7cf53.1 (Nat.le_of_ble_eq_true rfl) (Nat.le_of_ble_eq_true rfl) (Nat.le_of_ble_eq_true rfl) (Nat.le_of_ble_eq_true rfl) ?_
  obtain ⟨r1, h2, h⟩ := bindI h
  refine SW.callSi (pc := 14) g (dt dt_X10_needText 8 rfl) (mt_f_sx_within _ _ _ _ ad ν lay0   N μ a1 0 (if a2 < (μ 1 3) then a2 else (μ 1 3)) r1 h2) me_X10_within ms_X10_within ml_X10_250 rfl (Nat.le_of_ble_eq_true rfl) (Nat.le_of_ble_eq_true rfl) (Nat.le_of_ble_eq_true rfl) (Nat.le_of_ble_eq_true rfl) rfl ?_
  rcases tbI h with ⟨r3, h4, h⟩ | ⟨r3, h4, rfl⟩
  · refine SW.callXr (pc := 17) (r := none) g (dt dt_X10_needText 9 rfl) (mtx_f_x_need _ _ _ _ ad ν N μ r1 (.inl r3) h4) me_X10_need mv_X10_need ml_X10_289 cell_0 rfl rfl (Nat.le_of_ble_eq_true rfl) (Nat.le_of_ble_eq_true rfl) (Nat.le_of_ble_eq_true rfl) (Nat.le_of_ble_eq_true rfl) rfl rfl ?_
    exact SW.vreturn (pc := 20) g (leafXv h ho) rfl (Nat.le_of_ble_eq_true rfl) (Nat.le_of_ble_eq_true rfl) (dt dt_X10_needText 10 rfl)
  · exact SW.callXt (pc := 17) g (dt dt_X10_needText 9 rfl) ho rfl htab (mtx_f_x_need _ _ _ _ ad ν N μ r1 (.inr r3) h4) me_X10_need mv_X10_need ml_X10_289 cell_0 rfl rfl (Nat.le_of_ble_eq_true rfl) (Nat.le_of_ble_eq_true rfl) (Nat.le_of_ble_eq_true rfl) (Nat.le_of_ble_eq_true rfl) rfl
set_option maxRecDepth 100000 in
set_option maxHeartbeats 4000000 in
theorem mtx_f_x_needText (l : Launch) (D : va_G) (cI cL : ClassId) (ad : Nat → Nat) (ν : sw_N) (N : Nat) (μ : sw_M) (a1 : Int32) (a2 : Int32) (o : sw_M ⊕ (String × sw_M)) (h : f_x_needText N μ a1 a2 = some o) : MetX l D cI cL yX10_needText cX10_needText 3 none 9 1 6 (fun a => a = ad) ad [.ref 0, .int a1, .int a2] lay0 μ ν (xo_v o).1 lay0 (xo_v o).2 ν :=
  MetX.of (n := 0) rfl (Nat.le_of_ble_eq_true rfl) (fun G g ho hm htab => ok_f_x_needText  g hm htab  μ ho a1 a2 h)
def f_x_country (N : Nat)  (μ : sw_M) (a1 : Int32) : Option ((Int32 × sw_M) ⊕ (String × sw_M)) :=
  tb (f_x_needText N μ a1 600) (fun r1 =>
    Option.bind (f_tape_open N  r1 a1) (fun r3 =>
      Option.bind (f_landR_read N  r3 ) (fun r5 =>
        if r5.1 = 0 then
          some (.inl ((r5.2 1 7) - 10, r5.2))
        else
          Option.bind (f_land_copy N  r5.2 ) (fun r7 =>
            Option.bind (f_law_clear N  r7 ) (fun r9 =>
              Option.bind (f_book_clear N  r9 ) (fun r11 =>
                Option.bind (f_days_begin N  r11 ) (fun r13 =>
                  Option.bind (f_shelf_clear N  r13 ) (fun r15 =>
                    wb (wr r15 41 8 0) (fun μ17 =>
                      some (.inl (μ17 3 1, μ17)))))))))))
set_option maxRecDepth 100000 in
set_option maxHeartbeats 4000000 in
theorem ok_f_x_country {G : sw_G} {ad : Nat → Nat} {ν : sw_N}   {N : Nat} {o : (Int32 × sw_M) ⊕ (String × sw_M)} (g : sw_ok G cX10_country "DeadWires" (some .int) 10 1 6 ad) (hm : G.2.2.1.2.1.maxLocals = 2) (htab : ∀ x ∈ G.2.2.1.2.1.exceptionTable.toList, False)  (μ : sw_M) (ho : sw_out G 1 6 (fun a => a = ad) (xo_i o).1 lay0 (xo_i o).2 ν) (a1 : Int32) (h : f_x_country N  μ a1 = some o) : SW G ad lay0 ν 0 0 0 [some (.ref 0), some (.int a1)] [] μ := by
  unfold f_x_country at h
  refine SW.aload_n (pc := 0) g (dt dt_X10_country 0 rfl) rfl ?_
  refine SW.iload_n (pc := 1) g (dt dt_X10_country 1 rfl) rfl ?_
  refine SW.sipush (pc := 2) (v := 600) g (dt dt_X10_country 2 rfl) ks_600 ?_
  rcases tbI h with ⟨r1, h2, h⟩ | ⟨r1, h2, rfl⟩
  · refine SW.callXr (pc := 5) (r := none) g (dt dt_X10_country 3 rfl) (mtx_f_x_needText _ _ _ _ ad ν N μ a1 600 (.inl r1) h2) me_X10_needText mv_X10_needText ml_X10_106 cell_0 rfl rfl (Nat.le_of_ble_eq_true rfl) (Nat.le_of_ble_eq_true rfl) (Nat.le_of_ble_eq_true rfl) (Nat.le_of_ble_eq_true rfl) rfl rfl ?_
    refine SW.aload_n (pc := 8) g (dt dt_X10_country 4 rfl) rfl ?_
    refine SW.getR (pc := 9) g (dt dt_X10_country 5 rfl) fl_X10_10 cell_0 rfl ?_
    refine SW.iload_n (pc := 12) g (dt dt_X10_country 6 rfl) rfl ?_
    obtain ⟨r3, h4, h⟩ := bindI h
    refine SW.callVv (pc := 13) g (dt dt_X10_country 7 rfl) (mt_f_tape_open _ _ _ _ ad ν   N r1 a1 r3 h4) me_X7_open mv_X7_open ml_X10_110 cell_1 rfl rfl (Nat.le_of_ble_eq_true rfl) (Nat.le_of_ble_eq_true rfl) (Nat.le_of_ble_eq_true rfl) (Nat.le_of_ble_eq_true rfl) rfl ?_
    refine SW.aload_n (pc := 16) g (dt dt_X10_country 8 rfl) rfl ?_
    refine SW.getR (pc := 17) g (dt dt_X10_country 9 rfl) fl_X10_23 cell_0 rfl ?_
    refine SW.aload_n (pc := 20) g (dt dt_X10_country 10 rfl) rfl ?_
    refine SW.getR (pc := 21) g (dt dt_X10_country 11 rfl) fl_X10_10 cell_0 rfl ?_
    obtain ⟨r5, h6, h⟩ := bindI h
    refine SW.callVi (pc := 24) g (dt dt_X10_country 12 rfl) (mt_f_landR_read _ _ _ _ ad ν   N r3  r5 h6) me_X4_read mv_X4_read ml_X10_113 cell_11 rfl rfl (Nat.le_of_ble_eq_true rfl) (Nat.le_of_ble_eq_true rfl) (Nat.le_of_ble_eq_true rfl) (Nat.le_of_ble_eq_true rfl) rfl ?_
    refine SW.if_ne (pc := 27) (t := 41) g (dt dt_X10_country 13 rfl) rfl (fun hc => ?_) (fun hc => ?_)
    · have h := iteF hc h
      refine SW.aload_n (pc := 41) g (dt dt_X10_country 20 rfl) rfl ?_
      refine SW.getR (pc := 42) g (dt dt_X10_country 21 rfl) fl_X10_19 cell_0 rfl ?_
      refine SW.aload_n (pc := 45) g (dt dt_X10_country 22 rfl) rfl ?_
      refine SW.getR (pc := 46) g (dt dt_X10_country 23 rfl) fl_X10_23 cell_0 rfl ?_
      obtain ⟨r7, h8, h⟩ := bindI h
      refine SW.callVv (pc := 49) g (dt dt_X10_country 24 rfl) (mt_f_land_copy _ _ _ _ ad ν   N r5.2  r7 h8) me_X4_copy mv_X4_copy ml_X10_120 cell_3 rfl rfl (Nat.le_of_ble_eq_true rfl) (Nat.le_of_ble_eq_true rfl) (Nat.le_of_ble_eq_true rfl) (Nat.le_of_ble_eq_true rfl) rfl ?_
      refine SW.aload_n (pc := 52) g (dt dt_X10_country 25 rfl) rfl ?_
      refine SW.getR (pc := 53) g (dt dt_X10_country 26 rfl) fl_X10_29 cell_0 rfl ?_
      obtain ⟨r9, h10, h⟩ := bindI h
      refine SW.callVv (pc := 56) g (dt dt_X10_country 27 rfl) (mt_f_law_clear _ _ _ _ ad ν   N r7  r9 h10) me_X5_clear mv_X5_clear ml_X10_124 cell_19 rfl rfl (Nat.le_of_ble_eq_true rfl) (Nat.le_of_ble_eq_true rfl) (Nat.le_of_ble_eq_true rfl) (Nat.le_of_ble_eq_true rfl) rfl ?_
      refine SW.aload_n (pc := 59) g (dt dt_X10_country 28 rfl) rfl ?_
      refine SW.getR (pc := 60) g (dt dt_X10_country 29 rfl) fl_X10_39 cell_0 rfl ?_
      obtain ⟨r11, h12, h⟩ := bindI h
      refine SW.callVv (pc := 63) g (dt dt_X10_country 30 rfl) (mt_f_book_clear _ _ _ _ ad ν   N r9  r11 h12) me_X1_clear mv_X1_clear ml_X10_127 cell_29 rfl rfl (Nat.le_of_ble_eq_true rfl) (Nat.le_of_ble_eq_true rfl) (Nat.le_of_ble_eq_true rfl) (Nat.le_of_ble_eq_true rfl) rfl ?_
      refine SW.aload_n (pc := 66) g (dt dt_X10_country 31 rfl) rfl ?_
      refine SW.getR (pc := 67) g (dt dt_X10_country 32 rfl) fl_X10_51 cell_0 rfl ?_
      obtain ⟨r13, h14, h⟩ := bindI h
      refine SW.callVv (pc := 70) g (dt dt_X10_country 33 rfl) (mt_f_days_begin _ _ _ _ ad ν   N r11  r13 h14) me_X2_begin mv_X2_begin ml_X10_128 cell_35 rfl rfl (Nat.le_of_ble_eq_true rfl) (Nat.le_of_ble_eq_true rfl) (Nat.le_of_ble_eq_true rfl) (Nat.le_of_ble_eq_true rfl) rfl ?_
      refine SW.aload_n (pc := 73) g (dt dt_X10_country 34 rfl) rfl ?_
      refine SW.getR (pc := 74) g (dt dt_X10_country 35 rfl) fl_X10_67 cell_0 rfl ?_
      obtain ⟨r15, h16, h⟩ := bindI h
      refine SW.callVv (pc := 77) g (dt dt_X10_country 36 rfl) (mt_f_shelf_clear _ _ _ _ ad ν   N r13  r15 h16) me_X6_clear mv_X6_clear ml_X10_131 cell_45 rfl rfl (Nat.le_of_ble_eq_true rfl) (Nat.le_of_ble_eq_true rfl) (Nat.le_of_ble_eq_true rfl) (Nat.le_of_ble_eq_true rfl) rfl ?_
      refine SW.aload_n (pc := 80) g (dt dt_X10_country 37 rfl) rfl ?_
      refine SW.getR (pc := 81) g (dt dt_X10_country 38 rfl) fl_X10_60 cell_0 rfl ?_
      refine SW.iconst (pc := 84) (v := 0) g (dt dt_X10_country 39 rfl) ki_0 ?_
      refine SW.putI (pc := 85) g (dt dt_X10_country 40 rfl) fl_X10_132 cell_41 rfl ?_
      refine SW.genM h (fun μ17 h => ?_)
      refine SW.aload_n (pc := 88) g (dt dt_X10_country 41 rfl) rfl ?_
      refine SW.getR (pc := 89) g (dt dt_X10_country 42 rfl) fl_X10_19 cell_0 rfl ?_
      refine SW.getI (pc := 92) g (dt dt_X10_country 43 rfl) fl_X10_135 cell_3 rfl ?_
      exact SW.ireturn (pc := 95) g (leafXi h ho) rfl (Nat.le_of_ble_eq_true rfl) (Nat.le_of_ble_eq_true rfl) (dt dt_X10_country 44 rfl)
    · have h := iteT hc h
      refine SW.aload_n (pc := 30) g (dt dt_X10_country 14 rfl) rfl ?_
      refine SW.getR (pc := 31) g (dt dt_X10_country 15 rfl) fl_X10_10 cell_0 rfl ?_
      refine SW.getI (pc := 34) g (dt dt_X10_country 16 rfl) fl_X10_117 cell_1 rfl ?_
      refine SW.bipush (pc := 37) (v := 10) g (dt dt_X10_country 17 rfl) kb_10 ?_
      refine SW.isub (pc := 39) g (dt dt_X10_country 18 rfl) ?_
      exact SW.ireturn (pc := 40) g (leafXi h ho) rfl (Nat.le_of_ble_eq_true rfl) (Nat.le_of_ble_eq_true rfl) (dt dt_X10_country 19 rfl)
  · exact SW.callXt (pc := 5) g (dt dt_X10_country 3 rfl) ho rfl htab (mtx_f_x_needText _ _ _ _ ad ν N μ a1 600 (.inr r1) h2) me_X10_needText mv_X10_needText ml_X10_106 cell_0 rfl rfl (Nat.le_of_ble_eq_true rfl) (Nat.le_of_ble_eq_true rfl) (Nat.le_of_ble_eq_true rfl) (Nat.le_of_ble_eq_true rfl) rfl
set_option maxRecDepth 100000 in
set_option maxHeartbeats 4000000 in
theorem mtx_f_x_country (l : Launch) (D : va_G) (cI cL : ClassId) (ad : Nat → Nat) (ν : sw_N) (N : Nat) (μ : sw_M) (a1 : Int32) (o : (Int32 × sw_M) ⊕ (String × sw_M)) (h : f_x_country N μ a1 = some o) : MetX l D cI cL yX10_country cX10_country 2 (some .int) 10 1 6 (fun a => a = ad) ad [.ref 0, .int a1] lay0 μ ν (xo_i o).1 lay0 (xo_i o).2 ν :=
  MetX.of (n := 0) rfl (Nat.le_of_ble_eq_true rfl) (fun G g ho hm htab => ok_f_x_country  g hm htab  μ ho a1 h)
def f_x_law (N : Nat)  (μ : sw_M) (a1 : Int32) : Option ((Int32 × sw_M) ⊕ (String × sw_M)) :=
  tb (f_x_needText N μ a1 150) (fun r1 =>
    Option.bind (f_tape_open N  r1 a1) (fun r3 =>
      Option.bind (f_lawR_read N  r3 ) (fun r5 =>
        if r5.1 = 0 then
          some (.inl ((r5.2 1 7) - 10, r5.2))
        else
          Option.bind (f_law_copy N  r5.2 ) (fun r7 =>
            some (.inl (1, r7))))))
set_option maxRecDepth 100000 in
set_option maxHeartbeats 4000000 in
theorem ok_f_x_law {G : sw_G} {ad : Nat → Nat} {ν : sw_N}   {N : Nat} {o : (Int32 × sw_M) ⊕ (String × sw_M)} (g : sw_ok G cX10_law "DeadWires" (some .int) 49 1 6 ad) (hm : G.2.2.1.2.1.maxLocals = 2) (htab : ∀ x ∈ G.2.2.1.2.1.exceptionTable.toList, False)  (μ : sw_M) (ho : sw_out G 1 6 (fun a => a = ad) (xo_i o).1 lay0 (xo_i o).2 ν) (a1 : Int32) (h : f_x_law N  μ a1 = some o) : SW G ad lay0 ν 0 0 0 [some (.ref 0), some (.int a1)] [] μ := by
  unfold f_x_law at h
  refine SW.aload_n (pc := 0) g (dt dt_X10_law 0 rfl) rfl ?_
  refine SW.iload_n (pc := 1) g (dt dt_X10_law 1 rfl) rfl ?_
  refine SW.sipush (pc := 2) (v := 150) g (dt dt_X10_law 2 rfl) ks_150 ?_
  rcases tbI h with ⟨r1, h2, h⟩ | ⟨r1, h2, rfl⟩
  · refine SW.callXr (pc := 5) (r := none) g (dt dt_X10_law 3 rfl) (mtx_f_x_needText _ _ _ _ ad ν N μ a1 150 (.inl r1) h2) me_X10_needText mv_X10_needText ml_X10_106 cell_0 rfl rfl (Nat.le_of_ble_eq_true rfl) (Nat.le_of_ble_eq_true rfl) (Nat.le_of_ble_eq_true rfl) (Nat.le_of_ble_eq_true rfl) rfl rfl ?_
    refine SW.aload_n (pc := 8) g (dt dt_X10_law 4 rfl) rfl ?_
    refine SW.getR (pc := 9) g (dt dt_X10_law 5 rfl) fl_X10_10 cell_0 rfl ?_
    refine SW.iload_n (pc := 12) g (dt dt_X10_law 6 rfl) rfl ?_
    obtain ⟨r3, h4, h⟩ := bindI h
    refine SW.callVv (pc := 13) g (dt dt_X10_law 7 rfl) (mt_f_tape_open _ _ _ _ ad ν   N r1 a1 r3 h4) me_X7_open mv_X7_open ml_X10_110 cell_1 rfl rfl (Nat.le_of_ble_eq_true rfl) (Nat.le_of_ble_eq_true rfl) (Nat.le_of_ble_eq_true rfl) (Nat.le_of_ble_eq_true rfl) rfl ?_
    refine SW.aload_n (pc := 16) g (dt dt_X10_law 8 rfl) rfl ?_
    refine SW.getR (pc := 17) g (dt dt_X10_law 9 rfl) fl_X10_33 cell_0 rfl ?_
    refine SW.aload_n (pc := 20) g (dt dt_X10_law 10 rfl) rfl ?_
    refine SW.getR (pc := 21) g (dt dt_X10_law 11 rfl) fl_X10_10 cell_0 rfl ?_
    obtain ⟨r5, h6, h⟩ := bindI h
    refine SW.callVi (pc := 24) g (dt dt_X10_law 12 rfl) (mt_f_lawR_read _ _ _ _ ad ν   N r3  r5 h6) me_X5_read mv_X5_read ml_X10_138 cell_24 rfl rfl (Nat.le_of_ble_eq_true rfl) (Nat.le_of_ble_eq_true rfl) (Nat.le_of_ble_eq_true rfl) (Nat.le_of_ble_eq_true rfl) rfl ?_
    refine SW.if_ne (pc := 27) (t := 41) g (dt dt_X10_law 13 rfl) rfl (fun hc => ?_) (fun hc => ?_)
    · have h := iteF hc h
      refine SW.aload_n (pc := 41) g (dt dt_X10_law 20 rfl) rfl ?_
      refine SW.getR (pc := 42) g (dt dt_X10_law 21 rfl) fl_X10_29 cell_0 rfl ?_
      refine SW.aload_n (pc := 45) g (dt dt_X10_law 22 rfl) rfl ?_
      refine SW.getR (pc := 46) g (dt dt_X10_law 23 rfl) fl_X10_33 cell_0 rfl ?_
      obtain ⟨r7, h8, h⟩ := bindI h
      refine SW.callVv (pc := 49) g (dt dt_X10_law 24 rfl) (mt_f_law_copy _ _ _ _ ad ν   N r5.2  r7 h8) me_X5_copy mv_X5_copy ml_X10_139 cell_19 rfl rfl (Nat.le_of_ble_eq_true rfl) (Nat.le_of_ble_eq_true rfl) (Nat.le_of_ble_eq_true rfl) (Nat.le_of_ble_eq_true rfl) rfl ?_
      refine SW.iconst (pc := 52) (v := 1) g (dt dt_X10_law 25 rfl) ki_1 ?_
      exact SW.ireturn (pc := 53) g (leafXi h ho) rfl (Nat.le_of_ble_eq_true rfl) (Nat.le_of_ble_eq_true rfl) (dt dt_X10_law 26 rfl)
    · have h := iteT hc h
      refine SW.aload_n (pc := 30) g (dt dt_X10_law 14 rfl) rfl ?_
      refine SW.getR (pc := 31) g (dt dt_X10_law 15 rfl) fl_X10_10 cell_0 rfl ?_
      refine SW.getI (pc := 34) g (dt dt_X10_law 16 rfl) fl_X10_117 cell_1 rfl ?_
      refine SW.bipush (pc := 37) (v := 10) g (dt dt_X10_law 17 rfl) kb_10 ?_
      refine SW.isub (pc := 39) g (dt dt_X10_law 18 rfl) ?_
      exact SW.ireturn (pc := 40) g (leafXi h ho) rfl (Nat.le_of_ble_eq_true rfl) (Nat.le_of_ble_eq_true rfl) (dt dt_X10_law 19 rfl)
  · exact SW.callXt (pc := 5) g (dt dt_X10_law 3 rfl) ho rfl htab (mtx_f_x_needText _ _ _ _ ad ν N μ a1 150 (.inr r1) h2) me_X10_needText mv_X10_needText ml_X10_106 cell_0 rfl rfl (Nat.le_of_ble_eq_true rfl) (Nat.le_of_ble_eq_true rfl) (Nat.le_of_ble_eq_true rfl) (Nat.le_of_ble_eq_true rfl) rfl
set_option maxRecDepth 100000 in
set_option maxHeartbeats 4000000 in
theorem mtx_f_x_law (l : Launch) (D : va_G) (cI cL : ClassId) (ad : Nat → Nat) (ν : sw_N) (N : Nat) (μ : sw_M) (a1 : Int32) (o : (Int32 × sw_M) ⊕ (String × sw_M)) (h : f_x_law N μ a1 = some o) : MetX l D cI cL yX10_law cX10_law 2 (some .int) 49 1 6 (fun a => a = ad) ad [.ref 0, .int a1] lay0 μ ν (xo_i o).1 lay0 (xo_i o).2 ν :=
  MetX.of (n := 0) rfl (Nat.le_of_ble_eq_true rfl) (fun G g ho hm htab => ok_f_x_law  g hm htab  μ ho a1 h)
def f_x_work (N : Nat)  (μ : sw_M) (a1 : Int32) : Option ((Int32 × sw_M) ⊕ (String × sw_M)) :=
  tb (f_x_needText N μ a1 150) (fun r1 =>
    if (r1 45 4) < 16 then
      Option.bind (f_tape_open N  r1 a1) (fun r3 =>
        Option.bind (f_work_read N  r3 ) (fun r5 =>
          if r5.1 = 0 then
            some (.inl ((r5.2 1 7) - 10, r5.2))
          else
            Option.bind (f_shelf_keep N  r5.2 ) (fun r7 =>
              Option.bind (f_work_run N  r7 ) (fun r9 =>
                some (.inl (r9 41 7, r9))))))
    else
      Option.bind (f_tape_drop N  r1 ) (fun r11 =>
        some (.inl ((-20), r11))))
set_option maxRecDepth 100000 in
set_option maxHeartbeats 4000000 in
theorem ok_f_x_work {G : sw_G} {ad : Nat → Nat} {ν : sw_N}   {N : Nat} {o : (Int32 × sw_M) ⊕ (String × sw_M)} (g : sw_ok G cX10_work "DeadWires" (some .int) 48 1 6 ad) (hm : G.2.2.1.2.1.maxLocals = 2) (htab : ∀ x ∈ G.2.2.1.2.1.exceptionTable.toList, False)  (μ : sw_M) (ho : sw_out G 1 6 (fun a => a = ad) (xo_i o).1 lay0 (xo_i o).2 ν) (a1 : Int32) (h : f_x_work N  μ a1 = some o) : SW G ad lay0 ν 0 0 0 [some (.ref 0), some (.int a1)] [] μ := by
  unfold f_x_work at h
  refine SW.aload_n (pc := 0) g (dt dt_X10_work 0 rfl) rfl ?_
  refine SW.iload_n (pc := 1) g (dt dt_X10_work 1 rfl) rfl ?_
  refine SW.sipush (pc := 2) (v := 150) g (dt dt_X10_work 2 rfl) ks_150 ?_
  rcases tbI h with ⟨r1, h2, h⟩ | ⟨r1, h2, rfl⟩
  · refine SW.callXr (pc := 5) (r := none) g (dt dt_X10_work 3 rfl) (mtx_f_x_needText _ _ _ _ ad ν N μ a1 150 (.inl r1) h2) me_X10_needText mv_X10_needText ml_X10_106 cell_0 rfl rfl (Nat.le_of_ble_eq_true rfl) (Nat.le_of_ble_eq_true rfl) (Nat.le_of_ble_eq_true rfl) (Nat.le_of_ble_eq_true rfl) rfl rfl ?_
    refine SW.aload_n (pc := 8) g (dt dt_X10_work 4 rfl) rfl ?_
    refine SW.getR (pc := 9) g (dt dt_X10_work 5 rfl) fl_X10_67 cell_0 rfl ?_
    refine SW.getI (pc := 12) g (dt dt_X10_work 6 rfl) fl_X10_142 cell_45 rfl ?_
    refine SW.bipush (pc := 15) (v := 16) g (dt dt_X10_work 7 rfl) kb_16 ?_
    refine SW.icmp_lt (pc := 17) (t := 30) g (dt dt_X10_work 8 rfl) rfl (fun hc => ?_) (fun hc => ?_)
    · have h := iteT hc h
      refine SW.aload_n (pc := 30) g (dt dt_X10_work 14 rfl) rfl ?_
      refine SW.getR (pc := 31) g (dt dt_X10_work 15 rfl) fl_X10_10 cell_0 rfl ?_
      refine SW.iload_n (pc := 34) g (dt dt_X10_work 16 rfl) rfl ?_
      obtain ⟨r3, h4, h⟩ := bindI h
      refine SW.callVv (pc := 35) g (dt dt_X10_work 17 rfl) (mt_f_tape_open _ _ _ _ ad ν   N r1 a1 r3 h4) me_X7_open mv_X7_open ml_X10_110 cell_1 rfl rfl (Nat.le_of_ble_eq_true rfl) (Nat.le_of_ble_eq_true rfl) (Nat.le_of_ble_eq_true rfl) (Nat.le_of_ble_eq_true rfl) rfl ?_
      refine SW.aload_n (pc := 38) g (dt dt_X10_work 18 rfl) rfl ?_
      refine SW.getR (pc := 39) g (dt dt_X10_work 19 rfl) fl_X10_60 cell_0 rfl ?_
      refine SW.aload_n (pc := 42) g (dt dt_X10_work 20 rfl) rfl ?_
      refine SW.getR (pc := 43) g (dt dt_X10_work 21 rfl) fl_X10_10 cell_0 rfl ?_
      obtain ⟨r5, h6, h⟩ := bindI h
      refine SW.callVi (pc := 46) g (dt dt_X10_work 22 rfl) (mt_f_work_read _ _ _ _ ad ν   N r3  r5 h6) me_X9_read mv_X9_read ml_X10_148 cell_41 rfl rfl (Nat.le_of_ble_eq_true rfl) (Nat.le_of_ble_eq_true rfl) (Nat.le_of_ble_eq_true rfl) (Nat.le_of_ble_eq_true rfl) rfl ?_
      refine SW.if_ne (pc := 49) (t := 63) g (dt dt_X10_work 23 rfl) rfl (fun hc => ?_) (fun hc => ?_)
      · have h := iteF hc h
        refine SW.aload_n (pc := 63) g (dt dt_X10_work 30 rfl) rfl ?_
        refine SW.getR (pc := 64) g (dt dt_X10_work 31 rfl) fl_X10_67 cell_0 rfl ?_
        obtain ⟨r7, h8, h⟩ := bindI h
        refine SW.callVv (pc := 67) g (dt dt_X10_work 32 rfl) (mt_f_shelf_keep _ _ _ _ ad ν   N r5.2  r7 h8) me_X6_keep mv_X6_keep ml_X10_149 cell_45 rfl rfl (Nat.le_of_ble_eq_true rfl) (Nat.le_of_ble_eq_true rfl) (Nat.le_of_ble_eq_true rfl) (Nat.le_of_ble_eq_true rfl) rfl ?_
        refine SW.aload_n (pc := 70) g (dt dt_X10_work 33 rfl) rfl ?_
        refine SW.getR (pc := 71) g (dt dt_X10_work 34 rfl) fl_X10_60 cell_0 rfl ?_
        obtain ⟨r9, h10, h⟩ := bindI h
        refine SW.callVv (pc := 74) g (dt dt_X10_work 35 rfl) (mt_f_work_run _ _ _ _ ad ν   N r7  r9 h10) me_X9_run mv_X9_run ml_X10_152 cell_41 rfl rfl (Nat.le_of_ble_eq_true rfl) (Nat.le_of_ble_eq_true rfl) (Nat.le_of_ble_eq_true rfl) (Nat.le_of_ble_eq_true rfl) rfl ?_
        refine SW.aload_n (pc := 77) g (dt dt_X10_work 36 rfl) rfl ?_
        refine SW.getR (pc := 78) g (dt dt_X10_work 37 rfl) fl_X10_60 cell_0 rfl ?_
        refine SW.getI (pc := 81) g (dt dt_X10_work 38 rfl) fl_X10_155 cell_41 rfl ?_
        exact SW.ireturn (pc := 84) g (leafXi h ho) rfl (Nat.le_of_ble_eq_true rfl) (Nat.le_of_ble_eq_true rfl) (dt dt_X10_work 39 rfl)
      · have h := iteT hc h
        refine SW.aload_n (pc := 52) g (dt dt_X10_work 24 rfl) rfl ?_
        refine SW.getR (pc := 53) g (dt dt_X10_work 25 rfl) fl_X10_10 cell_0 rfl ?_
        refine SW.getI (pc := 56) g (dt dt_X10_work 26 rfl) fl_X10_117 cell_1 rfl ?_
        refine SW.bipush (pc := 59) (v := 10) g (dt dt_X10_work 27 rfl) kb_10 ?_
        refine SW.isub (pc := 61) g (dt dt_X10_work 28 rfl) ?_
        exact SW.ireturn (pc := 62) g (leafXi h ho) rfl (Nat.le_of_ble_eq_true rfl) (Nat.le_of_ble_eq_true rfl) (dt dt_X10_work 29 rfl)
    · have h := iteF hc h
      refine SW.aload_n (pc := 20) g (dt dt_X10_work 9 rfl) rfl ?_
      refine SW.getR (pc := 21) g (dt dt_X10_work 10 rfl) fl_X10_10 cell_0 rfl ?_
      obtain ⟨r11, h12, h⟩ := bindI h
      refine SW.callVv (pc := 24) g (dt dt_X10_work 11 rfl) (mt_f_tape_drop _ _ _ _ ad ν   N r1  r11 h12) me_X7_drop mv_X7_drop ml_X10_145 cell_1 rfl rfl (Nat.le_of_ble_eq_true rfl) (Nat.le_of_ble_eq_true rfl) (Nat.le_of_ble_eq_true rfl) (Nat.le_of_ble_eq_true rfl) rfl ?_
      refine SW.bipush (pc := 27) (v := (-20)) g (dt dt_X10_work 12 rfl) kb_m20 ?_
      exact SW.ireturn (pc := 29) g (leafXi h ho) rfl (Nat.le_of_ble_eq_true rfl) (Nat.le_of_ble_eq_true rfl) (dt dt_X10_work 13 rfl)
  · exact SW.callXt (pc := 5) g (dt dt_X10_work 3 rfl) ho rfl htab (mtx_f_x_needText _ _ _ _ ad ν N μ a1 150 (.inr r1) h2) me_X10_needText mv_X10_needText ml_X10_106 cell_0 rfl rfl (Nat.le_of_ble_eq_true rfl) (Nat.le_of_ble_eq_true rfl) (Nat.le_of_ble_eq_true rfl) (Nat.le_of_ble_eq_true rfl) rfl
set_option maxRecDepth 100000 in
set_option maxHeartbeats 4000000 in
theorem mtx_f_x_work (l : Launch) (D : va_G) (cI cL : ClassId) (ad : Nat → Nat) (ν : sw_N) (N : Nat) (μ : sw_M) (a1 : Int32) (o : (Int32 × sw_M) ⊕ (String × sw_M)) (h : f_x_work N μ a1 = some o) : MetX l D cI cL yX10_work cX10_work 2 (some .int) 48 1 6 (fun a => a = ad) ad [.ref 0, .int a1] lay0 μ ν (xo_i o).1 lay0 (xo_i o).2 ν :=
  MetX.of (n := 0) rfl (Nat.le_of_ble_eq_true rfl) (fun G g ho hm htab => ok_f_x_work  g hm htab  μ ho a1 h)
def f_x_book (N : Nat)  (μ : sw_M) (a1 : Int32) : Option ((Int32 × sw_M) ⊕ (String × sw_M)) :=
  tb (f_x_needText N μ a1 60) (fun r1 =>
    Option.bind (f_tape_open N  r1 a1) (fun r3 =>
      Option.bind (f_bookR_read N  r3 ) (fun r5 =>
        if r5.1 = 0 then
          some (.inl ((r5.2 1 7) - 10, r5.2))
        else
          Option.bind (f_book_copy N  r5.2 ) (fun r7 =>
            some (.inl (r7 29 0, r7))))))
set_option maxRecDepth 100000 in
set_option maxHeartbeats 4000000 in
theorem ok_f_x_book {G : sw_G} {ad : Nat → Nat} {ν : sw_N}   {N : Nat} {o : (Int32 × sw_M) ⊕ (String × sw_M)} (g : sw_ok G cX10_book "DeadWires" (some .int) 10 1 6 ad) (hm : G.2.2.1.2.1.maxLocals = 2) (htab : ∀ x ∈ G.2.2.1.2.1.exceptionTable.toList, False)  (μ : sw_M) (ho : sw_out G 1 6 (fun a => a = ad) (xo_i o).1 lay0 (xo_i o).2 ν) (a1 : Int32) (h : f_x_book N  μ a1 = some o) : SW G ad lay0 ν 0 0 0 [some (.ref 0), some (.int a1)] [] μ := by
  unfold f_x_book at h
  refine SW.aload_n (pc := 0) g (dt dt_X10_book 0 rfl) rfl ?_
  refine SW.iload_n (pc := 1) g (dt dt_X10_book 1 rfl) rfl ?_
  refine SW.bipush (pc := 2) (v := 60) g (dt dt_X10_book 2 rfl) kb_60 ?_
  rcases tbI h with ⟨r1, h2, h⟩ | ⟨r1, h2, rfl⟩
  · refine SW.callXr (pc := 4) (r := none) g (dt dt_X10_book 3 rfl) (mtx_f_x_needText _ _ _ _ ad ν N μ a1 60 (.inl r1) h2) me_X10_needText mv_X10_needText ml_X10_106 cell_0 rfl rfl (Nat.le_of_ble_eq_true rfl) (Nat.le_of_ble_eq_true rfl) (Nat.le_of_ble_eq_true rfl) (Nat.le_of_ble_eq_true rfl) rfl rfl ?_
    refine SW.aload_n (pc := 7) g (dt dt_X10_book 4 rfl) rfl ?_
    refine SW.getR (pc := 8) g (dt dt_X10_book 5 rfl) fl_X10_10 cell_0 rfl ?_
    refine SW.iload_n (pc := 11) g (dt dt_X10_book 6 rfl) rfl ?_
    obtain ⟨r3, h4, h⟩ := bindI h
    refine SW.callVv (pc := 12) g (dt dt_X10_book 7 rfl) (mt_f_tape_open _ _ _ _ ad ν   N r1 a1 r3 h4) me_X7_open mv_X7_open ml_X10_110 cell_1 rfl rfl (Nat.le_of_ble_eq_true rfl) (Nat.le_of_ble_eq_true rfl) (Nat.le_of_ble_eq_true rfl) (Nat.le_of_ble_eq_true rfl) rfl ?_
    refine SW.aload_n (pc := 15) g (dt dt_X10_book 8 rfl) rfl ?_
    refine SW.getR (pc := 16) g (dt dt_X10_book 9 rfl) fl_X10_43 cell_0 rfl ?_
    refine SW.aload_n (pc := 19) g (dt dt_X10_book 10 rfl) rfl ?_
    refine SW.getR (pc := 20) g (dt dt_X10_book 11 rfl) fl_X10_10 cell_0 rfl ?_
    obtain ⟨r5, h6, h⟩ := bindI h
    refine SW.callVi (pc := 23) g (dt dt_X10_book 12 rfl) (mt_f_bookR_read _ _ _ _ ad ν   N r3  r5 h6) me_X1_read mv_X1_read ml_X10_158 cell_32 rfl rfl (Nat.le_of_ble_eq_true rfl) (Nat.le_of_ble_eq_true rfl) (Nat.le_of_ble_eq_true rfl) (Nat.le_of_ble_eq_true rfl) rfl ?_
    refine SW.if_ne (pc := 26) (t := 40) g (dt dt_X10_book 13 rfl) rfl (fun hc => ?_) (fun hc => ?_)
    · have h := iteF hc h
      refine SW.aload_n (pc := 40) g (dt dt_X10_book 20 rfl) rfl ?_
      refine SW.getR (pc := 41) g (dt dt_X10_book 21 rfl) fl_X10_39 cell_0 rfl ?_
      refine SW.aload_n (pc := 44) g (dt dt_X10_book 22 rfl) rfl ?_
      refine SW.getR (pc := 45) g (dt dt_X10_book 23 rfl) fl_X10_43 cell_0 rfl ?_
      obtain ⟨r7, h8, h⟩ := bindI h
      refine SW.callVv (pc := 48) g (dt dt_X10_book 24 rfl) (mt_f_book_copy _ _ _ _ ad ν   N r5.2  r7 h8) me_X1_copy mv_X1_copy ml_X10_159 cell_29 rfl rfl (Nat.le_of_ble_eq_true rfl) (Nat.le_of_ble_eq_true rfl) (Nat.le_of_ble_eq_true rfl) (Nat.le_of_ble_eq_true rfl) rfl ?_
      refine SW.aload_n (pc := 51) g (dt dt_X10_book 25 rfl) rfl ?_
      refine SW.getR (pc := 52) g (dt dt_X10_book 26 rfl) fl_X10_39 cell_0 rfl ?_
      refine SW.getI (pc := 55) g (dt dt_X10_book 27 rfl) fl_X10_162 cell_29 rfl ?_
      exact SW.ireturn (pc := 58) g (leafXi h ho) rfl (Nat.le_of_ble_eq_true rfl) (Nat.le_of_ble_eq_true rfl) (dt dt_X10_book 28 rfl)
    · have h := iteT hc h
      refine SW.aload_n (pc := 29) g (dt dt_X10_book 14 rfl) rfl ?_
      refine SW.getR (pc := 30) g (dt dt_X10_book 15 rfl) fl_X10_10 cell_0 rfl ?_
      refine SW.getI (pc := 33) g (dt dt_X10_book 16 rfl) fl_X10_117 cell_1 rfl ?_
      refine SW.bipush (pc := 36) (v := 10) g (dt dt_X10_book 17 rfl) kb_10 ?_
      refine SW.isub (pc := 38) g (dt dt_X10_book 18 rfl) ?_
      exact SW.ireturn (pc := 39) g (leafXi h ho) rfl (Nat.le_of_ble_eq_true rfl) (Nat.le_of_ble_eq_true rfl) (dt dt_X10_book 19 rfl)
  · exact SW.callXt (pc := 4) g (dt dt_X10_book 3 rfl) ho rfl htab (mtx_f_x_needText _ _ _ _ ad ν N μ a1 60 (.inr r1) h2) me_X10_needText mv_X10_needText ml_X10_106 cell_0 rfl rfl (Nat.le_of_ble_eq_true rfl) (Nat.le_of_ble_eq_true rfl) (Nat.le_of_ble_eq_true rfl) (Nat.le_of_ble_eq_true rfl) rfl
set_option maxRecDepth 100000 in
set_option maxHeartbeats 4000000 in
theorem mtx_f_x_book (l : Launch) (D : va_G) (cI cL : ClassId) (ad : Nat → Nat) (ν : sw_N) (N : Nat) (μ : sw_M) (a1 : Int32) (o : (Int32 × sw_M) ⊕ (String × sw_M)) (h : f_x_book N μ a1 = some o) : MetX l D cI cL yX10_book cX10_book 2 (some .int) 10 1 6 (fun a => a = ad) ad [.ref 0, .int a1] lay0 μ ν (xo_i o).1 lay0 (xo_i o).2 ν :=
  MetX.of (n := 0) rfl (Nat.le_of_ble_eq_true rfl) (fun G g ho hm htab => ok_f_x_book  g hm htab  μ ho a1 h)
def f_x_fault (N : Nat)  (μ : sw_M)  : Option (Int32) :=
  some (μ 1 8)
set_option maxRecDepth 100000 in
set_option maxHeartbeats 4000000 in
theorem ok_f_x_fault {G : sw_G} {ad : Nat → Nat} {ν : sw_N}   {N : Nat} {o : Int32} (g : sw_ok G cX10_fault "DeadWires" (some .int) 1 0 0 ad) (hm : G.2.2.1.2.1.maxLocals = 1)  (μ : sw_M) (ho : sw_out G 0 0 (fun a => a = ad) (.inl (some (.int o))) lay0 μ ν)  (h : f_x_fault N  μ  = some o) : SW G ad lay0 ν 0 0 0 [some (.ref 0)] [] μ := by
  unfold f_x_fault at h
  refine SW.aload_n (pc := 0) g (dt dt_X10_fault 0 rfl) rfl ?_
  refine SW.getR (pc := 1) g (dt dt_X10_fault 1 rfl) fl_X10_10 cell_0 rfl ?_
  refine SW.getI (pc := 4) g (dt dt_X10_fault 2 rfl) fl_X10_165 cell_1 rfl ?_
  exact SW.ireturn (pc := 7) g (leafI h ho) rfl (Nat.le_of_ble_eq_true rfl) (Nat.le_of_ble_eq_true rfl) (dt dt_X10_fault 3 rfl)
set_option maxRecDepth 100000 in
set_option maxHeartbeats 4000000 in
theorem mt_f_x_fault (l : Launch) (D : va_G) (cI cL : ClassId) (ad : Nat → Nat) (ν : sw_N)    (N : Nat) (μ : sw_M)  (o : Int32) (h : f_x_fault N  μ  = some o) : MetR l D cI cL yX10_fault cX10_fault 1 (some .int) 1 0 0 (fun a => a = ad) ad [.ref 0] lay0 μ ν (some (.int o)) lay0 μ ν :=
  MetR.of (n := 0) rfl (Nat.le_of_ble_eq_true rfl) (fun G g ho hm _ _ => ok_f_x_fault  g hm  μ ho  h)
def f_x_undo (N : Nat)  (μ : sw_M)  : Option (Int32 × sw_M) :=
  if 0 < (μ 45 4) then
    Option.bind (f_shelf_back N  μ ) (fun r1 =>
      wb (wr r1 41 8 0) (fun μ3 =>
        some (μ3 45 4, μ3)))
  else
    some ((-1), μ)
set_option maxRecDepth 100000 in
set_option maxHeartbeats 4000000 in
theorem ok_f_x_undo {G : sw_G} {ad : Nat → Nat} {ν : sw_N}   {N : Nat} {o : Int32 × sw_M} (g : sw_ok G cX10_undo "DeadWires" (some .int) 4 0 0 ad) (hm : G.2.2.1.2.1.maxLocals = 1)  (μ : sw_M) (ho : sw_out G 0 0 (fun a => a = ad) (.inl (some (.int o.1))) lay0 o.2 ν)  (h : f_x_undo N  μ  = some o) : SW G ad lay0 ν 0 0 0 [some (.ref 0)] [] μ := by
  unfold f_x_undo at h
  refine SW.aload_n (pc := 0) g (dt dt_X10_undo 0 rfl) rfl ?_
  refine SW.getR (pc := 1) g (dt dt_X10_undo 1 rfl) fl_X10_67 cell_0 rfl ?_
  refine SW.getI (pc := 4) g (dt dt_X10_undo 2 rfl) fl_X10_142 cell_45 rfl ?_
  refine SW.if_gt (pc := 7) (t := 12) g (dt dt_X10_undo 3 rfl) rfl (fun hc => ?_) (fun hc => ?_)
  · have h := iteT hc h
    refine SW.aload_n (pc := 12) g (dt dt_X10_undo 6 rfl) rfl ?_
    refine SW.getR (pc := 13) g (dt dt_X10_undo 7 rfl) fl_X10_67 cell_0 rfl ?_
    obtain ⟨r1, h2, h⟩ := bindI h
    refine SW.callVv (pc := 16) g (dt dt_X10_undo 8 rfl) (mt_f_shelf_back _ _ _ _ ad ν   N μ  r1 h2) me_X6_back mv_X6_back ml_X10_168 cell_45 rfl rfl (Nat.le_of_ble_eq_true rfl) (Nat.le_of_ble_eq_true rfl) (Nat.le_of_ble_eq_true rfl) (Nat.le_of_ble_eq_true rfl) rfl ?_
    refine SW.aload_n (pc := 19) g (dt dt_X10_undo 9 rfl) rfl ?_
    refine SW.getR (pc := 20) g (dt dt_X10_undo 10 rfl) fl_X10_60 cell_0 rfl ?_
    refine SW.iconst (pc := 23) (v := 0) g (dt dt_X10_undo 11 rfl) ki_0 ?_
    refine SW.putI (pc := 24) g (dt dt_X10_undo 12 rfl) fl_X10_132 cell_41 rfl ?_
    refine SW.genM h (fun μ3 h => ?_)
    refine SW.aload_n (pc := 27) g (dt dt_X10_undo 13 rfl) rfl ?_
    refine SW.getR (pc := 28) g (dt dt_X10_undo 14 rfl) fl_X10_67 cell_0 rfl ?_
    refine SW.getI (pc := 31) g (dt dt_X10_undo 15 rfl) fl_X10_142 cell_45 rfl ?_
    exact SW.ireturn (pc := 34) g (leafW h ho) rfl (Nat.le_of_ble_eq_true rfl) (Nat.le_of_ble_eq_true rfl) (dt dt_X10_undo 16 rfl)
  · have h := iteF hc h
    refine SW.iconst (pc := 10) (v := (-1)) g (dt dt_X10_undo 4 rfl) ki_m1 ?_
    exact SW.ireturn (pc := 11) g (leafW h ho) rfl (Nat.le_of_ble_eq_true rfl) (Nat.le_of_ble_eq_true rfl) (dt dt_X10_undo 5 rfl)
set_option maxRecDepth 100000 in
set_option maxHeartbeats 4000000 in
theorem mt_f_x_undo (l : Launch) (D : va_G) (cI cL : ClassId) (ad : Nat → Nat) (ν : sw_N)    (N : Nat) (μ : sw_M)  (o : Int32 × sw_M) (h : f_x_undo N  μ  = some o) : MetR l D cI cL yX10_undo cX10_undo 1 (some .int) 4 0 0 (fun a => a = ad) ad [.ref 0] lay0 μ ν (some (.int o.1)) lay0 o.2 ν :=
  MetR.of (n := 0) rfl (Nat.le_of_ble_eq_true rfl) (fun G g ho hm _ _ => ok_f_x_undo  g hm  μ ho  h)
def f_x_needWhat (N : Nat)  (μ : sw_M) (a1 : Int32) (a2 : Int32) : Option (sw_M ⊕ (String × sw_M)) :=
  Option.bind (f_sx_within N  μ a1 0 a2) (fun r1 =>
    tb (f_x_need N μ r1) (fun r3 =>
      some (.inl r3)))
set_option maxRecDepth 100000 in
set_option maxHeartbeats 4000000 in
theorem ok_f_x_needWhat {G : sw_G} {ad : Nat → Nat} {ν : sw_N}   {N : Nat} {o : sw_M ⊕ (String × sw_M)} (g : sw_ok G cX10_needWhat "DeadWires" none 9 1 6 ad) (hm : G.2.2.1.2.1.maxLocals = 3) (htab : ∀ x ∈ G.2.2.1.2.1.exceptionTable.toList, False)  (μ : sw_M) (ho : sw_out G 1 6 (fun a => a = ad) (xo_v o).1 lay0 (xo_v o).2 ν) (a1 : Int32) (a2 : Int32) (h : f_x_needWhat N  μ a1 a2 = some o) : SW G ad lay0 ν 0 0 0 [some (.ref 0), some (.int a1), some (.int a2)] [] μ := by
  unfold f_x_needWhat at h
  refine SW.aload_n (pc := 0) g (dt dt_X10_needWhat 0 rfl) rfl ?_
  refine SW.iload_n (pc := 1) g (dt dt_X10_needWhat 1 rfl) rfl ?_
  refine SW.iconst (pc := 2) (v := 0) g (dt dt_X10_needWhat 2 rfl) ki_0 ?_
  refine SW.iload_n (pc := 3) g (dt dt_X10_needWhat 3 rfl) rfl ?_
  obtain ⟨r1, h2, h⟩ := bindI h
  refine SW.callSi (pc := 4) g (dt dt_X10_needWhat 4 rfl) (mt_f_sx_within _ _ _ _ ad ν lay0   N μ a1 0 a2 r1 h2) me_X10_within ms_X10_within ml_X10_250 rfl (Nat.le_of_ble_eq_true rfl) (Nat.le_of_ble_eq_true rfl) (Nat.le_of_ble_eq_true rfl) (Nat.le_of_ble_eq_true rfl) rfl ?_
  rcases tbI h with ⟨r3, h4, h⟩ | ⟨r3, h4, rfl⟩
  · refine SW.callXr (pc := 7) (r := none) g (dt dt_X10_needWhat 5 rfl) (mtx_f_x_need _ _ _ _ ad ν N μ r1 (.inl r3) h4) me_X10_need mv_X10_need ml_X10_289 cell_0 rfl rfl (Nat.le_of_ble_eq_true rfl) (Nat.le_of_ble_eq_true rfl) (Nat.le_of_ble_eq_true rfl) (Nat.le_of_ble_eq_true rfl) rfl rfl ?_
    exact SW.vreturn (pc := 10) g (leafXv h ho) rfl (Nat.le_of_ble_eq_true rfl) (Nat.le_of_ble_eq_true rfl) (dt dt_X10_needWhat 6 rfl)
  · exact SW.callXt (pc := 7) g (dt dt_X10_needWhat 5 rfl) ho rfl htab (mtx_f_x_need _ _ _ _ ad ν N μ r1 (.inr r3) h4) me_X10_need mv_X10_need ml_X10_289 cell_0 rfl rfl (Nat.le_of_ble_eq_true rfl) (Nat.le_of_ble_eq_true rfl) (Nat.le_of_ble_eq_true rfl) (Nat.le_of_ble_eq_true rfl) rfl
set_option maxRecDepth 100000 in
set_option maxHeartbeats 4000000 in
theorem mtx_f_x_needWhat (l : Launch) (D : va_G) (cI cL : ClassId) (ad : Nat → Nat) (ν : sw_N) (N : Nat) (μ : sw_M) (a1 : Int32) (a2 : Int32) (o : sw_M ⊕ (String × sw_M)) (h : f_x_needWhat N μ a1 a2 = some o) : MetX l D cI cL yX10_needWhat cX10_needWhat 3 none 9 1 6 (fun a => a = ad) ad [.ref 0, .int a1, .int a2] lay0 μ ν (xo_v o).1 lay0 (xo_v o).2 ν :=
  MetX.of (n := 0) rfl (Nat.le_of_ble_eq_true rfl) (fun G g ho hm htab => ok_f_x_needWhat  g hm htab  μ ho a1 a2 h)
def f_x_told (N : Nat)  (μ : sw_M) (a1 : Int32) : Option ((Int32 × sw_M) ⊕ (String × sw_M)) :=
  tb (f_x_needWhat N μ a1 11) (fun r1 =>
    if a1 = 0 then
      some (.inl (r1 3 0, r1))
    else if a1 = 1 then
      some (.inl (r1 3 1, r1))
    else if a1 = 2 then
      some (.inl (r1 3 2, r1))
    else if a1 = 3 then
      some (.inl (r1 3 3, r1))
    else if a1 = 4 then
      some (.inl (r1 35 2, r1))
    else if a1 = 5 then
      Option.bind (f_days_liveBits N  r1 0) (fun r3 =>
        some (.inl (r3, r1)))
    else if a1 = 6 then
      some (.inl (r1 35 4, r1))
    else if a1 = 7 then
      some (.inl (r1 35 3, r1))
    else if a1 = 8 then
      Option.bind (f_days_carriedBits N  r1 ) (fun r5 =>
        some (.inl (r5, r1)))
    else if a1 = 9 then
      some (.inl (r1 29 0, r1))
    else if a1 = 10 then
      some (.inl (r1 41 8, r1))
    else 
      some (.inl (r1 35 5, r1)))
set_option maxRecDepth 100000 in
set_option maxHeartbeats 4000000 in
theorem ok_f_x_told {G : sw_G} {ad : Nat → Nat} {ν : sw_N}   {N : Nat} {o : (Int32 × sw_M) ⊕ (String × sw_M)} (g : sw_ok G cX10_told "DeadWires" (some .int) 10 1 6 ad) (hm : G.2.2.1.2.1.maxLocals = 2) (htab : ∀ x ∈ G.2.2.1.2.1.exceptionTable.toList, False)  (μ : sw_M) (ho : sw_out G 1 6 (fun a => a = ad) (xo_i o).1 lay0 (xo_i o).2 ν) (a1 : Int32) (h : f_x_told N  μ a1 = some o) : SW G ad lay0 ν 0 0 0 [some (.ref 0), some (.int a1)] [] μ := by
  unfold f_x_told at h
  refine SW.aload_n (pc := 0) g (dt dt_X10_told 0 rfl) rfl ?_
  refine SW.iload_n (pc := 1) g (dt dt_X10_told 1 rfl) rfl ?_
  refine SW.bipush (pc := 2) (v := 11) g (dt dt_X10_told 2 rfl) kb_11 ?_
  rcases tbI h with ⟨r1, h2, h⟩ | ⟨r1, h2, rfl⟩
  · refine SW.callXr (pc := 4) (r := none) g (dt dt_X10_told 3 rfl) (mtx_f_x_needWhat _ _ _ _ ad ν N μ a1 11 (.inl r1) h2) me_X10_needWhat mv_X10_needWhat ml_X10_171 cell_0 rfl rfl (Nat.le_of_ble_eq_true rfl) (Nat.le_of_ble_eq_true rfl) (Nat.le_of_ble_eq_true rfl) (Nat.le_of_ble_eq_true rfl) rfl rfl ?_
    refine SW.iload_n (pc := 7) g (dt dt_X10_told 4 rfl) rfl ?_
    refine SW.tsw (pc := 8) (dn := 157) (tb := [(0, 68), (1, 76), (2, 84), (3, 92), (4, 100), (5, 108), (6, 117), (7, 125), (8, 133), (9, 141), (10, 149)]) g (dt dt_X10_told 5 rfl) (by decide) ?_
    refine sw_cons (fun hc => ?_) (fun hc => ?_)
    · have h := iteT hc h
      refine SW.aload_n (pc := 68) g (dt dt_X10_told 6 rfl) rfl ?_
      refine SW.getR (pc := 69) g (dt dt_X10_told 7 rfl) fl_X10_19 cell_0 rfl ?_
      refine SW.getI (pc := 72) g (dt dt_X10_told 8 rfl) fl_X10_174 cell_3 rfl ?_
      exact SW.ireturn (pc := 75) g (leafXi h ho) rfl (Nat.le_of_ble_eq_true rfl) (Nat.le_of_ble_eq_true rfl) (dt dt_X10_told 9 rfl)
    · have h := iteF hc h
      refine sw_cons (fun hc => ?_) (fun hc => ?_)
      · have h := iteT hc h
        refine SW.aload_n (pc := 76) g (dt dt_X10_told 10 rfl) rfl ?_
        refine SW.getR (pc := 77) g (dt dt_X10_told 11 rfl) fl_X10_19 cell_0 rfl ?_
        refine SW.getI (pc := 80) g (dt dt_X10_told 12 rfl) fl_X10_135 cell_3 rfl ?_
        exact SW.ireturn (pc := 83) g (leafXi h ho) rfl (Nat.le_of_ble_eq_true rfl) (Nat.le_of_ble_eq_true rfl) (dt dt_X10_told 13 rfl)
      · have h := iteF hc h
        refine sw_cons (fun hc => ?_) (fun hc => ?_)
        · have h := iteT hc h
          refine SW.aload_n (pc := 84) g (dt dt_X10_told 14 rfl) rfl ?_
          refine SW.getR (pc := 85) g (dt dt_X10_told 15 rfl) fl_X10_19 cell_0 rfl ?_
          refine SW.getI (pc := 88) g (dt dt_X10_told 16 rfl) fl_X10_177 cell_3 rfl ?_
          exact SW.ireturn (pc := 91) g (leafXi h ho) rfl (Nat.le_of_ble_eq_true rfl) (Nat.le_of_ble_eq_true rfl) (dt dt_X10_told 17 rfl)
        · have h := iteF hc h
          refine sw_cons (fun hc => ?_) (fun hc => ?_)
          · have h := iteT hc h
            refine SW.aload_n (pc := 92) g (dt dt_X10_told 18 rfl) rfl ?_
            refine SW.getR (pc := 93) g (dt dt_X10_told 19 rfl) fl_X10_19 cell_0 rfl ?_
            refine SW.getI (pc := 96) g (dt dt_X10_told 20 rfl) fl_X10_180 cell_3 rfl ?_
            exact SW.ireturn (pc := 99) g (leafXi h ho) rfl (Nat.le_of_ble_eq_true rfl) (Nat.le_of_ble_eq_true rfl) (dt dt_X10_told 21 rfl)
          · have h := iteF hc h
            refine sw_cons (fun hc => ?_) (fun hc => ?_)
            · have h := iteT hc h
              refine SW.aload_n (pc := 100) g (dt dt_X10_told 22 rfl) rfl ?_
              refine SW.getR (pc := 101) g (dt dt_X10_told 23 rfl) fl_X10_51 cell_0 rfl ?_
              refine SW.getI (pc := 104) g (dt dt_X10_told 24 rfl) fl_X10_183 cell_35 rfl ?_
              exact SW.ireturn (pc := 107) g (leafXi h ho) rfl (Nat.le_of_ble_eq_true rfl) (Nat.le_of_ble_eq_true rfl) (dt dt_X10_told 25 rfl)
            · have h := iteF hc h
              refine sw_cons (fun hc => ?_) (fun hc => ?_)
              · have h := iteT hc h
                refine SW.aload_n (pc := 108) g (dt dt_X10_told 26 rfl) rfl ?_
                refine SW.getR (pc := 109) g (dt dt_X10_told 27 rfl) fl_X10_51 cell_0 rfl ?_
                refine SW.iconst (pc := 112) (v := 0) g (dt dt_X10_told 28 rfl) ki_0 ?_
                obtain ⟨r3, h4, h⟩ := bindI h
                refine SW.callVi (pc := 113) g (dt dt_X10_told 29 rfl) (mt_f_days_liveBits _ _ _ _ ad ν   N r1 0 r3 h4) me_X2_liveBits mv_X2_liveBits ml_X10_186 cell_35 rfl rfl (Nat.le_of_ble_eq_true rfl) (Nat.le_of_ble_eq_true rfl) (Nat.le_of_ble_eq_true rfl) (Nat.le_of_ble_eq_true rfl) rfl ?_
                exact SW.ireturn (pc := 116) g (leafXi h ho) rfl (Nat.le_of_ble_eq_true rfl) (Nat.le_of_ble_eq_true rfl) (dt dt_X10_told 30 rfl)
              · have h := iteF hc h
                refine sw_cons (fun hc => ?_) (fun hc => ?_)
                · have h := iteT hc h
                  refine SW.aload_n (pc := 117) g (dt dt_X10_told 31 rfl) rfl ?_
                  refine SW.getR (pc := 118) g (dt dt_X10_told 32 rfl) fl_X10_51 cell_0 rfl ?_
                  refine SW.getI (pc := 121) g (dt dt_X10_told 33 rfl) fl_X10_190 cell_35 rfl ?_
                  exact SW.ireturn (pc := 124) g (leafXi h ho) rfl (Nat.le_of_ble_eq_true rfl) (Nat.le_of_ble_eq_true rfl) (dt dt_X10_told 34 rfl)
                · have h := iteF hc h
                  refine sw_cons (fun hc => ?_) (fun hc => ?_)
                  · have h := iteT hc h
                    refine SW.aload_n (pc := 125) g (dt dt_X10_told 35 rfl) rfl ?_
                    refine SW.getR (pc := 126) g (dt dt_X10_told 36 rfl) fl_X10_51 cell_0 rfl ?_
                    refine SW.getI (pc := 129) g (dt dt_X10_told 37 rfl) fl_X10_193 cell_35 rfl ?_
                    exact SW.ireturn (pc := 132) g (leafXi h ho) rfl (Nat.le_of_ble_eq_true rfl) (Nat.le_of_ble_eq_true rfl) (dt dt_X10_told 38 rfl)
                  · have h := iteF hc h
                    refine sw_cons (fun hc => ?_) (fun hc => ?_)
                    · have h := iteT hc h
                      refine SW.aload_n (pc := 133) g (dt dt_X10_told 39 rfl) rfl ?_
                      refine SW.getR (pc := 134) g (dt dt_X10_told 40 rfl) fl_X10_51 cell_0 rfl ?_
                      obtain ⟨r5, h6, h⟩ := bindI h
                      refine SW.callVi (pc := 137) g (dt dt_X10_told 41 rfl) (mt_f_days_carriedBits _ _ _ _ ad ν   N r1  r5 h6) me_X2_carriedBits mv_X2_carriedBits ml_X10_196 cell_35 rfl rfl (Nat.le_of_ble_eq_true rfl) (Nat.le_of_ble_eq_true rfl) (Nat.le_of_ble_eq_true rfl) (Nat.le_of_ble_eq_true rfl) rfl ?_
                      exact SW.ireturn (pc := 140) g (leafXi h ho) rfl (Nat.le_of_ble_eq_true rfl) (Nat.le_of_ble_eq_true rfl) (dt dt_X10_told 42 rfl)
                    · have h := iteF hc h
                      refine sw_cons (fun hc => ?_) (fun hc => ?_)
                      · have h := iteT hc h
                        refine SW.aload_n (pc := 141) g (dt dt_X10_told 43 rfl) rfl ?_
                        refine SW.getR (pc := 142) g (dt dt_X10_told 44 rfl) fl_X10_39 cell_0 rfl ?_
                        refine SW.getI (pc := 145) g (dt dt_X10_told 45 rfl) fl_X10_162 cell_29 rfl ?_
                        exact SW.ireturn (pc := 148) g (leafXi h ho) rfl (Nat.le_of_ble_eq_true rfl) (Nat.le_of_ble_eq_true rfl) (dt dt_X10_told 46 rfl)
                      · have h := iteF hc h
                        refine sw_cons (fun hc => ?_) (fun hc => ?_)
                        · have h := iteT hc h
                          refine SW.aload_n (pc := 149) g (dt dt_X10_told 47 rfl) rfl ?_
                          refine SW.getR (pc := 150) g (dt dt_X10_told 48 rfl) fl_X10_60 cell_0 rfl ?_
                          refine SW.getI (pc := 153) g (dt dt_X10_told 49 rfl) fl_X10_132 cell_41 rfl ?_
                          exact SW.ireturn (pc := 156) g (leafXi h ho) rfl (Nat.le_of_ble_eq_true rfl) (Nat.le_of_ble_eq_true rfl) (dt dt_X10_told 50 rfl)
                        · have h := iteF hc h
                          change SW _ _ _ _ _ _ 157 _ _ _
                          refine SW.aload_n (pc := 157) g (dt dt_X10_told 51 rfl) rfl ?_
                          refine SW.getR (pc := 158) g (dt dt_X10_told 52 rfl) fl_X10_51 cell_0 rfl ?_
                          refine SW.getI (pc := 161) g (dt dt_X10_told 53 rfl) fl_X10_200 cell_35 rfl ?_
                          exact SW.ireturn (pc := 164) g (leafXi h ho) rfl (Nat.le_of_ble_eq_true rfl) (Nat.le_of_ble_eq_true rfl) (dt dt_X10_told 54 rfl)
  · exact SW.callXt (pc := 4) g (dt dt_X10_told 3 rfl) ho rfl htab (mtx_f_x_needWhat _ _ _ _ ad ν N μ a1 11 (.inr r1) h2) me_X10_needWhat mv_X10_needWhat ml_X10_171 cell_0 rfl rfl (Nat.le_of_ble_eq_true rfl) (Nat.le_of_ble_eq_true rfl) (Nat.le_of_ble_eq_true rfl) (Nat.le_of_ble_eq_true rfl) rfl
set_option maxRecDepth 100000 in
set_option maxHeartbeats 4000000 in
theorem mtx_f_x_told (l : Launch) (D : va_G) (cI cL : ClassId) (ad : Nat → Nat) (ν : sw_N) (N : Nat) (μ : sw_M) (a1 : Int32) (o : (Int32 × sw_M) ⊕ (String × sw_M)) (h : f_x_told N μ a1 = some o) : MetX l D cI cL yX10_told cX10_told 2 (some .int) 10 1 6 (fun a => a = ad) ad [.ref 0, .int a1] lay0 μ ν (xo_i o).1 lay0 (xo_i o).2 ν :=
  MetX.of (n := 0) rfl (Nat.le_of_ble_eq_true rfl) (fun G g ho hm htab => ok_f_x_told  g hm htab  μ ho a1 h)
def f_x_needThere (N : Nat)  (μ : sw_M) (a1 : Int32) : Option (sw_M ⊕ (String × sw_M)) :=
  if a1 = 0 then
    wb (wr μ 0 13 ((μ 0 13) + 1)) (fun μ1 =>
      some (.inr ("java/util/NoSuchElementException", μ1)))
  else
    some (.inl μ)
set_option maxRecDepth 100000 in
set_option maxHeartbeats 4000000 in
theorem ok_f_x_needThere {G : sw_G} {ad : Nat → Nat} {ν : sw_N}   {N : Nat} {o : sw_M ⊕ (String × sw_M)} (g : sw_ok G cX10_needThere "DeadWires" none 8 1 6 ad) (hm : G.2.2.1.2.1.maxLocals = 2) (htab : ∀ x ∈ G.2.2.1.2.1.exceptionTable.toList, False)  (μ : sw_M) (ho : sw_out G 1 6 (fun a => a = ad) (xo_v o).1 lay0 (xo_v o).2 ν) (a1 : Int32) (h : f_x_needThere N  μ a1 = some o) : SW G ad lay0 ν 0 0 0 [some (.ref 0), some (.int a1)] [] μ := by
  unfold f_x_needThere at h
  refine SW.iload_n (pc := 0) g (dt dt_X10_needThere 0 rfl) rfl ?_
  refine SW.if_ne (pc := 1) (t := 22) g (dt dt_X10_needThere 1 rfl) rfl (fun hc => ?_) (fun hc => ?_)
  · have h := iteF hc h
    exact SW.vreturn (pc := 22) g (leafXv h ho) rfl (Nat.le_of_ble_eq_true rfl) (Nat.le_of_ble_eq_true rfl) (dt dt_X10_needThere 12 rfl)
  · have h := iteT hc h
    refine SW.aload_n (pc := 4) g (dt dt_X10_needThere 2 rfl) rfl ?_
    refine SW.dup (pc := 5) g (dt dt_X10_needThere 3 rfl) rfl ?_
    refine SW.getI (pc := 6) g (dt dt_X10_needThere 4 rfl) fl_X10_416 cell_0 rfl ?_
    refine SW.iconst (pc := 9) (v := 1) g (dt dt_X10_needThere 5 rfl) ki_1 ?_
    refine SW.iadd (pc := 10) g (dt dt_X10_needThere 6 rfl) ?_
    refine SW.putI (pc := 11) g (dt dt_X10_needThere 7 rfl) fl_X10_416 cell_0 rfl ?_
    refine SW.genM h (fun μ1 h => ?_)
    exact SW.throw0 (pc := 14) g (leafTv h ho) rfl htab tw_nse (dt dt_X10_needThere 8 rfl) (dt dt_X10_needThere 9 rfl) (dt dt_X10_needThere 10 rfl) (dt dt_X10_needThere 11 rfl) (Nat.le_of_ble_eq_true rfl) (Nat.le_of_ble_eq_true rfl) (Nat.le_of_ble_eq_true rfl) (Nat.le_of_ble_eq_true rfl)
set_option maxRecDepth 100000 in
set_option maxHeartbeats 4000000 in
theorem mtx_f_x_needThere (l : Launch) (D : va_G) (cI cL : ClassId) (ad : Nat → Nat) (ν : sw_N) (N : Nat) (μ : sw_M) (a1 : Int32) (o : sw_M ⊕ (String × sw_M)) (h : f_x_needThere N μ a1 = some o) : MetX l D cI cL yX10_needThere cX10_needThere 2 none 8 1 6 (fun a => a = ad) ad [.ref 0, .int a1] lay0 μ ν (xo_v o).1 lay0 (xo_v o).2 ν :=
  MetX.of (n := 0) rfl (Nat.le_of_ble_eq_true rfl) (fun G g ho hm htab => ok_f_x_needThere  g hm htab  μ ho a1 h)
def f_x_needField (N : Nat)  (μ : sw_M) (a1 : Int32) : Option (sw_M ⊕ (String × sw_M)) :=
  Option.bind (f_sx_within N  μ a1 0 ((μ 3 0) - 1)) (fun r1 =>
    tb (f_x_needThere N μ r1) (fun r3 =>
      some (.inl r3)))
set_option maxRecDepth 100000 in
set_option maxHeartbeats 4000000 in
theorem ok_f_x_needField {G : sw_G} {ad : Nat → Nat} {ν : sw_N}   {N : Nat} {o : sw_M ⊕ (String × sw_M)} (g : sw_ok G cX10_needField "DeadWires" none 9 1 6 ad) (hm : G.2.2.1.2.1.maxLocals = 2) (htab : ∀ x ∈ G.2.2.1.2.1.exceptionTable.toList, False)  (μ : sw_M) (ho : sw_out G 1 6 (fun a => a = ad) (xo_v o).1 lay0 (xo_v o).2 ν) (a1 : Int32) (h : f_x_needField N  μ a1 = some o) : SW G ad lay0 ν 0 0 0 [some (.ref 0), some (.int a1)] [] μ := by
  unfold f_x_needField at h
  refine SW.aload_n (pc := 0) g (dt dt_X10_needField 0 rfl) rfl ?_
  refine SW.iload_n (pc := 1) g (dt dt_X10_needField 1 rfl) rfl ?_
  refine SW.iconst (pc := 2) (v := 0) g (dt dt_X10_needField 2 rfl) ki_0 ?_
  refine SW.aload_n (pc := 3) g (dt dt_X10_needField 3 rfl) rfl ?_
  refine SW.getR (pc := 4) g (dt dt_X10_needField 4 rfl) fl_X10_19 cell_0 rfl ?_
  refine SW.getI (pc := 7) g (dt dt_X10_needField 5 rfl) fl_X10_174 cell_3 rfl ?_
  refine SW.iconst (pc := 10) (v := 1) g (dt dt_X10_needField 6 rfl) ki_1 ?_
  refine SW.isub (pc := 11) g (dt dt_X10_needField 7 rfl) ?_
  obtain ⟨r1, h2, h⟩ := bindI h
  refine SW.callSi (pc := 12) g (dt dt_X10_needField 8 rfl) (mt_f_sx_within _ _ _ _ ad ν lay0   N μ a1 0 ((μ 3 0) - 1) r1 h2) me_X10_within ms_X10_within ml_X10_250 rfl (Nat.le_of_ble_eq_true rfl) (Nat.le_of_ble_eq_true rfl) (Nat.le_of_ble_eq_true rfl) (Nat.le_of_ble_eq_true rfl) rfl ?_
  rcases tbI h with ⟨r3, h4, h⟩ | ⟨r3, h4, rfl⟩
  · refine SW.callXr (pc := 15) (r := none) g (dt dt_X10_needField 9 rfl) (mtx_f_x_needThere _ _ _ _ ad ν N μ r1 (.inl r3) h4) me_X10_needThere mv_X10_needThere ml_X10_254 cell_0 rfl rfl (Nat.le_of_ble_eq_true rfl) (Nat.le_of_ble_eq_true rfl) (Nat.le_of_ble_eq_true rfl) (Nat.le_of_ble_eq_true rfl) rfl rfl ?_
    exact SW.vreturn (pc := 18) g (leafXv h ho) rfl (Nat.le_of_ble_eq_true rfl) (Nat.le_of_ble_eq_true rfl) (dt dt_X10_needField 10 rfl)
  · exact SW.callXt (pc := 15) g (dt dt_X10_needField 9 rfl) ho rfl htab (mtx_f_x_needThere _ _ _ _ ad ν N μ r1 (.inr r3) h4) me_X10_needThere mv_X10_needThere ml_X10_254 cell_0 rfl rfl (Nat.le_of_ble_eq_true rfl) (Nat.le_of_ble_eq_true rfl) (Nat.le_of_ble_eq_true rfl) (Nat.le_of_ble_eq_true rfl) rfl
set_option maxRecDepth 100000 in
set_option maxHeartbeats 4000000 in
theorem mtx_f_x_needField (l : Launch) (D : va_G) (cI cL : ClassId) (ad : Nat → Nat) (ν : sw_N) (N : Nat) (μ : sw_M) (a1 : Int32) (o : sw_M ⊕ (String × sw_M)) (h : f_x_needField N μ a1 = some o) : MetX l D cI cL yX10_needField cX10_needField 2 none 9 1 6 (fun a => a = ad) ad [.ref 0, .int a1] lay0 μ ν (xo_v o).1 lay0 (xo_v o).2 ν :=
  MetX.of (n := 0) rfl (Nat.le_of_ble_eq_true rfl) (fun G g ho hm htab => ok_f_x_needField  g hm htab  μ ho a1 h)
def f_x_field (N : Nat)  (μ : sw_M) (a1 : Int32) (a2 : Int32) : Option ((Int32 × sw_M) ⊕ (String × sw_M)) :=
  tb (f_x_needField N μ a1) (fun r1 =>
    tb (f_x_needWhat N r1 a2 3) (fun r3 =>
      if a2 = 0 then
        Option.bind (f_days_lyingBits N  r3 a1) (fun r5 =>
          some (.inl (r5, r3)))
      else if a2 = 1 then
        Option.bind (f_days_peopleBits N  r3 a1) (fun r7 =>
          some (.inl (r7, r3)))
      else if a2 = 2 then
        Option.bind (f_land_wiresAt N  r3 a1) (fun r9 =>
          some (.inl (r9, r3)))
      else 
        Option.bind (f_ways_spread N  r3 ((1 : Int32) <<< (a1 &&& 31)) (r3 35 2) 0) (fun r11 =>
          some (.inl (r11 &&& (((1 : Int32) <<< (a1 &&& 31)) ^^^ (-1)), r3)))))
set_option maxRecDepth 100000 in
set_option maxHeartbeats 4000000 in
theorem ok_f_x_field {G : sw_G} {ad : Nat → Nat} {ν : sw_N}   {N : Nat} {o : (Int32 × sw_M) ⊕ (String × sw_M)} (g : sw_ok G cX10_field "DeadWires" (some .int) 10 2 12 ad) (hm : G.2.2.1.2.1.maxLocals = 3) (htab : ∀ x ∈ G.2.2.1.2.1.exceptionTable.toList, False)  (μ : sw_M) (ho : sw_out G 2 12 (fun a => a = ad) (xo_i o).1 lay0 (xo_i o).2 ν) (a1 : Int32) (a2 : Int32) (h : f_x_field N  μ a1 a2 = some o) : SW G ad lay0 ν 0 0 0 [some (.ref 0), some (.int a1), some (.int a2)] [] μ := by
  unfold f_x_field at h
  refine SW.aload_n (pc := 0) g (dt dt_X10_field 0 rfl) rfl ?_
  refine SW.iload_n (pc := 1) g (dt dt_X10_field 1 rfl) rfl ?_
  rcases tbI h with ⟨r1, h2, h⟩ | ⟨r1, h2, rfl⟩
  · refine SW.callXr (pc := 2) (r := none) g (dt dt_X10_field 2 rfl) (mtx_f_x_needField _ _ _ _ ad ν N μ a1 (.inl r1) h2) me_X10_needField mv_X10_needField ml_X10_203 cell_0 rfl rfl (Nat.le_of_ble_eq_true rfl) (Nat.le_of_ble_eq_true rfl) (Nat.le_of_ble_eq_true rfl) (Nat.le_of_ble_eq_true rfl) rfl rfl ?_
    refine SW.aload_n (pc := 5) g (dt dt_X10_field 3 rfl) rfl ?_
    refine SW.iload_n (pc := 6) g (dt dt_X10_field 4 rfl) rfl ?_
    refine SW.iconst (pc := 7) (v := 3) g (dt dt_X10_field 5 rfl) ki_3 ?_
    rcases tbI h with ⟨r3, h4, h⟩ | ⟨r3, h4, rfl⟩
    · refine SW.callXr (pc := 8) (r := none) g (dt dt_X10_field 6 rfl) (mtx_f_x_needWhat _ _ _ _ ad ν N r1 a2 3 (.inl r3) h4) me_X10_needWhat mv_X10_needWhat ml_X10_171 cell_0 rfl rfl (Nat.le_of_ble_eq_true rfl) (Nat.le_of_ble_eq_true rfl) (Nat.le_of_ble_eq_true rfl) (Nat.le_of_ble_eq_true rfl) rfl rfl ?_
      refine SW.iload_n (pc := 11) g (dt dt_X10_field 7 rfl) rfl ?_
      refine SW.tsw (pc := 12) (dn := 67) (tb := [(0, 40), (1, 49), (2, 58)]) g (dt dt_X10_field 8 rfl) (by decide) ?_
      refine sw_cons (fun hc => ?_) (fun hc => ?_)
      · have h := iteT hc h
        refine SW.aload_n (pc := 40) g (dt dt_X10_field 9 rfl) rfl ?_
        refine SW.getR (pc := 41) g (dt dt_X10_field 10 rfl) fl_X10_51 cell_0 rfl ?_
        refine SW.iload_n (pc := 44) g (dt dt_X10_field 11 rfl) rfl ?_
        obtain ⟨r5, h6, h⟩ := bindI h
        refine SW.callVi (pc := 45) g (dt dt_X10_field 12 rfl) (mt_f_days_lyingBits _ _ _ _ ad ν   N r3 a1 r5 h6) me_X2_lyingBits mv_X2_lyingBits ml_X10_206 cell_35 rfl rfl (Nat.le_of_ble_eq_true rfl) (Nat.le_of_ble_eq_true rfl) (Nat.le_of_ble_eq_true rfl) (Nat.le_of_ble_eq_true rfl) rfl ?_
        exact SW.ireturn (pc := 48) g (leafXi h ho) rfl (Nat.le_of_ble_eq_true rfl) (Nat.le_of_ble_eq_true rfl) (dt dt_X10_field 13 rfl)
      · have h := iteF hc h
        refine sw_cons (fun hc => ?_) (fun hc => ?_)
        · have h := iteT hc h
          refine SW.aload_n (pc := 49) g (dt dt_X10_field 14 rfl) rfl ?_
          refine SW.getR (pc := 50) g (dt dt_X10_field 15 rfl) fl_X10_51 cell_0 rfl ?_
          refine SW.iload_n (pc := 53) g (dt dt_X10_field 16 rfl) rfl ?_
          obtain ⟨r7, h8, h⟩ := bindI h
          refine SW.callVi (pc := 54) g (dt dt_X10_field 17 rfl) (mt_f_days_peopleBits _ _ _ _ ad ν   N r3 a1 r7 h8) me_X2_peopleBits mv_X2_peopleBits ml_X10_209 cell_35 rfl rfl (Nat.le_of_ble_eq_true rfl) (Nat.le_of_ble_eq_true rfl) (Nat.le_of_ble_eq_true rfl) (Nat.le_of_ble_eq_true rfl) rfl ?_
          exact SW.ireturn (pc := 57) g (leafXi h ho) rfl (Nat.le_of_ble_eq_true rfl) (Nat.le_of_ble_eq_true rfl) (dt dt_X10_field 18 rfl)
        · have h := iteF hc h
          refine sw_cons (fun hc => ?_) (fun hc => ?_)
          · have h := iteT hc h
            refine SW.aload_n (pc := 58) g (dt dt_X10_field 19 rfl) rfl ?_
            refine SW.getR (pc := 59) g (dt dt_X10_field 20 rfl) fl_X10_19 cell_0 rfl ?_
            refine SW.iload_n (pc := 62) g (dt dt_X10_field 21 rfl) rfl ?_
            obtain ⟨r9, h10, h⟩ := bindI h
            refine SW.callVi (pc := 63) g (dt dt_X10_field 22 rfl) (mt_f_land_wiresAt _ _ _ _ ad ν   N r3 a1 r9 h10) me_X4_wiresAt mv_X4_wiresAt ml_X10_212 cell_3 rfl rfl (Nat.le_of_ble_eq_true rfl) (Nat.le_of_ble_eq_true rfl) (Nat.le_of_ble_eq_true rfl) (Nat.le_of_ble_eq_true rfl) rfl ?_
            exact SW.ireturn (pc := 66) g (leafXi h ho) rfl (Nat.le_of_ble_eq_true rfl) (Nat.le_of_ble_eq_true rfl) (dt dt_X10_field 23 rfl)
          · have h := iteF hc h
            change SW _ _ _ _ _ _ 67 _ _ _
            refine SW.aload_n (pc := 67) g (dt dt_X10_field 24 rfl) rfl ?_
            refine SW.getR (pc := 68) g (dt dt_X10_field 25 rfl) fl_X10_74 cell_0 rfl ?_
            refine SW.iconst (pc := 71) (v := 1) g (dt dt_X10_field 26 rfl) ki_1 ?_
            refine SW.iload_n (pc := 72) g (dt dt_X10_field 27 rfl) rfl ?_
            refine SW.ishl (pc := 73) g (dt dt_X10_field 28 rfl) ?_
            refine SW.aload_n (pc := 74) g (dt dt_X10_field 29 rfl) rfl ?_
            refine SW.getR (pc := 75) g (dt dt_X10_field 30 rfl) fl_X10_51 cell_0 rfl ?_
            refine SW.getI (pc := 78) g (dt dt_X10_field 31 rfl) fl_X10_183 cell_35 rfl ?_
            refine SW.iconst (pc := 81) (v := 0) g (dt dt_X10_field 32 rfl) ki_0 ?_
            obtain ⟨r11, h12, h⟩ := bindI h
            refine SW.callVi (pc := 82) g (dt dt_X10_field 33 rfl) (mt_f_ways_spread _ _ _ _ ad ν   N r3 ((1 : Int32) <<< (a1 &&& 31)) (r3 35 2) 0 r11 h12) me_X8_spread mv_X8_spread ml_X10_215 cell_49 rfl rfl (Nat.le_of_ble_eq_true rfl) (Nat.le_of_ble_eq_true rfl) (Nat.le_of_ble_eq_true rfl) (Nat.le_of_ble_eq_true rfl) rfl ?_
            refine SW.iconst (pc := 85) (v := 1) g (dt dt_X10_field 34 rfl) ki_1 ?_
            refine SW.iload_n (pc := 86) g (dt dt_X10_field 35 rfl) rfl ?_
            refine SW.ishl (pc := 87) g (dt dt_X10_field 36 rfl) ?_
            refine SW.iconst (pc := 88) (v := (-1)) g (dt dt_X10_field 37 rfl) ki_m1 ?_
            refine SW.ixor (pc := 89) g (dt dt_X10_field 38 rfl) ?_
            refine SW.iand (pc := 90) g (dt dt_X10_field 39 rfl) ?_
            exact SW.ireturn (pc := 91) g (leafXi h ho) rfl (Nat.le_of_ble_eq_true rfl) (Nat.le_of_ble_eq_true rfl) (dt dt_X10_field 40 rfl)
    · exact SW.callXt (pc := 8) g (dt dt_X10_field 6 rfl) ho rfl htab (mtx_f_x_needWhat _ _ _ _ ad ν N r1 a2 3 (.inr r3) h4) me_X10_needWhat mv_X10_needWhat ml_X10_171 cell_0 rfl rfl (Nat.le_of_ble_eq_true rfl) (Nat.le_of_ble_eq_true rfl) (Nat.le_of_ble_eq_true rfl) (Nat.le_of_ble_eq_true rfl) rfl
  · exact SW.callXt (pc := 2) g (dt dt_X10_field 2 rfl) ho rfl htab (mtx_f_x_needField _ _ _ _ ad ν N μ a1 (.inr r1) h2) me_X10_needField mv_X10_needField ml_X10_203 cell_0 rfl rfl (Nat.le_of_ble_eq_true rfl) (Nat.le_of_ble_eq_true rfl) (Nat.le_of_ble_eq_true rfl) (Nat.le_of_ble_eq_true rfl) rfl
set_option maxRecDepth 100000 in
set_option maxHeartbeats 4000000 in
theorem mtx_f_x_field (l : Launch) (D : va_G) (cI cL : ClassId) (ad : Nat → Nat) (ν : sw_N) (N : Nat) (μ : sw_M) (a1 : Int32) (a2 : Int32) (o : (Int32 × sw_M) ⊕ (String × sw_M)) (h : f_x_field N μ a1 a2 = some o) : MetX l D cI cL yX10_field cX10_field 3 (some .int) 10 2 12 (fun a => a = ad) ad [.ref 0, .int a1, .int a2] lay0 μ ν (xo_i o).1 lay0 (xo_i o).2 ν :=
  MetX.of (n := 0) rfl (Nat.le_of_ble_eq_true rfl) (fun G g ho hm htab => ok_f_x_field  g hm htab  μ ho a1 a2 h)
def f_x_needWire (N : Nat)  (μ : sw_M) (a1 : Int32) : Option (sw_M ⊕ (String × sw_M)) :=
  Option.bind (f_sx_within N  μ a1 0 ((μ 3 1) - 1)) (fun r1 =>
    tb (f_x_needThere N μ r1) (fun r3 =>
      some (.inl r3)))
set_option maxRecDepth 100000 in
set_option maxHeartbeats 4000000 in
theorem ok_f_x_needWire {G : sw_G} {ad : Nat → Nat} {ν : sw_N}   {N : Nat} {o : sw_M ⊕ (String × sw_M)} (g : sw_ok G cX10_needWire "DeadWires" none 9 1 6 ad) (hm : G.2.2.1.2.1.maxLocals = 2) (htab : ∀ x ∈ G.2.2.1.2.1.exceptionTable.toList, False)  (μ : sw_M) (ho : sw_out G 1 6 (fun a => a = ad) (xo_v o).1 lay0 (xo_v o).2 ν) (a1 : Int32) (h : f_x_needWire N  μ a1 = some o) : SW G ad lay0 ν 0 0 0 [some (.ref 0), some (.int a1)] [] μ := by
  unfold f_x_needWire at h
  refine SW.aload_n (pc := 0) g (dt dt_X10_needWire 0 rfl) rfl ?_
  refine SW.iload_n (pc := 1) g (dt dt_X10_needWire 1 rfl) rfl ?_
  refine SW.iconst (pc := 2) (v := 0) g (dt dt_X10_needWire 2 rfl) ki_0 ?_
  refine SW.aload_n (pc := 3) g (dt dt_X10_needWire 3 rfl) rfl ?_
  refine SW.getR (pc := 4) g (dt dt_X10_needWire 4 rfl) fl_X10_19 cell_0 rfl ?_
  refine SW.getI (pc := 7) g (dt dt_X10_needWire 5 rfl) fl_X10_135 cell_3 rfl ?_
  refine SW.iconst (pc := 10) (v := 1) g (dt dt_X10_needWire 6 rfl) ki_1 ?_
  refine SW.isub (pc := 11) g (dt dt_X10_needWire 7 rfl) ?_
  obtain ⟨r1, h2, h⟩ := bindI h
  refine SW.callSi (pc := 12) g (dt dt_X10_needWire 8 rfl) (mt_f_sx_within _ _ _ _ ad ν lay0   N μ a1 0 ((μ 3 1) - 1) r1 h2) me_X10_within ms_X10_within ml_X10_250 rfl (Nat.le_of_ble_eq_true rfl) (Nat.le_of_ble_eq_true rfl) (Nat.le_of_ble_eq_true rfl) (Nat.le_of_ble_eq_true rfl) rfl ?_
  rcases tbI h with ⟨r3, h4, h⟩ | ⟨r3, h4, rfl⟩
  · refine SW.callXr (pc := 15) (r := none) g (dt dt_X10_needWire 9 rfl) (mtx_f_x_needThere _ _ _ _ ad ν N μ r1 (.inl r3) h4) me_X10_needThere mv_X10_needThere ml_X10_254 cell_0 rfl rfl (Nat.le_of_ble_eq_true rfl) (Nat.le_of_ble_eq_true rfl) (Nat.le_of_ble_eq_true rfl) (Nat.le_of_ble_eq_true rfl) rfl rfl ?_
    exact SW.vreturn (pc := 18) g (leafXv h ho) rfl (Nat.le_of_ble_eq_true rfl) (Nat.le_of_ble_eq_true rfl) (dt dt_X10_needWire 10 rfl)
  · exact SW.callXt (pc := 15) g (dt dt_X10_needWire 9 rfl) ho rfl htab (mtx_f_x_needThere _ _ _ _ ad ν N μ r1 (.inr r3) h4) me_X10_needThere mv_X10_needThere ml_X10_254 cell_0 rfl rfl (Nat.le_of_ble_eq_true rfl) (Nat.le_of_ble_eq_true rfl) (Nat.le_of_ble_eq_true rfl) (Nat.le_of_ble_eq_true rfl) rfl
set_option maxRecDepth 100000 in
set_option maxHeartbeats 4000000 in
theorem mtx_f_x_needWire (l : Launch) (D : va_G) (cI cL : ClassId) (ad : Nat → Nat) (ν : sw_N) (N : Nat) (μ : sw_M) (a1 : Int32) (o : sw_M ⊕ (String × sw_M)) (h : f_x_needWire N μ a1 = some o) : MetX l D cI cL yX10_needWire cX10_needWire 2 none 9 1 6 (fun a => a = ad) ad [.ref 0, .int a1] lay0 μ ν (xo_v o).1 lay0 (xo_v o).2 ν :=
  MetX.of (n := 0) rfl (Nat.le_of_ble_eq_true rfl) (fun G g ho hm htab => ok_f_x_needWire  g hm htab  μ ho a1 h)
def f_x_wire (N : Nat)  (μ : sw_M) (a1 : Int32) (a2 : Int32) : Option ((Int32 × sw_M) ⊕ (String × sw_M)) :=
  tb (f_x_needWire N μ a1) (fun r1 =>
    tb (f_x_needWhat N r1 a2 6) (fun r3 =>
      if a2 = 0 then
        Option.bind (f_sx_at N 4 12 r3 a1) (fun r5 =>
          some (.inl (r5, r3)))
      else if a2 = 1 then
        Option.bind (f_sx_at N 5 12 r3 a1) (fun r7 =>
          some (.inl (r7, r3)))
      else if a2 = 2 then
        Option.bind (f_sx_at N 36 12 r3 a1) (fun r9 =>
          some (.inl (r9, r3)))
      else if a2 = 3 then
        Option.bind (f_sx_at N 6 12 r3 a1) (fun r11 =>
          some (.inl (r11, r3)))
      else if a2 = 4 then
        Option.bind (f_days_isLive N  r3 a1 0) (fun r13 =>
          if r13 = 0 then
            some (.inl (0, r3))
          else
            some (.inl (1, r3)))
      else if a2 = 5 then
        Option.bind (f_days_isCut N  r3 a1) (fun r15 =>
          if r15 = 0 then
            some (.inl (0, r3))
          else
            some (.inl (1, r3)))
      else 
        Option.bind (f_days_hoursLeft N  r3 a1) (fun r17 =>
          some (.inl (r17, r3)))))
set_option maxRecDepth 100000 in
set_option maxHeartbeats 4000000 in
theorem ok_f_x_wire {G : sw_G} {ad : Nat → Nat} {ν : sw_N}   {N : Nat} {o : (Int32 × sw_M) ⊕ (String × sw_M)} (g : sw_ok G cX10_wire "DeadWires" (some .int) 10 2 12 ad) (hm : G.2.2.1.2.1.maxLocals = 3) (htab : ∀ x ∈ G.2.2.1.2.1.exceptionTable.toList, False)  (μ : sw_M) (ho : sw_out G 2 12 (fun a => a = ad) (xo_i o).1 lay0 (xo_i o).2 ν) (a1 : Int32) (a2 : Int32) (h : f_x_wire N  μ a1 a2 = some o) : SW G ad lay0 ν 0 0 0 [some (.ref 0), some (.int a1), some (.int a2)] [] μ := by
  unfold f_x_wire at h
  refine SW.aload_n (pc := 0) g (dt dt_X10_wire 0 rfl) rfl ?_
  refine SW.iload_n (pc := 1) g (dt dt_X10_wire 1 rfl) rfl ?_
  rcases tbI h with ⟨r1, h2, h⟩ | ⟨r1, h2, rfl⟩
  · refine SW.callXr (pc := 2) (r := none) g (dt dt_X10_wire 2 rfl) (mtx_f_x_needWire _ _ _ _ ad ν N μ a1 (.inl r1) h2) me_X10_needWire mv_X10_needWire ml_X10_219 cell_0 rfl rfl (Nat.le_of_ble_eq_true rfl) (Nat.le_of_ble_eq_true rfl) (Nat.le_of_ble_eq_true rfl) (Nat.le_of_ble_eq_true rfl) rfl rfl ?_
    refine SW.aload_n (pc := 5) g (dt dt_X10_wire 3 rfl) rfl ?_
    refine SW.iload_n (pc := 6) g (dt dt_X10_wire 4 rfl) rfl ?_
    refine SW.bipush (pc := 7) (v := 6) g (dt dt_X10_wire 5 rfl) kb_6 ?_
    rcases tbI h with ⟨r3, h4, h⟩ | ⟨r3, h4, rfl⟩
    · refine SW.callXr (pc := 9) (r := none) g (dt dt_X10_wire 6 rfl) (mtx_f_x_needWhat _ _ _ _ ad ν N r1 a2 6 (.inl r3) h4) me_X10_needWhat mv_X10_needWhat ml_X10_171 cell_0 rfl rfl (Nat.le_of_ble_eq_true rfl) (Nat.le_of_ble_eq_true rfl) (Nat.le_of_ble_eq_true rfl) (Nat.le_of_ble_eq_true rfl) rfl rfl ?_
      refine SW.iload_n (pc := 12) g (dt dt_X10_wire 7 rfl) rfl ?_
      refine SW.tsw (pc := 13) (dn := 135) (tb := [(0, 52), (1, 64), (2, 76), (3, 88), (4, 100), (5, 118)]) g (dt dt_X10_wire 8 rfl) (by decide) ?_
      refine sw_cons (fun hc => ?_) (fun hc => ?_)
      · have h := iteT hc h
        refine SW.aload_n (pc := 52) g (dt dt_X10_wire 9 rfl) rfl ?_
        refine SW.getR (pc := 53) g (dt dt_X10_wire 10 rfl) fl_X10_19 cell_0 rfl ?_
        refine SW.getR (pc := 56) g (dt dt_X10_wire 11 rfl) fl_X10_222 cell_3 rfl ?_
        refine SW.iload_n (pc := 59) g (dt dt_X10_wire 12 rfl) rfl ?_
        obtain ⟨r5, h6, h⟩ := bindI h
        refine SW.callSi (pc := 60) g (dt dt_X10_wire 13 rfl) (mt_f_sx_at _ _ _ _ ad ν lay0 4 12 cell_4 N r3 a1 r5 h6) me_X10_at ms_X10_at ml_X10_226 rfl (Nat.le_of_ble_eq_true rfl) (Nat.le_of_ble_eq_true rfl) (Nat.le_of_ble_eq_true rfl) (Nat.le_of_ble_eq_true rfl) rfl ?_
        exact SW.ireturn (pc := 63) g (leafXi h ho) rfl (Nat.le_of_ble_eq_true rfl) (Nat.le_of_ble_eq_true rfl) (dt dt_X10_wire 14 rfl)
      · have h := iteF hc h
        refine sw_cons (fun hc => ?_) (fun hc => ?_)
        · have h := iteT hc h
          refine SW.aload_n (pc := 64) g (dt dt_X10_wire 15 rfl) rfl ?_
          refine SW.getR (pc := 65) g (dt dt_X10_wire 16 rfl) fl_X10_19 cell_0 rfl ?_
          refine SW.getR (pc := 68) g (dt dt_X10_wire 17 rfl) fl_X10_230 cell_3 rfl ?_
          refine SW.iload_n (pc := 71) g (dt dt_X10_wire 18 rfl) rfl ?_
          obtain ⟨r7, h8, h⟩ := bindI h
          refine SW.callSi (pc := 72) g (dt dt_X10_wire 19 rfl) (mt_f_sx_at _ _ _ _ ad ν lay0 5 12 cell_5 N r3 a1 r7 h8) me_X10_at ms_X10_at ml_X10_226 rfl (Nat.le_of_ble_eq_true rfl) (Nat.le_of_ble_eq_true rfl) (Nat.le_of_ble_eq_true rfl) (Nat.le_of_ble_eq_true rfl) rfl ?_
          exact SW.ireturn (pc := 75) g (leafXi h ho) rfl (Nat.le_of_ble_eq_true rfl) (Nat.le_of_ble_eq_true rfl) (dt dt_X10_wire 20 rfl)
        · have h := iteF hc h
          refine sw_cons (fun hc => ?_) (fun hc => ?_)
          · have h := iteT hc h
            refine SW.aload_n (pc := 76) g (dt dt_X10_wire 21 rfl) rfl ?_
            refine SW.getR (pc := 77) g (dt dt_X10_wire 22 rfl) fl_X10_51 cell_0 rfl ?_
            refine SW.getR (pc := 80) g (dt dt_X10_wire 23 rfl) fl_X10_233 cell_35 rfl ?_
            refine SW.iload_n (pc := 83) g (dt dt_X10_wire 24 rfl) rfl ?_
            obtain ⟨r9, h10, h⟩ := bindI h
            refine SW.callSi (pc := 84) g (dt dt_X10_wire 25 rfl) (mt_f_sx_at _ _ _ _ ad ν lay0 36 12 cell_36 N r3 a1 r9 h10) me_X10_at ms_X10_at ml_X10_226 rfl (Nat.le_of_ble_eq_true rfl) (Nat.le_of_ble_eq_true rfl) (Nat.le_of_ble_eq_true rfl) (Nat.le_of_ble_eq_true rfl) rfl ?_
            exact SW.ireturn (pc := 87) g (leafXi h ho) rfl (Nat.le_of_ble_eq_true rfl) (Nat.le_of_ble_eq_true rfl) (dt dt_X10_wire 26 rfl)
          · have h := iteF hc h
            refine sw_cons (fun hc => ?_) (fun hc => ?_)
            · have h := iteT hc h
              refine SW.aload_n (pc := 88) g (dt dt_X10_wire 27 rfl) rfl ?_
              refine SW.getR (pc := 89) g (dt dt_X10_wire 28 rfl) fl_X10_19 cell_0 rfl ?_
              refine SW.getR (pc := 92) g (dt dt_X10_wire 29 rfl) fl_X10_236 cell_3 rfl ?_
              refine SW.iload_n (pc := 95) g (dt dt_X10_wire 30 rfl) rfl ?_
              obtain ⟨r11, h12, h⟩ := bindI h
              refine SW.callSi (pc := 96) g (dt dt_X10_wire 31 rfl) (mt_f_sx_at _ _ _ _ ad ν lay0 6 12 cell_6 N r3 a1 r11 h12) me_X10_at ms_X10_at ml_X10_226 rfl (Nat.le_of_ble_eq_true rfl) (Nat.le_of_ble_eq_true rfl) (Nat.le_of_ble_eq_true rfl) (Nat.le_of_ble_eq_true rfl) rfl ?_
              exact SW.ireturn (pc := 99) g (leafXi h ho) rfl (Nat.le_of_ble_eq_true rfl) (Nat.le_of_ble_eq_true rfl) (dt dt_X10_wire 32 rfl)
            · have h := iteF hc h
              refine sw_cons (fun hc => ?_) (fun hc => ?_)
              · have h := iteT hc h
                refine SW.aload_n (pc := 100) g (dt dt_X10_wire 33 rfl) rfl ?_
                refine SW.getR (pc := 101) g (dt dt_X10_wire 34 rfl) fl_X10_51 cell_0 rfl ?_
                refine SW.iload_n (pc := 104) g (dt dt_X10_wire 35 rfl) rfl ?_
                refine SW.iconst (pc := 105) (v := 0) g (dt dt_X10_wire 36 rfl) ki_0 ?_
                obtain ⟨r13, h14, h⟩ := bindI h
                refine SW.callVi (pc := 106) g (dt dt_X10_wire 37 rfl) (mt_f_days_isLive _ _ _ _ ad ν   N r3 a1 0 r13 h14) me_X2_isLive mv_X2_isLive ml_X10_239 cell_35 rfl rfl (Nat.le_of_ble_eq_true rfl) (Nat.le_of_ble_eq_true rfl) (Nat.le_of_ble_eq_true rfl) (Nat.le_of_ble_eq_true rfl) rfl ?_
                refine SW.if_eq (pc := 109) (t := 116) g (dt dt_X10_wire 38 rfl) rfl (fun hc => ?_) (fun hc => ?_)
                · have h := iteT hc h
                  refine SW.iconst (pc := 116) (v := 0) g (dt dt_X10_wire 41 rfl) ki_0 ?_
                  exact SW.ireturn (pc := 117) g (leafXi h ho) rfl (Nat.le_of_ble_eq_true rfl) (Nat.le_of_ble_eq_true rfl) (dt dt_X10_wire 42 rfl)
                · have h := iteF hc h
                  refine SW.iconst (pc := 112) (v := 1) g (dt dt_X10_wire 39 rfl) ki_1 ?_
                  refine SW.goto (pc := 113) (t := 117) g (dt dt_X10_wire 40 rfl) rfl ?_
                  exact SW.ireturn (pc := 117) g (leafXi h ho) rfl (Nat.le_of_ble_eq_true rfl) (Nat.le_of_ble_eq_true rfl) (dt dt_X10_wire 42 rfl)
              · have h := iteF hc h
                refine sw_cons (fun hc => ?_) (fun hc => ?_)
                · have h := iteT hc h
                  refine SW.aload_n (pc := 118) g (dt dt_X10_wire 43 rfl) rfl ?_
                  refine SW.getR (pc := 119) g (dt dt_X10_wire 44 rfl) fl_X10_51 cell_0 rfl ?_
                  refine SW.iload_n (pc := 122) g (dt dt_X10_wire 45 rfl) rfl ?_
                  obtain ⟨r15, h16, h⟩ := bindI h
                  refine SW.callVi (pc := 123) g (dt dt_X10_wire 46 rfl) (mt_f_days_isCut _ _ _ _ ad ν   N r3 a1 r15 h16) me_X2_isCut mv_X2_isCut ml_X10_243 cell_35 rfl rfl (Nat.le_of_ble_eq_true rfl) (Nat.le_of_ble_eq_true rfl) (Nat.le_of_ble_eq_true rfl) (Nat.le_of_ble_eq_true rfl) rfl ?_
                  refine SW.if_eq (pc := 126) (t := 133) g (dt dt_X10_wire 47 rfl) rfl (fun hc => ?_) (fun hc => ?_)
                  · have h := iteT hc h
                    refine SW.iconst (pc := 133) (v := 0) g (dt dt_X10_wire 50 rfl) ki_0 ?_
                    exact SW.ireturn (pc := 134) g (leafXi h ho) rfl (Nat.le_of_ble_eq_true rfl) (Nat.le_of_ble_eq_true rfl) (dt dt_X10_wire 51 rfl)
                  · have h := iteF hc h
                    refine SW.iconst (pc := 129) (v := 1) g (dt dt_X10_wire 48 rfl) ki_1 ?_
                    refine SW.goto (pc := 130) (t := 134) g (dt dt_X10_wire 49 rfl) rfl ?_
                    exact SW.ireturn (pc := 134) g (leafXi h ho) rfl (Nat.le_of_ble_eq_true rfl) (Nat.le_of_ble_eq_true rfl) (dt dt_X10_wire 51 rfl)
                · have h := iteF hc h
                  change SW _ _ _ _ _ _ 135 _ _ _
                  refine SW.aload_n (pc := 135) g (dt dt_X10_wire 52 rfl) rfl ?_
                  refine SW.getR (pc := 136) g (dt dt_X10_wire 53 rfl) fl_X10_51 cell_0 rfl ?_
                  refine SW.iload_n (pc := 139) g (dt dt_X10_wire 54 rfl) rfl ?_
                  obtain ⟨r17, h18, h⟩ := bindI h
                  refine SW.callVi (pc := 140) g (dt dt_X10_wire 55 rfl) (mt_f_days_hoursLeft _ _ _ _ ad ν   N r3 a1 r17 h18) me_X2_hoursLeft mv_X2_hoursLeft ml_X10_247 cell_35 rfl rfl (Nat.le_of_ble_eq_true rfl) (Nat.le_of_ble_eq_true rfl) (Nat.le_of_ble_eq_true rfl) (Nat.le_of_ble_eq_true rfl) rfl ?_
                  exact SW.ireturn (pc := 143) g (leafXi h ho) rfl (Nat.le_of_ble_eq_true rfl) (Nat.le_of_ble_eq_true rfl) (dt dt_X10_wire 56 rfl)
    · exact SW.callXt (pc := 9) g (dt dt_X10_wire 6 rfl) ho rfl htab (mtx_f_x_needWhat _ _ _ _ ad ν N r1 a2 6 (.inr r3) h4) me_X10_needWhat mv_X10_needWhat ml_X10_171 cell_0 rfl rfl (Nat.le_of_ble_eq_true rfl) (Nat.le_of_ble_eq_true rfl) (Nat.le_of_ble_eq_true rfl) (Nat.le_of_ble_eq_true rfl) rfl
  · exact SW.callXt (pc := 2) g (dt dt_X10_wire 2 rfl) ho rfl htab (mtx_f_x_needWire _ _ _ _ ad ν N μ a1 (.inr r1) h2) me_X10_needWire mv_X10_needWire ml_X10_219 cell_0 rfl rfl (Nat.le_of_ble_eq_true rfl) (Nat.le_of_ble_eq_true rfl) (Nat.le_of_ble_eq_true rfl) (Nat.le_of_ble_eq_true rfl) rfl
set_option maxRecDepth 100000 in
set_option maxHeartbeats 4000000 in
theorem mtx_f_x_wire (l : Launch) (D : va_G) (cI cL : ClassId) (ad : Nat → Nat) (ν : sw_N) (N : Nat) (μ : sw_M) (a1 : Int32) (a2 : Int32) (o : (Int32 × sw_M) ⊕ (String × sw_M)) (h : f_x_wire N μ a1 a2 = some o) : MetX l D cI cL yX10_wire cX10_wire 3 (some .int) 10 2 12 (fun a => a = ad) ad [.ref 0, .int a1, .int a2] lay0 μ ν (xo_i o).1 lay0 (xo_i o).2 ν :=
  MetX.of (n := 0) rfl (Nat.le_of_ble_eq_true rfl) (fun G g ho hm htab => ok_f_x_wire  g hm htab  μ ho a1 a2 h)
def f_x_thing (N : Nat)  (μ : sw_M) (a1 : Int32) (a2 : Int32) : Option ((Int32 × sw_M) ⊕ (String × sw_M)) :=
  Option.bind (f_sx_within N  μ a1 0 ((μ 3 2) - 1)) (fun r1 =>
    tb (f_x_needThere N μ r1) (fun r3 =>
      tb (f_x_needWhat N r3 a2 2) (fun r5 =>
        if a2 = 0 then
          Option.bind (f_sx_at N 8 6 r5 a1) (fun r7 =>
            some (.inl (r7, r5)))
        else if a2 = 1 then
          Option.bind (f_days_placeOfThing N  r5 a1) (fun r9 =>
            some (.inl (r9, r5)))
        else 
          Option.bind (f_sx_at N 38 6 r5 a1) (fun r11 =>
            some (.inl (r11, r5))))))
set_option maxRecDepth 100000 in
set_option maxHeartbeats 4000000 in
theorem ok_f_x_thing {G : sw_G} {ad : Nat → Nat} {ν : sw_N}   {N : Nat} {o : (Int32 × sw_M) ⊕ (String × sw_M)} (g : sw_ok G cX10_thing "DeadWires" (some .int) 10 2 12 ad) (hm : G.2.2.1.2.1.maxLocals = 3) (htab : ∀ x ∈ G.2.2.1.2.1.exceptionTable.toList, False)  (μ : sw_M) (ho : sw_out G 2 12 (fun a => a = ad) (xo_i o).1 lay0 (xo_i o).2 ν) (a1 : Int32) (a2 : Int32) (h : f_x_thing N  μ a1 a2 = some o) : SW G ad lay0 ν 0 0 0 [some (.ref 0), some (.int a1), some (.int a2)] [] μ := by
  unfold f_x_thing at h
  refine SW.aload_n (pc := 0) g (dt dt_X10_thing 0 rfl) rfl ?_
  refine SW.iload_n (pc := 1) g (dt dt_X10_thing 1 rfl) rfl ?_
  refine SW.iconst (pc := 2) (v := 0) g (dt dt_X10_thing 2 rfl) ki_0 ?_
  refine SW.aload_n (pc := 3) g (dt dt_X10_thing 3 rfl) rfl ?_
  refine SW.getR (pc := 4) g (dt dt_X10_thing 4 rfl) fl_X10_19 cell_0 rfl ?_
  refine SW.getI (pc := 7) g (dt dt_X10_thing 5 rfl) fl_X10_177 cell_3 rfl ?_
  refine SW.iconst (pc := 10) (v := 1) g (dt dt_X10_thing 6 rfl) ki_1 ?_
  refine SW.isub (pc := 11) g (dt dt_X10_thing 7 rfl) ?_
  obtain ⟨r1, h2, h⟩ := bindI h
  refine SW.callSi (pc := 12) g (dt dt_X10_thing 8 rfl) (mt_f_sx_within _ _ _ _ ad ν lay0   N μ a1 0 ((μ 3 2) - 1) r1 h2) me_X10_within ms_X10_within ml_X10_250 rfl (Nat.le_of_ble_eq_true rfl) (Nat.le_of_ble_eq_true rfl) (Nat.le_of_ble_eq_true rfl) (Nat.le_of_ble_eq_true rfl) rfl ?_
  rcases tbI h with ⟨r3, h4, h⟩ | ⟨r3, h4, rfl⟩
  · refine SW.callXr (pc := 15) (r := none) g (dt dt_X10_thing 9 rfl) (mtx_f_x_needThere _ _ _ _ ad ν N μ r1 (.inl r3) h4) me_X10_needThere mv_X10_needThere ml_X10_254 cell_0 rfl rfl (Nat.le_of_ble_eq_true rfl) (Nat.le_of_ble_eq_true rfl) (Nat.le_of_ble_eq_true rfl) (Nat.le_of_ble_eq_true rfl) rfl rfl ?_
    refine SW.aload_n (pc := 18) g (dt dt_X10_thing 10 rfl) rfl ?_
    refine SW.iload_n (pc := 19) g (dt dt_X10_thing 11 rfl) rfl ?_
    refine SW.iconst (pc := 20) (v := 2) g (dt dt_X10_thing 12 rfl) ki_2 ?_
    rcases tbI h with ⟨r5, h6, h⟩ | ⟨r5, h6, rfl⟩
    · refine SW.callXr (pc := 21) (r := none) g (dt dt_X10_thing 13 rfl) (mtx_f_x_needWhat _ _ _ _ ad ν N r3 a2 2 (.inl r5) h6) me_X10_needWhat mv_X10_needWhat ml_X10_171 cell_0 rfl rfl (Nat.le_of_ble_eq_true rfl) (Nat.le_of_ble_eq_true rfl) (Nat.le_of_ble_eq_true rfl) (Nat.le_of_ble_eq_true rfl) rfl rfl ?_
      refine SW.iload_n (pc := 24) g (dt dt_X10_thing 14 rfl) rfl ?_
      refine SW.lsw (pc := 25) (dn := 73) (tb := [(0, 52), (1, 64)]) g (dt dt_X10_thing 15 rfl) (by decide) (by decide) (by decide) (sw_lsn _ (by decide) (by decide)) ?_
      refine sw_cons (fun hc => ?_) (fun hc => ?_)
      · have h := iteT hc h
        refine SW.aload_n (pc := 52) g (dt dt_X10_thing 16 rfl) rfl ?_
        refine SW.getR (pc := 53) g (dt dt_X10_thing 17 rfl) fl_X10_19 cell_0 rfl ?_
        refine SW.getR (pc := 56) g (dt dt_X10_thing 18 rfl) fl_X10_258 cell_3 rfl ?_
        refine SW.iload_n (pc := 59) g (dt dt_X10_thing 19 rfl) rfl ?_
        obtain ⟨r7, h8, h⟩ := bindI h
        refine SW.callSi (pc := 60) g (dt dt_X10_thing 20 rfl) (mt_f_sx_at _ _ _ _ ad ν lay0 8 6 cell_8 N r5 a1 r7 h8) me_X10_at ms_X10_at ml_X10_226 rfl (Nat.le_of_ble_eq_true rfl) (Nat.le_of_ble_eq_true rfl) (Nat.le_of_ble_eq_true rfl) (Nat.le_of_ble_eq_true rfl) rfl ?_
        exact SW.ireturn (pc := 63) g (leafXi h ho) rfl (Nat.le_of_ble_eq_true rfl) (Nat.le_of_ble_eq_true rfl) (dt dt_X10_thing 21 rfl)
      · have h := iteF hc h
        refine sw_cons (fun hc => ?_) (fun hc => ?_)
        · have h := iteT hc h
          refine SW.aload_n (pc := 64) g (dt dt_X10_thing 22 rfl) rfl ?_
          refine SW.getR (pc := 65) g (dt dt_X10_thing 23 rfl) fl_X10_51 cell_0 rfl ?_
          refine SW.iload_n (pc := 68) g (dt dt_X10_thing 24 rfl) rfl ?_
          obtain ⟨r9, h10, h⟩ := bindI h
          refine SW.callVi (pc := 69) g (dt dt_X10_thing 25 rfl) (mt_f_days_placeOfThing _ _ _ _ ad ν   N r5 a1 r9 h10) me_X2_placeOfThing mv_X2_placeOfThing ml_X10_261 cell_35 rfl rfl (Nat.le_of_ble_eq_true rfl) (Nat.le_of_ble_eq_true rfl) (Nat.le_of_ble_eq_true rfl) (Nat.le_of_ble_eq_true rfl) rfl ?_
          exact SW.ireturn (pc := 72) g (leafXi h ho) rfl (Nat.le_of_ble_eq_true rfl) (Nat.le_of_ble_eq_true rfl) (dt dt_X10_thing 26 rfl)
        · have h := iteF hc h
          change SW _ _ _ _ _ _ 73 _ _ _
          refine SW.aload_n (pc := 73) g (dt dt_X10_thing 27 rfl) rfl ?_
          refine SW.getR (pc := 74) g (dt dt_X10_thing 28 rfl) fl_X10_51 cell_0 rfl ?_
          refine SW.getR (pc := 77) g (dt dt_X10_thing 29 rfl) fl_X10_264 cell_35 rfl ?_
          refine SW.iload_n (pc := 80) g (dt dt_X10_thing 30 rfl) rfl ?_
          obtain ⟨r11, h12, h⟩ := bindI h
          refine SW.callSi (pc := 81) g (dt dt_X10_thing 31 rfl) (mt_f_sx_at _ _ _ _ ad ν lay0 38 6 cell_38 N r5 a1 r11 h12) me_X10_at ms_X10_at ml_X10_226 rfl (Nat.le_of_ble_eq_true rfl) (Nat.le_of_ble_eq_true rfl) (Nat.le_of_ble_eq_true rfl) (Nat.le_of_ble_eq_true rfl) rfl ?_
          exact SW.ireturn (pc := 84) g (leafXi h ho) rfl (Nat.le_of_ble_eq_true rfl) (Nat.le_of_ble_eq_true rfl) (dt dt_X10_thing 32 rfl)
    · exact SW.callXt (pc := 21) g (dt dt_X10_thing 13 rfl) ho rfl htab (mtx_f_x_needWhat _ _ _ _ ad ν N r3 a2 2 (.inr r5) h6) me_X10_needWhat mv_X10_needWhat ml_X10_171 cell_0 rfl rfl (Nat.le_of_ble_eq_true rfl) (Nat.le_of_ble_eq_true rfl) (Nat.le_of_ble_eq_true rfl) (Nat.le_of_ble_eq_true rfl) rfl
  · exact SW.callXt (pc := 15) g (dt dt_X10_thing 9 rfl) ho rfl htab (mtx_f_x_needThere _ _ _ _ ad ν N μ r1 (.inr r3) h4) me_X10_needThere mv_X10_needThere ml_X10_254 cell_0 rfl rfl (Nat.le_of_ble_eq_true rfl) (Nat.le_of_ble_eq_true rfl) (Nat.le_of_ble_eq_true rfl) (Nat.le_of_ble_eq_true rfl) rfl
set_option maxRecDepth 100000 in
set_option maxHeartbeats 4000000 in
theorem mtx_f_x_thing (l : Launch) (D : va_G) (cI cL : ClassId) (ad : Nat → Nat) (ν : sw_N) (N : Nat) (μ : sw_M) (a1 : Int32) (a2 : Int32) (o : (Int32 × sw_M) ⊕ (String × sw_M)) (h : f_x_thing N μ a1 a2 = some o) : MetX l D cI cL yX10_thing cX10_thing 3 (some .int) 10 2 12 (fun a => a = ad) ad [.ref 0, .int a1, .int a2] lay0 μ ν (xo_i o).1 lay0 (xo_i o).2 ν :=
  MetX.of (n := 0) rfl (Nat.le_of_ble_eq_true rfl) (fun G g ho hm htab => ok_f_x_thing  g hm htab  μ ho a1 a2 h)
def f_x_needPerson (N : Nat)  (μ : sw_M) (a1 : Int32) : Option (sw_M ⊕ (String × sw_M)) :=
  Option.bind (f_sx_within N  μ a1 0 ((μ 3 3) - 1)) (fun r1 =>
    tb (f_x_needThere N μ r1) (fun r3 =>
      some (.inl r3)))
set_option maxRecDepth 100000 in
set_option maxHeartbeats 4000000 in
theorem ok_f_x_needPerson {G : sw_G} {ad : Nat → Nat} {ν : sw_N}   {N : Nat} {o : sw_M ⊕ (String × sw_M)} (g : sw_ok G cX10_needPerson "DeadWires" none 9 1 6 ad) (hm : G.2.2.1.2.1.maxLocals = 2) (htab : ∀ x ∈ G.2.2.1.2.1.exceptionTable.toList, False)  (μ : sw_M) (ho : sw_out G 1 6 (fun a => a = ad) (xo_v o).1 lay0 (xo_v o).2 ν) (a1 : Int32) (h : f_x_needPerson N  μ a1 = some o) : SW G ad lay0 ν 0 0 0 [some (.ref 0), some (.int a1)] [] μ := by
  unfold f_x_needPerson at h
  refine SW.aload_n (pc := 0) g (dt dt_X10_needPerson 0 rfl) rfl ?_
  refine SW.iload_n (pc := 1) g (dt dt_X10_needPerson 1 rfl) rfl ?_
  refine SW.iconst (pc := 2) (v := 0) g (dt dt_X10_needPerson 2 rfl) ki_0 ?_
  refine SW.aload_n (pc := 3) g (dt dt_X10_needPerson 3 rfl) rfl ?_
  refine SW.getR (pc := 4) g (dt dt_X10_needPerson 4 rfl) fl_X10_19 cell_0 rfl ?_
  refine SW.getI (pc := 7) g (dt dt_X10_needPerson 5 rfl) fl_X10_180 cell_3 rfl ?_
  refine SW.iconst (pc := 10) (v := 1) g (dt dt_X10_needPerson 6 rfl) ki_1 ?_
  refine SW.isub (pc := 11) g (dt dt_X10_needPerson 7 rfl) ?_
  obtain ⟨r1, h2, h⟩ := bindI h
  refine SW.callSi (pc := 12) g (dt dt_X10_needPerson 8 rfl) (mt_f_sx_within _ _ _ _ ad ν lay0   N μ a1 0 ((μ 3 3) - 1) r1 h2) me_X10_within ms_X10_within ml_X10_250 rfl (Nat.le_of_ble_eq_true rfl) (Nat.le_of_ble_eq_true rfl) (Nat.le_of_ble_eq_true rfl) (Nat.le_of_ble_eq_true rfl) rfl ?_
  rcases tbI h with ⟨r3, h4, h⟩ | ⟨r3, h4, rfl⟩
  · refine SW.callXr (pc := 15) (r := none) g (dt dt_X10_needPerson 9 rfl) (mtx_f_x_needThere _ _ _ _ ad ν N μ r1 (.inl r3) h4) me_X10_needThere mv_X10_needThere ml_X10_254 cell_0 rfl rfl (Nat.le_of_ble_eq_true rfl) (Nat.le_of_ble_eq_true rfl) (Nat.le_of_ble_eq_true rfl) (Nat.le_of_ble_eq_true rfl) rfl rfl ?_
    exact SW.vreturn (pc := 18) g (leafXv h ho) rfl (Nat.le_of_ble_eq_true rfl) (Nat.le_of_ble_eq_true rfl) (dt dt_X10_needPerson 10 rfl)
  · exact SW.callXt (pc := 15) g (dt dt_X10_needPerson 9 rfl) ho rfl htab (mtx_f_x_needThere _ _ _ _ ad ν N μ r1 (.inr r3) h4) me_X10_needThere mv_X10_needThere ml_X10_254 cell_0 rfl rfl (Nat.le_of_ble_eq_true rfl) (Nat.le_of_ble_eq_true rfl) (Nat.le_of_ble_eq_true rfl) (Nat.le_of_ble_eq_true rfl) rfl
set_option maxRecDepth 100000 in
set_option maxHeartbeats 4000000 in
theorem mtx_f_x_needPerson (l : Launch) (D : va_G) (cI cL : ClassId) (ad : Nat → Nat) (ν : sw_N) (N : Nat) (μ : sw_M) (a1 : Int32) (o : sw_M ⊕ (String × sw_M)) (h : f_x_needPerson N μ a1 = some o) : MetX l D cI cL yX10_needPerson cX10_needPerson 2 none 9 1 6 (fun a => a = ad) ad [.ref 0, .int a1] lay0 μ ν (xo_v o).1 lay0 (xo_v o).2 ν :=
  MetX.of (n := 0) rfl (Nat.le_of_ble_eq_true rfl) (fun G g ho hm htab => ok_f_x_needPerson  g hm htab  μ ho a1 h)
def f_x_person (N : Nat)  (μ : sw_M) (a1 : Int32) (a2 : Int32) : Option ((Int32 × sw_M) ⊕ (String × sw_M)) :=
  tb (f_x_needPerson N μ a1) (fun r1 =>
    tb (f_x_needWhat N r1 a2 4) (fun r3 =>
      if a2 = 0 then
        Option.bind (f_sx_at N 10 5 r3 a1) (fun r5 =>
          some (.inl (r5, r3)))
      else if a2 = 1 then
        Option.bind (f_sx_at N 39 5 r3 a1) (fun r7 =>
          some (.inl (r7, r3)))
      else if a2 = 2 then
        Option.bind (f_sx_at N 40 5 r3 a1) (fun r9 =>
          some (.inl (r9, r3)))
      else if a2 = 3 then
        Option.bind (f_days_loadOf N  r3 a1) (fun r11 =>
          some (.inl (r11, r3)))
      else 
        Option.bind (f_days_carriedBy N  r3 a1) (fun r13 =>
          some (.inl (r13, r3)))))
set_option maxRecDepth 100000 in
set_option maxHeartbeats 4000000 in
theorem ok_f_x_person {G : sw_G} {ad : Nat → Nat} {ν : sw_N}   {N : Nat} {o : (Int32 × sw_M) ⊕ (String × sw_M)} (g : sw_ok G cX10_person "DeadWires" (some .int) 10 2 12 ad) (hm : G.2.2.1.2.1.maxLocals = 3) (htab : ∀ x ∈ G.2.2.1.2.1.exceptionTable.toList, False)  (μ : sw_M) (ho : sw_out G 2 12 (fun a => a = ad) (xo_i o).1 lay0 (xo_i o).2 ν) (a1 : Int32) (a2 : Int32) (h : f_x_person N  μ a1 a2 = some o) : SW G ad lay0 ν 0 0 0 [some (.ref 0), some (.int a1), some (.int a2)] [] μ := by
  unfold f_x_person at h
  refine SW.aload_n (pc := 0) g (dt dt_X10_person 0 rfl) rfl ?_
  refine SW.iload_n (pc := 1) g (dt dt_X10_person 1 rfl) rfl ?_
  rcases tbI h with ⟨r1, h2, h⟩ | ⟨r1, h2, rfl⟩
  · refine SW.callXr (pc := 2) (r := none) g (dt dt_X10_person 2 rfl) (mtx_f_x_needPerson _ _ _ _ ad ν N μ a1 (.inl r1) h2) me_X10_needPerson mv_X10_needPerson ml_X10_267 cell_0 rfl rfl (Nat.le_of_ble_eq_true rfl) (Nat.le_of_ble_eq_true rfl) (Nat.le_of_ble_eq_true rfl) (Nat.le_of_ble_eq_true rfl) rfl rfl ?_
    refine SW.aload_n (pc := 5) g (dt dt_X10_person 3 rfl) rfl ?_
    refine SW.iload_n (pc := 6) g (dt dt_X10_person 4 rfl) rfl ?_
    refine SW.iconst (pc := 7) (v := 4) g (dt dt_X10_person 5 rfl) ki_4 ?_
    rcases tbI h with ⟨r3, h4, h⟩ | ⟨r3, h4, rfl⟩
    · refine SW.callXr (pc := 8) (r := none) g (dt dt_X10_person 6 rfl) (mtx_f_x_needWhat _ _ _ _ ad ν N r1 a2 4 (.inl r3) h4) me_X10_needWhat mv_X10_needWhat ml_X10_171 cell_0 rfl rfl (Nat.le_of_ble_eq_true rfl) (Nat.le_of_ble_eq_true rfl) (Nat.le_of_ble_eq_true rfl) (Nat.le_of_ble_eq_true rfl) rfl rfl ?_
      refine SW.iload_n (pc := 11) g (dt dt_X10_person 7 rfl) rfl ?_
      refine SW.tsw (pc := 12) (dn := 89) (tb := [(0, 44), (1, 56), (2, 68), (3, 80)]) g (dt dt_X10_person 8 rfl) (by decide) ?_
      refine sw_cons (fun hc => ?_) (fun hc => ?_)
      · have h := iteT hc h
        refine SW.aload_n (pc := 44) g (dt dt_X10_person 9 rfl) rfl ?_
        refine SW.getR (pc := 45) g (dt dt_X10_person 10 rfl) fl_X10_19 cell_0 rfl ?_
        refine SW.getR (pc := 48) g (dt dt_X10_person 11 rfl) fl_X10_270 cell_3 rfl ?_
        refine SW.iload_n (pc := 51) g (dt dt_X10_person 12 rfl) rfl ?_
        obtain ⟨r5, h6, h⟩ := bindI h
        refine SW.callSi (pc := 52) g (dt dt_X10_person 13 rfl) (mt_f_sx_at _ _ _ _ ad ν lay0 10 5 cell_10 N r3 a1 r5 h6) me_X10_at ms_X10_at ml_X10_226 rfl (Nat.le_of_ble_eq_true rfl) (Nat.le_of_ble_eq_true rfl) (Nat.le_of_ble_eq_true rfl) (Nat.le_of_ble_eq_true rfl) rfl ?_
        exact SW.ireturn (pc := 55) g (leafXi h ho) rfl (Nat.le_of_ble_eq_true rfl) (Nat.le_of_ble_eq_true rfl) (dt dt_X10_person 14 rfl)
      · have h := iteF hc h
        refine sw_cons (fun hc => ?_) (fun hc => ?_)
        · have h := iteT hc h
          refine SW.aload_n (pc := 56) g (dt dt_X10_person 15 rfl) rfl ?_
          refine SW.getR (pc := 57) g (dt dt_X10_person 16 rfl) fl_X10_51 cell_0 rfl ?_
          refine SW.getR (pc := 60) g (dt dt_X10_person 17 rfl) fl_X10_273 cell_35 rfl ?_
          refine SW.iload_n (pc := 63) g (dt dt_X10_person 18 rfl) rfl ?_
          obtain ⟨r7, h8, h⟩ := bindI h
          refine SW.callSi (pc := 64) g (dt dt_X10_person 19 rfl) (mt_f_sx_at _ _ _ _ ad ν lay0 39 5 cell_39 N r3 a1 r7 h8) me_X10_at ms_X10_at ml_X10_226 rfl (Nat.le_of_ble_eq_true rfl) (Nat.le_of_ble_eq_true rfl) (Nat.le_of_ble_eq_true rfl) (Nat.le_of_ble_eq_true rfl) rfl ?_
          exact SW.ireturn (pc := 67) g (leafXi h ho) rfl (Nat.le_of_ble_eq_true rfl) (Nat.le_of_ble_eq_true rfl) (dt dt_X10_person 20 rfl)
        · have h := iteF hc h
          refine sw_cons (fun hc => ?_) (fun hc => ?_)
          · have h := iteT hc h
            refine SW.aload_n (pc := 68) g (dt dt_X10_person 21 rfl) rfl ?_
            refine SW.getR (pc := 69) g (dt dt_X10_person 22 rfl) fl_X10_51 cell_0 rfl ?_
            refine SW.getR (pc := 72) g (dt dt_X10_person 23 rfl) fl_X10_276 cell_35 rfl ?_
            refine SW.iload_n (pc := 75) g (dt dt_X10_person 24 rfl) rfl ?_
            obtain ⟨r9, h10, h⟩ := bindI h
            refine SW.callSi (pc := 76) g (dt dt_X10_person 25 rfl) (mt_f_sx_at _ _ _ _ ad ν lay0 40 5 cell_40 N r3 a1 r9 h10) me_X10_at ms_X10_at ml_X10_226 rfl (Nat.le_of_ble_eq_true rfl) (Nat.le_of_ble_eq_true rfl) (Nat.le_of_ble_eq_true rfl) (Nat.le_of_ble_eq_true rfl) rfl ?_
            exact SW.ireturn (pc := 79) g (leafXi h ho) rfl (Nat.le_of_ble_eq_true rfl) (Nat.le_of_ble_eq_true rfl) (dt dt_X10_person 26 rfl)
          · have h := iteF hc h
            refine sw_cons (fun hc => ?_) (fun hc => ?_)
            · have h := iteT hc h
              refine SW.aload_n (pc := 80) g (dt dt_X10_person 27 rfl) rfl ?_
              refine SW.getR (pc := 81) g (dt dt_X10_person 28 rfl) fl_X10_51 cell_0 rfl ?_
              refine SW.iload_n (pc := 84) g (dt dt_X10_person 29 rfl) rfl ?_
              obtain ⟨r11, h12, h⟩ := bindI h
              refine SW.callVi (pc := 85) g (dt dt_X10_person 30 rfl) (mt_f_days_loadOf _ _ _ _ ad ν   N r3 a1 r11 h12) me_X2_loadOf mv_X2_loadOf ml_X10_279 cell_35 rfl rfl (Nat.le_of_ble_eq_true rfl) (Nat.le_of_ble_eq_true rfl) (Nat.le_of_ble_eq_true rfl) (Nat.le_of_ble_eq_true rfl) rfl ?_
              exact SW.ireturn (pc := 88) g (leafXi h ho) rfl (Nat.le_of_ble_eq_true rfl) (Nat.le_of_ble_eq_true rfl) (dt dt_X10_person 31 rfl)
            · have h := iteF hc h
              change SW _ _ _ _ _ _ 89 _ _ _
              refine SW.aload_n (pc := 89) g (dt dt_X10_person 32 rfl) rfl ?_
              refine SW.getR (pc := 90) g (dt dt_X10_person 33 rfl) fl_X10_51 cell_0 rfl ?_
              refine SW.iload_n (pc := 93) g (dt dt_X10_person 34 rfl) rfl ?_
              obtain ⟨r13, h14, h⟩ := bindI h
              refine SW.callVi (pc := 94) g (dt dt_X10_person 35 rfl) (mt_f_days_carriedBy _ _ _ _ ad ν   N r3 a1 r13 h14) me_X2_carriedBy mv_X2_carriedBy ml_X10_282 cell_35 rfl rfl (Nat.le_of_ble_eq_true rfl) (Nat.le_of_ble_eq_true rfl) (Nat.le_of_ble_eq_true rfl) (Nat.le_of_ble_eq_true rfl) rfl ?_
              exact SW.ireturn (pc := 97) g (leafXi h ho) rfl (Nat.le_of_ble_eq_true rfl) (Nat.le_of_ble_eq_true rfl) (dt dt_X10_person 36 rfl)
    · exact SW.callXt (pc := 8) g (dt dt_X10_person 6 rfl) ho rfl htab (mtx_f_x_needWhat _ _ _ _ ad ν N r1 a2 4 (.inr r3) h4) me_X10_needWhat mv_X10_needWhat ml_X10_171 cell_0 rfl rfl (Nat.le_of_ble_eq_true rfl) (Nat.le_of_ble_eq_true rfl) (Nat.le_of_ble_eq_true rfl) (Nat.le_of_ble_eq_true rfl) rfl
  · exact SW.callXt (pc := 2) g (dt dt_X10_person 2 rfl) ho rfl htab (mtx_f_x_needPerson _ _ _ _ ad ν N μ a1 (.inr r1) h2) me_X10_needPerson mv_X10_needPerson ml_X10_267 cell_0 rfl rfl (Nat.le_of_ble_eq_true rfl) (Nat.le_of_ble_eq_true rfl) (Nat.le_of_ble_eq_true rfl) (Nat.le_of_ble_eq_true rfl) rfl
set_option maxRecDepth 100000 in
set_option maxHeartbeats 4000000 in
theorem mtx_f_x_person (l : Launch) (D : va_G) (cI cL : ClassId) (ad : Nat → Nat) (ν : sw_N) (N : Nat) (μ : sw_M) (a1 : Int32) (a2 : Int32) (o : (Int32 × sw_M) ⊕ (String × sw_M)) (h : f_x_person N μ a1 a2 = some o) : MetX l D cI cL yX10_person cX10_person 3 (some .int) 10 2 12 (fun a => a = ad) ad [.ref 0, .int a1, .int a2] lay0 μ ν (xo_i o).1 lay0 (xo_i o).2 ν :=
  MetX.of (n := 0) rfl (Nat.le_of_ble_eq_true rfl) (fun G g ho hm htab => ok_f_x_person  g hm htab  μ ho a1 a2 h)
def f_x_toll (N : Nat)  (μ : sw_M) (a1 : Int32) (a2 : Int32) : Option ((Int32 × sw_M) ⊕ (String × sw_M)) :=
  tb (f_x_needPerson N μ a1) (fun r1 =>
    tb (f_x_needWire N r1 a2) (fun r3 =>
      Option.bind (f_days_tollOf N  r3 a1 a2) (fun r5 =>
        some (.inl (r5.1, r5.2)))))
set_option maxRecDepth 100000 in
set_option maxHeartbeats 4000000 in
theorem ok_f_x_toll {G : sw_G} {ad : Nat → Nat} {ν : sw_N}   {N : Nat} {o : (Int32 × sw_M) ⊕ (String × sw_M)} (g : sw_ok G cX10_toll "DeadWires" (some .int) 10 2 12 ad) (hm : G.2.2.1.2.1.maxLocals = 3) (htab : ∀ x ∈ G.2.2.1.2.1.exceptionTable.toList, False)  (μ : sw_M) (ho : sw_out G 2 12 (fun a => a = ad) (xo_i o).1 lay0 (xo_i o).2 ν) (a1 : Int32) (a2 : Int32) (h : f_x_toll N  μ a1 a2 = some o) : SW G ad lay0 ν 0 0 0 [some (.ref 0), some (.int a1), some (.int a2)] [] μ := by
  unfold f_x_toll at h
  refine SW.aload_n (pc := 0) g (dt dt_X10_toll 0 rfl) rfl ?_
  refine SW.iload_n (pc := 1) g (dt dt_X10_toll 1 rfl) rfl ?_
  rcases tbI h with ⟨r1, h2, h⟩ | ⟨r1, h2, rfl⟩
  · refine SW.callXr (pc := 2) (r := none) g (dt dt_X10_toll 2 rfl) (mtx_f_x_needPerson _ _ _ _ ad ν N μ a1 (.inl r1) h2) me_X10_needPerson mv_X10_needPerson ml_X10_267 cell_0 rfl rfl (Nat.le_of_ble_eq_true rfl) (Nat.le_of_ble_eq_true rfl) (Nat.le_of_ble_eq_true rfl) (Nat.le_of_ble_eq_true rfl) rfl rfl ?_
    refine SW.aload_n (pc := 5) g (dt dt_X10_toll 3 rfl) rfl ?_
    refine SW.iload_n (pc := 6) g (dt dt_X10_toll 4 rfl) rfl ?_
    rcases tbI h with ⟨r3, h4, h⟩ | ⟨r3, h4, rfl⟩
    · refine SW.callXr (pc := 7) (r := none) g (dt dt_X10_toll 5 rfl) (mtx_f_x_needWire _ _ _ _ ad ν N r1 a2 (.inl r3) h4) me_X10_needWire mv_X10_needWire ml_X10_219 cell_0 rfl rfl (Nat.le_of_ble_eq_true rfl) (Nat.le_of_ble_eq_true rfl) (Nat.le_of_ble_eq_true rfl) (Nat.le_of_ble_eq_true rfl) rfl rfl ?_
      refine SW.aload_n (pc := 10) g (dt dt_X10_toll 6 rfl) rfl ?_
      refine SW.getR (pc := 11) g (dt dt_X10_toll 7 rfl) fl_X10_51 cell_0 rfl ?_
      refine SW.iload_n (pc := 14) g (dt dt_X10_toll 8 rfl) rfl ?_
      refine SW.iload_n (pc := 15) g (dt dt_X10_toll 9 rfl) rfl ?_
      obtain ⟨r5, h6, h⟩ := bindI h
      refine SW.callVi (pc := 16) g (dt dt_X10_toll 10 rfl) (mt_f_days_tollOf _ _ _ _ ad ν   N r3 a1 a2 r5 h6) me_X2_tollOf mv_X2_tollOf ml_X10_285 cell_35 rfl rfl (Nat.le_of_ble_eq_true rfl) (Nat.le_of_ble_eq_true rfl) (Nat.le_of_ble_eq_true rfl) (Nat.le_of_ble_eq_true rfl) rfl ?_
      exact SW.ireturn (pc := 19) g (leafXi h ho) rfl (Nat.le_of_ble_eq_true rfl) (Nat.le_of_ble_eq_true rfl) (dt dt_X10_toll 11 rfl)
    · exact SW.callXt (pc := 7) g (dt dt_X10_toll 5 rfl) ho rfl htab (mtx_f_x_needWire _ _ _ _ ad ν N r1 a2 (.inr r3) h4) me_X10_needWire mv_X10_needWire ml_X10_219 cell_0 rfl rfl (Nat.le_of_ble_eq_true rfl) (Nat.le_of_ble_eq_true rfl) (Nat.le_of_ble_eq_true rfl) (Nat.le_of_ble_eq_true rfl) rfl
  · exact SW.callXt (pc := 2) g (dt dt_X10_toll 2 rfl) ho rfl htab (mtx_f_x_needPerson _ _ _ _ ad ν N μ a1 (.inr r1) h2) me_X10_needPerson mv_X10_needPerson ml_X10_267 cell_0 rfl rfl (Nat.le_of_ble_eq_true rfl) (Nat.le_of_ble_eq_true rfl) (Nat.le_of_ble_eq_true rfl) (Nat.le_of_ble_eq_true rfl) rfl
set_option maxRecDepth 100000 in
set_option maxHeartbeats 4000000 in
theorem mtx_f_x_toll (l : Launch) (D : va_G) (cI cL : ClassId) (ad : Nat → Nat) (ν : sw_N) (N : Nat) (μ : sw_M) (a1 : Int32) (a2 : Int32) (o : (Int32 × sw_M) ⊕ (String × sw_M)) (h : f_x_toll N μ a1 a2 = some o) : MetX l D cI cL yX10_toll cX10_toll 3 (some .int) 10 2 12 (fun a => a = ad) ad [.ref 0, .int a1, .int a2] lay0 μ ν (xo_i o).1 lay0 (xo_i o).2 ν :=
  MetX.of (n := 0) rfl (Nat.le_of_ble_eq_true rfl) (fun G g ho hm htab => ok_f_x_toll  g hm htab  μ ho a1 a2 h)
def f_x_would_99 (N : Nat)   (μ : sw_M) (x1 : Int32) (x2 : Int32) (x3 : Int32) (x4 : Int32) (x5 : Int32) (x6 : Int32) (x7 : Int32) (s0 : Int32) : Option ((Int32 × sw_M) ⊕ (String × sw_M)) :=
  tb (f_x_need N μ s0) (fun r1 =>
    Option.bind (f_law_setValues N  r1 x1 x2 x3 x4 x5 x6 x7) (fun r3 =>
      Option.bind (f_law_reckon N  r3 ) (fun r5 =>
        some (.inl (r5.1, r5.2)))))
def f_x_would_98 (N : Nat)   (μ : sw_M) (x1 : Int32) (x2 : Int32) (x3 : Int32) (x4 : Int32) (x5 : Int32) (x6 : Int32) (x7 : Int32) : Option ((Int32 × sw_M) ⊕ (String × sw_M)) :=
  f_x_would_99 N    μ x1 x2 x3 x4 x5 x6 x7 0
def f_x_would_69 (N : Nat)   (μ : sw_M) (x1 : Int32) (x2 : Int32) (x3 : Int32) (x4 : Int32) (x5 : Int32) (x6 : Int32) (x7 : Int32) (s0 : Int32) : Option ((Int32 × sw_M) ⊕ (String × sw_M)) :=
  tb (f_x_need N μ s0) (fun r1 =>
    Option.bind (f_sx_within N  r1 x6 0 12) (fun r3 =>
      if r3 = 0 then
        f_x_would_98 N    r1 x1 x2 x3 x4 x5 x6 x7
      else
        Option.bind (f_sx_within N  r1 x7 0 4) (fun r5 =>
          if r5 = 0 then
            f_x_would_98 N    r1 x1 x2 x3 x4 x5 x6 x7
          else
            f_x_would_99 N    r1 x1 x2 x3 x4 x5 x6 x7 1)))
def f_x_would_68 (N : Nat)   (μ : sw_M) (x1 : Int32) (x2 : Int32) (x3 : Int32) (x4 : Int32) (x5 : Int32) (x6 : Int32) (x7 : Int32) : Option ((Int32 × sw_M) ⊕ (String × sw_M)) :=
  f_x_would_69 N    μ x1 x2 x3 x4 x5 x6 x7 0
def f_x_would_37 (N : Nat)   (μ : sw_M) (x1 : Int32) (x2 : Int32) (x3 : Int32) (x4 : Int32) (x5 : Int32) (x6 : Int32) (x7 : Int32) (s0 : Int32) : Option ((Int32 × sw_M) ⊕ (String × sw_M)) :=
  tb (f_x_need N μ s0) (fun r1 =>
    Option.bind (f_sx_within N  r1 x4 0 99) (fun r3 =>
      if r3 = 0 then
        f_x_would_68 N    r1 x1 x2 x3 x4 x5 x6 x7
      else
        Option.bind (f_sx_within N  r1 x5 0 400) (fun r5 =>
          if r5 = 0 then
            f_x_would_68 N    r1 x1 x2 x3 x4 x5 x6 x7
          else
            f_x_would_69 N    r1 x1 x2 x3 x4 x5 x6 x7 1)))
def f_x_would_36 (N : Nat)   (μ : sw_M) (x1 : Int32) (x2 : Int32) (x3 : Int32) (x4 : Int32) (x5 : Int32) (x6 : Int32) (x7 : Int32) : Option ((Int32 × sw_M) ⊕ (String × sw_M)) :=
  f_x_would_37 N    μ x1 x2 x3 x4 x5 x6 x7 0
def f_x_would (N : Nat)  (μ : sw_M) (a1 : Int32) (a2 : Int32) (a3 : Int32) (a4 : Int32) (a5 : Int32) (a6 : Int32) (a7 : Int32) : Option ((Int32 × sw_M) ⊕ (String × sw_M)) :=
  Option.bind (f_sx_within N  μ a1 0 180) (fun r1 =>
    if r1 = 0 then
      f_x_would_36 N    μ a1 a2 a3 a4 a5 a6 a7
    else
      Option.bind (f_sx_within N  μ a2 1 40) (fun r3 =>
        if r3 = 0 then
          f_x_would_36 N    μ a1 a2 a3 a4 a5 a6 a7
        else
          Option.bind (f_sx_within N  μ a3 0 60) (fun r5 =>
            if r5 = 0 then
              f_x_would_36 N    μ a1 a2 a3 a4 a5 a6 a7
            else
              f_x_would_37 N    μ a1 a2 a3 a4 a5 a6 a7 1)))
set_option maxRecDepth 100000 in
set_option maxHeartbeats 4000000 in
theorem ok_f_x_would_99 {G : sw_G} {ad : Nat → Nat} {ν : sw_N}   {N : Nat} {o : (Int32 × sw_M) ⊕ (String × sw_M)} (g : sw_ok G cX10_would "DeadWires" (some .int) 9 3 18 ad) (hm : G.2.2.1.2.1.maxLocals = 8) (htab : ∀ x ∈ G.2.2.1.2.1.exceptionTable.toList, False)  (ho : sw_out G 3 18 (fun a => a = ad) (xo_i o).1 lay0 (xo_i o).2 ν)  (μ : sw_M) (x1 : Int32) (x2 : Int32) (x3 : Int32) (x4 : Int32) (x5 : Int32) (x6 : Int32) (x7 : Int32) (s0 : Int32) (h : f_x_would_99 N    μ x1 x2 x3 x4 x5 x6 x7 s0 = some o) : SW G ad lay0 ν 2 12 99 [some (.ref 0), some (.int x1), some (.int x2), some (.int x3), some (.int x4), some (.int x5), some (.int x6), some (.int x7)] [.int s0, .ref 0] μ := by
  unfold f_x_would_99 at h
  rcases tbI h with ⟨r1, h2, h⟩ | ⟨r1, h2, rfl⟩
  · refine SW.callXr (pc := 99) (r := none) g (dt dt_X10_would 49 rfl) (mtx_f_x_need _ _ _ _ ad ν N μ s0 (.inl r1) h2) me_X10_need mv_X10_need ml_X10_289 cell_0 rfl rfl (Nat.le_of_ble_eq_true rfl) (Nat.le_of_ble_eq_true rfl) (Nat.le_of_ble_eq_true rfl) (Nat.le_of_ble_eq_true rfl) rfl rfl ?_
    refine SW.aload_n (pc := 102) g (dt dt_X10_would 50 rfl) rfl ?_
    refine SW.getR (pc := 103) g (dt dt_X10_would 51 rfl) fl_X10_29 cell_0 rfl ?_
    refine SW.iload_n (pc := 106) g (dt dt_X10_would 52 rfl) rfl ?_
    refine SW.iload_n (pc := 107) g (dt dt_X10_would 53 rfl) rfl ?_
    refine SW.iload_n (pc := 108) g (dt dt_X10_would 54 rfl) rfl ?_
    refine SW.iload (pc := 109) g (dt dt_X10_would 55 rfl) rfl ?_
    refine SW.iload (pc := 111) g (dt dt_X10_would 56 rfl) rfl ?_
    refine SW.iload (pc := 113) g (dt dt_X10_would 57 rfl) rfl ?_
    refine SW.iload (pc := 115) g (dt dt_X10_would 58 rfl) rfl ?_
    obtain ⟨r3, h4, h⟩ := bindI h
    refine SW.callVv (pc := 117) g (dt dt_X10_would 59 rfl) (mt_f_law_setValues _ _ _ _ ad ν   N r1 x1 x2 x3 x4 x5 x6 x7 r3 h4) me_X5_setValues mv_X5_setValues ml_X10_292 cell_19 rfl rfl (Nat.le_of_ble_eq_true rfl) (Nat.le_of_ble_eq_true rfl) (Nat.le_of_ble_eq_true rfl) (Nat.le_of_ble_eq_true rfl) rfl ?_
    refine SW.aload_n (pc := 120) g (dt dt_X10_would 60 rfl) rfl ?_
    refine SW.getR (pc := 121) g (dt dt_X10_would 61 rfl) fl_X10_29 cell_0 rfl ?_
    obtain ⟨r5, h6, h⟩ := bindI h
    refine SW.callVi (pc := 124) g (dt dt_X10_would 62 rfl) (mt_f_law_reckon _ _ _ _ ad ν   N r3  r5 h6) me_X5_reckon mv_X5_reckon ml_X10_296 cell_19 rfl rfl (Nat.le_of_ble_eq_true rfl) (Nat.le_of_ble_eq_true rfl) (Nat.le_of_ble_eq_true rfl) (Nat.le_of_ble_eq_true rfl) rfl ?_
    exact SW.ireturn (pc := 127) g (leafXi h ho) rfl (Nat.le_of_ble_eq_true rfl) (Nat.le_of_ble_eq_true rfl) (dt dt_X10_would 63 rfl)
  · exact SW.callXt (pc := 99) g (dt dt_X10_would 49 rfl) ho rfl htab (mtx_f_x_need _ _ _ _ ad ν N μ s0 (.inr r1) h2) me_X10_need mv_X10_need ml_X10_289 cell_0 rfl rfl (Nat.le_of_ble_eq_true rfl) (Nat.le_of_ble_eq_true rfl) (Nat.le_of_ble_eq_true rfl) (Nat.le_of_ble_eq_true rfl) rfl
set_option maxRecDepth 100000 in
set_option maxHeartbeats 4000000 in
theorem ok_f_x_would_98 {G : sw_G} {ad : Nat → Nat} {ν : sw_N}   {N : Nat} {o : (Int32 × sw_M) ⊕ (String × sw_M)} (g : sw_ok G cX10_would "DeadWires" (some .int) 9 3 18 ad) (hm : G.2.2.1.2.1.maxLocals = 8) (htab : ∀ x ∈ G.2.2.1.2.1.exceptionTable.toList, False)  (ho : sw_out G 3 18 (fun a => a = ad) (xo_i o).1 lay0 (xo_i o).2 ν)  (μ : sw_M) (x1 : Int32) (x2 : Int32) (x3 : Int32) (x4 : Int32) (x5 : Int32) (x6 : Int32) (x7 : Int32) (h : f_x_would_98 N    μ x1 x2 x3 x4 x5 x6 x7 = some o) : SW G ad lay0 ν 2 12 98 [some (.ref 0), some (.int x1), some (.int x2), some (.int x3), some (.int x4), some (.int x5), some (.int x6), some (.int x7)] [.ref 0] μ := by
  unfold f_x_would_98 at h
  refine SW.iconst (pc := 98) (v := 0) g (dt dt_X10_would 48 rfl) ki_0 ?_
  refine SW.msk [true, true, true, true, true, true, true, true] ?_
  exact ok_f_x_would_99  g hm htab  ho    μ x1 x2 x3 x4 x5 x6 x7 0 h
set_option maxRecDepth 100000 in
set_option maxHeartbeats 4000000 in
theorem ok_f_x_would_69 {G : sw_G} {ad : Nat → Nat} {ν : sw_N}   {N : Nat} {o : (Int32 × sw_M) ⊕ (String × sw_M)} (g : sw_ok G cX10_would "DeadWires" (some .int) 9 3 18 ad) (hm : G.2.2.1.2.1.maxLocals = 8) (htab : ∀ x ∈ G.2.2.1.2.1.exceptionTable.toList, False)  (ho : sw_out G 3 18 (fun a => a = ad) (xo_i o).1 lay0 (xo_i o).2 ν)  (μ : sw_M) (x1 : Int32) (x2 : Int32) (x3 : Int32) (x4 : Int32) (x5 : Int32) (x6 : Int32) (x7 : Int32) (s0 : Int32) (h : f_x_would_69 N    μ x1 x2 x3 x4 x5 x6 x7 s0 = some o) : SW G ad lay0 ν 1 6 69 [some (.ref 0), some (.int x1), some (.int x2), some (.int x3), some (.int x4), some (.int x5), some (.int x6), some (.int x7)] [.int s0, .ref 0] μ := by
  unfold f_x_would_69 at h
  rcases tbI h with ⟨r1, h2, h⟩ | ⟨r1, h2, rfl⟩
  · refine SW.callXr (pc := 69) (r := none) g (dt dt_X10_would 34 rfl) (mtx_f_x_need _ _ _ _ ad ν N μ s0 (.inl r1) h2) me_X10_need mv_X10_need ml_X10_289 cell_0 rfl rfl (Nat.le_of_ble_eq_true rfl) (Nat.le_of_ble_eq_true rfl) (Nat.le_of_ble_eq_true rfl) (Nat.le_of_ble_eq_true rfl) rfl rfl ?_
    refine SW.aload_n (pc := 72) g (dt dt_X10_would 35 rfl) rfl ?_
    refine SW.iload (pc := 73) g (dt dt_X10_would 36 rfl) rfl ?_
    refine SW.iconst (pc := 75) (v := 0) g (dt dt_X10_would 37 rfl) ki_0 ?_
    refine SW.bipush (pc := 76) (v := 12) g (dt dt_X10_would 38 rfl) kb_12 ?_
    obtain ⟨r3, h4, h⟩ := bindI h
    refine SW.callSi (pc := 78) g (dt dt_X10_would 39 rfl) (mt_f_sx_within _ _ _ _ ad ν lay0   N r1 x6 0 12 r3 h4) me_X10_within ms_X10_within ml_X10_250 rfl (Nat.le_of_ble_eq_true rfl) (Nat.le_of_ble_eq_true rfl) (Nat.le_of_ble_eq_true rfl) (Nat.le_of_ble_eq_true rfl) rfl ?_
    refine SW.if_eq (pc := 81) (t := 98) g (dt dt_X10_would 40 rfl) rfl (fun hc => ?_) (fun hc => ?_)
    · have h := iteT hc h
      refine SW.msk [true, true, true, true, true, true, true, true] ?_
      exact ok_f_x_would_98  g hm htab  ho    r1 x1 x2 x3 x4 x5 x6 x7 h
    · have h := iteF hc h
      refine SW.iload (pc := 84) g (dt dt_X10_would 41 rfl) rfl ?_
      refine SW.iconst (pc := 86) (v := 0) g (dt dt_X10_would 42 rfl) ki_0 ?_
      refine SW.iconst (pc := 87) (v := 4) g (dt dt_X10_would 43 rfl) ki_4 ?_
      obtain ⟨r5, h6, h⟩ := bindI h
      refine SW.callSi (pc := 88) g (dt dt_X10_would 44 rfl) (mt_f_sx_within _ _ _ _ ad ν lay0   N r1 x7 0 4 r5 h6) me_X10_within ms_X10_within ml_X10_250 rfl (Nat.le_of_ble_eq_true rfl) (Nat.le_of_ble_eq_true rfl) (Nat.le_of_ble_eq_true rfl) (Nat.le_of_ble_eq_true rfl) rfl ?_
      refine SW.if_eq (pc := 91) (t := 98) g (dt dt_X10_would 45 rfl) rfl (fun hc => ?_) (fun hc => ?_)
      · have h := iteT hc h
        refine SW.msk [true, true, true, true, true, true, true, true] ?_
        exact ok_f_x_would_98  g hm htab  ho    r1 x1 x2 x3 x4 x5 x6 x7 h
      · have h := iteF hc h
        refine SW.iconst (pc := 94) (v := 1) g (dt dt_X10_would 46 rfl) ki_1 ?_
        refine SW.goto (pc := 95) (t := 99) g (dt dt_X10_would 47 rfl) rfl ?_
        refine SW.msk [true, true, true, true, true, true, true, true] ?_
        exact ok_f_x_would_99  g hm htab  ho    r1 x1 x2 x3 x4 x5 x6 x7 1 h
  · exact SW.callXt (pc := 69) g (dt dt_X10_would 34 rfl) ho rfl htab (mtx_f_x_need _ _ _ _ ad ν N μ s0 (.inr r1) h2) me_X10_need mv_X10_need ml_X10_289 cell_0 rfl rfl (Nat.le_of_ble_eq_true rfl) (Nat.le_of_ble_eq_true rfl) (Nat.le_of_ble_eq_true rfl) (Nat.le_of_ble_eq_true rfl) rfl
set_option maxRecDepth 100000 in
set_option maxHeartbeats 4000000 in
theorem ok_f_x_would_68 {G : sw_G} {ad : Nat → Nat} {ν : sw_N}   {N : Nat} {o : (Int32 × sw_M) ⊕ (String × sw_M)} (g : sw_ok G cX10_would "DeadWires" (some .int) 9 3 18 ad) (hm : G.2.2.1.2.1.maxLocals = 8) (htab : ∀ x ∈ G.2.2.1.2.1.exceptionTable.toList, False)  (ho : sw_out G 3 18 (fun a => a = ad) (xo_i o).1 lay0 (xo_i o).2 ν)  (μ : sw_M) (x1 : Int32) (x2 : Int32) (x3 : Int32) (x4 : Int32) (x5 : Int32) (x6 : Int32) (x7 : Int32) (h : f_x_would_68 N    μ x1 x2 x3 x4 x5 x6 x7 = some o) : SW G ad lay0 ν 1 6 68 [some (.ref 0), some (.int x1), some (.int x2), some (.int x3), some (.int x4), some (.int x5), some (.int x6), some (.int x7)] [.ref 0] μ := by
  unfold f_x_would_68 at h
  refine SW.iconst (pc := 68) (v := 0) g (dt dt_X10_would 33 rfl) ki_0 ?_
  refine SW.msk [true, true, true, true, true, true, true, true] ?_
  exact ok_f_x_would_69  g hm htab  ho    μ x1 x2 x3 x4 x5 x6 x7 0 h
set_option maxRecDepth 100000 in
set_option maxHeartbeats 4000000 in
theorem ok_f_x_would_37 {G : sw_G} {ad : Nat → Nat} {ν : sw_N}   {N : Nat} {o : (Int32 × sw_M) ⊕ (String × sw_M)} (g : sw_ok G cX10_would "DeadWires" (some .int) 9 3 18 ad) (hm : G.2.2.1.2.1.maxLocals = 8) (htab : ∀ x ∈ G.2.2.1.2.1.exceptionTable.toList, False)  (ho : sw_out G 3 18 (fun a => a = ad) (xo_i o).1 lay0 (xo_i o).2 ν)  (μ : sw_M) (x1 : Int32) (x2 : Int32) (x3 : Int32) (x4 : Int32) (x5 : Int32) (x6 : Int32) (x7 : Int32) (s0 : Int32) (h : f_x_would_37 N    μ x1 x2 x3 x4 x5 x6 x7 s0 = some o) : SW G ad lay0 ν 0 0 37 [some (.ref 0), some (.int x1), some (.int x2), some (.int x3), some (.int x4), some (.int x5), some (.int x6), some (.int x7)] [.int s0, .ref 0] μ := by
  unfold f_x_would_37 at h
  rcases tbI h with ⟨r1, h2, h⟩ | ⟨r1, h2, rfl⟩
  · refine SW.callXr (pc := 37) (r := none) g (dt dt_X10_would 19 rfl) (mtx_f_x_need _ _ _ _ ad ν N μ s0 (.inl r1) h2) me_X10_need mv_X10_need ml_X10_289 cell_0 rfl rfl (Nat.le_of_ble_eq_true rfl) (Nat.le_of_ble_eq_true rfl) (Nat.le_of_ble_eq_true rfl) (Nat.le_of_ble_eq_true rfl) rfl rfl ?_
    refine SW.aload_n (pc := 40) g (dt dt_X10_would 20 rfl) rfl ?_
    refine SW.iload (pc := 41) g (dt dt_X10_would 21 rfl) rfl ?_
    refine SW.iconst (pc := 43) (v := 0) g (dt dt_X10_would 22 rfl) ki_0 ?_
    refine SW.bipush (pc := 44) (v := 99) g (dt dt_X10_would 23 rfl) kb_99 ?_
    obtain ⟨r3, h4, h⟩ := bindI h
    refine SW.callSi (pc := 46) g (dt dt_X10_would 24 rfl) (mt_f_sx_within _ _ _ _ ad ν lay0   N r1 x4 0 99 r3 h4) me_X10_within ms_X10_within ml_X10_250 rfl (Nat.le_of_ble_eq_true rfl) (Nat.le_of_ble_eq_true rfl) (Nat.le_of_ble_eq_true rfl) (Nat.le_of_ble_eq_true rfl) rfl ?_
    refine SW.if_eq (pc := 49) (t := 68) g (dt dt_X10_would 25 rfl) rfl (fun hc => ?_) (fun hc => ?_)
    · have h := iteT hc h
      refine SW.msk [true, true, true, true, true, true, true, true] ?_
      exact ok_f_x_would_68  g hm htab  ho    r1 x1 x2 x3 x4 x5 x6 x7 h
    · have h := iteF hc h
      refine SW.iload (pc := 52) g (dt dt_X10_would 26 rfl) rfl ?_
      refine SW.iconst (pc := 54) (v := 0) g (dt dt_X10_would 27 rfl) ki_0 ?_
      refine SW.sipush (pc := 55) (v := 400) g (dt dt_X10_would 28 rfl) ks_400 ?_
      obtain ⟨r5, h6, h⟩ := bindI h
      refine SW.callSi (pc := 58) g (dt dt_X10_would 29 rfl) (mt_f_sx_within _ _ _ _ ad ν lay0   N r1 x5 0 400 r5 h6) me_X10_within ms_X10_within ml_X10_250 rfl (Nat.le_of_ble_eq_true rfl) (Nat.le_of_ble_eq_true rfl) (Nat.le_of_ble_eq_true rfl) (Nat.le_of_ble_eq_true rfl) rfl ?_
      refine SW.if_eq (pc := 61) (t := 68) g (dt dt_X10_would 30 rfl) rfl (fun hc => ?_) (fun hc => ?_)
      · have h := iteT hc h
        refine SW.msk [true, true, true, true, true, true, true, true] ?_
        exact ok_f_x_would_68  g hm htab  ho    r1 x1 x2 x3 x4 x5 x6 x7 h
      · have h := iteF hc h
        refine SW.iconst (pc := 64) (v := 1) g (dt dt_X10_would 31 rfl) ki_1 ?_
        refine SW.goto (pc := 65) (t := 69) g (dt dt_X10_would 32 rfl) rfl ?_
        refine SW.msk [true, true, true, true, true, true, true, true] ?_
        exact ok_f_x_would_69  g hm htab  ho    r1 x1 x2 x3 x4 x5 x6 x7 1 h
  · exact SW.callXt (pc := 37) g (dt dt_X10_would 19 rfl) ho rfl htab (mtx_f_x_need _ _ _ _ ad ν N μ s0 (.inr r1) h2) me_X10_need mv_X10_need ml_X10_289 cell_0 rfl rfl (Nat.le_of_ble_eq_true rfl) (Nat.le_of_ble_eq_true rfl) (Nat.le_of_ble_eq_true rfl) (Nat.le_of_ble_eq_true rfl) rfl
set_option maxRecDepth 100000 in
set_option maxHeartbeats 4000000 in
theorem ok_f_x_would_36 {G : sw_G} {ad : Nat → Nat} {ν : sw_N}   {N : Nat} {o : (Int32 × sw_M) ⊕ (String × sw_M)} (g : sw_ok G cX10_would "DeadWires" (some .int) 9 3 18 ad) (hm : G.2.2.1.2.1.maxLocals = 8) (htab : ∀ x ∈ G.2.2.1.2.1.exceptionTable.toList, False)  (ho : sw_out G 3 18 (fun a => a = ad) (xo_i o).1 lay0 (xo_i o).2 ν)  (μ : sw_M) (x1 : Int32) (x2 : Int32) (x3 : Int32) (x4 : Int32) (x5 : Int32) (x6 : Int32) (x7 : Int32) (h : f_x_would_36 N    μ x1 x2 x3 x4 x5 x6 x7 = some o) : SW G ad lay0 ν 0 0 36 [some (.ref 0), some (.int x1), some (.int x2), some (.int x3), some (.int x4), some (.int x5), some (.int x6), some (.int x7)] [.ref 0] μ := by
  unfold f_x_would_36 at h
  refine SW.iconst (pc := 36) (v := 0) g (dt dt_X10_would 18 rfl) ki_0 ?_
  refine SW.msk [true, true, true, true, true, true, true, true] ?_
  exact ok_f_x_would_37  g hm htab  ho    μ x1 x2 x3 x4 x5 x6 x7 0 h
set_option maxRecDepth 100000 in
set_option maxHeartbeats 4000000 in
theorem ok_f_x_would {G : sw_G} {ad : Nat → Nat} {ν : sw_N}   {N : Nat} {o : (Int32 × sw_M) ⊕ (String × sw_M)} (g : sw_ok G cX10_would "DeadWires" (some .int) 9 3 18 ad) (hm : G.2.2.1.2.1.maxLocals = 8) (htab : ∀ x ∈ G.2.2.1.2.1.exceptionTable.toList, False)  (μ : sw_M) (ho : sw_out G 3 18 (fun a => a = ad) (xo_i o).1 lay0 (xo_i o).2 ν) (a1 : Int32) (a2 : Int32) (a3 : Int32) (a4 : Int32) (a5 : Int32) (a6 : Int32) (a7 : Int32) (h : f_x_would N  μ a1 a2 a3 a4 a5 a6 a7 = some o) : SW G ad lay0 ν 0 0 0 [some (.ref 0), some (.int a1), some (.int a2), some (.int a3), some (.int a4), some (.int a5), some (.int a6), some (.int a7)] [] μ := by
  unfold f_x_would at h
  refine SW.aload_n (pc := 0) g (dt dt_X10_would 0 rfl) rfl ?_
  refine SW.iload_n (pc := 1) g (dt dt_X10_would 1 rfl) rfl ?_
  refine SW.iconst (pc := 2) (v := 0) g (dt dt_X10_would 2 rfl) ki_0 ?_
  refine SW.sipush (pc := 3) (v := 180) g (dt dt_X10_would 3 rfl) ks_180 ?_
  obtain ⟨r1, h2, h⟩ := bindI h
  refine SW.callSi (pc := 6) g (dt dt_X10_would 4 rfl) (mt_f_sx_within _ _ _ _ ad ν lay0   N μ a1 0 180 r1 h2) me_X10_within ms_X10_within ml_X10_250 rfl (Nat.le_of_ble_eq_true rfl) (Nat.le_of_ble_eq_true rfl) (Nat.le_of_ble_eq_true rfl) (Nat.le_of_ble_eq_true rfl) rfl ?_
  refine SW.if_eq (pc := 9) (t := 36) g (dt dt_X10_would 5 rfl) rfl (fun hc => ?_) (fun hc => ?_)
  · have h := iteT hc h
    refine SW.msk [true, true, true, true, true, true, true, true] ?_
    exact ok_f_x_would_36  g hm htab  ho    μ a1 a2 a3 a4 a5 a6 a7 h
  · have h := iteF hc h
    refine SW.iload_n (pc := 12) g (dt dt_X10_would 6 rfl) rfl ?_
    refine SW.iconst (pc := 13) (v := 1) g (dt dt_X10_would 7 rfl) ki_1 ?_
    refine SW.bipush (pc := 14) (v := 40) g (dt dt_X10_would 8 rfl) kb_40 ?_
    obtain ⟨r3, h4, h⟩ := bindI h
    refine SW.callSi (pc := 16) g (dt dt_X10_would 9 rfl) (mt_f_sx_within _ _ _ _ ad ν lay0   N μ a2 1 40 r3 h4) me_X10_within ms_X10_within ml_X10_250 rfl (Nat.le_of_ble_eq_true rfl) (Nat.le_of_ble_eq_true rfl) (Nat.le_of_ble_eq_true rfl) (Nat.le_of_ble_eq_true rfl) rfl ?_
    refine SW.if_eq (pc := 19) (t := 36) g (dt dt_X10_would 10 rfl) rfl (fun hc => ?_) (fun hc => ?_)
    · have h := iteT hc h
      refine SW.msk [true, true, true, true, true, true, true, true] ?_
      exact ok_f_x_would_36  g hm htab  ho    μ a1 a2 a3 a4 a5 a6 a7 h
    · have h := iteF hc h
      refine SW.iload_n (pc := 22) g (dt dt_X10_would 11 rfl) rfl ?_
      refine SW.iconst (pc := 23) (v := 0) g (dt dt_X10_would 12 rfl) ki_0 ?_
      refine SW.bipush (pc := 24) (v := 60) g (dt dt_X10_would 13 rfl) kb_60 ?_
      obtain ⟨r5, h6, h⟩ := bindI h
      refine SW.callSi (pc := 26) g (dt dt_X10_would 14 rfl) (mt_f_sx_within _ _ _ _ ad ν lay0   N μ a3 0 60 r5 h6) me_X10_within ms_X10_within ml_X10_250 rfl (Nat.le_of_ble_eq_true rfl) (Nat.le_of_ble_eq_true rfl) (Nat.le_of_ble_eq_true rfl) (Nat.le_of_ble_eq_true rfl) rfl ?_
      refine SW.if_eq (pc := 29) (t := 36) g (dt dt_X10_would 15 rfl) rfl (fun hc => ?_) (fun hc => ?_)
      · have h := iteT hc h
        refine SW.msk [true, true, true, true, true, true, true, true] ?_
        exact ok_f_x_would_36  g hm htab  ho    μ a1 a2 a3 a4 a5 a6 a7 h
      · have h := iteF hc h
        refine SW.iconst (pc := 32) (v := 1) g (dt dt_X10_would 16 rfl) ki_1 ?_
        refine SW.goto (pc := 33) (t := 37) g (dt dt_X10_would 17 rfl) rfl ?_
        refine SW.msk [true, true, true, true, true, true, true, true] ?_
        exact ok_f_x_would_37  g hm htab  ho    μ a1 a2 a3 a4 a5 a6 a7 1 h
set_option maxRecDepth 100000 in
set_option maxHeartbeats 4000000 in
theorem mtx_f_x_would (l : Launch) (D : va_G) (cI cL : ClassId) (ad : Nat → Nat) (ν : sw_N) (N : Nat) (μ : sw_M) (a1 : Int32) (a2 : Int32) (a3 : Int32) (a4 : Int32) (a5 : Int32) (a6 : Int32) (a7 : Int32) (o : (Int32 × sw_M) ⊕ (String × sw_M)) (h : f_x_would N μ a1 a2 a3 a4 a5 a6 a7 = some o) : MetX l D cI cL yX10_would cX10_would 8 (some .int) 9 3 18 (fun a => a = ad) ad [.ref 0, .int a1, .int a2, .int a3, .int a4, .int a5, .int a6, .int a7] lay0 μ ν (xo_i o).1 lay0 (xo_i o).2 ν :=
  MetX.of (n := 0) rfl (Nat.le_of_ble_eq_true rfl) (fun G g ho hm htab => ok_f_x_would  g hm htab  μ ho a1 a2 a3 a4 a5 a6 a7 h)
def f_x_can (N : Nat)  (μ : sw_M) (a1 : Int32) (a2 : Int32) : Option ((Int32 × sw_M) ⊕ (String × sw_M)) :=
  tb (f_x_needPerson N μ a1) (fun r1 =>
    tb (f_x_needWire N r1 a2) (fun r3 =>
      Option.bind (f_days_canCross N  r3 a1 a2) (fun r5 =>
        bl r5.1 (some (.inl (r5.1, r5.2))))))
set_option maxRecDepth 100000 in
set_option maxHeartbeats 4000000 in
theorem ok_f_x_can {G : sw_G} {ad : Nat → Nat} {ν : sw_N}   {N : Nat} {o : (Int32 × sw_M) ⊕ (String × sw_M)} (g : sw_ok G cX10_can "DeadWires" (some .boolean) 10 2 12 ad) (hm : G.2.2.1.2.1.maxLocals = 3) (htab : ∀ x ∈ G.2.2.1.2.1.exceptionTable.toList, False)  (μ : sw_M) (ho : sw_out G 2 12 (fun a => a = ad) (xo_i o).1 lay0 (xo_i o).2 ν) (a1 : Int32) (a2 : Int32) (h : f_x_can N  μ a1 a2 = some o) : SW G ad lay0 ν 0 0 0 [some (.ref 0), some (.int a1), some (.int a2)] [] μ := by
  unfold f_x_can at h
  refine SW.aload_n (pc := 0) g (dt dt_X10_can 0 rfl) rfl ?_
  refine SW.iload_n (pc := 1) g (dt dt_X10_can 1 rfl) rfl ?_
  rcases tbI h with ⟨r1, h2, h⟩ | ⟨r1, h2, rfl⟩
  · refine SW.callXr (pc := 2) (r := none) g (dt dt_X10_can 2 rfl) (mtx_f_x_needPerson _ _ _ _ ad ν N μ a1 (.inl r1) h2) me_X10_needPerson mv_X10_needPerson ml_X10_267 cell_0 rfl rfl (Nat.le_of_ble_eq_true rfl) (Nat.le_of_ble_eq_true rfl) (Nat.le_of_ble_eq_true rfl) (Nat.le_of_ble_eq_true rfl) rfl rfl ?_
    refine SW.aload_n (pc := 5) g (dt dt_X10_can 3 rfl) rfl ?_
    refine SW.iload_n (pc := 6) g (dt dt_X10_can 4 rfl) rfl ?_
    rcases tbI h with ⟨r3, h4, h⟩ | ⟨r3, h4, rfl⟩
    · refine SW.callXr (pc := 7) (r := none) g (dt dt_X10_can 5 rfl) (mtx_f_x_needWire _ _ _ _ ad ν N r1 a2 (.inl r3) h4) me_X10_needWire mv_X10_needWire ml_X10_219 cell_0 rfl rfl (Nat.le_of_ble_eq_true rfl) (Nat.le_of_ble_eq_true rfl) (Nat.le_of_ble_eq_true rfl) (Nat.le_of_ble_eq_true rfl) rfl rfl ?_
      refine SW.aload_n (pc := 10) g (dt dt_X10_can 6 rfl) rfl ?_
      refine SW.getR (pc := 11) g (dt dt_X10_can 7 rfl) fl_X10_51 cell_0 rfl ?_
      refine SW.iload_n (pc := 14) g (dt dt_X10_can 8 rfl) rfl ?_
      refine SW.iload_n (pc := 15) g (dt dt_X10_can 9 rfl) rfl ?_
      obtain ⟨r5, h6, h⟩ := bindI h
      refine SW.callVi (pc := 16) g (dt dt_X10_can 10 rfl) (mt_f_days_canCross _ _ _ _ ad ν   N r3 a1 a2 r5 h6) me_X2_canCross mv_X2_canCross ml_X10_299 cell_35 rfl rfl (Nat.le_of_ble_eq_true rfl) (Nat.le_of_ble_eq_true rfl) (Nat.le_of_ble_eq_true rfl) (Nat.le_of_ble_eq_true rfl) rfl ?_
      obtain ⟨hn, h⟩ := blI h
      exact SW.zreturn (pc := 19) g (leafXi h ho) rfl (Nat.le_of_ble_eq_true rfl) (Nat.le_of_ble_eq_true rfl) hn (dt dt_X10_can 11 rfl)
    · exact SW.callXt (pc := 7) g (dt dt_X10_can 5 rfl) ho rfl htab (mtx_f_x_needWire _ _ _ _ ad ν N r1 a2 (.inr r3) h4) me_X10_needWire mv_X10_needWire ml_X10_219 cell_0 rfl rfl (Nat.le_of_ble_eq_true rfl) (Nat.le_of_ble_eq_true rfl) (Nat.le_of_ble_eq_true rfl) (Nat.le_of_ble_eq_true rfl) rfl
  · exact SW.callXt (pc := 2) g (dt dt_X10_can 2 rfl) ho rfl htab (mtx_f_x_needPerson _ _ _ _ ad ν N μ a1 (.inr r1) h2) me_X10_needPerson mv_X10_needPerson ml_X10_267 cell_0 rfl rfl (Nat.le_of_ble_eq_true rfl) (Nat.le_of_ble_eq_true rfl) (Nat.le_of_ble_eq_true rfl) (Nat.le_of_ble_eq_true rfl) rfl
set_option maxRecDepth 100000 in
set_option maxHeartbeats 4000000 in
theorem mtx_f_x_can (l : Launch) (D : va_G) (cI cL : ClassId) (ad : Nat → Nat) (ν : sw_N) (N : Nat) (μ : sw_M) (a1 : Int32) (a2 : Int32) (o : (Int32 × sw_M) ⊕ (String × sw_M)) (h : f_x_can N μ a1 a2 = some o) : MetX l D cI cL yX10_can cX10_can 3 (some .boolean) 10 2 12 (fun a => a = ad) ad [.ref 0, .int a1, .int a2] lay0 μ ν (xo_i o).1 lay0 (xo_i o).2 ν :=
  MetX.of (n := 0) rfl (Nat.le_of_ble_eq_true rfl) (fun G g ho hm htab => ok_f_x_can  g hm htab  μ ho a1 a2 h)
def f_x_ahead (N : Nat)  (μ : sw_M) (a1 : Int32) (a2 : Int32) : Option ((Int32 × sw_M) ⊕ (String × sw_M)) :=
  Option.bind (f_sx_within N  μ a1 0 99) (fun r1 =>
    tb (f_x_need N μ r1) (fun r3 =>
      tb (f_x_needWhat N r3 a2 2) (fun r5 =>
        if a2 = 0 then
          Option.bind (f_days_liveBits N  r5 a1) (fun r7 =>
            some (.inl (r7, r5)))
        else if a2 = 1 then
          Option.bind (f_days_tiredTogether N  r5 a1) (fun r9 =>
            some (.inl (r9, r5)))
        else 
          Option.bind (f_days_wireLiveAt N  r5 ((r5 35 2) + a1)) (fun r11 =>
            some (.inl (r11, r5))))))
set_option maxRecDepth 100000 in
set_option maxHeartbeats 4000000 in
theorem ok_f_x_ahead {G : sw_G} {ad : Nat → Nat} {ν : sw_N}   {N : Nat} {o : (Int32 × sw_M) ⊕ (String × sw_M)} (g : sw_ok G cX10_ahead "DeadWires" (some .int) 10 2 12 ad) (hm : G.2.2.1.2.1.maxLocals = 3) (htab : ∀ x ∈ G.2.2.1.2.1.exceptionTable.toList, False)  (μ : sw_M) (ho : sw_out G 2 12 (fun a => a = ad) (xo_i o).1 lay0 (xo_i o).2 ν) (a1 : Int32) (a2 : Int32) (h : f_x_ahead N  μ a1 a2 = some o) : SW G ad lay0 ν 0 0 0 [some (.ref 0), some (.int a1), some (.int a2)] [] μ := by
  unfold f_x_ahead at h
  refine SW.aload_n (pc := 0) g (dt dt_X10_ahead 0 rfl) rfl ?_
  refine SW.iload_n (pc := 1) g (dt dt_X10_ahead 1 rfl) rfl ?_
  refine SW.iconst (pc := 2) (v := 0) g (dt dt_X10_ahead 2 rfl) ki_0 ?_
  refine SW.bipush (pc := 3) (v := 99) g (dt dt_X10_ahead 3 rfl) kb_99 ?_
  obtain ⟨r1, h2, h⟩ := bindI h
  refine SW.callSi (pc := 5) g (dt dt_X10_ahead 4 rfl) (mt_f_sx_within _ _ _ _ ad ν lay0   N μ a1 0 99 r1 h2) me_X10_within ms_X10_within ml_X10_250 rfl (Nat.le_of_ble_eq_true rfl) (Nat.le_of_ble_eq_true rfl) (Nat.le_of_ble_eq_true rfl) (Nat.le_of_ble_eq_true rfl) rfl ?_
  rcases tbI h with ⟨r3, h4, h⟩ | ⟨r3, h4, rfl⟩
  · refine SW.callXr (pc := 8) (r := none) g (dt dt_X10_ahead 5 rfl) (mtx_f_x_need _ _ _ _ ad ν N μ r1 (.inl r3) h4) me_X10_need mv_X10_need ml_X10_289 cell_0 rfl rfl (Nat.le_of_ble_eq_true rfl) (Nat.le_of_ble_eq_true rfl) (Nat.le_of_ble_eq_true rfl) (Nat.le_of_ble_eq_true rfl) rfl rfl ?_
    refine SW.aload_n (pc := 11) g (dt dt_X10_ahead 6 rfl) rfl ?_
    refine SW.iload_n (pc := 12) g (dt dt_X10_ahead 7 rfl) rfl ?_
    refine SW.iconst (pc := 13) (v := 2) g (dt dt_X10_ahead 8 rfl) ki_2 ?_
    rcases tbI h with ⟨r5, h6, h⟩ | ⟨r5, h6, rfl⟩
    · refine SW.callXr (pc := 14) (r := none) g (dt dt_X10_ahead 9 rfl) (mtx_f_x_needWhat _ _ _ _ ad ν N r3 a2 2 (.inl r5) h6) me_X10_needWhat mv_X10_needWhat ml_X10_171 cell_0 rfl rfl (Nat.le_of_ble_eq_true rfl) (Nat.le_of_ble_eq_true rfl) (Nat.le_of_ble_eq_true rfl) (Nat.le_of_ble_eq_true rfl) rfl rfl ?_
      refine SW.iload_n (pc := 17) g (dt dt_X10_ahead 10 rfl) rfl ?_
      refine SW.lsw (pc := 18) (dn := 62) (tb := [(0, 44), (1, 53)]) g (dt dt_X10_ahead 11 rfl) (by decide) (by decide) (by decide) (sw_lsn _ (by decide) (by decide)) ?_
      refine sw_cons (fun hc => ?_) (fun hc => ?_)
      · have h := iteT hc h
        refine SW.aload_n (pc := 44) g (dt dt_X10_ahead 12 rfl) rfl ?_
        refine SW.getR (pc := 45) g (dt dt_X10_ahead 13 rfl) fl_X10_51 cell_0 rfl ?_
        refine SW.iload_n (pc := 48) g (dt dt_X10_ahead 14 rfl) rfl ?_
        obtain ⟨r7, h8, h⟩ := bindI h
        refine SW.callVi (pc := 49) g (dt dt_X10_ahead 15 rfl) (mt_f_days_liveBits _ _ _ _ ad ν   N r5 a1 r7 h8) me_X2_liveBits mv_X2_liveBits ml_X10_186 cell_35 rfl rfl (Nat.le_of_ble_eq_true rfl) (Nat.le_of_ble_eq_true rfl) (Nat.le_of_ble_eq_true rfl) (Nat.le_of_ble_eq_true rfl) rfl ?_
        exact SW.ireturn (pc := 52) g (leafXi h ho) rfl (Nat.le_of_ble_eq_true rfl) (Nat.le_of_ble_eq_true rfl) (dt dt_X10_ahead 16 rfl)
      · have h := iteF hc h
        refine sw_cons (fun hc => ?_) (fun hc => ?_)
        · have h := iteT hc h
          refine SW.aload_n (pc := 53) g (dt dt_X10_ahead 17 rfl) rfl ?_
          refine SW.getR (pc := 54) g (dt dt_X10_ahead 18 rfl) fl_X10_51 cell_0 rfl ?_
          refine SW.iload_n (pc := 57) g (dt dt_X10_ahead 19 rfl) rfl ?_
          obtain ⟨r9, h10, h⟩ := bindI h
          refine SW.callVi (pc := 58) g (dt dt_X10_ahead 20 rfl) (mt_f_days_tiredTogether _ _ _ _ ad ν   N r5 a1 r9 h10) me_X2_tiredTogether mv_X2_tiredTogether ml_X10_302 cell_35 rfl rfl (Nat.le_of_ble_eq_true rfl) (Nat.le_of_ble_eq_true rfl) (Nat.le_of_ble_eq_true rfl) (Nat.le_of_ble_eq_true rfl) rfl ?_
          exact SW.ireturn (pc := 61) g (leafXi h ho) rfl (Nat.le_of_ble_eq_true rfl) (Nat.le_of_ble_eq_true rfl) (dt dt_X10_ahead 21 rfl)
        · have h := iteF hc h
          change SW _ _ _ _ _ _ 62 _ _ _
          refine SW.aload_n (pc := 62) g (dt dt_X10_ahead 22 rfl) rfl ?_
          refine SW.getR (pc := 63) g (dt dt_X10_ahead 23 rfl) fl_X10_51 cell_0 rfl ?_
          refine SW.aload_n (pc := 66) g (dt dt_X10_ahead 24 rfl) rfl ?_
          refine SW.getR (pc := 67) g (dt dt_X10_ahead 25 rfl) fl_X10_51 cell_0 rfl ?_
          refine SW.getI (pc := 70) g (dt dt_X10_ahead 26 rfl) fl_X10_183 cell_35 rfl ?_
          refine SW.iload_n (pc := 73) g (dt dt_X10_ahead 27 rfl) rfl ?_
          refine SW.iadd (pc := 74) g (dt dt_X10_ahead 28 rfl) ?_
          obtain ⟨r11, h12, h⟩ := bindI h
          refine SW.callVi (pc := 75) g (dt dt_X10_ahead 29 rfl) (mt_f_days_wireLiveAt _ _ _ _ ad ν   N r5 ((r5 35 2) + a1) r11 h12) me_X2_wireLiveAt mv_X2_wireLiveAt ml_X10_305 cell_35 rfl rfl (Nat.le_of_ble_eq_true rfl) (Nat.le_of_ble_eq_true rfl) (Nat.le_of_ble_eq_true rfl) (Nat.le_of_ble_eq_true rfl) rfl ?_
          exact SW.ireturn (pc := 78) g (leafXi h ho) rfl (Nat.le_of_ble_eq_true rfl) (Nat.le_of_ble_eq_true rfl) (dt dt_X10_ahead 30 rfl)
    · exact SW.callXt (pc := 14) g (dt dt_X10_ahead 9 rfl) ho rfl htab (mtx_f_x_needWhat _ _ _ _ ad ν N r3 a2 2 (.inr r5) h6) me_X10_needWhat mv_X10_needWhat ml_X10_171 cell_0 rfl rfl (Nat.le_of_ble_eq_true rfl) (Nat.le_of_ble_eq_true rfl) (Nat.le_of_ble_eq_true rfl) (Nat.le_of_ble_eq_true rfl) rfl
  · exact SW.callXt (pc := 8) g (dt dt_X10_ahead 5 rfl) ho rfl htab (mtx_f_x_need _ _ _ _ ad ν N μ r1 (.inr r3) h4) me_X10_need mv_X10_need ml_X10_289 cell_0 rfl rfl (Nat.le_of_ble_eq_true rfl) (Nat.le_of_ble_eq_true rfl) (Nat.le_of_ble_eq_true rfl) (Nat.le_of_ble_eq_true rfl) rfl
set_option maxRecDepth 100000 in
set_option maxHeartbeats 4000000 in
theorem mtx_f_x_ahead (l : Launch) (D : va_G) (cI cL : ClassId) (ad : Nat → Nat) (ν : sw_N) (N : Nat) (μ : sw_M) (a1 : Int32) (a2 : Int32) (o : (Int32 × sw_M) ⊕ (String × sw_M)) (h : f_x_ahead N μ a1 a2 = some o) : MetX l D cI cL yX10_ahead cX10_ahead 3 (some .int) 10 2 12 (fun a => a = ad) ad [.ref 0, .int a1, .int a2] lay0 μ ν (xo_i o).1 lay0 (xo_i o).2 ν :=
  MetX.of (n := 0) rfl (Nat.le_of_ble_eq_true rfl) (fun G g ho hm htab => ok_f_x_ahead  g hm htab  μ ho a1 a2 h)
def f_x_arrives (N : Nat)  (μ : sw_M) (a1 : Int32) (a2 : Int32) : Option ((Int32 × sw_M) ⊕ (String × sw_M)) :=
  tb (f_x_needField N μ a1) (fun r1 =>
    tb (f_x_needField N r1 a2) (fun r3 =>
      Option.bind (f_ways_hoursTo N  r3 a1 a2 0 0) (fun r5 =>
        some (.inl (r5, r3)))))
set_option maxRecDepth 100000 in
set_option maxHeartbeats 4000000 in
theorem ok_f_x_arrives {G : sw_G} {ad : Nat → Nat} {ν : sw_N}   {N : Nat} {o : (Int32 × sw_M) ⊕ (String × sw_M)} (g : sw_ok G cX10_arrives "DeadWires" (some .int) 10 2 12 ad) (hm : G.2.2.1.2.1.maxLocals = 3) (htab : ∀ x ∈ G.2.2.1.2.1.exceptionTable.toList, False)  (μ : sw_M) (ho : sw_out G 2 12 (fun a => a = ad) (xo_i o).1 lay0 (xo_i o).2 ν) (a1 : Int32) (a2 : Int32) (h : f_x_arrives N  μ a1 a2 = some o) : SW G ad lay0 ν 0 0 0 [some (.ref 0), some (.int a1), some (.int a2)] [] μ := by
  unfold f_x_arrives at h
  refine SW.aload_n (pc := 0) g (dt dt_X10_arrives 0 rfl) rfl ?_
  refine SW.iload_n (pc := 1) g (dt dt_X10_arrives 1 rfl) rfl ?_
  rcases tbI h with ⟨r1, h2, h⟩ | ⟨r1, h2, rfl⟩
  · refine SW.callXr (pc := 2) (r := none) g (dt dt_X10_arrives 2 rfl) (mtx_f_x_needField _ _ _ _ ad ν N μ a1 (.inl r1) h2) me_X10_needField mv_X10_needField ml_X10_203 cell_0 rfl rfl (Nat.le_of_ble_eq_true rfl) (Nat.le_of_ble_eq_true rfl) (Nat.le_of_ble_eq_true rfl) (Nat.le_of_ble_eq_true rfl) rfl rfl ?_
    refine SW.aload_n (pc := 5) g (dt dt_X10_arrives 3 rfl) rfl ?_
    refine SW.iload_n (pc := 6) g (dt dt_X10_arrives 4 rfl) rfl ?_
    rcases tbI h with ⟨r3, h4, h⟩ | ⟨r3, h4, rfl⟩
    · refine SW.callXr (pc := 7) (r := none) g (dt dt_X10_arrives 5 rfl) (mtx_f_x_needField _ _ _ _ ad ν N r1 a2 (.inl r3) h4) me_X10_needField mv_X10_needField ml_X10_203 cell_0 rfl rfl (Nat.le_of_ble_eq_true rfl) (Nat.le_of_ble_eq_true rfl) (Nat.le_of_ble_eq_true rfl) (Nat.le_of_ble_eq_true rfl) rfl rfl ?_
      refine SW.aload_n (pc := 10) g (dt dt_X10_arrives 6 rfl) rfl ?_
      refine SW.getR (pc := 11) g (dt dt_X10_arrives 7 rfl) fl_X10_74 cell_0 rfl ?_
      refine SW.iload_n (pc := 14) g (dt dt_X10_arrives 8 rfl) rfl ?_
      refine SW.iload_n (pc := 15) g (dt dt_X10_arrives 9 rfl) rfl ?_
      refine SW.iconst (pc := 16) (v := 0) g (dt dt_X10_arrives 10 rfl) ki_0 ?_
      refine SW.iconst (pc := 17) (v := 0) g (dt dt_X10_arrives 11 rfl) ki_0 ?_
      obtain ⟨r5, h6, h⟩ := bindI h
      refine SW.callVi (pc := 18) g (dt dt_X10_arrives 12 rfl) (mt_f_ways_hoursTo _ _ _ _ ad ν   N r3 a1 a2 0 0 r5 h6) me_X8_hoursTo mv_X8_hoursTo ml_X10_308 cell_49 rfl rfl (Nat.le_of_ble_eq_true rfl) (Nat.le_of_ble_eq_true rfl) (Nat.le_of_ble_eq_true rfl) (Nat.le_of_ble_eq_true rfl) rfl ?_
      exact SW.ireturn (pc := 21) g (leafXi h ho) rfl (Nat.le_of_ble_eq_true rfl) (Nat.le_of_ble_eq_true rfl) (dt dt_X10_arrives 13 rfl)
    · exact SW.callXt (pc := 7) g (dt dt_X10_arrives 5 rfl) ho rfl htab (mtx_f_x_needField _ _ _ _ ad ν N r1 a2 (.inr r3) h4) me_X10_needField mv_X10_needField ml_X10_203 cell_0 rfl rfl (Nat.le_of_ble_eq_true rfl) (Nat.le_of_ble_eq_true rfl) (Nat.le_of_ble_eq_true rfl) (Nat.le_of_ble_eq_true rfl) rfl
  · exact SW.callXt (pc := 2) g (dt dt_X10_arrives 2 rfl) ho rfl htab (mtx_f_x_needField _ _ _ _ ad ν N μ a1 (.inr r1) h2) me_X10_needField mv_X10_needField ml_X10_203 cell_0 rfl rfl (Nat.le_of_ble_eq_true rfl) (Nat.le_of_ble_eq_true rfl) (Nat.le_of_ble_eq_true rfl) (Nat.le_of_ble_eq_true rfl) rfl
set_option maxRecDepth 100000 in
set_option maxHeartbeats 4000000 in
theorem mtx_f_x_arrives (l : Launch) (D : va_G) (cI cL : ClassId) (ad : Nat → Nat) (ν : sw_N) (N : Nat) (μ : sw_M) (a1 : Int32) (a2 : Int32) (o : (Int32 × sw_M) ⊕ (String × sw_M)) (h : f_x_arrives N μ a1 a2 = some o) : MetX l D cI cL yX10_arrives cX10_arrives 3 (some .int) 10 2 12 (fun a => a = ad) ad [.ref 0, .int a1, .int a2] lay0 μ ν (xo_i o).1 lay0 (xo_i o).2 ν :=
  MetX.of (n := 0) rfl (Nat.le_of_ble_eq_true rfl) (fun G g ho hm htab => ok_f_x_arrives  g hm htab  μ ho a1 a2 h)
def f_x_waits (N : Nat)  (μ : sw_M) (a1 : Int32) (a2 : Int32) : Option ((Int32 × sw_M) ⊕ (String × sw_M)) :=
  tb (f_x_needField N μ a1) (fun r1 =>
    tb (f_x_needField N r1 a2) (fun r3 =>
      Option.bind (f_ways_longestWait N  r3 a1 a2) (fun r5 =>
        some (.inl (r5, r3)))))
set_option maxRecDepth 100000 in
set_option maxHeartbeats 4000000 in
theorem ok_f_x_waits {G : sw_G} {ad : Nat → Nat} {ν : sw_N}   {N : Nat} {o : (Int32 × sw_M) ⊕ (String × sw_M)} (g : sw_ok G cX10_waits "DeadWires" (some .int) 10 2 12 ad) (hm : G.2.2.1.2.1.maxLocals = 3) (htab : ∀ x ∈ G.2.2.1.2.1.exceptionTable.toList, False)  (μ : sw_M) (ho : sw_out G 2 12 (fun a => a = ad) (xo_i o).1 lay0 (xo_i o).2 ν) (a1 : Int32) (a2 : Int32) (h : f_x_waits N  μ a1 a2 = some o) : SW G ad lay0 ν 0 0 0 [some (.ref 0), some (.int a1), some (.int a2)] [] μ := by
  unfold f_x_waits at h
  refine SW.aload_n (pc := 0) g (dt dt_X10_waits 0 rfl) rfl ?_
  refine SW.iload_n (pc := 1) g (dt dt_X10_waits 1 rfl) rfl ?_
  rcases tbI h with ⟨r1, h2, h⟩ | ⟨r1, h2, rfl⟩
  · refine SW.callXr (pc := 2) (r := none) g (dt dt_X10_waits 2 rfl) (mtx_f_x_needField _ _ _ _ ad ν N μ a1 (.inl r1) h2) me_X10_needField mv_X10_needField ml_X10_203 cell_0 rfl rfl (Nat.le_of_ble_eq_true rfl) (Nat.le_of_ble_eq_true rfl) (Nat.le_of_ble_eq_true rfl) (Nat.le_of_ble_eq_true rfl) rfl rfl ?_
    refine SW.aload_n (pc := 5) g (dt dt_X10_waits 3 rfl) rfl ?_
    refine SW.iload_n (pc := 6) g (dt dt_X10_waits 4 rfl) rfl ?_
    rcases tbI h with ⟨r3, h4, h⟩ | ⟨r3, h4, rfl⟩
    · refine SW.callXr (pc := 7) (r := none) g (dt dt_X10_waits 5 rfl) (mtx_f_x_needField _ _ _ _ ad ν N r1 a2 (.inl r3) h4) me_X10_needField mv_X10_needField ml_X10_203 cell_0 rfl rfl (Nat.le_of_ble_eq_true rfl) (Nat.le_of_ble_eq_true rfl) (Nat.le_of_ble_eq_true rfl) (Nat.le_of_ble_eq_true rfl) rfl rfl ?_
      refine SW.aload_n (pc := 10) g (dt dt_X10_waits 6 rfl) rfl ?_
      refine SW.getR (pc := 11) g (dt dt_X10_waits 7 rfl) fl_X10_74 cell_0 rfl ?_
      refine SW.iload_n (pc := 14) g (dt dt_X10_waits 8 rfl) rfl ?_
      refine SW.iload_n (pc := 15) g (dt dt_X10_waits 9 rfl) rfl ?_
      obtain ⟨r5, h6, h⟩ := bindI h
      refine SW.callVi (pc := 16) g (dt dt_X10_waits 10 rfl) (mt_f_ways_longestWait _ _ _ _ ad ν   N r3 a1 a2 r5 h6) me_X8_longestWait mv_X8_longestWait ml_X10_312 cell_49 rfl rfl (Nat.le_of_ble_eq_true rfl) (Nat.le_of_ble_eq_true rfl) (Nat.le_of_ble_eq_true rfl) (Nat.le_of_ble_eq_true rfl) rfl ?_
      exact SW.ireturn (pc := 19) g (leafXi h ho) rfl (Nat.le_of_ble_eq_true rfl) (Nat.le_of_ble_eq_true rfl) (dt dt_X10_waits 11 rfl)
    · exact SW.callXt (pc := 7) g (dt dt_X10_waits 5 rfl) ho rfl htab (mtx_f_x_needField _ _ _ _ ad ν N r1 a2 (.inr r3) h4) me_X10_needField mv_X10_needField ml_X10_203 cell_0 rfl rfl (Nat.le_of_ble_eq_true rfl) (Nat.le_of_ble_eq_true rfl) (Nat.le_of_ble_eq_true rfl) (Nat.le_of_ble_eq_true rfl) rfl
  · exact SW.callXt (pc := 2) g (dt dt_X10_waits 2 rfl) ho rfl htab (mtx_f_x_needField _ _ _ _ ad ν N μ a1 (.inr r1) h2) me_X10_needField mv_X10_needField ml_X10_203 cell_0 rfl rfl (Nat.le_of_ble_eq_true rfl) (Nat.le_of_ble_eq_true rfl) (Nat.le_of_ble_eq_true rfl) (Nat.le_of_ble_eq_true rfl) rfl
set_option maxRecDepth 100000 in
set_option maxHeartbeats 4000000 in
theorem mtx_f_x_waits (l : Launch) (D : va_G) (cI cL : ClassId) (ad : Nat → Nat) (ν : sw_N) (N : Nat) (μ : sw_M) (a1 : Int32) (a2 : Int32) (o : (Int32 × sw_M) ⊕ (String × sw_M)) (h : f_x_waits N μ a1 a2 = some o) : MetX l D cI cL yX10_waits cX10_waits 3 (some .int) 10 2 12 (fun a => a = ad) ad [.ref 0, .int a1, .int a2] lay0 μ ν (xo_i o).1 lay0 (xo_i o).2 ν :=
  MetX.of (n := 0) rfl (Nat.le_of_ble_eq_true rfl) (fun G g ho hm htab => ok_f_x_waits  g hm htab  μ ho a1 a2 h)
def f_x_grant (N : Nat)  (μ : sw_M) (a1 : Int32) (a2 : Int32) : Option ((Int32 × sw_M) ⊕ (String × sw_M)) :=
  tb (f_x_needField N μ a1) (fun r1 =>
    tb (f_x_needField N r1 a2) (fun r3 =>
      Option.bind (f_ways_leastGrant N  r3 a1 a2) (fun r5 =>
        some (.inl (r5, r3)))))
set_option maxRecDepth 100000 in
set_option maxHeartbeats 4000000 in
theorem ok_f_x_grant {G : sw_G} {ad : Nat → Nat} {ν : sw_N}   {N : Nat} {o : (Int32 × sw_M) ⊕ (String × sw_M)} (g : sw_ok G cX10_grant "DeadWires" (some .int) 10 2 12 ad) (hm : G.2.2.1.2.1.maxLocals = 3) (htab : ∀ x ∈ G.2.2.1.2.1.exceptionTable.toList, False)  (μ : sw_M) (ho : sw_out G 2 12 (fun a => a = ad) (xo_i o).1 lay0 (xo_i o).2 ν) (a1 : Int32) (a2 : Int32) (h : f_x_grant N  μ a1 a2 = some o) : SW G ad lay0 ν 0 0 0 [some (.ref 0), some (.int a1), some (.int a2)] [] μ := by
  unfold f_x_grant at h
  refine SW.aload_n (pc := 0) g (dt dt_X10_grant 0 rfl) rfl ?_
  refine SW.iload_n (pc := 1) g (dt dt_X10_grant 1 rfl) rfl ?_
  rcases tbI h with ⟨r1, h2, h⟩ | ⟨r1, h2, rfl⟩
  · refine SW.callXr (pc := 2) (r := none) g (dt dt_X10_grant 2 rfl) (mtx_f_x_needField _ _ _ _ ad ν N μ a1 (.inl r1) h2) me_X10_needField mv_X10_needField ml_X10_203 cell_0 rfl rfl (Nat.le_of_ble_eq_true rfl) (Nat.le_of_ble_eq_true rfl) (Nat.le_of_ble_eq_true rfl) (Nat.le_of_ble_eq_true rfl) rfl rfl ?_
    refine SW.aload_n (pc := 5) g (dt dt_X10_grant 3 rfl) rfl ?_
    refine SW.iload_n (pc := 6) g (dt dt_X10_grant 4 rfl) rfl ?_
    rcases tbI h with ⟨r3, h4, h⟩ | ⟨r3, h4, rfl⟩
    · refine SW.callXr (pc := 7) (r := none) g (dt dt_X10_grant 5 rfl) (mtx_f_x_needField _ _ _ _ ad ν N r1 a2 (.inl r3) h4) me_X10_needField mv_X10_needField ml_X10_203 cell_0 rfl rfl (Nat.le_of_ble_eq_true rfl) (Nat.le_of_ble_eq_true rfl) (Nat.le_of_ble_eq_true rfl) (Nat.le_of_ble_eq_true rfl) rfl rfl ?_
      refine SW.aload_n (pc := 10) g (dt dt_X10_grant 6 rfl) rfl ?_
      refine SW.getR (pc := 11) g (dt dt_X10_grant 7 rfl) fl_X10_74 cell_0 rfl ?_
      refine SW.iload_n (pc := 14) g (dt dt_X10_grant 8 rfl) rfl ?_
      refine SW.iload_n (pc := 15) g (dt dt_X10_grant 9 rfl) rfl ?_
      obtain ⟨r5, h6, h⟩ := bindI h
      refine SW.callVi (pc := 16) g (dt dt_X10_grant 10 rfl) (mt_f_ways_leastGrant _ _ _ _ ad ν   N r3 a1 a2 r5 h6) me_X8_leastGrant mv_X8_leastGrant ml_X10_315 cell_49 rfl rfl (Nat.le_of_ble_eq_true rfl) (Nat.le_of_ble_eq_true rfl) (Nat.le_of_ble_eq_true rfl) (Nat.le_of_ble_eq_true rfl) rfl ?_
      exact SW.ireturn (pc := 19) g (leafXi h ho) rfl (Nat.le_of_ble_eq_true rfl) (Nat.le_of_ble_eq_true rfl) (dt dt_X10_grant 11 rfl)
    · exact SW.callXt (pc := 7) g (dt dt_X10_grant 5 rfl) ho rfl htab (mtx_f_x_needField _ _ _ _ ad ν N r1 a2 (.inr r3) h4) me_X10_needField mv_X10_needField ml_X10_203 cell_0 rfl rfl (Nat.le_of_ble_eq_true rfl) (Nat.le_of_ble_eq_true rfl) (Nat.le_of_ble_eq_true rfl) (Nat.le_of_ble_eq_true rfl) rfl
  · exact SW.callXt (pc := 2) g (dt dt_X10_grant 2 rfl) ho rfl htab (mtx_f_x_needField _ _ _ _ ad ν N μ a1 (.inr r1) h2) me_X10_needField mv_X10_needField ml_X10_203 cell_0 rfl rfl (Nat.le_of_ble_eq_true rfl) (Nat.le_of_ble_eq_true rfl) (Nat.le_of_ble_eq_true rfl) (Nat.le_of_ble_eq_true rfl) rfl
set_option maxRecDepth 100000 in
set_option maxHeartbeats 4000000 in
theorem mtx_f_x_grant (l : Launch) (D : va_G) (cI cL : ClassId) (ad : Nat → Nat) (ν : sw_N) (N : Nat) (μ : sw_M) (a1 : Int32) (a2 : Int32) (o : (Int32 × sw_M) ⊕ (String × sw_M)) (h : f_x_grant N μ a1 a2 = some o) : MetX l D cI cL yX10_grant cX10_grant 3 (some .int) 10 2 12 (fun a => a = ad) ad [.ref 0, .int a1, .int a2] lay0 μ ν (xo_i o).1 lay0 (xo_i o).2 ν :=
  MetX.of (n := 0) rfl (Nat.le_of_ble_eq_true rfl) (fun G g ho hm htab => ok_f_x_grant  g hm htab  μ ho a1 a2 h)
def f_x_pliers (N : Nat)  (μ : sw_M) (a1 : Int32) (a2 : Int32) : Option ((Int32 × sw_M) ⊕ (String × sw_M)) :=
  tb (f_x_needField N μ a1) (fun r1 =>
    tb (f_x_needField N r1 a2) (fun r3 =>
      Option.bind (f_ways_fewestCuts N  r3 a1 a2) (fun r5 =>
        some (.inl (r5.1, r5.2)))))
set_option maxRecDepth 100000 in
set_option maxHeartbeats 4000000 in
theorem ok_f_x_pliers {G : sw_G} {ad : Nat → Nat} {ν : sw_N}   {N : Nat} {o : (Int32 × sw_M) ⊕ (String × sw_M)} (g : sw_ok G cX10_pliers "DeadWires" (some .int) 10 2 12 ad) (hm : G.2.2.1.2.1.maxLocals = 3) (htab : ∀ x ∈ G.2.2.1.2.1.exceptionTable.toList, False)  (μ : sw_M) (ho : sw_out G 2 12 (fun a => a = ad) (xo_i o).1 lay0 (xo_i o).2 ν) (a1 : Int32) (a2 : Int32) (h : f_x_pliers N  μ a1 a2 = some o) : SW G ad lay0 ν 0 0 0 [some (.ref 0), some (.int a1), some (.int a2)] [] μ := by
  unfold f_x_pliers at h
  refine SW.aload_n (pc := 0) g (dt dt_X10_pliers 0 rfl) rfl ?_
  refine SW.iload_n (pc := 1) g (dt dt_X10_pliers 1 rfl) rfl ?_
  rcases tbI h with ⟨r1, h2, h⟩ | ⟨r1, h2, rfl⟩
  · refine SW.callXr (pc := 2) (r := none) g (dt dt_X10_pliers 2 rfl) (mtx_f_x_needField _ _ _ _ ad ν N μ a1 (.inl r1) h2) me_X10_needField mv_X10_needField ml_X10_203 cell_0 rfl rfl (Nat.le_of_ble_eq_true rfl) (Nat.le_of_ble_eq_true rfl) (Nat.le_of_ble_eq_true rfl) (Nat.le_of_ble_eq_true rfl) rfl rfl ?_
    refine SW.aload_n (pc := 5) g (dt dt_X10_pliers 3 rfl) rfl ?_
    refine SW.iload_n (pc := 6) g (dt dt_X10_pliers 4 rfl) rfl ?_
    rcases tbI h with ⟨r3, h4, h⟩ | ⟨r3, h4, rfl⟩
    · refine SW.callXr (pc := 7) (r := none) g (dt dt_X10_pliers 5 rfl) (mtx_f_x_needField _ _ _ _ ad ν N r1 a2 (.inl r3) h4) me_X10_needField mv_X10_needField ml_X10_203 cell_0 rfl rfl (Nat.le_of_ble_eq_true rfl) (Nat.le_of_ble_eq_true rfl) (Nat.le_of_ble_eq_true rfl) (Nat.le_of_ble_eq_true rfl) rfl rfl ?_
      refine SW.aload_n (pc := 10) g (dt dt_X10_pliers 6 rfl) rfl ?_
      refine SW.getR (pc := 11) g (dt dt_X10_pliers 7 rfl) fl_X10_74 cell_0 rfl ?_
      refine SW.iload_n (pc := 14) g (dt dt_X10_pliers 8 rfl) rfl ?_
      refine SW.iload_n (pc := 15) g (dt dt_X10_pliers 9 rfl) rfl ?_
      obtain ⟨r5, h6, h⟩ := bindI h
      refine SW.callVi (pc := 16) g (dt dt_X10_pliers 10 rfl) (mt_f_ways_fewestCuts _ _ _ _ ad ν   N r3 a1 a2 r5 h6) me_X8_fewestCuts mv_X8_fewestCuts ml_X10_318 cell_49 rfl rfl (Nat.le_of_ble_eq_true rfl) (Nat.le_of_ble_eq_true rfl) (Nat.le_of_ble_eq_true rfl) (Nat.le_of_ble_eq_true rfl) rfl ?_
      exact SW.ireturn (pc := 19) g (leafXi h ho) rfl (Nat.le_of_ble_eq_true rfl) (Nat.le_of_ble_eq_true rfl) (dt dt_X10_pliers 11 rfl)
    · exact SW.callXt (pc := 7) g (dt dt_X10_pliers 5 rfl) ho rfl htab (mtx_f_x_needField _ _ _ _ ad ν N r1 a2 (.inr r3) h4) me_X10_needField mv_X10_needField ml_X10_203 cell_0 rfl rfl (Nat.le_of_ble_eq_true rfl) (Nat.le_of_ble_eq_true rfl) (Nat.le_of_ble_eq_true rfl) (Nat.le_of_ble_eq_true rfl) rfl
  · exact SW.callXt (pc := 2) g (dt dt_X10_pliers 2 rfl) ho rfl htab (mtx_f_x_needField _ _ _ _ ad ν N μ a1 (.inr r1) h2) me_X10_needField mv_X10_needField ml_X10_203 cell_0 rfl rfl (Nat.le_of_ble_eq_true rfl) (Nat.le_of_ble_eq_true rfl) (Nat.le_of_ble_eq_true rfl) (Nat.le_of_ble_eq_true rfl) rfl
set_option maxRecDepth 100000 in
set_option maxHeartbeats 4000000 in
theorem mtx_f_x_pliers (l : Launch) (D : va_G) (cI cL : ClassId) (ad : Nat → Nat) (ν : sw_N) (N : Nat) (μ : sw_M) (a1 : Int32) (a2 : Int32) (o : (Int32 × sw_M) ⊕ (String × sw_M)) (h : f_x_pliers N μ a1 a2 = some o) : MetX l D cI cL yX10_pliers cX10_pliers 3 (some .int) 10 2 12 (fun a => a = ad) ad [.ref 0, .int a1, .int a2] lay0 μ ν (xo_i o).1 lay0 (xo_i o).2 ν :=
  MetX.of (n := 0) rfl (Nat.le_of_ble_eq_true rfl) (fun G g ho hm htab => ok_f_x_pliers  g hm htab  μ ho a1 a2 h)
def f_x_haul (N : Nat)  (μ : sw_M) (a1 : Int32) (a2 : Int32) : Option ((Int32 × sw_M) ⊕ (String × sw_M)) :=
  tb (f_x_needPerson N μ a1) (fun r1 =>
    tb (f_x_needWhat N r1 a2 1) (fun r3 =>
      Option.bind (f_days_bestHaul N  r3 a1) (fun r5 =>
        if a2 = 0 then
          Option.bind (f_land_weightOf N  r3 r5) (fun r7 =>
            some (.inl (r7, r3)))
        else
          some (.inl (r5, r3)))))
set_option maxRecDepth 100000 in
set_option maxHeartbeats 4000000 in
theorem ok_f_x_haul {G : sw_G} {ad : Nat → Nat} {ν : sw_N}   {N : Nat} {o : (Int32 × sw_M) ⊕ (String × sw_M)} (g : sw_ok G cX10_haul "DeadWires" (some .int) 10 2 12 ad) (hm : G.2.2.1.2.1.maxLocals = 4) (htab : ∀ x ∈ G.2.2.1.2.1.exceptionTable.toList, False)  (μ : sw_M) (ho : sw_out G 2 12 (fun a => a = ad) (xo_i o).1 lay0 (xo_i o).2 ν) (a1 : Int32) (a2 : Int32) (h : f_x_haul N  μ a1 a2 = some o) : SW G ad lay0 ν 0 0 0 [some (.ref 0), some (.int a1), some (.int a2), none] [] μ := by
  unfold f_x_haul at h
  refine SW.aload_n (pc := 0) g (dt dt_X10_haul 0 rfl) rfl ?_
  refine SW.iload_n (pc := 1) g (dt dt_X10_haul 1 rfl) rfl ?_
  rcases tbI h with ⟨r1, h2, h⟩ | ⟨r1, h2, rfl⟩
  · refine SW.callXr (pc := 2) (r := none) g (dt dt_X10_haul 2 rfl) (mtx_f_x_needPerson _ _ _ _ ad ν N μ a1 (.inl r1) h2) me_X10_needPerson mv_X10_needPerson ml_X10_267 cell_0 rfl rfl (Nat.le_of_ble_eq_true rfl) (Nat.le_of_ble_eq_true rfl) (Nat.le_of_ble_eq_true rfl) (Nat.le_of_ble_eq_true rfl) rfl rfl ?_
    refine SW.aload_n (pc := 5) g (dt dt_X10_haul 3 rfl) rfl ?_
    refine SW.iload_n (pc := 6) g (dt dt_X10_haul 4 rfl) rfl ?_
    refine SW.iconst (pc := 7) (v := 1) g (dt dt_X10_haul 5 rfl) ki_1 ?_
    rcases tbI h with ⟨r3, h4, h⟩ | ⟨r3, h4, rfl⟩
    · refine SW.callXr (pc := 8) (r := none) g (dt dt_X10_haul 6 rfl) (mtx_f_x_needWhat _ _ _ _ ad ν N r1 a2 1 (.inl r3) h4) me_X10_needWhat mv_X10_needWhat ml_X10_171 cell_0 rfl rfl (Nat.le_of_ble_eq_true rfl) (Nat.le_of_ble_eq_true rfl) (Nat.le_of_ble_eq_true rfl) (Nat.le_of_ble_eq_true rfl) rfl rfl ?_
      refine SW.aload_n (pc := 11) g (dt dt_X10_haul 7 rfl) rfl ?_
      refine SW.getR (pc := 12) g (dt dt_X10_haul 8 rfl) fl_X10_51 cell_0 rfl ?_
      refine SW.iload_n (pc := 15) g (dt dt_X10_haul 9 rfl) rfl ?_
      obtain ⟨r5, h6, h⟩ := bindI h
      refine SW.callVi (pc := 16) g (dt dt_X10_haul 10 rfl) (mt_f_days_bestHaul _ _ _ _ ad ν   N r3 a1 r5 h6) me_X2_bestHaul mv_X2_bestHaul ml_X10_321 cell_35 rfl rfl (Nat.le_of_ble_eq_true rfl) (Nat.le_of_ble_eq_true rfl) (Nat.le_of_ble_eq_true rfl) (Nat.le_of_ble_eq_true rfl) rfl ?_
      refine SW.istore_n (pc := 19) g (dt dt_X10_haul 11 rfl) (sw_ltm hm (Nat.le_of_ble_eq_true rfl)) rfl ?_
      refine SW.iload_n (pc := 20) g (dt dt_X10_haul 12 rfl) rfl ?_
      refine SW.if_ne (pc := 21) (t := 35) g (dt dt_X10_haul 13 rfl) rfl (fun hc => ?_) (fun hc => ?_)
      · have h := iteF hc h
        refine SW.iload_n (pc := 35) g (dt dt_X10_haul 19 rfl) rfl ?_
        exact SW.ireturn (pc := 36) g (leafXi h ho) rfl (Nat.le_of_ble_eq_true rfl) (Nat.le_of_ble_eq_true rfl) (dt dt_X10_haul 20 rfl)
      · have h := iteT hc h
        refine SW.aload_n (pc := 24) g (dt dt_X10_haul 14 rfl) rfl ?_
        refine SW.getR (pc := 25) g (dt dt_X10_haul 15 rfl) fl_X10_19 cell_0 rfl ?_
        refine SW.iload_n (pc := 28) g (dt dt_X10_haul 16 rfl) rfl ?_
        obtain ⟨r7, h8, h⟩ := bindI h
        refine SW.callVi (pc := 29) g (dt dt_X10_haul 17 rfl) (mt_f_land_weightOf _ _ _ _ ad ν   N r3 r5 r7 h8) me_X4_weightOf mv_X4_weightOf ml_X10_324 cell_3 rfl rfl (Nat.le_of_ble_eq_true rfl) (Nat.le_of_ble_eq_true rfl) (Nat.le_of_ble_eq_true rfl) (Nat.le_of_ble_eq_true rfl) rfl ?_
        refine SW.goto (pc := 32) (t := 36) g (dt dt_X10_haul 18 rfl) rfl ?_
        exact SW.ireturn (pc := 36) g (leafXi h ho) rfl (Nat.le_of_ble_eq_true rfl) (Nat.le_of_ble_eq_true rfl) (dt dt_X10_haul 20 rfl)
    · exact SW.callXt (pc := 8) g (dt dt_X10_haul 6 rfl) ho rfl htab (mtx_f_x_needWhat _ _ _ _ ad ν N r1 a2 1 (.inr r3) h4) me_X10_needWhat mv_X10_needWhat ml_X10_171 cell_0 rfl rfl (Nat.le_of_ble_eq_true rfl) (Nat.le_of_ble_eq_true rfl) (Nat.le_of_ble_eq_true rfl) (Nat.le_of_ble_eq_true rfl) rfl
  · exact SW.callXt (pc := 2) g (dt dt_X10_haul 2 rfl) ho rfl htab (mtx_f_x_needPerson _ _ _ _ ad ν N μ a1 (.inr r1) h2) me_X10_needPerson mv_X10_needPerson ml_X10_267 cell_0 rfl rfl (Nat.le_of_ble_eq_true rfl) (Nat.le_of_ble_eq_true rfl) (Nat.le_of_ble_eq_true rfl) (Nat.le_of_ble_eq_true rfl) rfl
set_option maxRecDepth 100000 in
set_option maxHeartbeats 4000000 in
theorem mtx_f_x_haul (l : Launch) (D : va_G) (cI cL : ClassId) (ad : Nat → Nat) (ν : sw_N) (N : Nat) (μ : sw_M) (a1 : Int32) (a2 : Int32) (o : (Int32 × sw_M) ⊕ (String × sw_M)) (h : f_x_haul N μ a1 a2 = some o) : MetX l D cI cL yX10_haul cX10_haul 4 (some .int) 10 2 12 (fun a => a = ad) ad [.ref 0, .int a1, .int a2] lay0 μ ν (xo_i o).1 lay0 (xo_i o).2 ν :=
  MetX.of (n := 1) rfl (Nat.le_of_ble_eq_true rfl) (fun G g ho hm htab => ok_f_x_haul  g hm htab  μ ho a1 a2 h)
def f_x_fits (N : Nat)  (μ : sw_M) (a1 : Int32) : Option ((Int32 × sw_M) ⊕ (String × sw_M)) :=
  tb (f_x_needWhat N μ a1 1) (fun r1 =>
    Option.bind (f_guess_collect N  r1 ) (fun r3 =>
      if a1 = 0 then
        some (.inl (r3 51 5, r3))
      else
        Option.bind (f_guess_firstPair N  r3 ) (fun r5 =>
          some (.inl (r5, r3)))))
set_option maxRecDepth 100000 in
set_option maxHeartbeats 4000000 in
theorem ok_f_x_fits {G : sw_G} {ad : Nat → Nat} {ν : sw_N}   {N : Nat} {o : (Int32 × sw_M) ⊕ (String × sw_M)} (g : sw_ok G cX10_fits "DeadWires" (some .int) 10 1 6 ad) (hm : G.2.2.1.2.1.maxLocals = 2) (htab : ∀ x ∈ G.2.2.1.2.1.exceptionTable.toList, False)  (μ : sw_M) (ho : sw_out G 1 6 (fun a => a = ad) (xo_i o).1 lay0 (xo_i o).2 ν) (a1 : Int32) (h : f_x_fits N  μ a1 = some o) : SW G ad lay0 ν 0 0 0 [some (.ref 0), some (.int a1)] [] μ := by
  unfold f_x_fits at h
  refine SW.aload_n (pc := 0) g (dt dt_X10_fits 0 rfl) rfl ?_
  refine SW.iload_n (pc := 1) g (dt dt_X10_fits 1 rfl) rfl ?_
  refine SW.iconst (pc := 2) (v := 1) g (dt dt_X10_fits 2 rfl) ki_1 ?_
  rcases tbI h with ⟨r1, h2, h⟩ | ⟨r1, h2, rfl⟩
  · refine SW.callXr (pc := 3) (r := none) g (dt dt_X10_fits 3 rfl) (mtx_f_x_needWhat _ _ _ _ ad ν N μ a1 1 (.inl r1) h2) me_X10_needWhat mv_X10_needWhat ml_X10_171 cell_0 rfl rfl (Nat.le_of_ble_eq_true rfl) (Nat.le_of_ble_eq_true rfl) (Nat.le_of_ble_eq_true rfl) (Nat.le_of_ble_eq_true rfl) rfl rfl ?_
    refine SW.aload_n (pc := 6) g (dt dt_X10_fits 4 rfl) rfl ?_
    refine SW.getR (pc := 7) g (dt dt_X10_fits 5 rfl) fl_X10_83 cell_0 rfl ?_
    obtain ⟨r3, h4, h⟩ := bindI h
    refine SW.callVv (pc := 10) g (dt dt_X10_fits 6 rfl) (mt_f_guess_collect _ _ _ _ ad ν   N r1  r3 h4) me_X3_collect mv_X3_collect ml_X10_327 cell_51 rfl rfl (Nat.le_of_ble_eq_true rfl) (Nat.le_of_ble_eq_true rfl) (Nat.le_of_ble_eq_true rfl) (Nat.le_of_ble_eq_true rfl) rfl ?_
    refine SW.iload_n (pc := 13) g (dt dt_X10_fits 7 rfl) rfl ?_
    refine SW.if_ne (pc := 14) (t := 27) g (dt dt_X10_fits 8 rfl) rfl (fun hc => ?_) (fun hc => ?_)
    · have h := iteF hc h
      refine SW.aload_n (pc := 27) g (dt dt_X10_fits 13 rfl) rfl ?_
      refine SW.getR (pc := 28) g (dt dt_X10_fits 14 rfl) fl_X10_83 cell_0 rfl ?_
      obtain ⟨r5, h6, h⟩ := bindI h
      refine SW.callVi (pc := 31) g (dt dt_X10_fits 15 rfl) (mt_f_guess_firstPair _ _ _ _ ad ν   N r3  r5 h6) me_X3_firstPair mv_X3_firstPair ml_X10_333 cell_51 rfl rfl (Nat.le_of_ble_eq_true rfl) (Nat.le_of_ble_eq_true rfl) (Nat.le_of_ble_eq_true rfl) (Nat.le_of_ble_eq_true rfl) rfl ?_
      exact SW.ireturn (pc := 34) g (leafXi h ho) rfl (Nat.le_of_ble_eq_true rfl) (Nat.le_of_ble_eq_true rfl) (dt dt_X10_fits 16 rfl)
    · have h := iteT hc h
      refine SW.aload_n (pc := 17) g (dt dt_X10_fits 9 rfl) rfl ?_
      refine SW.getR (pc := 18) g (dt dt_X10_fits 10 rfl) fl_X10_83 cell_0 rfl ?_
      refine SW.getI (pc := 21) g (dt dt_X10_fits 11 rfl) fl_X10_330 cell_51 rfl ?_
      refine SW.goto (pc := 24) (t := 34) g (dt dt_X10_fits 12 rfl) rfl ?_
      exact SW.ireturn (pc := 34) g (leafXi h ho) rfl (Nat.le_of_ble_eq_true rfl) (Nat.le_of_ble_eq_true rfl) (dt dt_X10_fits 16 rfl)
  · exact SW.callXt (pc := 3) g (dt dt_X10_fits 3 rfl) ho rfl htab (mtx_f_x_needWhat _ _ _ _ ad ν N μ a1 1 (.inr r1) h2) me_X10_needWhat mv_X10_needWhat ml_X10_171 cell_0 rfl rfl (Nat.le_of_ble_eq_true rfl) (Nat.le_of_ble_eq_true rfl) (Nat.le_of_ble_eq_true rfl) (Nat.le_of_ble_eq_true rfl) rfl
set_option maxRecDepth 100000 in
set_option maxHeartbeats 4000000 in
theorem mtx_f_x_fits (l : Launch) (D : va_G) (cI cL : ClassId) (ad : Nat → Nat) (ν : sw_N) (N : Nat) (μ : sw_M) (a1 : Int32) (o : (Int32 × sw_M) ⊕ (String × sw_M)) (h : f_x_fits N μ a1 = some o) : MetX l D cI cL yX10_fits cX10_fits 2 (some .int) 10 1 6 (fun a => a = ad) ad [.ref 0, .int a1] lay0 μ ν (xo_i o).1 lay0 (xo_i o).2 ν :=
  MetX.of (n := 0) rfl (Nat.le_of_ble_eq_true rfl) (fun G g ho hm htab => ok_f_x_fits  g hm htab  μ ho a1 h)
def f_x_look (N : Nat)  (μ : sw_M) (a1 : Int32) : Option ((Int32 × sw_M) ⊕ (String × sw_M)) :=
  tb (f_x_needWhat N μ a1 1) (fun r1 =>
    Option.bind (f_guess_collect N  r1 ) (fun r3 =>
      Option.bind (f_guess_chooseLook N  r3 ) (fun r5 =>
        if a1 = 0 then
          some (.inl (r5 51 6, r5))
        else
          some (.inl (r5 51 7, r5)))))
set_option maxRecDepth 100000 in
set_option maxHeartbeats 4000000 in
theorem ok_f_x_look {G : sw_G} {ad : Nat → Nat} {ν : sw_N}   {N : Nat} {o : (Int32 × sw_M) ⊕ (String × sw_M)} (g : sw_ok G cX10_look "DeadWires" (some .int) 10 1 6 ad) (hm : G.2.2.1.2.1.maxLocals = 2) (htab : ∀ x ∈ G.2.2.1.2.1.exceptionTable.toList, False)  (μ : sw_M) (ho : sw_out G 1 6 (fun a => a = ad) (xo_i o).1 lay0 (xo_i o).2 ν) (a1 : Int32) (h : f_x_look N  μ a1 = some o) : SW G ad lay0 ν 0 0 0 [some (.ref 0), some (.int a1)] [] μ := by
  unfold f_x_look at h
  refine SW.aload_n (pc := 0) g (dt dt_X10_look 0 rfl) rfl ?_
  refine SW.iload_n (pc := 1) g (dt dt_X10_look 1 rfl) rfl ?_
  refine SW.iconst (pc := 2) (v := 1) g (dt dt_X10_look 2 rfl) ki_1 ?_
  rcases tbI h with ⟨r1, h2, h⟩ | ⟨r1, h2, rfl⟩
  · refine SW.callXr (pc := 3) (r := none) g (dt dt_X10_look 3 rfl) (mtx_f_x_needWhat _ _ _ _ ad ν N μ a1 1 (.inl r1) h2) me_X10_needWhat mv_X10_needWhat ml_X10_171 cell_0 rfl rfl (Nat.le_of_ble_eq_true rfl) (Nat.le_of_ble_eq_true rfl) (Nat.le_of_ble_eq_true rfl) (Nat.le_of_ble_eq_true rfl) rfl rfl ?_
    refine SW.aload_n (pc := 6) g (dt dt_X10_look 4 rfl) rfl ?_
    refine SW.getR (pc := 7) g (dt dt_X10_look 5 rfl) fl_X10_83 cell_0 rfl ?_
    obtain ⟨r3, h4, h⟩ := bindI h
    refine SW.callVv (pc := 10) g (dt dt_X10_look 6 rfl) (mt_f_guess_collect _ _ _ _ ad ν   N r1  r3 h4) me_X3_collect mv_X3_collect ml_X10_327 cell_51 rfl rfl (Nat.le_of_ble_eq_true rfl) (Nat.le_of_ble_eq_true rfl) (Nat.le_of_ble_eq_true rfl) (Nat.le_of_ble_eq_true rfl) rfl ?_
    refine SW.aload_n (pc := 13) g (dt dt_X10_look 7 rfl) rfl ?_
    refine SW.getR (pc := 14) g (dt dt_X10_look 8 rfl) fl_X10_83 cell_0 rfl ?_
    obtain ⟨r5, h6, h⟩ := bindI h
    refine SW.callVv (pc := 17) g (dt dt_X10_look 9 rfl) (mt_f_guess_chooseLook _ _ _ _ ad ν   N r3  r5 h6) me_X3_chooseLook mv_X3_chooseLook ml_X10_336 cell_51 rfl rfl (Nat.le_of_ble_eq_true rfl) (Nat.le_of_ble_eq_true rfl) (Nat.le_of_ble_eq_true rfl) (Nat.le_of_ble_eq_true rfl) rfl ?_
    refine SW.iload_n (pc := 20) g (dt dt_X10_look 10 rfl) rfl ?_
    refine SW.if_ne (pc := 21) (t := 34) g (dt dt_X10_look 11 rfl) rfl (fun hc => ?_) (fun hc => ?_)
    · have h := iteF hc h
      refine SW.aload_n (pc := 34) g (dt dt_X10_look 16 rfl) rfl ?_
      refine SW.getR (pc := 35) g (dt dt_X10_look 17 rfl) fl_X10_83 cell_0 rfl ?_
      refine SW.getI (pc := 38) g (dt dt_X10_look 18 rfl) fl_X10_342 cell_51 rfl ?_
      exact SW.ireturn (pc := 41) g (leafXi h ho) rfl (Nat.le_of_ble_eq_true rfl) (Nat.le_of_ble_eq_true rfl) (dt dt_X10_look 19 rfl)
    · have h := iteT hc h
      refine SW.aload_n (pc := 24) g (dt dt_X10_look 12 rfl) rfl ?_
      refine SW.getR (pc := 25) g (dt dt_X10_look 13 rfl) fl_X10_83 cell_0 rfl ?_
      refine SW.getI (pc := 28) g (dt dt_X10_look 14 rfl) fl_X10_339 cell_51 rfl ?_
      refine SW.goto (pc := 31) (t := 41) g (dt dt_X10_look 15 rfl) rfl ?_
      exact SW.ireturn (pc := 41) g (leafXi h ho) rfl (Nat.le_of_ble_eq_true rfl) (Nat.le_of_ble_eq_true rfl) (dt dt_X10_look 19 rfl)
  · exact SW.callXt (pc := 3) g (dt dt_X10_look 3 rfl) ho rfl htab (mtx_f_x_needWhat _ _ _ _ ad ν N μ a1 1 (.inr r1) h2) me_X10_needWhat mv_X10_needWhat ml_X10_171 cell_0 rfl rfl (Nat.le_of_ble_eq_true rfl) (Nat.le_of_ble_eq_true rfl) (Nat.le_of_ble_eq_true rfl) (Nat.le_of_ble_eq_true rfl) rfl
set_option maxRecDepth 100000 in
set_option maxHeartbeats 4000000 in
theorem mtx_f_x_look (l : Launch) (D : va_G) (cI cL : ClassId) (ad : Nat → Nat) (ν : sw_N) (N : Nat) (μ : sw_M) (a1 : Int32) (o : (Int32 × sw_M) ⊕ (String × sw_M)) (h : f_x_look N μ a1 = some o) : MetX l D cI cL yX10_look cX10_look 2 (some .int) 10 1 6 (fun a => a = ad) ad [.ref 0, .int a1] lay0 μ ν (xo_i o).1 lay0 (xo_i o).2 ν :=
  MetX.of (n := 0) rfl (Nat.le_of_ble_eq_true rfl) (fun G g ho hm htab => ok_f_x_look  g hm htab  μ ho a1 h)
def f_x_parts (N : Nat)  (μ : sw_M) (a1 : Int32) : Option ((Int32 × sw_M) ⊕ (String × sw_M)) :=
  Option.bind (f_sx_within N  μ a1 0 99) (fun r1 =>
    tb (f_x_need N μ r1) (fun r3 =>
      Option.bind (f_ways_setsOfFields N  r3 ((r3 35 2) + a1)) (fun r5 =>
        some (.inl (r5, r3)))))
set_option maxRecDepth 100000 in
set_option maxHeartbeats 4000000 in
theorem ok_f_x_parts {G : sw_G} {ad : Nat → Nat} {ν : sw_N}   {N : Nat} {o : (Int32 × sw_M) ⊕ (String × sw_M)} (g : sw_ok G cX10_parts "DeadWires" (some .int) 9 1 6 ad) (hm : G.2.2.1.2.1.maxLocals = 2) (htab : ∀ x ∈ G.2.2.1.2.1.exceptionTable.toList, False)  (μ : sw_M) (ho : sw_out G 1 6 (fun a => a = ad) (xo_i o).1 lay0 (xo_i o).2 ν) (a1 : Int32) (h : f_x_parts N  μ a1 = some o) : SW G ad lay0 ν 0 0 0 [some (.ref 0), some (.int a1)] [] μ := by
  unfold f_x_parts at h
  refine SW.aload_n (pc := 0) g (dt dt_X10_parts 0 rfl) rfl ?_
  refine SW.iload_n (pc := 1) g (dt dt_X10_parts 1 rfl) rfl ?_
  refine SW.iconst (pc := 2) (v := 0) g (dt dt_X10_parts 2 rfl) ki_0 ?_
  refine SW.bipush (pc := 3) (v := 99) g (dt dt_X10_parts 3 rfl) kb_99 ?_
  obtain ⟨r1, h2, h⟩ := bindI h
  refine SW.callSi (pc := 5) g (dt dt_X10_parts 4 rfl) (mt_f_sx_within _ _ _ _ ad ν lay0   N μ a1 0 99 r1 h2) me_X10_within ms_X10_within ml_X10_250 rfl (Nat.le_of_ble_eq_true rfl) (Nat.le_of_ble_eq_true rfl) (Nat.le_of_ble_eq_true rfl) (Nat.le_of_ble_eq_true rfl) rfl ?_
  rcases tbI h with ⟨r3, h4, h⟩ | ⟨r3, h4, rfl⟩
  · refine SW.callXr (pc := 8) (r := none) g (dt dt_X10_parts 5 rfl) (mtx_f_x_need _ _ _ _ ad ν N μ r1 (.inl r3) h4) me_X10_need mv_X10_need ml_X10_289 cell_0 rfl rfl (Nat.le_of_ble_eq_true rfl) (Nat.le_of_ble_eq_true rfl) (Nat.le_of_ble_eq_true rfl) (Nat.le_of_ble_eq_true rfl) rfl rfl ?_
    refine SW.aload_n (pc := 11) g (dt dt_X10_parts 6 rfl) rfl ?_
    refine SW.getR (pc := 12) g (dt dt_X10_parts 7 rfl) fl_X10_74 cell_0 rfl ?_
    refine SW.aload_n (pc := 15) g (dt dt_X10_parts 8 rfl) rfl ?_
    refine SW.getR (pc := 16) g (dt dt_X10_parts 9 rfl) fl_X10_51 cell_0 rfl ?_
    refine SW.getI (pc := 19) g (dt dt_X10_parts 10 rfl) fl_X10_183 cell_35 rfl ?_
    refine SW.iload_n (pc := 22) g (dt dt_X10_parts 11 rfl) rfl ?_
    refine SW.iadd (pc := 23) g (dt dt_X10_parts 12 rfl) ?_
    obtain ⟨r5, h6, h⟩ := bindI h
    refine SW.callVi (pc := 24) g (dt dt_X10_parts 13 rfl) (mt_f_ways_setsOfFields _ _ _ _ ad ν   N r3 ((r3 35 2) + a1) r5 h6) me_X8_setsOfFields mv_X8_setsOfFields ml_X10_345 cell_49 rfl rfl (Nat.le_of_ble_eq_true rfl) (Nat.le_of_ble_eq_true rfl) (Nat.le_of_ble_eq_true rfl) (Nat.le_of_ble_eq_true rfl) rfl ?_
    exact SW.ireturn (pc := 27) g (leafXi h ho) rfl (Nat.le_of_ble_eq_true rfl) (Nat.le_of_ble_eq_true rfl) (dt dt_X10_parts 14 rfl)
  · exact SW.callXt (pc := 8) g (dt dt_X10_parts 5 rfl) ho rfl htab (mtx_f_x_need _ _ _ _ ad ν N μ r1 (.inr r3) h4) me_X10_need mv_X10_need ml_X10_289 cell_0 rfl rfl (Nat.le_of_ble_eq_true rfl) (Nat.le_of_ble_eq_true rfl) (Nat.le_of_ble_eq_true rfl) (Nat.le_of_ble_eq_true rfl) rfl
set_option maxRecDepth 100000 in
set_option maxHeartbeats 4000000 in
theorem mtx_f_x_parts (l : Launch) (D : va_G) (cI cL : ClassId) (ad : Nat → Nat) (ν : sw_N) (N : Nat) (μ : sw_M) (a1 : Int32) (o : (Int32 × sw_M) ⊕ (String × sw_M)) (h : f_x_parts N μ a1 = some o) : MetX l D cI cL yX10_parts cX10_parts 2 (some .int) 9 1 6 (fun a => a = ad) ad [.ref 0, .int a1] lay0 μ ν (xo_i o).1 lay0 (xo_i o).2 ν :=
  MetX.of (n := 0) rfl (Nat.le_of_ble_eq_true rfl) (fun G g ho hm htab => ok_f_x_parts  g hm htab  μ ho a1 h)
def f_x_tingle_59 (N : Nat)   (μ : sw_M) (x1 : Int32) (x3 : Int32) (s0 : Int64) : Option ((Int64 × sw_M) ⊕ (String × sw_M)) :=
  Option.bind (f_sx_power N  μ 16 x1) (fun r1 =>
    Option.bind (f_sx_greatestDivisor N  μ s0 r1) (fun r3 =>
      if 0 < (lg_cmp r3 0) then
        if x3 = 0 then
          nzL r3
            (some (.inl (s0 / r3, μ)))
        else
          nzL r3
            (some (.inl (r1 / r3, μ)))
      else
        some (.inl (0, μ))))
def f_x_tingle_26 (N : Nat)   (μ : sw_M) (x1 : Int32) (x2 : Int32) (x3 : Int32) (s0 : Int32) : Option ((Int64 × sw_M) ⊕ (String × sw_M)) :=
  tb (f_x_need N μ s0) (fun r1 =>
    tb (f_x_needWhat N r1 x3 1) (fun r3 =>
      if x1 = 0 then
        f_x_tingle_59 N    r3 x1 x3 0
      else
        Option.bind (f_sx_power N  r3 ((16 : Int32) - x2) (x1 - 1)) (fun r5 =>
          f_x_tingle_59 N    r3 x1 x3 (((x1.toInt64) * (x2.toInt64)) * r5))))
def f_x_tingle_25 (N : Nat)   (μ : sw_M) (x1 : Int32) (x2 : Int32) (x3 : Int32) : Option ((Int64 × sw_M) ⊕ (String × sw_M)) :=
  f_x_tingle_26 N    μ x1 x2 x3 0
def f_x_tingle (N : Nat)  (μ : sw_M) (a1 : Int32) (a2 : Int32) (a3 : Int32) : Option ((Int64 × sw_M) ⊕ (String × sw_M)) :=
  Option.bind (f_sx_within N  μ a1 0 12) (fun r1 =>
    if r1 = 0 then
      f_x_tingle_25 N    μ a1 a2 a3
    else
      Option.bind (f_sx_within N  μ a2 0 16) (fun r3 =>
        if r3 = 0 then
          f_x_tingle_25 N    μ a1 a2 a3
        else
          f_x_tingle_26 N    μ a1 a2 a3 1))
set_option maxRecDepth 100000 in
set_option maxHeartbeats 4000000 in
theorem ok_f_x_tingle_59 {G : sw_G} {ad : Nat → Nat} {ν : sw_N}   {N : Nat} {o : (Int64 × sw_M) ⊕ (String × sw_M)} (g : sw_ok G cX10_tingle "DeadWires" (some .long) 10 2 12 ad) (hm : G.2.2.1.2.1.maxLocals = 10) (htab : ∀ x ∈ G.2.2.1.2.1.exceptionTable.toList, False)  (ho : sw_out G 2 12 (fun a => a = ad) (xo_l o).1 lay0 (xo_l o).2 ν)  (μ : sw_M) (x1 : Int32) (x3 : Int32) (s0 : Int64) (h : f_x_tingle_59 N    μ x1 x3 s0 = some o) : SW G ad lay0 ν 2 12 59 [none, some (.int x1), none, some (.int x3), none, none, none, none, none, none] [.long s0] μ := by
  unfold f_x_tingle_59 at h
  refine SW.lstore (pc := 59) g (dt dt_X10_tingle 36 rfl) (sw_ltm hm (Nat.le_of_ble_eq_true rfl)) rfl ?_
  refine SW.bipush (pc := 61) (v := 16) g (dt dt_X10_tingle 37 rfl) kb_16 ?_
  refine SW.iload_n (pc := 63) g (dt dt_X10_tingle 38 rfl) rfl ?_
  obtain ⟨r1, h2, h⟩ := bindI h
  refine SW.callSl (pc := 64) g (dt dt_X10_tingle 39 rfl) (mt_f_sx_power _ _ _ _ ad ν lay0   N μ 16 x1 r1 h2) me_X10_power ms_X10_power ml_X10_348 rfl (Nat.le_of_ble_eq_true rfl) (Nat.le_of_ble_eq_true rfl) (Nat.le_of_ble_eq_true rfl) (Nat.le_of_ble_eq_true rfl) rfl ?_
  refine SW.lstore (pc := 67) g (dt dt_X10_tingle 40 rfl) (sw_ltm hm (Nat.le_of_ble_eq_true rfl)) rfl ?_
  refine SW.lload (pc := 69) g (dt dt_X10_tingle 41 rfl) rfl ?_
  refine SW.lload (pc := 71) g (dt dt_X10_tingle 42 rfl) rfl ?_
  obtain ⟨r3, h4, h⟩ := bindI h
  refine SW.callSl (pc := 73) g (dt dt_X10_tingle 43 rfl) (mt_f_sx_greatestDivisor _ _ _ _ ad ν lay0   N μ s0 r1 r3 h4) me_X10_greatestDivisor ms_X10_greatestDivisor ml_X10_352 rfl (Nat.le_of_ble_eq_true rfl) (Nat.le_of_ble_eq_true rfl) (Nat.le_of_ble_eq_true rfl) (Nat.le_of_ble_eq_true rfl) rfl ?_
  refine SW.lstore (pc := 76) g (dt dt_X10_tingle 44 rfl) (sw_ltm hm (Nat.le_of_ble_eq_true rfl)) rfl ?_
  refine SW.lload (pc := 78) g (dt dt_X10_tingle 45 rfl) rfl ?_
  refine SW.lconst (pc := 80) (v := 0) g (dt dt_X10_tingle 46 rfl) rfl ?_
  refine SW.lcmp (pc := 81) g (dt dt_X10_tingle 47 rfl) ?_
  refine SW.if_gt (pc := 82) (t := 87) g (dt dt_X10_tingle 48 rfl) rfl (fun hc => ?_) (fun hc => ?_)
  · have h := iteT hc h
    refine SW.iload_n (pc := 87) g (dt dt_X10_tingle 51 rfl) rfl ?_
    refine SW.if_ne (pc := 88) (t := 99) g (dt dt_X10_tingle 52 rfl) rfl (fun hc => ?_) (fun hc => ?_)
    · have h := iteF hc h
      refine SW.lload (pc := 99) g (dt dt_X10_tingle 57 rfl) rfl ?_
      refine SW.lload (pc := 101) g (dt dt_X10_tingle 58 rfl) rfl ?_
      obtain ⟨hz5, h⟩ := nzLI h
      refine SW.ldiv (pc := 103) g (dt dt_X10_tingle 59 rfl) hz5 ?_
      exact SW.lreturn (pc := 104) g (leafXl h ho) rfl (Nat.le_of_ble_eq_true rfl) (Nat.le_of_ble_eq_true rfl) (dt dt_X10_tingle 60 rfl)
    · have h := iteT hc h
      refine SW.lload (pc := 91) g (dt dt_X10_tingle 53 rfl) rfl ?_
      refine SW.lload (pc := 93) g (dt dt_X10_tingle 54 rfl) rfl ?_
      obtain ⟨hz6, h⟩ := nzLI h
      refine SW.ldiv (pc := 95) g (dt dt_X10_tingle 55 rfl) hz6 ?_
      refine SW.goto (pc := 96) (t := 104) g (dt dt_X10_tingle 56 rfl) rfl ?_
      exact SW.lreturn (pc := 104) g (leafXl h ho) rfl (Nat.le_of_ble_eq_true rfl) (Nat.le_of_ble_eq_true rfl) (dt dt_X10_tingle 60 rfl)
  · have h := iteF hc h
    refine SW.lconst (pc := 85) (v := 0) g (dt dt_X10_tingle 49 rfl) rfl ?_
    exact SW.lreturn (pc := 86) g (leafXl h ho) rfl (Nat.le_of_ble_eq_true rfl) (Nat.le_of_ble_eq_true rfl) (dt dt_X10_tingle 50 rfl)
set_option maxRecDepth 100000 in
set_option maxHeartbeats 4000000 in
theorem ok_f_x_tingle_26 {G : sw_G} {ad : Nat → Nat} {ν : sw_N}   {N : Nat} {o : (Int64 × sw_M) ⊕ (String × sw_M)} (g : sw_ok G cX10_tingle "DeadWires" (some .long) 10 2 12 ad) (hm : G.2.2.1.2.1.maxLocals = 10) (htab : ∀ x ∈ G.2.2.1.2.1.exceptionTable.toList, False)  (ho : sw_out G 2 12 (fun a => a = ad) (xo_l o).1 lay0 (xo_l o).2 ν)  (μ : sw_M) (x1 : Int32) (x2 : Int32) (x3 : Int32) (s0 : Int32) (h : f_x_tingle_26 N    μ x1 x2 x3 s0 = some o) : SW G ad lay0 ν 0 0 26 [some (.ref 0), some (.int x1), some (.int x2), some (.int x3), none, none, none, none, none, none] [.int s0, .ref 0] μ := by
  unfold f_x_tingle_26 at h
  rcases tbI h with ⟨r1, h2, h⟩ | ⟨r1, h2, rfl⟩
  · refine SW.callXr (pc := 26) (r := none) g (dt dt_X10_tingle 14 rfl) (mtx_f_x_need _ _ _ _ ad ν N μ s0 (.inl r1) h2) me_X10_need mv_X10_need ml_X10_289 cell_0 rfl rfl (Nat.le_of_ble_eq_true rfl) (Nat.le_of_ble_eq_true rfl) (Nat.le_of_ble_eq_true rfl) (Nat.le_of_ble_eq_true rfl) rfl rfl ?_
    refine SW.aload_n (pc := 29) g (dt dt_X10_tingle 15 rfl) rfl ?_
    refine SW.iload_n (pc := 30) g (dt dt_X10_tingle 16 rfl) rfl ?_
    refine SW.iconst (pc := 31) (v := 1) g (dt dt_X10_tingle 17 rfl) ki_1 ?_
    rcases tbI h with ⟨r3, h4, h⟩ | ⟨r3, h4, rfl⟩
    · refine SW.callXr (pc := 32) (r := none) g (dt dt_X10_tingle 18 rfl) (mtx_f_x_needWhat _ _ _ _ ad ν N r1 x3 1 (.inl r3) h4) me_X10_needWhat mv_X10_needWhat ml_X10_171 cell_0 rfl rfl (Nat.le_of_ble_eq_true rfl) (Nat.le_of_ble_eq_true rfl) (Nat.le_of_ble_eq_true rfl) (Nat.le_of_ble_eq_true rfl) rfl rfl ?_
      refine SW.iload_n (pc := 35) g (dt dt_X10_tingle 19 rfl) rfl ?_
      refine SW.if_ne (pc := 36) (t := 43) g (dt dt_X10_tingle 20 rfl) rfl (fun hc => ?_) (fun hc => ?_)
      · have h := iteF hc h
        refine SW.iload_n (pc := 43) g (dt dt_X10_tingle 23 rfl) rfl ?_
        refine SW.i2l (pc := 44) g (dt dt_X10_tingle 24 rfl) ?_
        refine SW.iload_n (pc := 45) g (dt dt_X10_tingle 25 rfl) rfl ?_
        refine SW.i2l (pc := 46) g (dt dt_X10_tingle 26 rfl) ?_
        refine SW.lmul (pc := 47) g (dt dt_X10_tingle 27 rfl) ?_
        refine SW.bipush (pc := 48) (v := 16) g (dt dt_X10_tingle 28 rfl) kb_16 ?_
        refine SW.iload_n (pc := 50) g (dt dt_X10_tingle 29 rfl) rfl ?_
        refine SW.isub (pc := 51) g (dt dt_X10_tingle 30 rfl) ?_
        refine SW.iload_n (pc := 52) g (dt dt_X10_tingle 31 rfl) rfl ?_
        refine SW.iconst (pc := 53) (v := 1) g (dt dt_X10_tingle 32 rfl) ki_1 ?_
        refine SW.isub (pc := 54) g (dt dt_X10_tingle 33 rfl) ?_
        obtain ⟨r5, h6, h⟩ := bindI h
        refine SW.callSl (pc := 55) g (dt dt_X10_tingle 34 rfl) (mt_f_sx_power _ _ _ _ ad ν lay0   N r3 ((16 : Int32) - x2) (x1 - 1) r5 h6) me_X10_power ms_X10_power ml_X10_348 rfl (Nat.le_of_ble_eq_true rfl) (Nat.le_of_ble_eq_true rfl) (Nat.le_of_ble_eq_true rfl) (Nat.le_of_ble_eq_true rfl) rfl ?_
        refine SW.lmul (pc := 58) g (dt dt_X10_tingle 35 rfl) ?_
        refine SW.msk [false, true, false, true, false, false, false, false, false, false] ?_
        exact ok_f_x_tingle_59  g hm htab  ho    r3 x1 x3 (((x1.toInt64) * (x2.toInt64)) * r5) h
      · have h := iteT hc h
        refine SW.lconst (pc := 39) (v := 0) g (dt dt_X10_tingle 21 rfl) rfl ?_
        refine SW.goto (pc := 40) (t := 59) g (dt dt_X10_tingle 22 rfl) rfl ?_
        refine SW.msk [false, true, false, true, false, false, false, false, false, false] ?_
        exact ok_f_x_tingle_59  g hm htab  ho    r3 x1 x3 0 h
    · exact SW.callXt (pc := 32) g (dt dt_X10_tingle 18 rfl) ho rfl htab (mtx_f_x_needWhat _ _ _ _ ad ν N r1 x3 1 (.inr r3) h4) me_X10_needWhat mv_X10_needWhat ml_X10_171 cell_0 rfl rfl (Nat.le_of_ble_eq_true rfl) (Nat.le_of_ble_eq_true rfl) (Nat.le_of_ble_eq_true rfl) (Nat.le_of_ble_eq_true rfl) rfl
  · exact SW.callXt (pc := 26) g (dt dt_X10_tingle 14 rfl) ho rfl htab (mtx_f_x_need _ _ _ _ ad ν N μ s0 (.inr r1) h2) me_X10_need mv_X10_need ml_X10_289 cell_0 rfl rfl (Nat.le_of_ble_eq_true rfl) (Nat.le_of_ble_eq_true rfl) (Nat.le_of_ble_eq_true rfl) (Nat.le_of_ble_eq_true rfl) rfl
set_option maxRecDepth 100000 in
set_option maxHeartbeats 4000000 in
theorem ok_f_x_tingle_25 {G : sw_G} {ad : Nat → Nat} {ν : sw_N}   {N : Nat} {o : (Int64 × sw_M) ⊕ (String × sw_M)} (g : sw_ok G cX10_tingle "DeadWires" (some .long) 10 2 12 ad) (hm : G.2.2.1.2.1.maxLocals = 10) (htab : ∀ x ∈ G.2.2.1.2.1.exceptionTable.toList, False)  (ho : sw_out G 2 12 (fun a => a = ad) (xo_l o).1 lay0 (xo_l o).2 ν)  (μ : sw_M) (x1 : Int32) (x2 : Int32) (x3 : Int32) (h : f_x_tingle_25 N    μ x1 x2 x3 = some o) : SW G ad lay0 ν 0 0 25 [some (.ref 0), some (.int x1), some (.int x2), some (.int x3), none, none, none, none, none, none] [.ref 0] μ := by
  unfold f_x_tingle_25 at h
  refine SW.iconst (pc := 25) (v := 0) g (dt dt_X10_tingle 13 rfl) ki_0 ?_
  refine SW.msk [true, true, true, true, false, false, false, false, false, false] ?_
  exact ok_f_x_tingle_26  g hm htab  ho    μ x1 x2 x3 0 h
set_option maxRecDepth 100000 in
set_option maxHeartbeats 4000000 in
theorem ok_f_x_tingle {G : sw_G} {ad : Nat → Nat} {ν : sw_N}   {N : Nat} {o : (Int64 × sw_M) ⊕ (String × sw_M)} (g : sw_ok G cX10_tingle "DeadWires" (some .long) 10 2 12 ad) (hm : G.2.2.1.2.1.maxLocals = 10) (htab : ∀ x ∈ G.2.2.1.2.1.exceptionTable.toList, False)  (μ : sw_M) (ho : sw_out G 2 12 (fun a => a = ad) (xo_l o).1 lay0 (xo_l o).2 ν) (a1 : Int32) (a2 : Int32) (a3 : Int32) (h : f_x_tingle N  μ a1 a2 a3 = some o) : SW G ad lay0 ν 0 0 0 [some (.ref 0), some (.int a1), some (.int a2), some (.int a3), none, none, none, none, none, none] [] μ := by
  unfold f_x_tingle at h
  refine SW.aload_n (pc := 0) g (dt dt_X10_tingle 0 rfl) rfl ?_
  refine SW.iload_n (pc := 1) g (dt dt_X10_tingle 1 rfl) rfl ?_
  refine SW.iconst (pc := 2) (v := 0) g (dt dt_X10_tingle 2 rfl) ki_0 ?_
  refine SW.bipush (pc := 3) (v := 12) g (dt dt_X10_tingle 3 rfl) kb_12 ?_
  obtain ⟨r1, h2, h⟩ := bindI h
  refine SW.callSi (pc := 5) g (dt dt_X10_tingle 4 rfl) (mt_f_sx_within _ _ _ _ ad ν lay0   N μ a1 0 12 r1 h2) me_X10_within ms_X10_within ml_X10_250 rfl (Nat.le_of_ble_eq_true rfl) (Nat.le_of_ble_eq_true rfl) (Nat.le_of_ble_eq_true rfl) (Nat.le_of_ble_eq_true rfl) rfl ?_
  refine SW.if_eq (pc := 8) (t := 25) g (dt dt_X10_tingle 5 rfl) rfl (fun hc => ?_) (fun hc => ?_)
  · have h := iteT hc h
    refine SW.msk [true, true, true, true, false, false, false, false, false, false] ?_
    exact ok_f_x_tingle_25  g hm htab  ho    μ a1 a2 a3 h
  · have h := iteF hc h
    refine SW.iload_n (pc := 11) g (dt dt_X10_tingle 6 rfl) rfl ?_
    refine SW.iconst (pc := 12) (v := 0) g (dt dt_X10_tingle 7 rfl) ki_0 ?_
    refine SW.bipush (pc := 13) (v := 16) g (dt dt_X10_tingle 8 rfl) kb_16 ?_
    obtain ⟨r3, h4, h⟩ := bindI h
    refine SW.callSi (pc := 15) g (dt dt_X10_tingle 9 rfl) (mt_f_sx_within _ _ _ _ ad ν lay0   N μ a2 0 16 r3 h4) me_X10_within ms_X10_within ml_X10_250 rfl (Nat.le_of_ble_eq_true rfl) (Nat.le_of_ble_eq_true rfl) (Nat.le_of_ble_eq_true rfl) (Nat.le_of_ble_eq_true rfl) rfl ?_
    refine SW.if_eq (pc := 18) (t := 25) g (dt dt_X10_tingle 10 rfl) rfl (fun hc => ?_) (fun hc => ?_)
    · have h := iteT hc h
      refine SW.msk [true, true, true, true, false, false, false, false, false, false] ?_
      exact ok_f_x_tingle_25  g hm htab  ho    μ a1 a2 a3 h
    · have h := iteF hc h
      refine SW.iconst (pc := 21) (v := 1) g (dt dt_X10_tingle 11 rfl) ki_1 ?_
      refine SW.goto (pc := 22) (t := 26) g (dt dt_X10_tingle 12 rfl) rfl ?_
      refine SW.msk [true, true, true, true, false, false, false, false, false, false] ?_
      exact ok_f_x_tingle_26  g hm htab  ho    μ a1 a2 a3 1 h
set_option maxRecDepth 100000 in
set_option maxHeartbeats 4000000 in
theorem mtx_f_x_tingle (l : Launch) (D : va_G) (cI cL : ClassId) (ad : Nat → Nat) (ν : sw_N) (N : Nat) (μ : sw_M) (a1 : Int32) (a2 : Int32) (a3 : Int32) (o : (Int64 × sw_M) ⊕ (String × sw_M)) (h : f_x_tingle N μ a1 a2 a3 = some o) : MetX l D cI cL yX10_tingle cX10_tingle 10 (some .long) 10 2 12 (fun a => a = ad) ad [.ref 0, .int a1, .int a2, .int a3] lay0 μ ν (xo_l o).1 lay0 (xo_l o).2 ν :=
  MetX.of (n := 6) rfl (Nat.le_of_ble_eq_true rfl) (fun G g ho hm htab => ok_f_x_tingle  g hm htab  μ ho a1 a2 a3 h)
def f_x_lean_47 (N : Nat)   : Nat → sw_M → Int32 → Int32 → Int32 → Int32 → Int32 → Int32 → Int32 → Option ((Int32 × sw_M) ⊕ (String × sw_M))
  | 0, _, _, _, _, _, _, _, _ => none
  | n + 1, μ, x1, x2, x3, x4, x5, x6, x7 =>
    if 4 ≤ x7 then
      if x3 = 0 then
        some (.inl (x4, μ))
      else
        if x3 = 1 then
          some (.inl (x5, μ))
        else
          some (.inl (x6, μ))
    else
      ib (x7 >>> ((1 : Int32) &&& 31)) (fun y1 =>
        ib (x7 &&& 1) (fun y2 =>
          Option.bind (f_sx_rests N  μ x1 x2 y1 y2) (fun r3 =>
            if r3 = 0 then
              f_x_lean_47 N   n μ x1 x2 x3 x4 x5 x6 (x7 + 1)
            else
              if x4 = 0 then
                ib (((10 : Int32) * y1) + y2) (fun y6 =>
                  Option.bind (f_sx_gain N  μ x1 x2 y1 y2) (fun r7 =>
                    Option.bind (f_sx_gain N  μ x1 x2 y2 y1) (fun r9 =>
                      ib (r7 + r9) (fun y11 =>
                        ib (x4 + 1) (fun y12 =>
                          f_x_lean_47 N   n μ x1 x2 x3 y12 y6 y11 (x7 + 1))))))
              else
                ib (x4 + 1) (fun y5 =>
                  f_x_lean_47 N   n μ x1 x2 x3 y5 x5 x6 (x7 + 1)))))
def f_x_lean_26 (N : Nat)   (μ : sw_M) (x1 : Int32) (x2 : Int32) (x3 : Int32) (s0 : Int32) : Option ((Int32 × sw_M) ⊕ (String × sw_M)) :=
  tb (f_x_need N μ s0) (fun r1 =>
    tb (f_x_needWhat N r1 x3 2) (fun r3 =>
      f_x_lean_47 N   N r3 x1 x2 x3 0 (-1) 0 0))
def f_x_lean_25 (N : Nat)   (μ : sw_M) (x1 : Int32) (x2 : Int32) (x3 : Int32) : Option ((Int32 × sw_M) ⊕ (String × sw_M)) :=
  f_x_lean_26 N    μ x1 x2 x3 0
def f_x_lean (N : Nat)  (μ : sw_M) (a1 : Int32) (a2 : Int32) (a3 : Int32) : Option ((Int32 × sw_M) ⊕ (String × sw_M)) :=
  Option.bind (f_sx_within N  μ a1 0 99) (fun r1 =>
    if r1 = 0 then
      f_x_lean_25 N    μ a1 a2 a3
    else
      Option.bind (f_sx_within N  μ a2 0 99) (fun r3 =>
        if r3 = 0 then
          f_x_lean_25 N    μ a1 a2 a3
        else
          f_x_lean_26 N    μ a1 a2 a3 1))
set_option maxRecDepth 100000 in
set_option maxHeartbeats 4000000 in
theorem ok_f_x_lean_47 {G : sw_G} {ad : Nat → Nat} {ν : sw_N}   {N : Nat} {o : (Int32 × sw_M) ⊕ (String × sw_M)} (g : sw_ok G cX10_lean "DeadWires" (some .int) 10 2 12 ad) (hm : G.2.2.1.2.1.maxLocals = 10) (htab : ∀ x ∈ G.2.2.1.2.1.exceptionTable.toList, False)  (ho : sw_out G 2 12 (fun a => a = ad) (xo_i o).1 lay0 (xo_i o).2 ν)  : ∀ (n : Nat) (μ : sw_M) (x1 : Int32) (x2 : Int32) (x3 : Int32) (x4 : Int32) (x5 : Int32) (x6 : Int32) (x7 : Int32) (h : f_x_lean_47 N   n μ x1 x2 x3 x4 x5 x6 x7 = some o), SW G ad lay0 ν 2 12 47 [none, some (.int x1), some (.int x2), some (.int x3), some (.int x4), some (.int x5), some (.int x6), some (.int x7), none, none] [] μ := by
  intro n
  induction n with
  | zero => intro μ x1 x2 x3 x4 x5 x6 x7 h; simp only [f_x_lean_47] at h; cases h
  | succ n ih =>
    intro μ x1 x2 x3 x4 x5 x6 x7 h
    unfold f_x_lean_47 at h
    refine SW.iload (pc := 47) g (dt dt_X10_lean 27 rfl) rfl ?_
    refine SW.iconst (pc := 49) (v := 4) g (dt dt_X10_lean 28 rfl) ki_4 ?_
    refine SW.icmp_ge (pc := 50) (t := 122) g (dt dt_X10_lean 29 rfl) rfl (fun hc => ?_) (fun hc => ?_)
    · have h := iteT hc h
      refine SW.iload_n (pc := 122) g (dt dt_X10_lean 67 rfl) rfl ?_
      refine SW.if_ne (pc := 123) (t := 129) g (dt dt_X10_lean 68 rfl) rfl (fun hc => ?_) (fun hc => ?_)
      · have h := iteF hc h
        refine SW.iload_n (pc := 129) g (dt dt_X10_lean 71 rfl) rfl ?_
        refine SW.iconst (pc := 130) (v := 1) g (dt dt_X10_lean 72 rfl) ki_1 ?_
        refine SW.icmp_ne (pc := 131) (t := 139) g (dt dt_X10_lean 73 rfl) rfl (fun hc => ?_) (fun hc => ?_)
        · have h := iteF hc h
          refine SW.iload (pc := 139) g (dt dt_X10_lean 76 rfl) rfl ?_
          exact SW.ireturn (pc := 141) g (leafXi h ho) rfl (Nat.le_of_ble_eq_true rfl) (Nat.le_of_ble_eq_true rfl) (dt dt_X10_lean 77 rfl)
        · have h := iteT hc h
          refine SW.iload (pc := 134) g (dt dt_X10_lean 74 rfl) rfl ?_
          refine SW.goto (pc := 136) (t := 141) g (dt dt_X10_lean 75 rfl) rfl ?_
          exact SW.ireturn (pc := 141) g (leafXi h ho) rfl (Nat.le_of_ble_eq_true rfl) (Nat.le_of_ble_eq_true rfl) (dt dt_X10_lean 77 rfl)
      · have h := iteT hc h
        refine SW.iload (pc := 126) g (dt dt_X10_lean 69 rfl) rfl ?_
        exact SW.ireturn (pc := 128) g (leafXi h ho) rfl (Nat.le_of_ble_eq_true rfl) (Nat.le_of_ble_eq_true rfl) (dt dt_X10_lean 70 rfl)
    · have h := iteF hc h
      refine SW.iload (pc := 53) g (dt dt_X10_lean 30 rfl) rfl ?_
      refine SW.iconst (pc := 55) (v := 1) g (dt dt_X10_lean 31 rfl) ki_1 ?_
      refine SW.ishr (pc := 56) g (dt dt_X10_lean 32 rfl) ?_
      refine SW.istore (pc := 57) g (dt dt_X10_lean 33 rfl) (sw_ltm hm (Nat.le_of_ble_eq_true rfl)) rfl ?_
      refine SW.genL h (fun y1 h => ?_)
      refine SW.iload (pc := 59) g (dt dt_X10_lean 34 rfl) rfl ?_
      refine SW.iconst (pc := 61) (v := 1) g (dt dt_X10_lean 35 rfl) ki_1 ?_
      refine SW.iand (pc := 62) g (dt dt_X10_lean 36 rfl) ?_
      refine SW.istore (pc := 63) g (dt dt_X10_lean 37 rfl) (sw_ltm hm (Nat.le_of_ble_eq_true rfl)) rfl ?_
      refine SW.genL h (fun y2 h => ?_)
      refine SW.iload_n (pc := 65) g (dt dt_X10_lean 38 rfl) rfl ?_
      refine SW.iload_n (pc := 66) g (dt dt_X10_lean 39 rfl) rfl ?_
      refine SW.iload (pc := 67) g (dt dt_X10_lean 40 rfl) rfl ?_
      refine SW.iload (pc := 69) g (dt dt_X10_lean 41 rfl) rfl ?_
      obtain ⟨r3, h4, h⟩ := bindI h
      refine SW.callSi (pc := 71) g (dt dt_X10_lean 42 rfl) (mt_f_sx_rests _ _ _ _ ad ν lay0   N μ x1 x2 y1 y2 r3 h4) me_X10_rests ms_X10_rests ml_X10_356 rfl (Nat.le_of_ble_eq_true rfl) (Nat.le_of_ble_eq_true rfl) (Nat.le_of_ble_eq_true rfl) (Nat.le_of_ble_eq_true rfl) rfl ?_
      refine SW.if_eq (pc := 74) (t := 116) g (dt dt_X10_lean 43 rfl) rfl (fun hc => ?_) (fun hc => ?_)
      · have h := iteT hc h
        refine SW.iinc (pc := 116) (v := x7 + 1) g (dt dt_X10_lean 65 rfl) rfl (kn_1 _) (sw_ltm hm (Nat.le_of_ble_eq_true rfl)) rfl ?_
        refine SW.goto (pc := 119) (t := 47) g (dt dt_X10_lean 66 rfl) rfl ?_
        refine SW.msk [false, true, true, true, true, true, true, true, false, false] ?_
        exact ih μ x1 x2 x3 x4 x5 x6 (x7 + 1) h
      · have h := iteF hc h
        refine SW.iload (pc := 77) g (dt dt_X10_lean 44 rfl) rfl ?_
        refine SW.if_ne (pc := 79) (t := 113) g (dt dt_X10_lean 45 rfl) rfl (fun hc => ?_) (fun hc => ?_)
        · have h := iteF hc h
          refine SW.iinc (pc := 113) (v := x4 + 1) g (dt dt_X10_lean 64 rfl) rfl (kn_1 _) (sw_ltm hm (Nat.le_of_ble_eq_true rfl)) rfl ?_
          refine SW.genL h (fun y5 h => ?_)
          refine SW.iinc (pc := 116) (v := x7 + 1) g (dt dt_X10_lean 65 rfl) rfl (kn_1 _) (sw_ltm hm (Nat.le_of_ble_eq_true rfl)) rfl ?_
          refine SW.goto (pc := 119) (t := 47) g (dt dt_X10_lean 66 rfl) rfl ?_
          refine SW.msk [false, true, true, true, true, true, true, true, false, false] ?_
          exact ih μ x1 x2 x3 y5 x5 x6 (x7 + 1) h
        · have h := iteT hc h
          refine SW.bipush (pc := 82) (v := 10) g (dt dt_X10_lean 46 rfl) kb_10 ?_
          refine SW.iload (pc := 84) g (dt dt_X10_lean 47 rfl) rfl ?_
          refine SW.imul (pc := 86) g (dt dt_X10_lean 48 rfl) ?_
          refine SW.iload (pc := 87) g (dt dt_X10_lean 49 rfl) rfl ?_
          refine SW.iadd (pc := 89) g (dt dt_X10_lean 50 rfl) ?_
          refine SW.istore (pc := 90) g (dt dt_X10_lean 51 rfl) (sw_ltm hm (Nat.le_of_ble_eq_true rfl)) rfl ?_
          refine SW.genL h (fun y6 h => ?_)
          refine SW.iload_n (pc := 92) g (dt dt_X10_lean 52 rfl) rfl ?_
          refine SW.iload_n (pc := 93) g (dt dt_X10_lean 53 rfl) rfl ?_
          refine SW.iload (pc := 94) g (dt dt_X10_lean 54 rfl) rfl ?_
          refine SW.iload (pc := 96) g (dt dt_X10_lean 55 rfl) rfl ?_
          obtain ⟨r7, h8, h⟩ := bindI h
          refine SW.callSi (pc := 98) g (dt dt_X10_lean 56 rfl) (mt_f_sx_gain _ _ _ _ ad ν lay0   N μ x1 x2 y1 y2 r7 h8) me_X10_gain ms_X10_gain ml_X10_360 rfl (Nat.le_of_ble_eq_true rfl) (Nat.le_of_ble_eq_true rfl) (Nat.le_of_ble_eq_true rfl) (Nat.le_of_ble_eq_true rfl) rfl ?_
          refine SW.iload_n (pc := 101) g (dt dt_X10_lean 57 rfl) rfl ?_
          refine SW.iload_n (pc := 102) g (dt dt_X10_lean 58 rfl) rfl ?_
          refine SW.iload (pc := 103) g (dt dt_X10_lean 59 rfl) rfl ?_
          refine SW.iload (pc := 105) g (dt dt_X10_lean 60 rfl) rfl ?_
          obtain ⟨r9, h10, h⟩ := bindI h
          refine SW.callSi (pc := 107) g (dt dt_X10_lean 61 rfl) (mt_f_sx_gain _ _ _ _ ad ν lay0   N μ x1 x2 y2 y1 r9 h10) me_X10_gain ms_X10_gain ml_X10_360 rfl (Nat.le_of_ble_eq_true rfl) (Nat.le_of_ble_eq_true rfl) (Nat.le_of_ble_eq_true rfl) (Nat.le_of_ble_eq_true rfl) rfl ?_
          refine SW.iadd (pc := 110) g (dt dt_X10_lean 62 rfl) ?_
          refine SW.istore (pc := 111) g (dt dt_X10_lean 63 rfl) (sw_ltm hm (Nat.le_of_ble_eq_true rfl)) rfl ?_
          refine SW.genL h (fun y11 h => ?_)
          refine SW.iinc (pc := 113) (v := x4 + 1) g (dt dt_X10_lean 64 rfl) rfl (kn_1 _) (sw_ltm hm (Nat.le_of_ble_eq_true rfl)) rfl ?_
          refine SW.genL h (fun y12 h => ?_)
          refine SW.iinc (pc := 116) (v := x7 + 1) g (dt dt_X10_lean 65 rfl) rfl (kn_1 _) (sw_ltm hm (Nat.le_of_ble_eq_true rfl)) rfl ?_
          refine SW.goto (pc := 119) (t := 47) g (dt dt_X10_lean 66 rfl) rfl ?_
          refine SW.msk [false, true, true, true, true, true, true, true, false, false] ?_
          exact ih μ x1 x2 x3 y12 y6 y11 (x7 + 1) h
set_option maxRecDepth 100000 in
set_option maxHeartbeats 4000000 in
theorem ok_f_x_lean_26 {G : sw_G} {ad : Nat → Nat} {ν : sw_N}   {N : Nat} {o : (Int32 × sw_M) ⊕ (String × sw_M)} (g : sw_ok G cX10_lean "DeadWires" (some .int) 10 2 12 ad) (hm : G.2.2.1.2.1.maxLocals = 10) (htab : ∀ x ∈ G.2.2.1.2.1.exceptionTable.toList, False)  (ho : sw_out G 2 12 (fun a => a = ad) (xo_i o).1 lay0 (xo_i o).2 ν)  (μ : sw_M) (x1 : Int32) (x2 : Int32) (x3 : Int32) (s0 : Int32) (h : f_x_lean_26 N    μ x1 x2 x3 s0 = some o) : SW G ad lay0 ν 0 0 26 [some (.ref 0), some (.int x1), some (.int x2), some (.int x3), none, none, none, none, none, none] [.int s0, .ref 0] μ := by
  unfold f_x_lean_26 at h
  rcases tbI h with ⟨r1, h2, h⟩ | ⟨r1, h2, rfl⟩
  · refine SW.callXr (pc := 26) (r := none) g (dt dt_X10_lean 14 rfl) (mtx_f_x_need _ _ _ _ ad ν N μ s0 (.inl r1) h2) me_X10_need mv_X10_need ml_X10_289 cell_0 rfl rfl (Nat.le_of_ble_eq_true rfl) (Nat.le_of_ble_eq_true rfl) (Nat.le_of_ble_eq_true rfl) (Nat.le_of_ble_eq_true rfl) rfl rfl ?_
    refine SW.aload_n (pc := 29) g (dt dt_X10_lean 15 rfl) rfl ?_
    refine SW.iload_n (pc := 30) g (dt dt_X10_lean 16 rfl) rfl ?_
    refine SW.iconst (pc := 31) (v := 2) g (dt dt_X10_lean 17 rfl) ki_2 ?_
    rcases tbI h with ⟨r3, h4, h⟩ | ⟨r3, h4, rfl⟩
    · refine SW.callXr (pc := 32) (r := none) g (dt dt_X10_lean 18 rfl) (mtx_f_x_needWhat _ _ _ _ ad ν N r1 x3 2 (.inl r3) h4) me_X10_needWhat mv_X10_needWhat ml_X10_171 cell_0 rfl rfl (Nat.le_of_ble_eq_true rfl) (Nat.le_of_ble_eq_true rfl) (Nat.le_of_ble_eq_true rfl) (Nat.le_of_ble_eq_true rfl) rfl rfl ?_
      refine SW.iconst (pc := 35) (v := 0) g (dt dt_X10_lean 19 rfl) ki_0 ?_
      refine SW.istore (pc := 36) g (dt dt_X10_lean 20 rfl) (sw_ltm hm (Nat.le_of_ble_eq_true rfl)) rfl ?_
      refine SW.iconst (pc := 38) (v := (-1)) g (dt dt_X10_lean 21 rfl) ki_m1 ?_
      refine SW.istore (pc := 39) g (dt dt_X10_lean 22 rfl) (sw_ltm hm (Nat.le_of_ble_eq_true rfl)) rfl ?_
      refine SW.iconst (pc := 41) (v := 0) g (dt dt_X10_lean 23 rfl) ki_0 ?_
      refine SW.istore (pc := 42) g (dt dt_X10_lean 24 rfl) (sw_ltm hm (Nat.le_of_ble_eq_true rfl)) rfl ?_
      refine SW.iconst (pc := 44) (v := 0) g (dt dt_X10_lean 25 rfl) ki_0 ?_
      refine SW.istore (pc := 45) g (dt dt_X10_lean 26 rfl) (sw_ltm hm (Nat.le_of_ble_eq_true rfl)) rfl ?_
      refine SW.msk [false, true, true, true, true, true, true, true, false, false] ?_
      exact ok_f_x_lean_47  g hm htab  ho   N r3 x1 x2 x3 0 (-1) 0 0 h
    · exact SW.callXt (pc := 32) g (dt dt_X10_lean 18 rfl) ho rfl htab (mtx_f_x_needWhat _ _ _ _ ad ν N r1 x3 2 (.inr r3) h4) me_X10_needWhat mv_X10_needWhat ml_X10_171 cell_0 rfl rfl (Nat.le_of_ble_eq_true rfl) (Nat.le_of_ble_eq_true rfl) (Nat.le_of_ble_eq_true rfl) (Nat.le_of_ble_eq_true rfl) rfl
  · exact SW.callXt (pc := 26) g (dt dt_X10_lean 14 rfl) ho rfl htab (mtx_f_x_need _ _ _ _ ad ν N μ s0 (.inr r1) h2) me_X10_need mv_X10_need ml_X10_289 cell_0 rfl rfl (Nat.le_of_ble_eq_true rfl) (Nat.le_of_ble_eq_true rfl) (Nat.le_of_ble_eq_true rfl) (Nat.le_of_ble_eq_true rfl) rfl
set_option maxRecDepth 100000 in
set_option maxHeartbeats 4000000 in
theorem ok_f_x_lean_25 {G : sw_G} {ad : Nat → Nat} {ν : sw_N}   {N : Nat} {o : (Int32 × sw_M) ⊕ (String × sw_M)} (g : sw_ok G cX10_lean "DeadWires" (some .int) 10 2 12 ad) (hm : G.2.2.1.2.1.maxLocals = 10) (htab : ∀ x ∈ G.2.2.1.2.1.exceptionTable.toList, False)  (ho : sw_out G 2 12 (fun a => a = ad) (xo_i o).1 lay0 (xo_i o).2 ν)  (μ : sw_M) (x1 : Int32) (x2 : Int32) (x3 : Int32) (h : f_x_lean_25 N    μ x1 x2 x3 = some o) : SW G ad lay0 ν 0 0 25 [some (.ref 0), some (.int x1), some (.int x2), some (.int x3), none, none, none, none, none, none] [.ref 0] μ := by
  unfold f_x_lean_25 at h
  refine SW.iconst (pc := 25) (v := 0) g (dt dt_X10_lean 13 rfl) ki_0 ?_
  refine SW.msk [true, true, true, true, false, false, false, false, false, false] ?_
  exact ok_f_x_lean_26  g hm htab  ho    μ x1 x2 x3 0 h
set_option maxRecDepth 100000 in
set_option maxHeartbeats 4000000 in
theorem ok_f_x_lean {G : sw_G} {ad : Nat → Nat} {ν : sw_N}   {N : Nat} {o : (Int32 × sw_M) ⊕ (String × sw_M)} (g : sw_ok G cX10_lean "DeadWires" (some .int) 10 2 12 ad) (hm : G.2.2.1.2.1.maxLocals = 10) (htab : ∀ x ∈ G.2.2.1.2.1.exceptionTable.toList, False)  (μ : sw_M) (ho : sw_out G 2 12 (fun a => a = ad) (xo_i o).1 lay0 (xo_i o).2 ν) (a1 : Int32) (a2 : Int32) (a3 : Int32) (h : f_x_lean N  μ a1 a2 a3 = some o) : SW G ad lay0 ν 0 0 0 [some (.ref 0), some (.int a1), some (.int a2), some (.int a3), none, none, none, none, none, none] [] μ := by
  unfold f_x_lean at h
  refine SW.aload_n (pc := 0) g (dt dt_X10_lean 0 rfl) rfl ?_
  refine SW.iload_n (pc := 1) g (dt dt_X10_lean 1 rfl) rfl ?_
  refine SW.iconst (pc := 2) (v := 0) g (dt dt_X10_lean 2 rfl) ki_0 ?_
  refine SW.bipush (pc := 3) (v := 99) g (dt dt_X10_lean 3 rfl) kb_99 ?_
  obtain ⟨r1, h2, h⟩ := bindI h
  refine SW.callSi (pc := 5) g (dt dt_X10_lean 4 rfl) (mt_f_sx_within _ _ _ _ ad ν lay0   N μ a1 0 99 r1 h2) me_X10_within ms_X10_within ml_X10_250 rfl (Nat.le_of_ble_eq_true rfl) (Nat.le_of_ble_eq_true rfl) (Nat.le_of_ble_eq_true rfl) (Nat.le_of_ble_eq_true rfl) rfl ?_
  refine SW.if_eq (pc := 8) (t := 25) g (dt dt_X10_lean 5 rfl) rfl (fun hc => ?_) (fun hc => ?_)
  · have h := iteT hc h
    refine SW.msk [true, true, true, true, false, false, false, false, false, false] ?_
    exact ok_f_x_lean_25  g hm htab  ho    μ a1 a2 a3 h
  · have h := iteF hc h
    refine SW.iload_n (pc := 11) g (dt dt_X10_lean 6 rfl) rfl ?_
    refine SW.iconst (pc := 12) (v := 0) g (dt dt_X10_lean 7 rfl) ki_0 ?_
    refine SW.bipush (pc := 13) (v := 99) g (dt dt_X10_lean 8 rfl) kb_99 ?_
    obtain ⟨r3, h4, h⟩ := bindI h
    refine SW.callSi (pc := 15) g (dt dt_X10_lean 9 rfl) (mt_f_sx_within _ _ _ _ ad ν lay0   N μ a2 0 99 r3 h4) me_X10_within ms_X10_within ml_X10_250 rfl (Nat.le_of_ble_eq_true rfl) (Nat.le_of_ble_eq_true rfl) (Nat.le_of_ble_eq_true rfl) (Nat.le_of_ble_eq_true rfl) rfl ?_
    refine SW.if_eq (pc := 18) (t := 25) g (dt dt_X10_lean 10 rfl) rfl (fun hc => ?_) (fun hc => ?_)
    · have h := iteT hc h
      refine SW.msk [true, true, true, true, false, false, false, false, false, false] ?_
      exact ok_f_x_lean_25  g hm htab  ho    μ a1 a2 a3 h
    · have h := iteF hc h
      refine SW.iconst (pc := 21) (v := 1) g (dt dt_X10_lean 11 rfl) ki_1 ?_
      refine SW.goto (pc := 22) (t := 26) g (dt dt_X10_lean 12 rfl) rfl ?_
      refine SW.msk [true, true, true, true, false, false, false, false, false, false] ?_
      exact ok_f_x_lean_26  g hm htab  ho    μ a1 a2 a3 1 h
set_option maxRecDepth 100000 in
set_option maxHeartbeats 4000000 in
theorem mtx_f_x_lean (l : Launch) (D : va_G) (cI cL : ClassId) (ad : Nat → Nat) (ν : sw_N) (N : Nat) (μ : sw_M) (a1 : Int32) (a2 : Int32) (a3 : Int32) (o : (Int32 × sw_M) ⊕ (String × sw_M)) (h : f_x_lean N μ a1 a2 a3 = some o) : MetX l D cI cL yX10_lean cX10_lean 10 (some .int) 10 2 12 (fun a => a = ad) ad [.ref 0, .int a1, .int a2, .int a3] lay0 μ ν (xo_i o).1 lay0 (xo_i o).2 ν :=
  MetX.of (n := 6) rfl (Nat.le_of_ble_eq_true rfl) (fun G g ho hm htab => ok_f_x_lean  g hm htab  μ ho a1 a2 a3 h)
def f_x_grace_40 (N : Nat)   (μ : sw_M) (x1 : Int32) (x2 : Int32) (x3 : Int32) (s0 : Int32) : Option ((Int32 × sw_M) ⊕ (String × sw_M)) :=
  tb (f_x_need N μ s0) (fun r1 =>
    Option.bind (f_sx_has N  r1 x2 x1) (fun r3 =>
      if r3 = 0 then
        some (.inl (0, r1))
      else
        Option.bind (f_days_hoursLeft N  r1 x1) (fun r5 =>
          Option.bind (f_days_graceBound N  r1 x2 x3) (fun r7 =>
            some (.inl (if r7 < r5 then r7 else r5, r1))))))
def f_x_grace_39 (N : Nat)   (μ : sw_M) (x1 : Int32) (x2 : Int32) (x3 : Int32) : Option ((Int32 × sw_M) ⊕ (String × sw_M)) :=
  f_x_grace_40 N    μ x1 x2 x3 0
def f_x_grace (N : Nat)  (μ : sw_M) (a1 : Int32) (a2 : Int32) (a3 : Int32) : Option ((Int32 × sw_M) ⊕ (String × sw_M)) :=
  tb (f_x_needWire N μ a1) (fun r1 =>
    if (a2 &&& ((((1 : Int32) <<< ((r1 3 1) &&& 31)) - 1) ^^^ (-1))) = 0 then
      Option.bind (f_sx_within N  r1 a3 0 999) (fun r3 =>
        if r3 = 0 then
          f_x_grace_39 N    r1 a1 a2 a3
        else
          f_x_grace_40 N    r1 a1 a2 a3 1)
    else
      f_x_grace_39 N    r1 a1 a2 a3)
set_option maxRecDepth 100000 in
set_option maxHeartbeats 4000000 in
theorem ok_f_x_grace_40 {G : sw_G} {ad : Nat → Nat} {ν : sw_N}   {N : Nat} {o : (Int32 × sw_M) ⊕ (String × sw_M)} (g : sw_ok G cX10_grace "DeadWires" (some .int) 10 2 12 ad) (hm : G.2.2.1.2.1.maxLocals = 4) (htab : ∀ x ∈ G.2.2.1.2.1.exceptionTable.toList, False)  (ho : sw_out G 2 12 (fun a => a = ad) (xo_i o).1 lay0 (xo_i o).2 ν)  (μ : sw_M) (x1 : Int32) (x2 : Int32) (x3 : Int32) (s0 : Int32) (h : f_x_grace_40 N    μ x1 x2 x3 s0 = some o) : SW G ad lay0 ν 1 6 40 [some (.ref 0), some (.int x1), some (.int x2), some (.int x3)] [.int s0, .ref 0] μ := by
  unfold f_x_grace_40 at h
  rcases tbI h with ⟨r1, h2, h⟩ | ⟨r1, h2, rfl⟩
  · refine SW.callXr (pc := 40) (r := none) g (dt dt_X10_grace 24 rfl) (mtx_f_x_need _ _ _ _ ad ν N μ s0 (.inl r1) h2) me_X10_need mv_X10_need ml_X10_289 cell_0 rfl rfl (Nat.le_of_ble_eq_true rfl) (Nat.le_of_ble_eq_true rfl) (Nat.le_of_ble_eq_true rfl) (Nat.le_of_ble_eq_true rfl) rfl rfl ?_
    refine SW.iload_n (pc := 43) g (dt dt_X10_grace 25 rfl) rfl ?_
    refine SW.iload_n (pc := 44) g (dt dt_X10_grace 26 rfl) rfl ?_
    obtain ⟨r3, h4, h⟩ := bindI h
    refine SW.callSi (pc := 45) g (dt dt_X10_grace 27 rfl) (mt_f_sx_has _ _ _ _ ad ν lay0   N r1 x2 x1 r3 h4) me_X10_has ms_X10_has ml_X10_363 rfl (Nat.le_of_ble_eq_true rfl) (Nat.le_of_ble_eq_true rfl) (Nat.le_of_ble_eq_true rfl) (Nat.le_of_ble_eq_true rfl) rfl ?_
    refine SW.if_ne (pc := 48) (t := 53) g (dt dt_X10_grace 28 rfl) rfl (fun hc => ?_) (fun hc => ?_)
    · have h := iteF hc h
      refine SW.aload_n (pc := 53) g (dt dt_X10_grace 31 rfl) rfl ?_
      refine SW.getR (pc := 54) g (dt dt_X10_grace 32 rfl) fl_X10_51 cell_0 rfl ?_
      refine SW.iload_n (pc := 57) g (dt dt_X10_grace 33 rfl) rfl ?_
      obtain ⟨r5, h6, h⟩ := bindI h
      refine SW.callVi (pc := 58) g (dt dt_X10_grace 34 rfl) (mt_f_days_hoursLeft _ _ _ _ ad ν   N r1 x1 r5 h6) me_X2_hoursLeft mv_X2_hoursLeft ml_X10_247 cell_35 rfl rfl (Nat.le_of_ble_eq_true rfl) (Nat.le_of_ble_eq_true rfl) (Nat.le_of_ble_eq_true rfl) (Nat.le_of_ble_eq_true rfl) rfl ?_
      refine SW.aload_n (pc := 61) g (dt dt_X10_grace 35 rfl) rfl ?_
      refine SW.getR (pc := 62) g (dt dt_X10_grace 36 rfl) fl_X10_51 cell_0 rfl ?_
      refine SW.iload_n (pc := 65) g (dt dt_X10_grace 37 rfl) rfl ?_
      refine SW.iload_n (pc := 66) g (dt dt_X10_grace 38 rfl) rfl ?_
      obtain ⟨r7, h8, h⟩ := bindI h
      refine SW.callVi (pc := 67) g (dt dt_X10_grace 39 rfl) (mt_f_days_graceBound _ _ _ _ ad ν   N r1 x2 x3 r7 h8) me_X2_graceBound mv_X2_graceBound ml_X10_366 cell_35 rfl rfl (Nat.le_of_ble_eq_true rfl) (Nat.le_of_ble_eq_true rfl) (Nat.le_of_ble_eq_true rfl) (Nat.le_of_ble_eq_true rfl) rfl ?_
      refine SW.mmin (pc := 70) g (dt dt_X10_grace 40 rfl) ml_X10_369 ms_J9_min_7cf53 mt_init me_J9_min_7cf53.1 (Nat.le_of_ble_eq_true rfl) (Nat.le_of_ble_eq_true rfl) (Nat.le_of_ble_eq_true rfl) (Nat.le_of_ble_eq_true rfl) ?_
      exact SW.ireturn (pc := 73) g (leafXi h ho) rfl (Nat.le_of_ble_eq_true rfl) (Nat.le_of_ble_eq_true rfl) (dt dt_X10_grace 41 rfl)
    · have h := iteT hc h
      refine SW.iconst (pc := 51) (v := 0) g (dt dt_X10_grace 29 rfl) ki_0 ?_
      exact SW.ireturn (pc := 52) g (leafXi h ho) rfl (Nat.le_of_ble_eq_true rfl) (Nat.le_of_ble_eq_true rfl) (dt dt_X10_grace 30 rfl)
  · exact SW.callXt (pc := 40) g (dt dt_X10_grace 24 rfl) ho rfl htab (mtx_f_x_need _ _ _ _ ad ν N μ s0 (.inr r1) h2) me_X10_need mv_X10_need ml_X10_289 cell_0 rfl rfl (Nat.le_of_ble_eq_true rfl) (Nat.le_of_ble_eq_true rfl) (Nat.le_of_ble_eq_true rfl) (Nat.le_of_ble_eq_true rfl) rfl
set_option maxRecDepth 100000 in
set_option maxHeartbeats 4000000 in
theorem ok_f_x_grace_39 {G : sw_G} {ad : Nat → Nat} {ν : sw_N}   {N : Nat} {o : (Int32 × sw_M) ⊕ (String × sw_M)} (g : sw_ok G cX10_grace "DeadWires" (some .int) 10 2 12 ad) (hm : G.2.2.1.2.1.maxLocals = 4) (htab : ∀ x ∈ G.2.2.1.2.1.exceptionTable.toList, False)  (ho : sw_out G 2 12 (fun a => a = ad) (xo_i o).1 lay0 (xo_i o).2 ν)  (μ : sw_M) (x1 : Int32) (x2 : Int32) (x3 : Int32) (h : f_x_grace_39 N    μ x1 x2 x3 = some o) : SW G ad lay0 ν 1 6 39 [some (.ref 0), some (.int x1), some (.int x2), some (.int x3)] [.ref 0] μ := by
  unfold f_x_grace_39 at h
  refine SW.iconst (pc := 39) (v := 0) g (dt dt_X10_grace 23 rfl) ki_0 ?_
  refine SW.msk [true, true, true, true] ?_
  exact ok_f_x_grace_40  g hm htab  ho    μ x1 x2 x3 0 h
set_option maxRecDepth 100000 in
set_option maxHeartbeats 4000000 in
theorem ok_f_x_grace {G : sw_G} {ad : Nat → Nat} {ν : sw_N}   {N : Nat} {o : (Int32 × sw_M) ⊕ (String × sw_M)} (g : sw_ok G cX10_grace "DeadWires" (some .int) 10 2 12 ad) (hm : G.2.2.1.2.1.maxLocals = 4) (htab : ∀ x ∈ G.2.2.1.2.1.exceptionTable.toList, False)  (μ : sw_M) (ho : sw_out G 2 12 (fun a => a = ad) (xo_i o).1 lay0 (xo_i o).2 ν) (a1 : Int32) (a2 : Int32) (a3 : Int32) (h : f_x_grace N  μ a1 a2 a3 = some o) : SW G ad lay0 ν 0 0 0 [some (.ref 0), some (.int a1), some (.int a2), some (.int a3)] [] μ := by
  unfold f_x_grace at h
  refine SW.aload_n (pc := 0) g (dt dt_X10_grace 0 rfl) rfl ?_
  refine SW.iload_n (pc := 1) g (dt dt_X10_grace 1 rfl) rfl ?_
  rcases tbI h with ⟨r1, h2, h⟩ | ⟨r1, h2, rfl⟩
  · refine SW.callXr (pc := 2) (r := none) g (dt dt_X10_grace 2 rfl) (mtx_f_x_needWire _ _ _ _ ad ν N μ a1 (.inl r1) h2) me_X10_needWire mv_X10_needWire ml_X10_219 cell_0 rfl rfl (Nat.le_of_ble_eq_true rfl) (Nat.le_of_ble_eq_true rfl) (Nat.le_of_ble_eq_true rfl) (Nat.le_of_ble_eq_true rfl) rfl rfl ?_
    refine SW.aload_n (pc := 5) g (dt dt_X10_grace 3 rfl) rfl ?_
    refine SW.iload_n (pc := 6) g (dt dt_X10_grace 4 rfl) rfl ?_
    refine SW.iconst (pc := 7) (v := 1) g (dt dt_X10_grace 5 rfl) ki_1 ?_
    refine SW.aload_n (pc := 8) g (dt dt_X10_grace 6 rfl) rfl ?_
    refine SW.getR (pc := 9) g (dt dt_X10_grace 7 rfl) fl_X10_19 cell_0 rfl ?_
    refine SW.getI (pc := 12) g (dt dt_X10_grace 8 rfl) fl_X10_135 cell_3 rfl ?_
    refine SW.ishl (pc := 15) g (dt dt_X10_grace 9 rfl) ?_
    refine SW.iconst (pc := 16) (v := 1) g (dt dt_X10_grace 10 rfl) ki_1 ?_
    refine SW.isub (pc := 17) g (dt dt_X10_grace 11 rfl) ?_
    refine SW.iconst (pc := 18) (v := (-1)) g (dt dt_X10_grace 12 rfl) ki_m1 ?_
    refine SW.ixor (pc := 19) g (dt dt_X10_grace 13 rfl) ?_
    refine SW.iand (pc := 20) g (dt dt_X10_grace 14 rfl) ?_
    refine SW.if_ne (pc := 21) (t := 39) g (dt dt_X10_grace 15 rfl) rfl (fun hc => ?_) (fun hc => ?_)
    · have h := iteF hc h
      refine SW.msk [true, true, true, true] ?_
      exact ok_f_x_grace_39  g hm htab  ho    r1 a1 a2 a3 h
    · have h := iteT hc h
      refine SW.iload_n (pc := 24) g (dt dt_X10_grace 16 rfl) rfl ?_
      refine SW.iconst (pc := 25) (v := 0) g (dt dt_X10_grace 17 rfl) ki_0 ?_
      refine SW.sipush (pc := 26) (v := 999) g (dt dt_X10_grace 18 rfl) ks_999 ?_
      obtain ⟨r3, h4, h⟩ := bindI h
      refine SW.callSi (pc := 29) g (dt dt_X10_grace 19 rfl) (mt_f_sx_within _ _ _ _ ad ν lay0   N r1 a3 0 999 r3 h4) me_X10_within ms_X10_within ml_X10_250 rfl (Nat.le_of_ble_eq_true rfl) (Nat.le_of_ble_eq_true rfl) (Nat.le_of_ble_eq_true rfl) (Nat.le_of_ble_eq_true rfl) rfl ?_
      refine SW.if_eq (pc := 32) (t := 39) g (dt dt_X10_grace 20 rfl) rfl (fun hc => ?_) (fun hc => ?_)
      · have h := iteT hc h
        refine SW.msk [true, true, true, true] ?_
        exact ok_f_x_grace_39  g hm htab  ho    r1 a1 a2 a3 h
      · have h := iteF hc h
        refine SW.iconst (pc := 35) (v := 1) g (dt dt_X10_grace 21 rfl) ki_1 ?_
        refine SW.goto (pc := 36) (t := 40) g (dt dt_X10_grace 22 rfl) rfl ?_
        refine SW.msk [true, true, true, true] ?_
        exact ok_f_x_grace_40  g hm htab  ho    r1 a1 a2 a3 1 h
  · exact SW.callXt (pc := 2) g (dt dt_X10_grace 2 rfl) ho rfl htab (mtx_f_x_needWire _ _ _ _ ad ν N μ a1 (.inr r1) h2) me_X10_needWire mv_X10_needWire ml_X10_219 cell_0 rfl rfl (Nat.le_of_ble_eq_true rfl) (Nat.le_of_ble_eq_true rfl) (Nat.le_of_ble_eq_true rfl) (Nat.le_of_ble_eq_true rfl) rfl
set_option maxRecDepth 100000 in
set_option maxHeartbeats 4000000 in
theorem mtx_f_x_grace (l : Launch) (D : va_G) (cI cL : ClassId) (ad : Nat → Nat) (ν : sw_N) (N : Nat) (μ : sw_M) (a1 : Int32) (a2 : Int32) (a3 : Int32) (o : (Int32 × sw_M) ⊕ (String × sw_M)) (h : f_x_grace N μ a1 a2 a3 = some o) : MetX l D cI cL yX10_grace cX10_grace 4 (some .int) 10 2 12 (fun a => a = ad) ad [.ref 0, .int a1, .int a2, .int a3] lay0 μ ν (xo_i o).1 lay0 (xo_i o).2 ν :=
  MetX.of (n := 0) rfl (Nat.le_of_ble_eq_true rfl) (fun G g ho hm htab => ok_f_x_grace  g hm htab  μ ho a1 a2 a3 h)
def f_x_next (N : Nat)  (μ : sw_M) (a1 : Int32) : Option ((Int32 × sw_M) ⊕ (String × sw_M)) :=
  tb (f_x_needWhat N μ a1 1) (fun r1 =>
    Option.bind (f_days_nextWire N  r1 ) (fun r3 =>
      if r3 = (-1) then
        some (.inl (r3, r1))
      else
        if a1 = 0 then
          some (.inl (r3, r1))
        else
          Option.bind (f_sx_at N 36 12 r1 r3) (fun r5 =>
            some (.inl (r5 - (r1 35 2), r1)))))
set_option maxRecDepth 100000 in
set_option maxHeartbeats 4000000 in
theorem ok_f_x_next {G : sw_G} {ad : Nat → Nat} {ν : sw_N}   {N : Nat} {o : (Int32 × sw_M) ⊕ (String × sw_M)} (g : sw_ok G cX10_next "DeadWires" (some .int) 10 1 6 ad) (hm : G.2.2.1.2.1.maxLocals = 3) (htab : ∀ x ∈ G.2.2.1.2.1.exceptionTable.toList, False)  (μ : sw_M) (ho : sw_out G 1 6 (fun a => a = ad) (xo_i o).1 lay0 (xo_i o).2 ν) (a1 : Int32) (h : f_x_next N  μ a1 = some o) : SW G ad lay0 ν 0 0 0 [some (.ref 0), some (.int a1), none] [] μ := by
  unfold f_x_next at h
  refine SW.aload_n (pc := 0) g (dt dt_X10_next 0 rfl) rfl ?_
  refine SW.iload_n (pc := 1) g (dt dt_X10_next 1 rfl) rfl ?_
  refine SW.iconst (pc := 2) (v := 1) g (dt dt_X10_next 2 rfl) ki_1 ?_
  rcases tbI h with ⟨r1, h2, h⟩ | ⟨r1, h2, rfl⟩
  · refine SW.callXr (pc := 3) (r := none) g (dt dt_X10_next 3 rfl) (mtx_f_x_needWhat _ _ _ _ ad ν N μ a1 1 (.inl r1) h2) me_X10_needWhat mv_X10_needWhat ml_X10_171 cell_0 rfl rfl (Nat.le_of_ble_eq_true rfl) (Nat.le_of_ble_eq_true rfl) (Nat.le_of_ble_eq_true rfl) (Nat.le_of_ble_eq_true rfl) rfl rfl ?_
    refine SW.aload_n (pc := 6) g (dt dt_X10_next 4 rfl) rfl ?_
    refine SW.getR (pc := 7) g (dt dt_X10_next 5 rfl) fl_X10_51 cell_0 rfl ?_
    obtain ⟨r3, h4, h⟩ := bindI h
    refine SW.callVi (pc := 10) g (dt dt_X10_next 6 rfl) (mt_f_days_nextWire _ _ _ _ ad ν   N r1  r3 h4) me_X2_nextWire mv_X2_nextWire ml_X10_374 cell_35 rfl rfl (Nat.le_of_ble_eq_true rfl) (Nat.le_of_ble_eq_true rfl) (Nat.le_of_ble_eq_true rfl) (Nat.le_of_ble_eq_true rfl) rfl ?_
    refine SW.istore_n (pc := 13) g (dt dt_X10_next 7 rfl) (sw_ltm hm (Nat.le_of_ble_eq_true rfl)) rfl ?_
    refine SW.iload_n (pc := 14) g (dt dt_X10_next 8 rfl) rfl ?_
    refine SW.iconst (pc := 15) (v := (-1)) g (dt dt_X10_next 9 rfl) ki_m1 ?_
    refine SW.icmp_eq (pc := 16) (t := 23) g (dt dt_X10_next 10 rfl) rfl (fun hc => ?_) (fun hc => ?_)
    · have h := iteT hc h
      refine SW.iload_n (pc := 23) g (dt dt_X10_next 13 rfl) rfl ?_
      exact SW.ireturn (pc := 24) g (leafXi h ho) rfl (Nat.le_of_ble_eq_true rfl) (Nat.le_of_ble_eq_true rfl) (dt dt_X10_next 14 rfl)
    · have h := iteF hc h
      refine SW.iload_n (pc := 19) g (dt dt_X10_next 11 rfl) rfl ?_
      refine SW.if_ne (pc := 20) (t := 25) g (dt dt_X10_next 12 rfl) rfl (fun hc => ?_) (fun hc => ?_)
      · have h := iteF hc h
        refine SW.aload_n (pc := 25) g (dt dt_X10_next 15 rfl) rfl ?_
        refine SW.getR (pc := 26) g (dt dt_X10_next 16 rfl) fl_X10_51 cell_0 rfl ?_
        refine SW.getR (pc := 29) g (dt dt_X10_next 17 rfl) fl_X10_233 cell_35 rfl ?_
        refine SW.iload_n (pc := 32) g (dt dt_X10_next 18 rfl) rfl ?_
        obtain ⟨r5, h6, h⟩ := bindI h
        refine SW.callSi (pc := 33) g (dt dt_X10_next 19 rfl) (mt_f_sx_at _ _ _ _ ad ν lay0 36 12 cell_36 N r1 r3 r5 h6) me_X10_at ms_X10_at ml_X10_226 rfl (Nat.le_of_ble_eq_true rfl) (Nat.le_of_ble_eq_true rfl) (Nat.le_of_ble_eq_true rfl) (Nat.le_of_ble_eq_true rfl) rfl ?_
        refine SW.aload_n (pc := 36) g (dt dt_X10_next 20 rfl) rfl ?_
        refine SW.getR (pc := 37) g (dt dt_X10_next 21 rfl) fl_X10_51 cell_0 rfl ?_
        refine SW.getI (pc := 40) g (dt dt_X10_next 22 rfl) fl_X10_183 cell_35 rfl ?_
        refine SW.isub (pc := 43) g (dt dt_X10_next 23 rfl) ?_
        exact SW.ireturn (pc := 44) g (leafXi h ho) rfl (Nat.le_of_ble_eq_true rfl) (Nat.le_of_ble_eq_true rfl) (dt dt_X10_next 24 rfl)
      · have h := iteT hc h
        refine SW.iload_n (pc := 23) g (dt dt_X10_next 13 rfl) rfl ?_
        exact SW.ireturn (pc := 24) g (leafXi h ho) rfl (Nat.le_of_ble_eq_true rfl) (Nat.le_of_ble_eq_true rfl) (dt dt_X10_next 14 rfl)
  · exact SW.callXt (pc := 3) g (dt dt_X10_next 3 rfl) ho rfl htab (mtx_f_x_needWhat _ _ _ _ ad ν N μ a1 1 (.inr r1) h2) me_X10_needWhat mv_X10_needWhat ml_X10_171 cell_0 rfl rfl (Nat.le_of_ble_eq_true rfl) (Nat.le_of_ble_eq_true rfl) (Nat.le_of_ble_eq_true rfl) (Nat.le_of_ble_eq_true rfl) rfl
set_option maxRecDepth 100000 in
set_option maxHeartbeats 4000000 in
theorem mtx_f_x_next (l : Launch) (D : va_G) (cI cL : ClassId) (ad : Nat → Nat) (ν : sw_N) (N : Nat) (μ : sw_M) (a1 : Int32) (o : (Int32 × sw_M) ⊕ (String × sw_M)) (h : f_x_next N μ a1 = some o) : MetX l D cI cL yX10_next cX10_next 3 (some .int) 10 1 6 (fun a => a = ad) ad [.ref 0, .int a1] lay0 μ ν (xo_i o).1 lay0 (xo_i o).2 ν :=
  MetX.of (n := 1) rfl (Nat.le_of_ble_eq_true rfl) (fun G g ho hm htab => ok_f_x_next  g hm htab  μ ho a1 h)
def f_x_harp_13 (N : Nat)   : Nat → sw_M → Int32 → Int32 → Int32 → Int32 → Option ((Int32 × sw_M) ⊕ (String × sw_M))
  | 0, _, _, _, _, _ => none
  | n + 1, μ, x1, x2, x3, x4 =>
    if (μ 3 0) ≤ x4 then
      if x1 = 0 then
        some (.inl (x2, μ))
      else
        some (.inl (x3, μ))
    else
      Option.bind (f_land_wiresAt N  μ x4) (fun r1 =>
        if r1 ≤ x3 then
          f_x_harp_13 N   n μ x1 x2 x3 (x4 + 1)
        else
          f_x_harp_13 N   n μ x1 x4 r1 (x4 + 1))
def f_x_harp (N : Nat)  (μ : sw_M) (a1 : Int32) : Option ((Int32 × sw_M) ⊕ (String × sw_M)) :=
  tb (f_x_needWhat N μ a1 1) (fun r1 =>
    f_x_harp_13 N   N r1 a1 (-1) (-1) 0)
set_option maxRecDepth 100000 in
set_option maxHeartbeats 4000000 in
theorem ok_f_x_harp_13 {G : sw_G} {ad : Nat → Nat} {ν : sw_N}   {N : Nat} {o : (Int32 × sw_M) ⊕ (String × sw_M)} (g : sw_ok G cX10_harp "DeadWires" (some .int) 10 1 6 ad) (hm : G.2.2.1.2.1.maxLocals = 6) (htab : ∀ x ∈ G.2.2.1.2.1.exceptionTable.toList, False)  (ho : sw_out G 1 6 (fun a => a = ad) (xo_i o).1 lay0 (xo_i o).2 ν)  : ∀ (n : Nat) (μ : sw_M) (x1 : Int32) (x2 : Int32) (x3 : Int32) (x4 : Int32) (h : f_x_harp_13 N   n μ x1 x2 x3 x4 = some o), SW G ad lay0 ν 1 6 13 [some (.ref 0), some (.int x1), some (.int x2), some (.int x3), some (.int x4), none] [] μ := by
  intro n
  induction n with
  | zero => intro μ x1 x2 x3 x4 h; simp only [f_x_harp_13] at h; cases h
  | succ n ih =>
    intro μ x1 x2 x3 x4 h
    unfold f_x_harp_13 at h
    refine SW.iload (pc := 13) g (dt dt_X10_harp 10 rfl) rfl ?_
    refine SW.aload_n (pc := 15) g (dt dt_X10_harp 11 rfl) rfl ?_
    refine SW.getR (pc := 16) g (dt dt_X10_harp 12 rfl) fl_X10_19 cell_0 rfl ?_
    refine SW.getI (pc := 19) g (dt dt_X10_harp 13 rfl) fl_X10_174 cell_3 rfl ?_
    refine SW.icmp_ge (pc := 22) (t := 54) g (dt dt_X10_harp 14 rfl) rfl (fun hc => ?_) (fun hc => ?_)
    · have h := iteT hc h
      refine SW.iload_n (pc := 54) g (dt dt_X10_harp 29 rfl) rfl ?_
      refine SW.if_ne (pc := 55) (t := 62) g (dt dt_X10_harp 30 rfl) rfl (fun hc => ?_) (fun hc => ?_)
      · have h := iteF hc h
        refine SW.iload_n (pc := 62) g (dt dt_X10_harp 33 rfl) rfl ?_
        exact SW.ireturn (pc := 63) g (leafXi h ho) rfl (Nat.le_of_ble_eq_true rfl) (Nat.le_of_ble_eq_true rfl) (dt dt_X10_harp 34 rfl)
      · have h := iteT hc h
        refine SW.iload_n (pc := 58) g (dt dt_X10_harp 31 rfl) rfl ?_
        refine SW.goto (pc := 59) (t := 63) g (dt dt_X10_harp 32 rfl) rfl ?_
        exact SW.ireturn (pc := 63) g (leafXi h ho) rfl (Nat.le_of_ble_eq_true rfl) (Nat.le_of_ble_eq_true rfl) (dt dt_X10_harp 34 rfl)
    · have h := iteF hc h
      refine SW.aload_n (pc := 25) g (dt dt_X10_harp 15 rfl) rfl ?_
      refine SW.getR (pc := 26) g (dt dt_X10_harp 16 rfl) fl_X10_19 cell_0 rfl ?_
      refine SW.iload (pc := 29) g (dt dt_X10_harp 17 rfl) rfl ?_
      obtain ⟨r1, h2, h⟩ := bindI h
      refine SW.callVi (pc := 31) g (dt dt_X10_harp 18 rfl) (mt_f_land_wiresAt _ _ _ _ ad ν   N μ x4 r1 h2) me_X4_wiresAt mv_X4_wiresAt ml_X10_212 cell_3 rfl rfl (Nat.le_of_ble_eq_true rfl) (Nat.le_of_ble_eq_true rfl) (Nat.le_of_ble_eq_true rfl) (Nat.le_of_ble_eq_true rfl) rfl ?_
      refine SW.istore (pc := 34) g (dt dt_X10_harp 19 rfl) (sw_ltm hm (Nat.le_of_ble_eq_true rfl)) rfl ?_
      refine SW.iload (pc := 36) g (dt dt_X10_harp 20 rfl) rfl ?_
      refine SW.iload_n (pc := 38) g (dt dt_X10_harp 21 rfl) rfl ?_
      refine SW.icmp_le (pc := 39) (t := 48) g (dt dt_X10_harp 22 rfl) rfl (fun hc => ?_) (fun hc => ?_)
      · have h := iteT hc h
        refine SW.iinc (pc := 48) (v := x4 + 1) g (dt dt_X10_harp 27 rfl) rfl (kn_1 _) (sw_ltm hm (Nat.le_of_ble_eq_true rfl)) rfl ?_
        refine SW.goto (pc := 51) (t := 13) g (dt dt_X10_harp 28 rfl) rfl ?_
        refine SW.msk [true, true, true, true, true, false] ?_
        exact ih μ x1 x2 x3 (x4 + 1) h
      · have h := iteF hc h
        refine SW.iload (pc := 42) g (dt dt_X10_harp 23 rfl) rfl ?_
        refine SW.istore_n (pc := 44) g (dt dt_X10_harp 24 rfl) (sw_ltm hm (Nat.le_of_ble_eq_true rfl)) rfl ?_
        refine SW.iload (pc := 45) g (dt dt_X10_harp 25 rfl) rfl ?_
        refine SW.istore_n (pc := 47) g (dt dt_X10_harp 26 rfl) (sw_ltm hm (Nat.le_of_ble_eq_true rfl)) rfl ?_
        refine SW.iinc (pc := 48) (v := x4 + 1) g (dt dt_X10_harp 27 rfl) rfl (kn_1 _) (sw_ltm hm (Nat.le_of_ble_eq_true rfl)) rfl ?_
        refine SW.goto (pc := 51) (t := 13) g (dt dt_X10_harp 28 rfl) rfl ?_
        refine SW.msk [true, true, true, true, true, false] ?_
        exact ih μ x1 x4 r1 (x4 + 1) h
set_option maxRecDepth 100000 in
set_option maxHeartbeats 4000000 in
theorem ok_f_x_harp {G : sw_G} {ad : Nat → Nat} {ν : sw_N}   {N : Nat} {o : (Int32 × sw_M) ⊕ (String × sw_M)} (g : sw_ok G cX10_harp "DeadWires" (some .int) 10 1 6 ad) (hm : G.2.2.1.2.1.maxLocals = 6) (htab : ∀ x ∈ G.2.2.1.2.1.exceptionTable.toList, False)  (μ : sw_M) (ho : sw_out G 1 6 (fun a => a = ad) (xo_i o).1 lay0 (xo_i o).2 ν) (a1 : Int32) (h : f_x_harp N  μ a1 = some o) : SW G ad lay0 ν 0 0 0 [some (.ref 0), some (.int a1), none, none, none, none] [] μ := by
  unfold f_x_harp at h
  refine SW.aload_n (pc := 0) g (dt dt_X10_harp 0 rfl) rfl ?_
  refine SW.iload_n (pc := 1) g (dt dt_X10_harp 1 rfl) rfl ?_
  refine SW.iconst (pc := 2) (v := 1) g (dt dt_X10_harp 2 rfl) ki_1 ?_
  rcases tbI h with ⟨r1, h2, h⟩ | ⟨r1, h2, rfl⟩
  · refine SW.callXr (pc := 3) (r := none) g (dt dt_X10_harp 3 rfl) (mtx_f_x_needWhat _ _ _ _ ad ν N μ a1 1 (.inl r1) h2) me_X10_needWhat mv_X10_needWhat ml_X10_171 cell_0 rfl rfl (Nat.le_of_ble_eq_true rfl) (Nat.le_of_ble_eq_true rfl) (Nat.le_of_ble_eq_true rfl) (Nat.le_of_ble_eq_true rfl) rfl rfl ?_
    refine SW.iconst (pc := 6) (v := (-1)) g (dt dt_X10_harp 4 rfl) ki_m1 ?_
    refine SW.istore_n (pc := 7) g (dt dt_X10_harp 5 rfl) (sw_ltm hm (Nat.le_of_ble_eq_true rfl)) rfl ?_
    refine SW.iconst (pc := 8) (v := (-1)) g (dt dt_X10_harp 6 rfl) ki_m1 ?_
    refine SW.istore_n (pc := 9) g (dt dt_X10_harp 7 rfl) (sw_ltm hm (Nat.le_of_ble_eq_true rfl)) rfl ?_
    refine SW.iconst (pc := 10) (v := 0) g (dt dt_X10_harp 8 rfl) ki_0 ?_
    refine SW.istore (pc := 11) g (dt dt_X10_harp 9 rfl) (sw_ltm hm (Nat.le_of_ble_eq_true rfl)) rfl ?_
    refine SW.msk [true, true, true, true, true, false] ?_
    exact ok_f_x_harp_13  g hm htab  ho   N r1 a1 (-1) (-1) 0 h
  · exact SW.callXt (pc := 3) g (dt dt_X10_harp 3 rfl) ho rfl htab (mtx_f_x_needWhat _ _ _ _ ad ν N μ a1 1 (.inr r1) h2) me_X10_needWhat mv_X10_needWhat ml_X10_171 cell_0 rfl rfl (Nat.le_of_ble_eq_true rfl) (Nat.le_of_ble_eq_true rfl) (Nat.le_of_ble_eq_true rfl) (Nat.le_of_ble_eq_true rfl) rfl
set_option maxRecDepth 100000 in
set_option maxHeartbeats 4000000 in
theorem mtx_f_x_harp (l : Launch) (D : va_G) (cI cL : ClassId) (ad : Nat → Nat) (ν : sw_N) (N : Nat) (μ : sw_M) (a1 : Int32) (o : (Int32 × sw_M) ⊕ (String × sw_M)) (h : f_x_harp N μ a1 = some o) : MetX l D cI cL yX10_harp cX10_harp 6 (some .int) 10 1 6 (fun a => a = ad) ad [.ref 0, .int a1] lay0 μ ν (xo_i o).1 lay0 (xo_i o).2 ν :=
  MetX.of (n := 4) rfl (Nat.le_of_ble_eq_true rfl) (fun G g ho hm htab => ok_f_x_harp  g hm htab  μ ho a1 h)
def f_x_stuck_4 (N : Nat)   : Nat → sw_M → Int32 → Int32 → Option (Int32 × sw_M)
  | 0, _, _, _ => none
  | n + 1, μ, x1, x2 =>
    if (μ 3 3) ≤ x2 then
      some (x1, μ)
    else
      Option.bind (f_days_canCrossAny N  μ x2) (fun r1 =>
        if r1.1 = 0 then
          ib (x1 ||| ((1 : Int32) <<< (x2 &&& 31))) (fun y3 =>
            f_x_stuck_4 N   n r1.2 y3 (x2 + 1))
        else
          f_x_stuck_4 N   n r1.2 x1 (x2 + 1))
def f_x_stuck (N : Nat)  (μ : sw_M)  : Option (Int32 × sw_M) :=
  f_x_stuck_4 N   N μ 0 0
set_option maxRecDepth 100000 in
set_option maxHeartbeats 4000000 in
theorem ok_f_x_stuck_4 {G : sw_G} {ad : Nat → Nat} {ν : sw_N}   {N : Nat} {o : Int32 × sw_M} (g : sw_ok G cX10_stuck "DeadWires" (some .int) 6 0 0 ad) (hm : G.2.2.1.2.1.maxLocals = 3)  (ho : sw_out G 0 0 (fun a => a = ad) (.inl (some (.int o.1))) lay0 o.2 ν)  : ∀ (n : Nat) (μ : sw_M) (x1 : Int32) (x2 : Int32) (h : f_x_stuck_4 N   n μ x1 x2 = some o), SW G ad lay0 ν 0 0 4 [some (.ref 0), some (.int x1), some (.int x2)] [] μ := by
  intro n
  induction n with
  | zero => intro μ x1 x2 h; simp only [f_x_stuck_4] at h; cases h
  | succ n ih =>
    intro μ x1 x2 h
    unfold f_x_stuck_4 at h
    refine SW.iload_n (pc := 4) g (dt dt_X10_stuck 4 rfl) rfl ?_
    refine SW.aload_n (pc := 5) g (dt dt_X10_stuck 5 rfl) rfl ?_
    refine SW.getR (pc := 6) g (dt dt_X10_stuck 6 rfl) fl_X10_19 cell_0 rfl ?_
    refine SW.getI (pc := 9) g (dt dt_X10_stuck 7 rfl) fl_X10_180 cell_3 rfl ?_
    refine SW.icmp_ge (pc := 12) (t := 38) g (dt dt_X10_stuck 8 rfl) rfl (fun hc => ?_) (fun hc => ?_)
    · have h := iteT hc h
      refine SW.iload_n (pc := 38) g (dt dt_X10_stuck 22 rfl) rfl ?_
      exact SW.ireturn (pc := 39) g (leafW h ho) rfl (Nat.le_of_ble_eq_true rfl) (Nat.le_of_ble_eq_true rfl) (dt dt_X10_stuck 23 rfl)
    · have h := iteF hc h
      refine SW.aload_n (pc := 15) g (dt dt_X10_stuck 9 rfl) rfl ?_
      refine SW.getR (pc := 16) g (dt dt_X10_stuck 10 rfl) fl_X10_51 cell_0 rfl ?_
      refine SW.iload_n (pc := 19) g (dt dt_X10_stuck 11 rfl) rfl ?_
      obtain ⟨r1, h2, h⟩ := bindI h
      refine SW.callVi (pc := 20) g (dt dt_X10_stuck 12 rfl) (mt_f_days_canCrossAny _ _ _ _ ad ν   N μ x2 r1 h2) me_X2_canCrossAny mv_X2_canCrossAny ml_X10_377 cell_35 rfl rfl (Nat.le_of_ble_eq_true rfl) (Nat.le_of_ble_eq_true rfl) (Nat.le_of_ble_eq_true rfl) (Nat.le_of_ble_eq_true rfl) rfl ?_
      refine SW.if_ne (pc := 23) (t := 32) g (dt dt_X10_stuck 13 rfl) rfl (fun hc => ?_) (fun hc => ?_)
      · have h := iteF hc h
        refine SW.iinc (pc := 32) (v := x2 + 1) g (dt dt_X10_stuck 20 rfl) rfl (kn_1 _) (sw_ltm hm (Nat.le_of_ble_eq_true rfl)) rfl ?_
        refine SW.goto (pc := 35) (t := 4) g (dt dt_X10_stuck 21 rfl) rfl ?_
        refine SW.msk [true, true, true] ?_
        exact ih r1.2 x1 (x2 + 1) h
      · have h := iteT hc h
        refine SW.iload_n (pc := 26) g (dt dt_X10_stuck 14 rfl) rfl ?_
        refine SW.iconst (pc := 27) (v := 1) g (dt dt_X10_stuck 15 rfl) ki_1 ?_
        refine SW.iload_n (pc := 28) g (dt dt_X10_stuck 16 rfl) rfl ?_
        refine SW.ishl (pc := 29) g (dt dt_X10_stuck 17 rfl) ?_
        refine SW.ior (pc := 30) g (dt dt_X10_stuck 18 rfl) ?_
        refine SW.istore_n (pc := 31) g (dt dt_X10_stuck 19 rfl) (sw_ltm hm (Nat.le_of_ble_eq_true rfl)) rfl ?_
        refine SW.genL h (fun y3 h => ?_)
        refine SW.iinc (pc := 32) (v := x2 + 1) g (dt dt_X10_stuck 20 rfl) rfl (kn_1 _) (sw_ltm hm (Nat.le_of_ble_eq_true rfl)) rfl ?_
        refine SW.goto (pc := 35) (t := 4) g (dt dt_X10_stuck 21 rfl) rfl ?_
        refine SW.msk [true, true, true] ?_
        exact ih r1.2 y3 (x2 + 1) h
set_option maxRecDepth 100000 in
set_option maxHeartbeats 4000000 in
theorem ok_f_x_stuck {G : sw_G} {ad : Nat → Nat} {ν : sw_N}   {N : Nat} {o : Int32 × sw_M} (g : sw_ok G cX10_stuck "DeadWires" (some .int) 6 0 0 ad) (hm : G.2.2.1.2.1.maxLocals = 3)  (μ : sw_M) (ho : sw_out G 0 0 (fun a => a = ad) (.inl (some (.int o.1))) lay0 o.2 ν)  (h : f_x_stuck N  μ  = some o) : SW G ad lay0 ν 0 0 0 [some (.ref 0), none, none] [] μ := by
  unfold f_x_stuck at h
  refine SW.iconst (pc := 0) (v := 0) g (dt dt_X10_stuck 0 rfl) ki_0 ?_
  refine SW.istore_n (pc := 1) g (dt dt_X10_stuck 1 rfl) (sw_ltm hm (Nat.le_of_ble_eq_true rfl)) rfl ?_
  refine SW.iconst (pc := 2) (v := 0) g (dt dt_X10_stuck 2 rfl) ki_0 ?_
  refine SW.istore_n (pc := 3) g (dt dt_X10_stuck 3 rfl) (sw_ltm hm (Nat.le_of_ble_eq_true rfl)) rfl ?_
  refine SW.msk [true, true, true] ?_
  exact ok_f_x_stuck_4  g hm  ho   N μ 0 0 h
set_option maxRecDepth 100000 in
set_option maxHeartbeats 4000000 in
theorem mt_f_x_stuck (l : Launch) (D : va_G) (cI cL : ClassId) (ad : Nat → Nat) (ν : sw_N)    (N : Nat) (μ : sw_M)  (o : Int32 × sw_M) (h : f_x_stuck N  μ  = some o) : MetR l D cI cL yX10_stuck cX10_stuck 3 (some .int) 6 0 0 (fun a => a = ad) ad [.ref 0] lay0 μ ν (some (.int o.1)) lay0 o.2 ν :=
  MetR.of (n := 2) rfl (Nat.le_of_ble_eq_true rfl) (fun G g ho hm _ _ => ok_f_x_stuck  g hm  μ ho  h)
def f_x_moved (N : Nat)  (μ : sw_M)  : Option (Int32) :=
  Option.bind (f_days_movedBits N  μ ) (fun r1 =>
    some r1)
set_option maxRecDepth 100000 in
set_option maxHeartbeats 4000000 in
theorem ok_f_x_moved {G : sw_G} {ad : Nat → Nat} {ν : sw_N}   {N : Nat} {o : Int32} (g : sw_ok G cX10_moved "DeadWires" (some .int) 2 0 0 ad) (hm : G.2.2.1.2.1.maxLocals = 1)  (μ : sw_M) (ho : sw_out G 0 0 (fun a => a = ad) (.inl (some (.int o))) lay0 μ ν)  (h : f_x_moved N  μ  = some o) : SW G ad lay0 ν 0 0 0 [some (.ref 0)] [] μ := by
  unfold f_x_moved at h
  refine SW.aload_n (pc := 0) g (dt dt_X10_moved 0 rfl) rfl ?_
  refine SW.getR (pc := 1) g (dt dt_X10_moved 1 rfl) fl_X10_51 cell_0 rfl ?_
  obtain ⟨r1, h2, h⟩ := bindI h
  refine SW.callVi (pc := 4) g (dt dt_X10_moved 2 rfl) (mt_f_days_movedBits _ _ _ _ ad ν   N μ  r1 h2) me_X2_movedBits mv_X2_movedBits ml_X10_380 cell_35 rfl rfl (Nat.le_of_ble_eq_true rfl) (Nat.le_of_ble_eq_true rfl) (Nat.le_of_ble_eq_true rfl) (Nat.le_of_ble_eq_true rfl) rfl ?_
  exact SW.ireturn (pc := 7) g (leafI h ho) rfl (Nat.le_of_ble_eq_true rfl) (Nat.le_of_ble_eq_true rfl) (dt dt_X10_moved 3 rfl)
set_option maxRecDepth 100000 in
set_option maxHeartbeats 4000000 in
theorem mt_f_x_moved (l : Launch) (D : va_G) (cI cL : ClassId) (ad : Nat → Nat) (ν : sw_N)    (N : Nat) (μ : sw_M)  (o : Int32) (h : f_x_moved N  μ  = some o) : MetR l D cI cL yX10_moved cX10_moved 1 (some .int) 2 0 0 (fun a => a = ad) ad [.ref 0] lay0 μ ν (some (.int o)) lay0 μ ν :=
  MetR.of (n := 0) rfl (Nat.le_of_ble_eq_true rfl) (fun G g ho hm _ _ => ok_f_x_moved  g hm  μ ho  h)
def f_x_gates (N : Nat)  (μ : sw_M) (a1 : Int32) (a2 : Int32) : Option ((Int32 × sw_M) ⊕ (String × sw_M)) :=
  tb (f_x_needField N μ a1) (fun r1 =>
    tb (f_x_needWhat N r1 a2 2) (fun r3 =>
      Option.bind (f_land_wireBitsAt N  r3 a1) (fun r5 =>
        Option.bind (f_days_liveBits N  r3 0) (fun r7 =>
          if a2 = 0 then
            some (.inl (r5 &&& r7, r3))
          else
            if a2 = 1 then
              some (.inl (r5 &&& (r3 35 4), r3))
            else
              some (.inl ((r5 &&& (r7 ^^^ (-1))) &&& ((r3 35 4) ^^^ (-1)), r3))))))
set_option maxRecDepth 100000 in
set_option maxHeartbeats 4000000 in
theorem ok_f_x_gates {G : sw_G} {ad : Nat → Nat} {ν : sw_N}   {N : Nat} {o : (Int32 × sw_M) ⊕ (String × sw_M)} (g : sw_ok G cX10_gates "DeadWires" (some .int) 10 2 12 ad) (hm : G.2.2.1.2.1.maxLocals = 5) (htab : ∀ x ∈ G.2.2.1.2.1.exceptionTable.toList, False)  (μ : sw_M) (ho : sw_out G 2 12 (fun a => a = ad) (xo_i o).1 lay0 (xo_i o).2 ν) (a1 : Int32) (a2 : Int32) (h : f_x_gates N  μ a1 a2 = some o) : SW G ad lay0 ν 0 0 0 [some (.ref 0), some (.int a1), some (.int a2), none, none] [] μ := by
  unfold f_x_gates at h
  refine SW.aload_n (pc := 0) g (dt dt_X10_gates 0 rfl) rfl ?_
  refine SW.iload_n (pc := 1) g (dt dt_X10_gates 1 rfl) rfl ?_
  rcases tbI h with ⟨r1, h2, h⟩ | ⟨r1, h2, rfl⟩
  · refine SW.callXr (pc := 2) (r := none) g (dt dt_X10_gates 2 rfl) (mtx_f_x_needField _ _ _ _ ad ν N μ a1 (.inl r1) h2) me_X10_needField mv_X10_needField ml_X10_203 cell_0 rfl rfl (Nat.le_of_ble_eq_true rfl) (Nat.le_of_ble_eq_true rfl) (Nat.le_of_ble_eq_true rfl) (Nat.le_of_ble_eq_true rfl) rfl rfl ?_
    refine SW.aload_n (pc := 5) g (dt dt_X10_gates 3 rfl) rfl ?_
    refine SW.iload_n (pc := 6) g (dt dt_X10_gates 4 rfl) rfl ?_
    refine SW.iconst (pc := 7) (v := 2) g (dt dt_X10_gates 5 rfl) ki_2 ?_
    rcases tbI h with ⟨r3, h4, h⟩ | ⟨r3, h4, rfl⟩
    · refine SW.callXr (pc := 8) (r := none) g (dt dt_X10_gates 6 rfl) (mtx_f_x_needWhat _ _ _ _ ad ν N r1 a2 2 (.inl r3) h4) me_X10_needWhat mv_X10_needWhat ml_X10_171 cell_0 rfl rfl (Nat.le_of_ble_eq_true rfl) (Nat.le_of_ble_eq_true rfl) (Nat.le_of_ble_eq_true rfl) (Nat.le_of_ble_eq_true rfl) rfl rfl ?_
      refine SW.aload_n (pc := 11) g (dt dt_X10_gates 7 rfl) rfl ?_
      refine SW.getR (pc := 12) g (dt dt_X10_gates 8 rfl) fl_X10_19 cell_0 rfl ?_
      refine SW.iload_n (pc := 15) g (dt dt_X10_gates 9 rfl) rfl ?_
      obtain ⟨r5, h6, h⟩ := bindI h
      refine SW.callVi (pc := 16) g (dt dt_X10_gates 10 rfl) (mt_f_land_wireBitsAt _ _ _ _ ad ν   N r3 a1 r5 h6) me_X4_wireBitsAt mv_X4_wireBitsAt ml_X10_383 cell_3 rfl rfl (Nat.le_of_ble_eq_true rfl) (Nat.le_of_ble_eq_true rfl) (Nat.le_of_ble_eq_true rfl) (Nat.le_of_ble_eq_true rfl) rfl ?_
      refine SW.istore_n (pc := 19) g (dt dt_X10_gates 11 rfl) (sw_ltm hm (Nat.le_of_ble_eq_true rfl)) rfl ?_
      refine SW.aload_n (pc := 20) g (dt dt_X10_gates 12 rfl) rfl ?_
      refine SW.getR (pc := 21) g (dt dt_X10_gates 13 rfl) fl_X10_51 cell_0 rfl ?_
      refine SW.iconst (pc := 24) (v := 0) g (dt dt_X10_gates 14 rfl) ki_0 ?_
      obtain ⟨r7, h8, h⟩ := bindI h
      refine SW.callVi (pc := 25) g (dt dt_X10_gates 15 rfl) (mt_f_days_liveBits _ _ _ _ ad ν   N r3 0 r7 h8) me_X2_liveBits mv_X2_liveBits ml_X10_186 cell_35 rfl rfl (Nat.le_of_ble_eq_true rfl) (Nat.le_of_ble_eq_true rfl) (Nat.le_of_ble_eq_true rfl) (Nat.le_of_ble_eq_true rfl) rfl ?_
      refine SW.istore (pc := 28) g (dt dt_X10_gates 16 rfl) (sw_ltm hm (Nat.le_of_ble_eq_true rfl)) rfl ?_
      refine SW.iload_n (pc := 30) g (dt dt_X10_gates 17 rfl) rfl ?_
      refine SW.if_ne (pc := 31) (t := 39) g (dt dt_X10_gates 18 rfl) rfl (fun hc => ?_) (fun hc => ?_)
      · have h := iteF hc h
        refine SW.iload_n (pc := 39) g (dt dt_X10_gates 23 rfl) rfl ?_
        refine SW.iconst (pc := 40) (v := 1) g (dt dt_X10_gates 24 rfl) ki_1 ?_
        refine SW.icmp_ne (pc := 41) (t := 56) g (dt dt_X10_gates 25 rfl) rfl (fun hc => ?_) (fun hc => ?_)
        · have h := iteF hc h
          refine SW.iload_n (pc := 56) g (dt dt_X10_gates 32 rfl) rfl ?_
          refine SW.iload (pc := 57) g (dt dt_X10_gates 33 rfl) rfl ?_
          refine SW.iconst (pc := 59) (v := (-1)) g (dt dt_X10_gates 34 rfl) ki_m1 ?_
          refine SW.ixor (pc := 60) g (dt dt_X10_gates 35 rfl) ?_
          refine SW.iand (pc := 61) g (dt dt_X10_gates 36 rfl) ?_
          refine SW.aload_n (pc := 62) g (dt dt_X10_gates 37 rfl) rfl ?_
          refine SW.getR (pc := 63) g (dt dt_X10_gates 38 rfl) fl_X10_51 cell_0 rfl ?_
          refine SW.getI (pc := 66) g (dt dt_X10_gates 39 rfl) fl_X10_190 cell_35 rfl ?_
          refine SW.iconst (pc := 69) (v := (-1)) g (dt dt_X10_gates 40 rfl) ki_m1 ?_
          refine SW.ixor (pc := 70) g (dt dt_X10_gates 41 rfl) ?_
          refine SW.iand (pc := 71) g (dt dt_X10_gates 42 rfl) ?_
          exact SW.ireturn (pc := 72) g (leafXi h ho) rfl (Nat.le_of_ble_eq_true rfl) (Nat.le_of_ble_eq_true rfl) (dt dt_X10_gates 43 rfl)
        · have h := iteT hc h
          refine SW.iload_n (pc := 44) g (dt dt_X10_gates 26 rfl) rfl ?_
          refine SW.aload_n (pc := 45) g (dt dt_X10_gates 27 rfl) rfl ?_
          refine SW.getR (pc := 46) g (dt dt_X10_gates 28 rfl) fl_X10_51 cell_0 rfl ?_
          refine SW.getI (pc := 49) g (dt dt_X10_gates 29 rfl) fl_X10_190 cell_35 rfl ?_
          refine SW.iand (pc := 52) g (dt dt_X10_gates 30 rfl) ?_
          refine SW.goto (pc := 53) (t := 72) g (dt dt_X10_gates 31 rfl) rfl ?_
          exact SW.ireturn (pc := 72) g (leafXi h ho) rfl (Nat.le_of_ble_eq_true rfl) (Nat.le_of_ble_eq_true rfl) (dt dt_X10_gates 43 rfl)
      · have h := iteT hc h
        refine SW.iload_n (pc := 34) g (dt dt_X10_gates 19 rfl) rfl ?_
        refine SW.iload (pc := 35) g (dt dt_X10_gates 20 rfl) rfl ?_
        refine SW.iand (pc := 37) g (dt dt_X10_gates 21 rfl) ?_
        exact SW.ireturn (pc := 38) g (leafXi h ho) rfl (Nat.le_of_ble_eq_true rfl) (Nat.le_of_ble_eq_true rfl) (dt dt_X10_gates 22 rfl)
    · exact SW.callXt (pc := 8) g (dt dt_X10_gates 6 rfl) ho rfl htab (mtx_f_x_needWhat _ _ _ _ ad ν N r1 a2 2 (.inr r3) h4) me_X10_needWhat mv_X10_needWhat ml_X10_171 cell_0 rfl rfl (Nat.le_of_ble_eq_true rfl) (Nat.le_of_ble_eq_true rfl) (Nat.le_of_ble_eq_true rfl) (Nat.le_of_ble_eq_true rfl) rfl
  · exact SW.callXt (pc := 2) g (dt dt_X10_gates 2 rfl) ho rfl htab (mtx_f_x_needField _ _ _ _ ad ν N μ a1 (.inr r1) h2) me_X10_needField mv_X10_needField ml_X10_203 cell_0 rfl rfl (Nat.le_of_ble_eq_true rfl) (Nat.le_of_ble_eq_true rfl) (Nat.le_of_ble_eq_true rfl) (Nat.le_of_ble_eq_true rfl) rfl
set_option maxRecDepth 100000 in
set_option maxHeartbeats 4000000 in
theorem mtx_f_x_gates (l : Launch) (D : va_G) (cI cL : ClassId) (ad : Nat → Nat) (ν : sw_N) (N : Nat) (μ : sw_M) (a1 : Int32) (a2 : Int32) (o : (Int32 × sw_M) ⊕ (String × sw_M)) (h : f_x_gates N μ a1 a2 = some o) : MetX l D cI cL yX10_gates cX10_gates 5 (some .int) 10 2 12 (fun a => a = ad) ad [.ref 0, .int a1, .int a2] lay0 μ ν (xo_i o).1 lay0 (xo_i o).2 ν :=
  MetX.of (n := 2) rfl (Nat.le_of_ble_eq_true rfl) (fun G g ho hm htab => ok_f_x_gates  g hm htab  μ ho a1 a2 h)
def f_x_ground (N : Nat)  (μ : sw_M) (a1 : Int32) (a2 : Int32) : Option ((Int32 × sw_M) ⊕ (String × sw_M)) :=
  tb (f_x_needField N μ a1) (fun r1 =>
    Option.bind (f_sx_within N  r1 a2 0 99) (fun r3 =>
      tb (f_x_need N r1 r3) (fun r5 =>
        Option.bind (f_ways_fieldsWithin N  r5 a1 a2) (fun r7 =>
          some (.inl (r7, r5))))))
set_option maxRecDepth 100000 in
set_option maxHeartbeats 4000000 in
theorem ok_f_x_ground {G : sw_G} {ad : Nat → Nat} {ν : sw_N}   {N : Nat} {o : (Int32 × sw_M) ⊕ (String × sw_M)} (g : sw_ok G cX10_ground "DeadWires" (some .int) 10 2 12 ad) (hm : G.2.2.1.2.1.maxLocals = 3) (htab : ∀ x ∈ G.2.2.1.2.1.exceptionTable.toList, False)  (μ : sw_M) (ho : sw_out G 2 12 (fun a => a = ad) (xo_i o).1 lay0 (xo_i o).2 ν) (a1 : Int32) (a2 : Int32) (h : f_x_ground N  μ a1 a2 = some o) : SW G ad lay0 ν 0 0 0 [some (.ref 0), some (.int a1), some (.int a2)] [] μ := by
  unfold f_x_ground at h
  refine SW.aload_n (pc := 0) g (dt dt_X10_ground 0 rfl) rfl ?_
  refine SW.iload_n (pc := 1) g (dt dt_X10_ground 1 rfl) rfl ?_
  rcases tbI h with ⟨r1, h2, h⟩ | ⟨r1, h2, rfl⟩
  · refine SW.callXr (pc := 2) (r := none) g (dt dt_X10_ground 2 rfl) (mtx_f_x_needField _ _ _ _ ad ν N μ a1 (.inl r1) h2) me_X10_needField mv_X10_needField ml_X10_203 cell_0 rfl rfl (Nat.le_of_ble_eq_true rfl) (Nat.le_of_ble_eq_true rfl) (Nat.le_of_ble_eq_true rfl) (Nat.le_of_ble_eq_true rfl) rfl rfl ?_
    refine SW.aload_n (pc := 5) g (dt dt_X10_ground 3 rfl) rfl ?_
    refine SW.iload_n (pc := 6) g (dt dt_X10_ground 4 rfl) rfl ?_
    refine SW.iconst (pc := 7) (v := 0) g (dt dt_X10_ground 5 rfl) ki_0 ?_
    refine SW.bipush (pc := 8) (v := 99) g (dt dt_X10_ground 6 rfl) kb_99 ?_
    obtain ⟨r3, h4, h⟩ := bindI h
    refine SW.callSi (pc := 10) g (dt dt_X10_ground 7 rfl) (mt_f_sx_within _ _ _ _ ad ν lay0   N r1 a2 0 99 r3 h4) me_X10_within ms_X10_within ml_X10_250 rfl (Nat.le_of_ble_eq_true rfl) (Nat.le_of_ble_eq_true rfl) (Nat.le_of_ble_eq_true rfl) (Nat.le_of_ble_eq_true rfl) rfl ?_
    rcases tbI h with ⟨r5, h6, h⟩ | ⟨r5, h6, rfl⟩
    · refine SW.callXr (pc := 13) (r := none) g (dt dt_X10_ground 8 rfl) (mtx_f_x_need _ _ _ _ ad ν N r1 r3 (.inl r5) h6) me_X10_need mv_X10_need ml_X10_289 cell_0 rfl rfl (Nat.le_of_ble_eq_true rfl) (Nat.le_of_ble_eq_true rfl) (Nat.le_of_ble_eq_true rfl) (Nat.le_of_ble_eq_true rfl) rfl rfl ?_
      refine SW.aload_n (pc := 16) g (dt dt_X10_ground 9 rfl) rfl ?_
      refine SW.getR (pc := 17) g (dt dt_X10_ground 10 rfl) fl_X10_74 cell_0 rfl ?_
      refine SW.iload_n (pc := 20) g (dt dt_X10_ground 11 rfl) rfl ?_
      refine SW.iload_n (pc := 21) g (dt dt_X10_ground 12 rfl) rfl ?_
      obtain ⟨r7, h8, h⟩ := bindI h
      refine SW.callVi (pc := 22) g (dt dt_X10_ground 13 rfl) (mt_f_ways_fieldsWithin _ _ _ _ ad ν   N r5 a1 a2 r7 h8) me_X8_fieldsWithin mv_X8_fieldsWithin ml_X10_386 cell_49 rfl rfl (Nat.le_of_ble_eq_true rfl) (Nat.le_of_ble_eq_true rfl) (Nat.le_of_ble_eq_true rfl) (Nat.le_of_ble_eq_true rfl) rfl ?_
      exact SW.ireturn (pc := 25) g (leafXi h ho) rfl (Nat.le_of_ble_eq_true rfl) (Nat.le_of_ble_eq_true rfl) (dt dt_X10_ground 14 rfl)
    · exact SW.callXt (pc := 13) g (dt dt_X10_ground 8 rfl) ho rfl htab (mtx_f_x_need _ _ _ _ ad ν N r1 r3 (.inr r5) h6) me_X10_need mv_X10_need ml_X10_289 cell_0 rfl rfl (Nat.le_of_ble_eq_true rfl) (Nat.le_of_ble_eq_true rfl) (Nat.le_of_ble_eq_true rfl) (Nat.le_of_ble_eq_true rfl) rfl
  · exact SW.callXt (pc := 2) g (dt dt_X10_ground 2 rfl) ho rfl htab (mtx_f_x_needField _ _ _ _ ad ν N μ a1 (.inr r1) h2) me_X10_needField mv_X10_needField ml_X10_203 cell_0 rfl rfl (Nat.le_of_ble_eq_true rfl) (Nat.le_of_ble_eq_true rfl) (Nat.le_of_ble_eq_true rfl) (Nat.le_of_ble_eq_true rfl) rfl
set_option maxRecDepth 100000 in
set_option maxHeartbeats 4000000 in
theorem mtx_f_x_ground (l : Launch) (D : va_G) (cI cL : ClassId) (ad : Nat → Nat) (ν : sw_N) (N : Nat) (μ : sw_M) (a1 : Int32) (a2 : Int32) (o : (Int32 × sw_M) ⊕ (String × sw_M)) (h : f_x_ground N μ a1 a2 = some o) : MetX l D cI cL yX10_ground cX10_ground 3 (some .int) 10 2 12 (fun a => a = ad) ad [.ref 0, .int a1, .int a2] lay0 μ ν (xo_i o).1 lay0 (xo_i o).2 ν :=
  MetX.of (n := 0) rfl (Nat.le_of_ble_eq_true rfl) (fun G g ho hm htab => ok_f_x_ground  g hm htab  μ ho a1 a2 h)
def f_x_freest_13 (N : Nat)   : Nat → sw_M → Int32 → Int32 → Int32 → Int32 → Option ((Int32 × sw_M) ⊕ (String × sw_M))
  | 0, _, _, _, _, _ => none
  | n + 1, μ, x1, x2, x3, x4 =>
    if (μ 3 3) ≤ x4 then
      if x1 = 0 then
        some (.inl (x2, μ))
      else
        some (.inl (x3, μ))
    else
      Option.bind (f_days_freeOf N  μ x4) (fun r1 =>
        if r1 ≤ x3 then
          f_x_freest_13 N   n μ x1 x2 x3 (x4 + 1)
        else
          f_x_freest_13 N   n μ x1 x4 r1 (x4 + 1))
def f_x_freest (N : Nat)  (μ : sw_M) (a1 : Int32) : Option ((Int32 × sw_M) ⊕ (String × sw_M)) :=
  tb (f_x_needWhat N μ a1 1) (fun r1 =>
    f_x_freest_13 N   N r1 a1 (-1) (-1) 0)
set_option maxRecDepth 100000 in
set_option maxHeartbeats 4000000 in
theorem ok_f_x_freest_13 {G : sw_G} {ad : Nat → Nat} {ν : sw_N}   {N : Nat} {o : (Int32 × sw_M) ⊕ (String × sw_M)} (g : sw_ok G cX10_freest "DeadWires" (some .int) 10 1 6 ad) (hm : G.2.2.1.2.1.maxLocals = 6) (htab : ∀ x ∈ G.2.2.1.2.1.exceptionTable.toList, False)  (ho : sw_out G 1 6 (fun a => a = ad) (xo_i o).1 lay0 (xo_i o).2 ν)  : ∀ (n : Nat) (μ : sw_M) (x1 : Int32) (x2 : Int32) (x3 : Int32) (x4 : Int32) (h : f_x_freest_13 N   n μ x1 x2 x3 x4 = some o), SW G ad lay0 ν 1 6 13 [some (.ref 0), some (.int x1), some (.int x2), some (.int x3), some (.int x4), none] [] μ := by
  intro n
  induction n with
  | zero => intro μ x1 x2 x3 x4 h; simp only [f_x_freest_13] at h; cases h
  | succ n ih =>
    intro μ x1 x2 x3 x4 h
    unfold f_x_freest_13 at h
    refine SW.iload (pc := 13) g (dt dt_X10_freest 10 rfl) rfl ?_
    refine SW.aload_n (pc := 15) g (dt dt_X10_freest 11 rfl) rfl ?_
    refine SW.getR (pc := 16) g (dt dt_X10_freest 12 rfl) fl_X10_19 cell_0 rfl ?_
    refine SW.getI (pc := 19) g (dt dt_X10_freest 13 rfl) fl_X10_180 cell_3 rfl ?_
    refine SW.icmp_ge (pc := 22) (t := 54) g (dt dt_X10_freest 14 rfl) rfl (fun hc => ?_) (fun hc => ?_)
    · have h := iteT hc h
      refine SW.iload_n (pc := 54) g (dt dt_X10_freest 29 rfl) rfl ?_
      refine SW.if_ne (pc := 55) (t := 62) g (dt dt_X10_freest 30 rfl) rfl (fun hc => ?_) (fun hc => ?_)
      · have h := iteF hc h
        refine SW.iload_n (pc := 62) g (dt dt_X10_freest 33 rfl) rfl ?_
        exact SW.ireturn (pc := 63) g (leafXi h ho) rfl (Nat.le_of_ble_eq_true rfl) (Nat.le_of_ble_eq_true rfl) (dt dt_X10_freest 34 rfl)
      · have h := iteT hc h
        refine SW.iload_n (pc := 58) g (dt dt_X10_freest 31 rfl) rfl ?_
        refine SW.goto (pc := 59) (t := 63) g (dt dt_X10_freest 32 rfl) rfl ?_
        exact SW.ireturn (pc := 63) g (leafXi h ho) rfl (Nat.le_of_ble_eq_true rfl) (Nat.le_of_ble_eq_true rfl) (dt dt_X10_freest 34 rfl)
    · have h := iteF hc h
      refine SW.aload_n (pc := 25) g (dt dt_X10_freest 15 rfl) rfl ?_
      refine SW.getR (pc := 26) g (dt dt_X10_freest 16 rfl) fl_X10_51 cell_0 rfl ?_
      refine SW.iload (pc := 29) g (dt dt_X10_freest 17 rfl) rfl ?_
      obtain ⟨r1, h2, h⟩ := bindI h
      refine SW.callVi (pc := 31) g (dt dt_X10_freest 18 rfl) (mt_f_days_freeOf _ _ _ _ ad ν   N μ x4 r1 h2) me_X2_freeOf mv_X2_freeOf ml_X10_389 cell_35 rfl rfl (Nat.le_of_ble_eq_true rfl) (Nat.le_of_ble_eq_true rfl) (Nat.le_of_ble_eq_true rfl) (Nat.le_of_ble_eq_true rfl) rfl ?_
      refine SW.istore (pc := 34) g (dt dt_X10_freest 19 rfl) (sw_ltm hm (Nat.le_of_ble_eq_true rfl)) rfl ?_
      refine SW.iload (pc := 36) g (dt dt_X10_freest 20 rfl) rfl ?_
      refine SW.iload_n (pc := 38) g (dt dt_X10_freest 21 rfl) rfl ?_
      refine SW.icmp_le (pc := 39) (t := 48) g (dt dt_X10_freest 22 rfl) rfl (fun hc => ?_) (fun hc => ?_)
      · have h := iteT hc h
        refine SW.iinc (pc := 48) (v := x4 + 1) g (dt dt_X10_freest 27 rfl) rfl (kn_1 _) (sw_ltm hm (Nat.le_of_ble_eq_true rfl)) rfl ?_
        refine SW.goto (pc := 51) (t := 13) g (dt dt_X10_freest 28 rfl) rfl ?_
        refine SW.msk [true, true, true, true, true, false] ?_
        exact ih μ x1 x2 x3 (x4 + 1) h
      · have h := iteF hc h
        refine SW.iload (pc := 42) g (dt dt_X10_freest 23 rfl) rfl ?_
        refine SW.istore_n (pc := 44) g (dt dt_X10_freest 24 rfl) (sw_ltm hm (Nat.le_of_ble_eq_true rfl)) rfl ?_
        refine SW.iload (pc := 45) g (dt dt_X10_freest 25 rfl) rfl ?_
        refine SW.istore_n (pc := 47) g (dt dt_X10_freest 26 rfl) (sw_ltm hm (Nat.le_of_ble_eq_true rfl)) rfl ?_
        refine SW.iinc (pc := 48) (v := x4 + 1) g (dt dt_X10_freest 27 rfl) rfl (kn_1 _) (sw_ltm hm (Nat.le_of_ble_eq_true rfl)) rfl ?_
        refine SW.goto (pc := 51) (t := 13) g (dt dt_X10_freest 28 rfl) rfl ?_
        refine SW.msk [true, true, true, true, true, false] ?_
        exact ih μ x1 x4 r1 (x4 + 1) h
set_option maxRecDepth 100000 in
set_option maxHeartbeats 4000000 in
theorem ok_f_x_freest {G : sw_G} {ad : Nat → Nat} {ν : sw_N}   {N : Nat} {o : (Int32 × sw_M) ⊕ (String × sw_M)} (g : sw_ok G cX10_freest "DeadWires" (some .int) 10 1 6 ad) (hm : G.2.2.1.2.1.maxLocals = 6) (htab : ∀ x ∈ G.2.2.1.2.1.exceptionTable.toList, False)  (μ : sw_M) (ho : sw_out G 1 6 (fun a => a = ad) (xo_i o).1 lay0 (xo_i o).2 ν) (a1 : Int32) (h : f_x_freest N  μ a1 = some o) : SW G ad lay0 ν 0 0 0 [some (.ref 0), some (.int a1), none, none, none, none] [] μ := by
  unfold f_x_freest at h
  refine SW.aload_n (pc := 0) g (dt dt_X10_freest 0 rfl) rfl ?_
  refine SW.iload_n (pc := 1) g (dt dt_X10_freest 1 rfl) rfl ?_
  refine SW.iconst (pc := 2) (v := 1) g (dt dt_X10_freest 2 rfl) ki_1 ?_
  rcases tbI h with ⟨r1, h2, h⟩ | ⟨r1, h2, rfl⟩
  · refine SW.callXr (pc := 3) (r := none) g (dt dt_X10_freest 3 rfl) (mtx_f_x_needWhat _ _ _ _ ad ν N μ a1 1 (.inl r1) h2) me_X10_needWhat mv_X10_needWhat ml_X10_171 cell_0 rfl rfl (Nat.le_of_ble_eq_true rfl) (Nat.le_of_ble_eq_true rfl) (Nat.le_of_ble_eq_true rfl) (Nat.le_of_ble_eq_true rfl) rfl rfl ?_
    refine SW.iconst (pc := 6) (v := (-1)) g (dt dt_X10_freest 4 rfl) ki_m1 ?_
    refine SW.istore_n (pc := 7) g (dt dt_X10_freest 5 rfl) (sw_ltm hm (Nat.le_of_ble_eq_true rfl)) rfl ?_
    refine SW.iconst (pc := 8) (v := (-1)) g (dt dt_X10_freest 6 rfl) ki_m1 ?_
    refine SW.istore_n (pc := 9) g (dt dt_X10_freest 7 rfl) (sw_ltm hm (Nat.le_of_ble_eq_true rfl)) rfl ?_
    refine SW.iconst (pc := 10) (v := 0) g (dt dt_X10_freest 8 rfl) ki_0 ?_
    refine SW.istore (pc := 11) g (dt dt_X10_freest 9 rfl) (sw_ltm hm (Nat.le_of_ble_eq_true rfl)) rfl ?_
    refine SW.msk [true, true, true, true, true, false] ?_
    exact ok_f_x_freest_13  g hm htab  ho   N r1 a1 (-1) (-1) 0 h
  · exact SW.callXt (pc := 3) g (dt dt_X10_freest 3 rfl) ho rfl htab (mtx_f_x_needWhat _ _ _ _ ad ν N μ a1 1 (.inr r1) h2) me_X10_needWhat mv_X10_needWhat ml_X10_171 cell_0 rfl rfl (Nat.le_of_ble_eq_true rfl) (Nat.le_of_ble_eq_true rfl) (Nat.le_of_ble_eq_true rfl) (Nat.le_of_ble_eq_true rfl) rfl
set_option maxRecDepth 100000 in
set_option maxHeartbeats 4000000 in
theorem mtx_f_x_freest (l : Launch) (D : va_G) (cI cL : ClassId) (ad : Nat → Nat) (ν : sw_N) (N : Nat) (μ : sw_M) (a1 : Int32) (o : (Int32 × sw_M) ⊕ (String × sw_M)) (h : f_x_freest N μ a1 = some o) : MetX l D cI cL yX10_freest cX10_freest 6 (some .int) 10 1 6 (fun a => a = ad) ad [.ref 0, .int a1] lay0 μ ν (xo_i o).1 lay0 (xo_i o).2 ν :=
  MetX.of (n := 4) rfl (Nat.le_of_ble_eq_true rfl) (fun G g ho hm htab => ok_f_x_freest  g hm htab  μ ho a1 h)
def f_x_autumn_26 (N : Nat)   (μ : sw_M) (x1 : Int32) (x2 : Int32) (x3 : Int32) (x4 : Int32) (s0 : Int32) : Option ((Int32 × sw_M) ⊕ (String × sw_M)) :=
  tb (f_x_need N μ s0) (fun r1 =>
    tb (f_x_needWhat N r1 x4 3) (fun r3 =>
      Option.bind (f_autm_go N  r3 x1 x2 x3) (fun r5 =>
        if x4 = 0 then
          Option.bind (f_autm_crossings N  r5 ) (fun r7 =>
            some (.inl (r7, r5)))
        else if x4 = 1 then
          Option.bind (f_dream_carriedBits N  r5 ) (fun r9 =>
            some (.inl (r9, r5)))
        else if x4 = 2 then
          Option.bind (f_dream_liveBits N  r5 0) (fun r11 =>
            some (.inl (r11, r5)))
        else 
          Option.bind (f_dream_tiredTogether N  r5 0) (fun r13 =>
            some (.inl (r13, r5))))))
def f_x_autumn_25 (N : Nat)   (μ : sw_M) (x1 : Int32) (x2 : Int32) (x3 : Int32) (x4 : Int32) : Option ((Int32 × sw_M) ⊕ (String × sw_M)) :=
  f_x_autumn_26 N    μ x1 x2 x3 x4 0
def f_x_autumn (N : Nat)  (μ : sw_M) (a1 : Int32) (a2 : Int32) (a3 : Int32) (a4 : Int32) : Option ((Int32 × sw_M) ⊕ (String × sw_M)) :=
  Option.bind (f_sx_within N  μ a2 0 16) (fun r1 =>
    if r1 = 0 then
      f_x_autumn_25 N    μ a1 a2 a3 a4
    else
      Option.bind (f_sx_within N  μ a3 1 96) (fun r3 =>
        if r3 = 0 then
          f_x_autumn_25 N    μ a1 a2 a3 a4
        else
          f_x_autumn_26 N    μ a1 a2 a3 a4 1))
set_option maxRecDepth 100000 in
set_option maxHeartbeats 4000000 in
theorem ok_f_x_autumn_26 {G : sw_G} {ad : Nat → Nat} {ν : sw_N}   {N : Nat} {o : (Int32 × sw_M) ⊕ (String × sw_M)} (g : sw_ok G cX10_autumn "DeadWires" (some .int) 10 2 12 ad) (hm : G.2.2.1.2.1.maxLocals = 5) (htab : ∀ x ∈ G.2.2.1.2.1.exceptionTable.toList, False)  (ho : sw_out G 2 12 (fun a => a = ad) (xo_i o).1 lay0 (xo_i o).2 ν)  (μ : sw_M) (x1 : Int32) (x2 : Int32) (x3 : Int32) (x4 : Int32) (s0 : Int32) (h : f_x_autumn_26 N    μ x1 x2 x3 x4 s0 = some o) : SW G ad lay0 ν 0 0 26 [some (.ref 0), some (.int x1), some (.int x2), some (.int x3), some (.int x4)] [.int s0, .ref 0] μ := by
  unfold f_x_autumn_26 at h
  rcases tbI h with ⟨r1, h2, h⟩ | ⟨r1, h2, rfl⟩
  · refine SW.callXr (pc := 26) (r := none) g (dt dt_X10_autumn 14 rfl) (mtx_f_x_need _ _ _ _ ad ν N μ s0 (.inl r1) h2) me_X10_need mv_X10_need ml_X10_289 cell_0 rfl rfl (Nat.le_of_ble_eq_true rfl) (Nat.le_of_ble_eq_true rfl) (Nat.le_of_ble_eq_true rfl) (Nat.le_of_ble_eq_true rfl) rfl rfl ?_
    refine SW.aload_n (pc := 29) g (dt dt_X10_autumn 15 rfl) rfl ?_
    refine SW.iload (pc := 30) g (dt dt_X10_autumn 16 rfl) rfl ?_
    refine SW.iconst (pc := 32) (v := 3) g (dt dt_X10_autumn 17 rfl) ki_3 ?_
    rcases tbI h with ⟨r3, h4, h⟩ | ⟨r3, h4, rfl⟩
    · refine SW.callXr (pc := 33) (r := none) g (dt dt_X10_autumn 18 rfl) (mtx_f_x_needWhat _ _ _ _ ad ν N r1 x4 3 (.inl r3) h4) me_X10_needWhat mv_X10_needWhat ml_X10_171 cell_0 rfl rfl (Nat.le_of_ble_eq_true rfl) (Nat.le_of_ble_eq_true rfl) (Nat.le_of_ble_eq_true rfl) (Nat.le_of_ble_eq_true rfl) rfl rfl ?_
      refine SW.aload_n (pc := 36) g (dt dt_X10_autumn 19 rfl) rfl ?_
      refine SW.getR (pc := 37) g (dt dt_X10_autumn 20 rfl) fl_X10_90 cell_0 rfl ?_
      refine SW.iload_n (pc := 40) g (dt dt_X10_autumn 21 rfl) rfl ?_
      refine SW.iload_n (pc := 41) g (dt dt_X10_autumn 22 rfl) rfl ?_
      refine SW.iload_n (pc := 42) g (dt dt_X10_autumn 23 rfl) rfl ?_
      obtain ⟨r5, h6, h⟩ := bindI h
      refine SW.callVv (pc := 43) g (dt dt_X10_autumn 24 rfl) (mt_f_autm_go _ _ _ _ ad ν   N r3 x1 x2 x3 r5 h6) me_X0_go mv_X0_go ml_X10_392 cell_55 rfl rfl (Nat.le_of_ble_eq_true rfl) (Nat.le_of_ble_eq_true rfl) (Nat.le_of_ble_eq_true rfl) (Nat.le_of_ble_eq_true rfl) rfl ?_
      refine SW.iload (pc := 46) g (dt dt_X10_autumn 25 rfl) rfl ?_
      refine SW.tsw (pc := 48) (dn := 107) (tb := [(0, 76), (1, 84), (2, 95)]) g (dt dt_X10_autumn 26 rfl) (by decide) ?_
      refine sw_cons (fun hc => ?_) (fun hc => ?_)
      · have h := iteT hc h
        refine SW.aload_n (pc := 76) g (dt dt_X10_autumn 27 rfl) rfl ?_
        refine SW.getR (pc := 77) g (dt dt_X10_autumn 28 rfl) fl_X10_90 cell_0 rfl ?_
        obtain ⟨r7, h8, h⟩ := bindI h
        refine SW.callVi (pc := 80) g (dt dt_X10_autumn 29 rfl) (mt_f_autm_crossings _ _ _ _ ad ν   N r5  r7 h8) me_X0_crossings mv_X0_crossings ml_X10_396 cell_55 rfl rfl (Nat.le_of_ble_eq_true rfl) (Nat.le_of_ble_eq_true rfl) (Nat.le_of_ble_eq_true rfl) (Nat.le_of_ble_eq_true rfl) rfl ?_
        exact SW.ireturn (pc := 83) g (leafXi h ho) rfl (Nat.le_of_ble_eq_true rfl) (Nat.le_of_ble_eq_true rfl) (dt dt_X10_autumn 30 rfl)
      · have h := iteF hc h
        refine sw_cons (fun hc => ?_) (fun hc => ?_)
        · have h := iteT hc h
          refine SW.aload_n (pc := 84) g (dt dt_X10_autumn 31 rfl) rfl ?_
          refine SW.getR (pc := 85) g (dt dt_X10_autumn 32 rfl) fl_X10_90 cell_0 rfl ?_
          refine SW.getR (pc := 88) g (dt dt_X10_autumn 33 rfl) fl_X10_398 cell_55 rfl ?_
          obtain ⟨r9, h10, h⟩ := bindI h
          refine SW.callVi (pc := 91) g (dt dt_X10_autumn 34 rfl) (mt_f_dream_carriedBits _ _ _ _ ad ν   N r5  r9 h10) me_X2_carriedBits mv_X2_carriedBits ml_X10_196 cell_57 rfl rfl (Nat.le_of_ble_eq_true rfl) (Nat.le_of_ble_eq_true rfl) (Nat.le_of_ble_eq_true rfl) (Nat.le_of_ble_eq_true rfl) rfl ?_
          exact SW.ireturn (pc := 94) g (leafXi h ho) rfl (Nat.le_of_ble_eq_true rfl) (Nat.le_of_ble_eq_true rfl) (dt dt_X10_autumn 35 rfl)
        · have h := iteF hc h
          refine sw_cons (fun hc => ?_) (fun hc => ?_)
          · have h := iteT hc h
            refine SW.aload_n (pc := 95) g (dt dt_X10_autumn 36 rfl) rfl ?_
            refine SW.getR (pc := 96) g (dt dt_X10_autumn 37 rfl) fl_X10_90 cell_0 rfl ?_
            refine SW.getR (pc := 99) g (dt dt_X10_autumn 38 rfl) fl_X10_398 cell_55 rfl ?_
            refine SW.iconst (pc := 102) (v := 0) g (dt dt_X10_autumn 39 rfl) ki_0 ?_
            obtain ⟨r11, h12, h⟩ := bindI h
            refine SW.callVi (pc := 103) g (dt dt_X10_autumn 40 rfl) (mt_f_dream_liveBits _ _ _ _ ad ν   N r5 0 r11 h12) me_X2_liveBits mv_X2_liveBits ml_X10_186 cell_57 rfl rfl (Nat.le_of_ble_eq_true rfl) (Nat.le_of_ble_eq_true rfl) (Nat.le_of_ble_eq_true rfl) (Nat.le_of_ble_eq_true rfl) rfl ?_
            exact SW.ireturn (pc := 106) g (leafXi h ho) rfl (Nat.le_of_ble_eq_true rfl) (Nat.le_of_ble_eq_true rfl) (dt dt_X10_autumn 41 rfl)
          · have h := iteF hc h
            change SW _ _ _ _ _ _ 107 _ _ _
            refine SW.aload_n (pc := 107) g (dt dt_X10_autumn 42 rfl) rfl ?_
            refine SW.getR (pc := 108) g (dt dt_X10_autumn 43 rfl) fl_X10_90 cell_0 rfl ?_
            refine SW.getR (pc := 111) g (dt dt_X10_autumn 44 rfl) fl_X10_398 cell_55 rfl ?_
            refine SW.iconst (pc := 114) (v := 0) g (dt dt_X10_autumn 45 rfl) ki_0 ?_
            obtain ⟨r13, h14, h⟩ := bindI h
            refine SW.callVi (pc := 115) g (dt dt_X10_autumn 46 rfl) (mt_f_dream_tiredTogether _ _ _ _ ad ν   N r5 0 r13 h14) me_X2_tiredTogether mv_X2_tiredTogether ml_X10_302 cell_57 rfl rfl (Nat.le_of_ble_eq_true rfl) (Nat.le_of_ble_eq_true rfl) (Nat.le_of_ble_eq_true rfl) (Nat.le_of_ble_eq_true rfl) rfl ?_
            exact SW.ireturn (pc := 118) g (leafXi h ho) rfl (Nat.le_of_ble_eq_true rfl) (Nat.le_of_ble_eq_true rfl) (dt dt_X10_autumn 47 rfl)
    · exact SW.callXt (pc := 33) g (dt dt_X10_autumn 18 rfl) ho rfl htab (mtx_f_x_needWhat _ _ _ _ ad ν N r1 x4 3 (.inr r3) h4) me_X10_needWhat mv_X10_needWhat ml_X10_171 cell_0 rfl rfl (Nat.le_of_ble_eq_true rfl) (Nat.le_of_ble_eq_true rfl) (Nat.le_of_ble_eq_true rfl) (Nat.le_of_ble_eq_true rfl) rfl
  · exact SW.callXt (pc := 26) g (dt dt_X10_autumn 14 rfl) ho rfl htab (mtx_f_x_need _ _ _ _ ad ν N μ s0 (.inr r1) h2) me_X10_need mv_X10_need ml_X10_289 cell_0 rfl rfl (Nat.le_of_ble_eq_true rfl) (Nat.le_of_ble_eq_true rfl) (Nat.le_of_ble_eq_true rfl) (Nat.le_of_ble_eq_true rfl) rfl
set_option maxRecDepth 100000 in
set_option maxHeartbeats 4000000 in
theorem ok_f_x_autumn_25 {G : sw_G} {ad : Nat → Nat} {ν : sw_N}   {N : Nat} {o : (Int32 × sw_M) ⊕ (String × sw_M)} (g : sw_ok G cX10_autumn "DeadWires" (some .int) 10 2 12 ad) (hm : G.2.2.1.2.1.maxLocals = 5) (htab : ∀ x ∈ G.2.2.1.2.1.exceptionTable.toList, False)  (ho : sw_out G 2 12 (fun a => a = ad) (xo_i o).1 lay0 (xo_i o).2 ν)  (μ : sw_M) (x1 : Int32) (x2 : Int32) (x3 : Int32) (x4 : Int32) (h : f_x_autumn_25 N    μ x1 x2 x3 x4 = some o) : SW G ad lay0 ν 0 0 25 [some (.ref 0), some (.int x1), some (.int x2), some (.int x3), some (.int x4)] [.ref 0] μ := by
  unfold f_x_autumn_25 at h
  refine SW.iconst (pc := 25) (v := 0) g (dt dt_X10_autumn 13 rfl) ki_0 ?_
  refine SW.msk [true, true, true, true, true] ?_
  exact ok_f_x_autumn_26  g hm htab  ho    μ x1 x2 x3 x4 0 h
set_option maxRecDepth 100000 in
set_option maxHeartbeats 4000000 in
theorem ok_f_x_autumn {G : sw_G} {ad : Nat → Nat} {ν : sw_N}   {N : Nat} {o : (Int32 × sw_M) ⊕ (String × sw_M)} (g : sw_ok G cX10_autumn "DeadWires" (some .int) 10 2 12 ad) (hm : G.2.2.1.2.1.maxLocals = 5) (htab : ∀ x ∈ G.2.2.1.2.1.exceptionTable.toList, False)  (μ : sw_M) (ho : sw_out G 2 12 (fun a => a = ad) (xo_i o).1 lay0 (xo_i o).2 ν) (a1 : Int32) (a2 : Int32) (a3 : Int32) (a4 : Int32) (h : f_x_autumn N  μ a1 a2 a3 a4 = some o) : SW G ad lay0 ν 0 0 0 [some (.ref 0), some (.int a1), some (.int a2), some (.int a3), some (.int a4)] [] μ := by
  unfold f_x_autumn at h
  refine SW.aload_n (pc := 0) g (dt dt_X10_autumn 0 rfl) rfl ?_
  refine SW.iload_n (pc := 1) g (dt dt_X10_autumn 1 rfl) rfl ?_
  refine SW.iconst (pc := 2) (v := 0) g (dt dt_X10_autumn 2 rfl) ki_0 ?_
  refine SW.bipush (pc := 3) (v := 16) g (dt dt_X10_autumn 3 rfl) kb_16 ?_
  obtain ⟨r1, h2, h⟩ := bindI h
  refine SW.callSi (pc := 5) g (dt dt_X10_autumn 4 rfl) (mt_f_sx_within _ _ _ _ ad ν lay0   N μ a2 0 16 r1 h2) me_X10_within ms_X10_within ml_X10_250 rfl (Nat.le_of_ble_eq_true rfl) (Nat.le_of_ble_eq_true rfl) (Nat.le_of_ble_eq_true rfl) (Nat.le_of_ble_eq_true rfl) rfl ?_
  refine SW.if_eq (pc := 8) (t := 25) g (dt dt_X10_autumn 5 rfl) rfl (fun hc => ?_) (fun hc => ?_)
  · have h := iteT hc h
    refine SW.msk [true, true, true, true, true] ?_
    exact ok_f_x_autumn_25  g hm htab  ho    μ a1 a2 a3 a4 h
  · have h := iteF hc h
    refine SW.iload_n (pc := 11) g (dt dt_X10_autumn 6 rfl) rfl ?_
    refine SW.iconst (pc := 12) (v := 1) g (dt dt_X10_autumn 7 rfl) ki_1 ?_
    refine SW.bipush (pc := 13) (v := 96) g (dt dt_X10_autumn 8 rfl) kb_96 ?_
    obtain ⟨r3, h4, h⟩ := bindI h
    refine SW.callSi (pc := 15) g (dt dt_X10_autumn 9 rfl) (mt_f_sx_within _ _ _ _ ad ν lay0   N μ a3 1 96 r3 h4) me_X10_within ms_X10_within ml_X10_250 rfl (Nat.le_of_ble_eq_true rfl) (Nat.le_of_ble_eq_true rfl) (Nat.le_of_ble_eq_true rfl) (Nat.le_of_ble_eq_true rfl) rfl ?_
    refine SW.if_eq (pc := 18) (t := 25) g (dt dt_X10_autumn 10 rfl) rfl (fun hc => ?_) (fun hc => ?_)
    · have h := iteT hc h
      refine SW.msk [true, true, true, true, true] ?_
      exact ok_f_x_autumn_25  g hm htab  ho    μ a1 a2 a3 a4 h
    · have h := iteF hc h
      refine SW.iconst (pc := 21) (v := 1) g (dt dt_X10_autumn 11 rfl) ki_1 ?_
      refine SW.goto (pc := 22) (t := 26) g (dt dt_X10_autumn 12 rfl) rfl ?_
      refine SW.msk [true, true, true, true, true] ?_
      exact ok_f_x_autumn_26  g hm htab  ho    μ a1 a2 a3 a4 1 h
set_option maxRecDepth 100000 in
set_option maxHeartbeats 4000000 in
theorem mtx_f_x_autumn (l : Launch) (D : va_G) (cI cL : ClassId) (ad : Nat → Nat) (ν : sw_N) (N : Nat) (μ : sw_M) (a1 : Int32) (a2 : Int32) (a3 : Int32) (a4 : Int32) (o : (Int32 × sw_M) ⊕ (String × sw_M)) (h : f_x_autumn N μ a1 a2 a3 a4 = some o) : MetX l D cI cL yX10_autumn cX10_autumn 5 (some .int) 10 2 12 (fun a => a = ad) ad [.ref 0, .int a1, .int a2, .int a3, .int a4] lay0 μ ν (xo_i o).1 lay0 (xo_i o).2 ν :=
  MetX.of (n := 0) rfl (Nat.le_of_ble_eq_true rfl) (fun G g ho hm htab => ok_f_x_autumn  g hm htab  μ ho a1 a2 a3 a4 h)
def f_x_span_154 (N : Nat)  (k_78 : sw_M → Int32 → Int32 → Int32 → Int32 → Int32 → Int32 → Int32 → Int32 → Int32 → Int32 → Option ((Int32 × sw_M) ⊕ (String × sw_M))) (μ : sw_M) (x1 : Int32) (x2 : Int32) (x3 : Int32) (x4 : Int32) (x5 : Int32) (x6 : Int32) (x7 : Int32) (x8 : Int32) (x10 : Int32) (s0 : Int32) (s1 : Int32) : Option ((Int32 × sw_M) ⊕ (String × sw_M)) :=
  ib (s1 + s0) (fun y1 =>
    k_78 μ x1 x2 x3 x4 x5 x6 x7 x8 y1 (x10 + 1))
def f_x_span_124 (N : Nat)  (k_78 : sw_M → Int32 → Int32 → Int32 → Int32 → Int32 → Int32 → Int32 → Int32 → Int32 → Int32 → Option ((Int32 × sw_M) ⊕ (String × sw_M))) (μ : sw_M) (x1 : Int32) (x2 : Int32) (x3 : Int32) (x4 : Int32) (x5 : Int32) (x6 : Int32) (x8 : Int32) (x9 : Int32) (x10 : Int32) (x11 : Int32) (s0 : Int32) : Option ((Int32 × sw_M) ⊕ (String × sw_M)) :=
  ib (if x8 < x11 then x11 else x8) (fun y1 =>
    Option.bind (f_autm_isElsewhere N  μ x6) (fun r2 =>
      if r2 = 0 then
        f_x_span_154 N  k_78  μ x1 x2 x3 x4 x5 x6 s0 y1 x10 0 x9
      else
        f_x_span_154 N  k_78  μ x1 x2 x3 x4 x5 x6 s0 y1 x10 1 x9))
def f_x_span_78 (N : Nat)   : Nat → sw_M → Int32 → Int32 → Int32 → Int32 → Int32 → Int32 → Int32 → Int32 → Int32 → Int32 → Option ((Int32 × sw_M) ⊕ (String × sw_M))
  | 0, _, _, _, _, _, _, _, _, _, _, _ => none
  | n + 1, μ, x1, x2, x3, x4, x5, x6, x7, x8, x9, x10 =>
    if x2 ≤ x10 then
      if x5 = 0 then
        some (.inl (x7, μ))
      else
        if x5 = 1 then
          some (.inl (x8, μ))
        else
          some (.inl (x9, μ))
    else
      Option.bind (f_autm_go N  μ (x1 + x10) x3 x4) (fun r1 =>
        Option.bind (f_autm_crossings N  r1 ) (fun r3 =>
          if x10 = 0 then
            f_x_span_124 N  (f_x_span_78 N   n)  r1 x1 x2 x3 x4 x5 x6 x8 x9 x10 r3 r3
          else
            f_x_span_124 N  (f_x_span_78 N   n)  r1 x1 x2 x3 x4 x5 x6 x8 x9 x10 r3 (if r3 < x7 then r3 else x7)))
def f_x_span_37 (N : Nat)   (μ : sw_M) (x1 : Int32) (x2 : Int32) (x3 : Int32) (x4 : Int32) (x5 : Int32) (x6 : Int32) (s0 : Int32) : Option ((Int32 × sw_M) ⊕ (String × sw_M)) :=
  tb (f_x_need N μ s0) (fun r1 =>
    tb (f_x_needWhat N r1 x5 2) (fun r3 =>
      Option.bind (f_sx_within N  r3 x6 0 ((r3 3 3) - 1)) (fun r5 =>
        tb (f_x_need N r3 r5) (fun r7 =>
          f_x_span_78 N   N r7 x1 x2 x3 x4 x5 x6 0 0 0 0))))
def f_x_span_36 (N : Nat)   (μ : sw_M) (x1 : Int32) (x2 : Int32) (x3 : Int32) (x4 : Int32) (x5 : Int32) (x6 : Int32) : Option ((Int32 × sw_M) ⊕ (String × sw_M)) :=
  f_x_span_37 N    μ x1 x2 x3 x4 x5 x6 0
def f_x_span (N : Nat)  (μ : sw_M) (a1 : Int32) (a2 : Int32) (a3 : Int32) (a4 : Int32) (a5 : Int32) (a6 : Int32) : Option ((Int32 × sw_M) ⊕ (String × sw_M)) :=
  Option.bind (f_sx_within N  μ a2 1 20) (fun r1 =>
    if r1 = 0 then
      f_x_span_36 N    μ a1 a2 a3 a4 a5 a6
    else
      Option.bind (f_sx_within N  μ a3 0 16) (fun r3 =>
        if r3 = 0 then
          f_x_span_36 N    μ a1 a2 a3 a4 a5 a6
        else
          Option.bind (f_sx_within N  μ a4 1 96) (fun r5 =>
            if r5 = 0 then
              f_x_span_36 N    μ a1 a2 a3 a4 a5 a6
            else
              f_x_span_37 N    μ a1 a2 a3 a4 a5 a6 1)))
set_option maxRecDepth 100000 in
set_option maxHeartbeats 4000000 in
theorem ok_f_x_span_154 {G : sw_G} {ad : Nat → Nat} {ν : sw_N}   {N : Nat} {o : (Int32 × sw_M) ⊕ (String × sw_M)} (g : sw_ok G cX10_span "DeadWires" (some .int) 10 3 18 ad) (hm : G.2.2.1.2.1.maxLocals = 12) (htab : ∀ x ∈ G.2.2.1.2.1.exceptionTable.toList, False)  (ho : sw_out G 3 18 (fun a => a = ad) (xo_i o).1 lay0 (xo_i o).2 ν) (k_78 : sw_M → Int32 → Int32 → Int32 → Int32 → Int32 → Int32 → Int32 → Int32 → Int32 → Int32 → Option ((Int32 × sw_M) ⊕ (String × sw_M))) (hk_78 : ∀ (μ : sw_M) (x1 : Int32) (x2 : Int32) (x3 : Int32) (x4 : Int32) (x5 : Int32) (x6 : Int32) (x7 : Int32) (x8 : Int32) (x9 : Int32) (x10 : Int32), k_78 μ x1 x2 x3 x4 x5 x6 x7 x8 x9 x10 = some o → SW G ad lay0 ν 3 18 78 [some (.ref 0), some (.int x1), some (.int x2), some (.int x3), some (.int x4), some (.int x5), some (.int x6), some (.int x7), some (.int x8), some (.int x9), some (.int x10), none] [] μ) (μ : sw_M) (x1 : Int32) (x2 : Int32) (x3 : Int32) (x4 : Int32) (x5 : Int32) (x6 : Int32) (x7 : Int32) (x8 : Int32) (x10 : Int32) (s0 : Int32) (s1 : Int32) (h : f_x_span_154 N  k_78  μ x1 x2 x3 x4 x5 x6 x7 x8 x10 s0 s1 = some o) : SW G ad lay0 ν 3 18 154 [some (.ref 0), some (.int x1), some (.int x2), some (.int x3), some (.int x4), some (.int x5), some (.int x6), some (.int x7), some (.int x8), none, some (.int x10), none] [.int s0, .int s1] μ := by
  unfold f_x_span_154 at h
  refine SW.iadd (pc := 154) g (dt dt_X10_span 78 rfl) ?_
  refine SW.istore (pc := 155) g (dt dt_X10_span 79 rfl) (sw_ltm hm (Nat.le_of_ble_eq_true rfl)) rfl ?_
  refine SW.genL h (fun y1 h => ?_)
  refine SW.iinc (pc := 157) (v := x10 + 1) g (dt dt_X10_span 80 rfl) rfl (kn_1 _) (sw_ltm hm (Nat.le_of_ble_eq_true rfl)) rfl ?_
  refine SW.goto (pc := 160) (t := 78) g (dt dt_X10_span 81 rfl) rfl ?_
  refine SW.msk [true, true, true, true, true, true, true, true, true, true, true, false] ?_
  exact hk_78 μ x1 x2 x3 x4 x5 x6 x7 x8 y1 (x10 + 1) h
set_option maxRecDepth 100000 in
set_option maxHeartbeats 4000000 in
theorem ok_f_x_span_124 {G : sw_G} {ad : Nat → Nat} {ν : sw_N}   {N : Nat} {o : (Int32 × sw_M) ⊕ (String × sw_M)} (g : sw_ok G cX10_span "DeadWires" (some .int) 10 3 18 ad) (hm : G.2.2.1.2.1.maxLocals = 12) (htab : ∀ x ∈ G.2.2.1.2.1.exceptionTable.toList, False)  (ho : sw_out G 3 18 (fun a => a = ad) (xo_i o).1 lay0 (xo_i o).2 ν) (k_78 : sw_M → Int32 → Int32 → Int32 → Int32 → Int32 → Int32 → Int32 → Int32 → Int32 → Int32 → Option ((Int32 × sw_M) ⊕ (String × sw_M))) (hk_78 : ∀ (μ : sw_M) (x1 : Int32) (x2 : Int32) (x3 : Int32) (x4 : Int32) (x5 : Int32) (x6 : Int32) (x7 : Int32) (x8 : Int32) (x9 : Int32) (x10 : Int32), k_78 μ x1 x2 x3 x4 x5 x6 x7 x8 x9 x10 = some o → SW G ad lay0 ν 3 18 78 [some (.ref 0), some (.int x1), some (.int x2), some (.int x3), some (.int x4), some (.int x5), some (.int x6), some (.int x7), some (.int x8), some (.int x9), some (.int x10), none] [] μ) (μ : sw_M) (x1 : Int32) (x2 : Int32) (x3 : Int32) (x4 : Int32) (x5 : Int32) (x6 : Int32) (x8 : Int32) (x9 : Int32) (x10 : Int32) (x11 : Int32) (s0 : Int32) (h : f_x_span_124 N  k_78  μ x1 x2 x3 x4 x5 x6 x8 x9 x10 x11 s0 = some o) : SW G ad lay0 ν 3 18 124 [some (.ref 0), some (.int x1), some (.int x2), some (.int x3), some (.int x4), some (.int x5), some (.int x6), none, some (.int x8), some (.int x9), some (.int x10), some (.int x11)] [.int s0] μ := by
  unfold f_x_span_124 at h
  refine SW.istore (pc := 124) g (dt dt_X10_span 64 rfl) (sw_ltm hm (Nat.le_of_ble_eq_true rfl)) rfl ?_
  refine SW.iload (pc := 126) g (dt dt_X10_span 65 rfl) rfl ?_
  refine SW.iload (pc := 128) g (dt dt_X10_span 66 rfl) rfl ?_
  refine SW.mmax (pc := 130) g (dt dt_X10_span 67 rfl) ml_X10_401 ms_J9_max_7cf53 mt_init me_J9_max_7cf53.1 (Nat.le_of_ble_eq_true rfl) (Nat.le_of_ble_eq_true rfl) (Nat.le_of_ble_eq_true rfl) (Nat.le_of_ble_eq_true rfl) ?_
  refine SW.istore (pc := 133) g (dt dt_X10_span 68 rfl) (sw_ltm hm (Nat.le_of_ble_eq_true rfl)) rfl ?_
  refine SW.genL h (fun y1 h => ?_)
  refine SW.iload (pc := 135) g (dt dt_X10_span 69 rfl) rfl ?_
  refine SW.aload_n (pc := 137) g (dt dt_X10_span 70 rfl) rfl ?_
  refine SW.getR (pc := 138) g (dt dt_X10_span 71 rfl) fl_X10_90 cell_0 rfl ?_
  refine SW.iload (pc := 141) g (dt dt_X10_span 72 rfl) rfl ?_
  obtain ⟨r2, h3, h⟩ := bindI h
  refine SW.callVi (pc := 143) g (dt dt_X10_span 73 rfl) (mt_f_autm_isElsewhere _ _ _ _ ad ν   N μ x6 r2 h3) me_X0_isElsewhere mv_X0_isElsewhere ml_X10_404 cell_55 rfl rfl (Nat.le_of_ble_eq_true rfl) (Nat.le_of_ble_eq_true rfl) (Nat.le_of_ble_eq_true rfl) (Nat.le_of_ble_eq_true rfl) rfl ?_
  refine SW.if_eq (pc := 146) (t := 153) g (dt dt_X10_span 74 rfl) rfl (fun hc => ?_) (fun hc => ?_)
  · have h := iteT hc h
    refine SW.iconst (pc := 153) (v := 0) g (dt dt_X10_span 77 rfl) ki_0 ?_
    refine SW.msk [true, true, true, true, true, true, true, true, true, false, true, false] ?_
    exact ok_f_x_span_154  g hm htab  ho k_78 hk_78  μ x1 x2 x3 x4 x5 x6 s0 y1 x10 0 x9 h
  · have h := iteF hc h
    refine SW.iconst (pc := 149) (v := 1) g (dt dt_X10_span 75 rfl) ki_1 ?_
    refine SW.goto (pc := 150) (t := 154) g (dt dt_X10_span 76 rfl) rfl ?_
    refine SW.msk [true, true, true, true, true, true, true, true, true, false, true, false] ?_
    exact ok_f_x_span_154  g hm htab  ho k_78 hk_78  μ x1 x2 x3 x4 x5 x6 s0 y1 x10 1 x9 h
set_option maxRecDepth 100000 in
set_option maxHeartbeats 4000000 in
theorem ok_f_x_span_78 {G : sw_G} {ad : Nat → Nat} {ν : sw_N}   {N : Nat} {o : (Int32 × sw_M) ⊕ (String × sw_M)} (g : sw_ok G cX10_span "DeadWires" (some .int) 10 3 18 ad) (hm : G.2.2.1.2.1.maxLocals = 12) (htab : ∀ x ∈ G.2.2.1.2.1.exceptionTable.toList, False)  (ho : sw_out G 3 18 (fun a => a = ad) (xo_i o).1 lay0 (xo_i o).2 ν)  : ∀ (n : Nat) (μ : sw_M) (x1 : Int32) (x2 : Int32) (x3 : Int32) (x4 : Int32) (x5 : Int32) (x6 : Int32) (x7 : Int32) (x8 : Int32) (x9 : Int32) (x10 : Int32) (h : f_x_span_78 N   n μ x1 x2 x3 x4 x5 x6 x7 x8 x9 x10 = some o), SW G ad lay0 ν 3 18 78 [some (.ref 0), some (.int x1), some (.int x2), some (.int x3), some (.int x4), some (.int x5), some (.int x6), some (.int x7), some (.int x8), some (.int x9), some (.int x10), none] [] μ := by
  intro n
  induction n with
  | zero => intro μ x1 x2 x3 x4 x5 x6 x7 x8 x9 x10 h; simp only [f_x_span_78] at h; cases h
  | succ n ih =>
    intro μ x1 x2 x3 x4 x5 x6 x7 x8 x9 x10 h
    unfold f_x_span_78 at h
    refine SW.iload (pc := 78) g (dt dt_X10_span 42 rfl) rfl ?_
    refine SW.iload_n (pc := 80) g (dt dt_X10_span 43 rfl) rfl ?_
    refine SW.icmp_ge (pc := 81) (t := 163) g (dt dt_X10_span 44 rfl) rfl (fun hc => ?_) (fun hc => ?_)
    · have h := iteT hc h
      refine SW.iload (pc := 163) g (dt dt_X10_span 82 rfl) rfl ?_
      refine SW.if_ne (pc := 165) (t := 171) g (dt dt_X10_span 83 rfl) rfl (fun hc => ?_) (fun hc => ?_)
      · have h := iteF hc h
        refine SW.iload (pc := 171) g (dt dt_X10_span 86 rfl) rfl ?_
        refine SW.iconst (pc := 173) (v := 1) g (dt dt_X10_span 87 rfl) ki_1 ?_
        refine SW.icmp_ne (pc := 174) (t := 182) g (dt dt_X10_span 88 rfl) rfl (fun hc => ?_) (fun hc => ?_)
        · have h := iteF hc h
          refine SW.iload (pc := 182) g (dt dt_X10_span 91 rfl) rfl ?_
          exact SW.ireturn (pc := 184) g (leafXi h ho) rfl (Nat.le_of_ble_eq_true rfl) (Nat.le_of_ble_eq_true rfl) (dt dt_X10_span 92 rfl)
        · have h := iteT hc h
          refine SW.iload (pc := 177) g (dt dt_X10_span 89 rfl) rfl ?_
          refine SW.goto (pc := 179) (t := 184) g (dt dt_X10_span 90 rfl) rfl ?_
          exact SW.ireturn (pc := 184) g (leafXi h ho) rfl (Nat.le_of_ble_eq_true rfl) (Nat.le_of_ble_eq_true rfl) (dt dt_X10_span 92 rfl)
      · have h := iteT hc h
        refine SW.iload (pc := 168) g (dt dt_X10_span 84 rfl) rfl ?_
        exact SW.ireturn (pc := 170) g (leafXi h ho) rfl (Nat.le_of_ble_eq_true rfl) (Nat.le_of_ble_eq_true rfl) (dt dt_X10_span 85 rfl)
    · have h := iteF hc h
      refine SW.aload_n (pc := 84) g (dt dt_X10_span 45 rfl) rfl ?_
      refine SW.getR (pc := 85) g (dt dt_X10_span 46 rfl) fl_X10_90 cell_0 rfl ?_
      refine SW.iload_n (pc := 88) g (dt dt_X10_span 47 rfl) rfl ?_
      refine SW.iload (pc := 89) g (dt dt_X10_span 48 rfl) rfl ?_
      refine SW.iadd (pc := 91) g (dt dt_X10_span 49 rfl) ?_
      refine SW.iload_n (pc := 92) g (dt dt_X10_span 50 rfl) rfl ?_
      refine SW.iload (pc := 93) g (dt dt_X10_span 51 rfl) rfl ?_
      obtain ⟨r1, h2, h⟩ := bindI h
      refine SW.callVv (pc := 95) g (dt dt_X10_span 52 rfl) (mt_f_autm_go _ _ _ _ ad ν   N μ (x1 + x10) x3 x4 r1 h2) me_X0_go mv_X0_go ml_X10_392 cell_55 rfl rfl (Nat.le_of_ble_eq_true rfl) (Nat.le_of_ble_eq_true rfl) (Nat.le_of_ble_eq_true rfl) (Nat.le_of_ble_eq_true rfl) rfl ?_
      refine SW.aload_n (pc := 98) g (dt dt_X10_span 53 rfl) rfl ?_
      refine SW.getR (pc := 99) g (dt dt_X10_span 54 rfl) fl_X10_90 cell_0 rfl ?_
      obtain ⟨r3, h4, h⟩ := bindI h
      refine SW.callVi (pc := 102) g (dt dt_X10_span 55 rfl) (mt_f_autm_crossings _ _ _ _ ad ν   N r1  r3 h4) me_X0_crossings mv_X0_crossings ml_X10_396 cell_55 rfl rfl (Nat.le_of_ble_eq_true rfl) (Nat.le_of_ble_eq_true rfl) (Nat.le_of_ble_eq_true rfl) (Nat.le_of_ble_eq_true rfl) rfl ?_
      refine SW.istore (pc := 105) g (dt dt_X10_span 56 rfl) (sw_ltm hm (Nat.le_of_ble_eq_true rfl)) rfl ?_
      refine SW.iload (pc := 107) g (dt dt_X10_span 57 rfl) rfl ?_
      refine SW.if_ne (pc := 109) (t := 117) g (dt dt_X10_span 58 rfl) rfl (fun hc => ?_) (fun hc => ?_)
      · have h := iteF hc h
        refine SW.iload (pc := 117) g (dt dt_X10_span 61 rfl) rfl ?_
        refine SW.iload (pc := 119) g (dt dt_X10_span 62 rfl) rfl ?_
        refine SW.mmin (pc := 121) g (dt dt_X10_span 63 rfl) ml_X10_369 ms_J9_min_7cf53 mt_init me_J9_min_7cf53.1 (Nat.le_of_ble_eq_true rfl) (Nat.le_of_ble_eq_true rfl) (Nat.le_of_ble_eq_true rfl) (Nat.le_of_ble_eq_true rfl) ?_
        refine SW.msk [true, true, true, true, true, true, true, false, true, true, true, true] ?_
        exact ok_f_x_span_124  g hm htab  ho (f_x_span_78 N   n) ih  r1 x1 x2 x3 x4 x5 x6 x8 x9 x10 r3 (if r3 < x7 then r3 else x7) h
      · have h := iteT hc h
        refine SW.iload (pc := 112) g (dt dt_X10_span 59 rfl) rfl ?_
        refine SW.goto (pc := 114) (t := 124) g (dt dt_X10_span 60 rfl) rfl ?_
        refine SW.msk [true, true, true, true, true, true, true, false, true, true, true, true] ?_
        exact ok_f_x_span_124  g hm htab  ho (f_x_span_78 N   n) ih  r1 x1 x2 x3 x4 x5 x6 x8 x9 x10 r3 r3 h
set_option maxRecDepth 100000 in
set_option maxHeartbeats 4000000 in
theorem ok_f_x_span_37 {G : sw_G} {ad : Nat → Nat} {ν : sw_N}   {N : Nat} {o : (Int32 × sw_M) ⊕ (String × sw_M)} (g : sw_ok G cX10_span "DeadWires" (some .int) 10 3 18 ad) (hm : G.2.2.1.2.1.maxLocals = 12) (htab : ∀ x ∈ G.2.2.1.2.1.exceptionTable.toList, False)  (ho : sw_out G 3 18 (fun a => a = ad) (xo_i o).1 lay0 (xo_i o).2 ν)  (μ : sw_M) (x1 : Int32) (x2 : Int32) (x3 : Int32) (x4 : Int32) (x5 : Int32) (x6 : Int32) (s0 : Int32) (h : f_x_span_37 N    μ x1 x2 x3 x4 x5 x6 s0 = some o) : SW G ad lay0 ν 0 0 37 [some (.ref 0), some (.int x1), some (.int x2), some (.int x3), some (.int x4), some (.int x5), some (.int x6), none, none, none, none, none] [.int s0, .ref 0] μ := by
  unfold f_x_span_37 at h
  rcases tbI h with ⟨r1, h2, h⟩ | ⟨r1, h2, rfl⟩
  · refine SW.callXr (pc := 37) (r := none) g (dt dt_X10_span 19 rfl) (mtx_f_x_need _ _ _ _ ad ν N μ s0 (.inl r1) h2) me_X10_need mv_X10_need ml_X10_289 cell_0 rfl rfl (Nat.le_of_ble_eq_true rfl) (Nat.le_of_ble_eq_true rfl) (Nat.le_of_ble_eq_true rfl) (Nat.le_of_ble_eq_true rfl) rfl rfl ?_
    refine SW.aload_n (pc := 40) g (dt dt_X10_span 20 rfl) rfl ?_
    refine SW.iload (pc := 41) g (dt dt_X10_span 21 rfl) rfl ?_
    refine SW.iconst (pc := 43) (v := 2) g (dt dt_X10_span 22 rfl) ki_2 ?_
    rcases tbI h with ⟨r3, h4, h⟩ | ⟨r3, h4, rfl⟩
    · refine SW.callXr (pc := 44) (r := none) g (dt dt_X10_span 23 rfl) (mtx_f_x_needWhat _ _ _ _ ad ν N r1 x5 2 (.inl r3) h4) me_X10_needWhat mv_X10_needWhat ml_X10_171 cell_0 rfl rfl (Nat.le_of_ble_eq_true rfl) (Nat.le_of_ble_eq_true rfl) (Nat.le_of_ble_eq_true rfl) (Nat.le_of_ble_eq_true rfl) rfl rfl ?_
      refine SW.aload_n (pc := 47) g (dt dt_X10_span 24 rfl) rfl ?_
      refine SW.iload (pc := 48) g (dt dt_X10_span 25 rfl) rfl ?_
      refine SW.iconst (pc := 50) (v := 0) g (dt dt_X10_span 26 rfl) ki_0 ?_
      refine SW.aload_n (pc := 51) g (dt dt_X10_span 27 rfl) rfl ?_
      refine SW.getR (pc := 52) g (dt dt_X10_span 28 rfl) fl_X10_19 cell_0 rfl ?_
      refine SW.getI (pc := 55) g (dt dt_X10_span 29 rfl) fl_X10_180 cell_3 rfl ?_
      refine SW.iconst (pc := 58) (v := 1) g (dt dt_X10_span 30 rfl) ki_1 ?_
      refine SW.isub (pc := 59) g (dt dt_X10_span 31 rfl) ?_
      obtain ⟨r5, h6, h⟩ := bindI h
      refine SW.callSi (pc := 60) g (dt dt_X10_span 32 rfl) (mt_f_sx_within _ _ _ _ ad ν lay0   N r3 x6 0 ((r3 3 3) - 1) r5 h6) me_X10_within ms_X10_within ml_X10_250 rfl (Nat.le_of_ble_eq_true rfl) (Nat.le_of_ble_eq_true rfl) (Nat.le_of_ble_eq_true rfl) (Nat.le_of_ble_eq_true rfl) rfl ?_
      rcases tbI h with ⟨r7, h8, h⟩ | ⟨r7, h8, rfl⟩
      · refine SW.callXr (pc := 63) (r := none) g (dt dt_X10_span 33 rfl) (mtx_f_x_need _ _ _ _ ad ν N r3 r5 (.inl r7) h8) me_X10_need mv_X10_need ml_X10_289 cell_0 rfl rfl (Nat.le_of_ble_eq_true rfl) (Nat.le_of_ble_eq_true rfl) (Nat.le_of_ble_eq_true rfl) (Nat.le_of_ble_eq_true rfl) rfl rfl ?_
        refine SW.iconst (pc := 66) (v := 0) g (dt dt_X10_span 34 rfl) ki_0 ?_
        refine SW.istore (pc := 67) g (dt dt_X10_span 35 rfl) (sw_ltm hm (Nat.le_of_ble_eq_true rfl)) rfl ?_
        refine SW.iconst (pc := 69) (v := 0) g (dt dt_X10_span 36 rfl) ki_0 ?_
        refine SW.istore (pc := 70) g (dt dt_X10_span 37 rfl) (sw_ltm hm (Nat.le_of_ble_eq_true rfl)) rfl ?_
        refine SW.iconst (pc := 72) (v := 0) g (dt dt_X10_span 38 rfl) ki_0 ?_
        refine SW.istore (pc := 73) g (dt dt_X10_span 39 rfl) (sw_ltm hm (Nat.le_of_ble_eq_true rfl)) rfl ?_
        refine SW.iconst (pc := 75) (v := 0) g (dt dt_X10_span 40 rfl) ki_0 ?_
        refine SW.istore (pc := 76) g (dt dt_X10_span 41 rfl) (sw_ltm hm (Nat.le_of_ble_eq_true rfl)) rfl ?_
        refine SW.msk [true, true, true, true, true, true, true, true, true, true, true, false] ?_
        exact ok_f_x_span_78  g hm htab  ho   N r7 x1 x2 x3 x4 x5 x6 0 0 0 0 h
      · exact SW.callXt (pc := 63) g (dt dt_X10_span 33 rfl) ho rfl htab (mtx_f_x_need _ _ _ _ ad ν N r3 r5 (.inr r7) h8) me_X10_need mv_X10_need ml_X10_289 cell_0 rfl rfl (Nat.le_of_ble_eq_true rfl) (Nat.le_of_ble_eq_true rfl) (Nat.le_of_ble_eq_true rfl) (Nat.le_of_ble_eq_true rfl) rfl
    · exact SW.callXt (pc := 44) g (dt dt_X10_span 23 rfl) ho rfl htab (mtx_f_x_needWhat _ _ _ _ ad ν N r1 x5 2 (.inr r3) h4) me_X10_needWhat mv_X10_needWhat ml_X10_171 cell_0 rfl rfl (Nat.le_of_ble_eq_true rfl) (Nat.le_of_ble_eq_true rfl) (Nat.le_of_ble_eq_true rfl) (Nat.le_of_ble_eq_true rfl) rfl
  · exact SW.callXt (pc := 37) g (dt dt_X10_span 19 rfl) ho rfl htab (mtx_f_x_need _ _ _ _ ad ν N μ s0 (.inr r1) h2) me_X10_need mv_X10_need ml_X10_289 cell_0 rfl rfl (Nat.le_of_ble_eq_true rfl) (Nat.le_of_ble_eq_true rfl) (Nat.le_of_ble_eq_true rfl) (Nat.le_of_ble_eq_true rfl) rfl
set_option maxRecDepth 100000 in
set_option maxHeartbeats 4000000 in
theorem ok_f_x_span_36 {G : sw_G} {ad : Nat → Nat} {ν : sw_N}   {N : Nat} {o : (Int32 × sw_M) ⊕ (String × sw_M)} (g : sw_ok G cX10_span "DeadWires" (some .int) 10 3 18 ad) (hm : G.2.2.1.2.1.maxLocals = 12) (htab : ∀ x ∈ G.2.2.1.2.1.exceptionTable.toList, False)  (ho : sw_out G 3 18 (fun a => a = ad) (xo_i o).1 lay0 (xo_i o).2 ν)  (μ : sw_M) (x1 : Int32) (x2 : Int32) (x3 : Int32) (x4 : Int32) (x5 : Int32) (x6 : Int32) (h : f_x_span_36 N    μ x1 x2 x3 x4 x5 x6 = some o) : SW G ad lay0 ν 0 0 36 [some (.ref 0), some (.int x1), some (.int x2), some (.int x3), some (.int x4), some (.int x5), some (.int x6), none, none, none, none, none] [.ref 0] μ := by
  unfold f_x_span_36 at h
  refine SW.iconst (pc := 36) (v := 0) g (dt dt_X10_span 18 rfl) ki_0 ?_
  refine SW.msk [true, true, true, true, true, true, true, false, false, false, false, false] ?_
  exact ok_f_x_span_37  g hm htab  ho    μ x1 x2 x3 x4 x5 x6 0 h
set_option maxRecDepth 100000 in
set_option maxHeartbeats 4000000 in
theorem ok_f_x_span {G : sw_G} {ad : Nat → Nat} {ν : sw_N}   {N : Nat} {o : (Int32 × sw_M) ⊕ (String × sw_M)} (g : sw_ok G cX10_span "DeadWires" (some .int) 10 3 18 ad) (hm : G.2.2.1.2.1.maxLocals = 12) (htab : ∀ x ∈ G.2.2.1.2.1.exceptionTable.toList, False)  (μ : sw_M) (ho : sw_out G 3 18 (fun a => a = ad) (xo_i o).1 lay0 (xo_i o).2 ν) (a1 : Int32) (a2 : Int32) (a3 : Int32) (a4 : Int32) (a5 : Int32) (a6 : Int32) (h : f_x_span N  μ a1 a2 a3 a4 a5 a6 = some o) : SW G ad lay0 ν 0 0 0 [some (.ref 0), some (.int a1), some (.int a2), some (.int a3), some (.int a4), some (.int a5), some (.int a6), none, none, none, none, none] [] μ := by
  unfold f_x_span at h
  refine SW.aload_n (pc := 0) g (dt dt_X10_span 0 rfl) rfl ?_
  refine SW.iload_n (pc := 1) g (dt dt_X10_span 1 rfl) rfl ?_
  refine SW.iconst (pc := 2) (v := 1) g (dt dt_X10_span 2 rfl) ki_1 ?_
  refine SW.bipush (pc := 3) (v := 20) g (dt dt_X10_span 3 rfl) kb_20 ?_
  obtain ⟨r1, h2, h⟩ := bindI h
  refine SW.callSi (pc := 5) g (dt dt_X10_span 4 rfl) (mt_f_sx_within _ _ _ _ ad ν lay0   N μ a2 1 20 r1 h2) me_X10_within ms_X10_within ml_X10_250 rfl (Nat.le_of_ble_eq_true rfl) (Nat.le_of_ble_eq_true rfl) (Nat.le_of_ble_eq_true rfl) (Nat.le_of_ble_eq_true rfl) rfl ?_
  refine SW.if_eq (pc := 8) (t := 36) g (dt dt_X10_span 5 rfl) rfl (fun hc => ?_) (fun hc => ?_)
  · have h := iteT hc h
    refine SW.msk [true, true, true, true, true, true, true, false, false, false, false, false] ?_
    exact ok_f_x_span_36  g hm htab  ho    μ a1 a2 a3 a4 a5 a6 h
  · have h := iteF hc h
    refine SW.iload_n (pc := 11) g (dt dt_X10_span 6 rfl) rfl ?_
    refine SW.iconst (pc := 12) (v := 0) g (dt dt_X10_span 7 rfl) ki_0 ?_
    refine SW.bipush (pc := 13) (v := 16) g (dt dt_X10_span 8 rfl) kb_16 ?_
    obtain ⟨r3, h4, h⟩ := bindI h
    refine SW.callSi (pc := 15) g (dt dt_X10_span 9 rfl) (mt_f_sx_within _ _ _ _ ad ν lay0   N μ a3 0 16 r3 h4) me_X10_within ms_X10_within ml_X10_250 rfl (Nat.le_of_ble_eq_true rfl) (Nat.le_of_ble_eq_true rfl) (Nat.le_of_ble_eq_true rfl) (Nat.le_of_ble_eq_true rfl) rfl ?_
    refine SW.if_eq (pc := 18) (t := 36) g (dt dt_X10_span 10 rfl) rfl (fun hc => ?_) (fun hc => ?_)
    · have h := iteT hc h
      refine SW.msk [true, true, true, true, true, true, true, false, false, false, false, false] ?_
      exact ok_f_x_span_36  g hm htab  ho    μ a1 a2 a3 a4 a5 a6 h
    · have h := iteF hc h
      refine SW.iload (pc := 21) g (dt dt_X10_span 11 rfl) rfl ?_
      refine SW.iconst (pc := 23) (v := 1) g (dt dt_X10_span 12 rfl) ki_1 ?_
      refine SW.bipush (pc := 24) (v := 96) g (dt dt_X10_span 13 rfl) kb_96 ?_
      obtain ⟨r5, h6, h⟩ := bindI h
      refine SW.callSi (pc := 26) g (dt dt_X10_span 14 rfl) (mt_f_sx_within _ _ _ _ ad ν lay0   N μ a4 1 96 r5 h6) me_X10_within ms_X10_within ml_X10_250 rfl (Nat.le_of_ble_eq_true rfl) (Nat.le_of_ble_eq_true rfl) (Nat.le_of_ble_eq_true rfl) (Nat.le_of_ble_eq_true rfl) rfl ?_
      refine SW.if_eq (pc := 29) (t := 36) g (dt dt_X10_span 15 rfl) rfl (fun hc => ?_) (fun hc => ?_)
      · have h := iteT hc h
        refine SW.msk [true, true, true, true, true, true, true, false, false, false, false, false] ?_
        exact ok_f_x_span_36  g hm htab  ho    μ a1 a2 a3 a4 a5 a6 h
      · have h := iteF hc h
        refine SW.iconst (pc := 32) (v := 1) g (dt dt_X10_span 16 rfl) ki_1 ?_
        refine SW.goto (pc := 33) (t := 37) g (dt dt_X10_span 17 rfl) rfl ?_
        refine SW.msk [true, true, true, true, true, true, true, false, false, false, false, false] ?_
        exact ok_f_x_span_37  g hm htab  ho    μ a1 a2 a3 a4 a5 a6 1 h
set_option maxRecDepth 100000 in
set_option maxHeartbeats 4000000 in
theorem mtx_f_x_span (l : Launch) (D : va_G) (cI cL : ClassId) (ad : Nat → Nat) (ν : sw_N) (N : Nat) (μ : sw_M) (a1 : Int32) (a2 : Int32) (a3 : Int32) (a4 : Int32) (a5 : Int32) (a6 : Int32) (o : (Int32 × sw_M) ⊕ (String × sw_M)) (h : f_x_span N μ a1 a2 a3 a4 a5 a6 = some o) : MetX l D cI cL yX10_span cX10_span 12 (some .int) 10 3 18 (fun a => a = ad) ad [.ref 0, .int a1, .int a2, .int a3, .int a4, .int a5, .int a6] lay0 μ ν (xo_i o).1 lay0 (xo_i o).2 ν :=
  MetX.of (n := 5) rfl (Nat.le_of_ble_eq_true rfl) (fun G g ho hm htab => ok_f_x_span  g hm htab  μ ho a1 a2 a3 a4 a5 a6 h)
def f_x_image (N : Nat)  (μ : sw_M)  : Option (Int32 × sw_M) :=
  if (μ 45 5) < 3 then
    Option.bind (f_shelf_keepImage N  μ ) (fun r1 =>
      some (r1 45 5, r1))
  else
    some ((-1), μ)
set_option maxRecDepth 100000 in
set_option maxHeartbeats 4000000 in
theorem ok_f_x_image {G : sw_G} {ad : Nat → Nat} {ν : sw_N}   {N : Nat} {o : Int32 × sw_M} (g : sw_ok G cX10_image "DeadWires" (some .int) 4 0 0 ad) (hm : G.2.2.1.2.1.maxLocals = 1)  (μ : sw_M) (ho : sw_out G 0 0 (fun a => a = ad) (.inl (some (.int o.1))) lay0 o.2 ν)  (h : f_x_image N  μ  = some o) : SW G ad lay0 ν 0 0 0 [some (.ref 0)] [] μ := by
  unfold f_x_image at h
  refine SW.aload_n (pc := 0) g (dt dt_X10_image 0 rfl) rfl ?_
  refine SW.getR (pc := 1) g (dt dt_X10_image 1 rfl) fl_X10_67 cell_0 rfl ?_
  refine SW.getI (pc := 4) g (dt dt_X10_image 2 rfl) fl_X10_407 cell_45 rfl ?_
  refine SW.iconst (pc := 7) (v := 3) g (dt dt_X10_image 3 rfl) ki_3 ?_
  refine SW.icmp_lt (pc := 8) (t := 13) g (dt dt_X10_image 4 rfl) rfl (fun hc => ?_) (fun hc => ?_)
  · have h := iteT hc h
    refine SW.aload_n (pc := 13) g (dt dt_X10_image 7 rfl) rfl ?_
    refine SW.getR (pc := 14) g (dt dt_X10_image 8 rfl) fl_X10_67 cell_0 rfl ?_
    obtain ⟨r1, h2, h⟩ := bindI h
    refine SW.callVv (pc := 17) g (dt dt_X10_image 9 rfl) (mt_f_shelf_keepImage _ _ _ _ ad ν   N μ  r1 h2) me_X6_keepImage mv_X6_keepImage ml_X10_410 cell_45 rfl rfl (Nat.le_of_ble_eq_true rfl) (Nat.le_of_ble_eq_true rfl) (Nat.le_of_ble_eq_true rfl) (Nat.le_of_ble_eq_true rfl) rfl ?_
    refine SW.aload_n (pc := 20) g (dt dt_X10_image 10 rfl) rfl ?_
    refine SW.getR (pc := 21) g (dt dt_X10_image 11 rfl) fl_X10_67 cell_0 rfl ?_
    refine SW.getI (pc := 24) g (dt dt_X10_image 12 rfl) fl_X10_407 cell_45 rfl ?_
    exact SW.ireturn (pc := 27) g (leafW h ho) rfl (Nat.le_of_ble_eq_true rfl) (Nat.le_of_ble_eq_true rfl) (dt dt_X10_image 13 rfl)
  · have h := iteF hc h
    refine SW.iconst (pc := 11) (v := (-1)) g (dt dt_X10_image 5 rfl) ki_m1 ?_
    exact SW.ireturn (pc := 12) g (leafW h ho) rfl (Nat.le_of_ble_eq_true rfl) (Nat.le_of_ble_eq_true rfl) (dt dt_X10_image 6 rfl)
set_option maxRecDepth 100000 in
set_option maxHeartbeats 4000000 in
theorem mt_f_x_image (l : Launch) (D : va_G) (cI cL : ClassId) (ad : Nat → Nat) (ν : sw_N)    (N : Nat) (μ : sw_M)  (o : Int32 × sw_M) (h : f_x_image N  μ  = some o) : MetR l D cI cL yX10_image cX10_image 1 (some .int) 4 0 0 (fun a => a = ad) ad [.ref 0] lay0 μ ν (some (.int o.1)) lay0 o.2 ν :=
  MetR.of (n := 0) rfl (Nat.le_of_ble_eq_true rfl) (fun G g ho hm _ _ => ok_f_x_image  g hm  μ ho  h)
def f_x_restore (N : Nat)  (μ : sw_M)  : Option (Int32 × sw_M) :=
  if 0 < (μ 45 5) then
    Option.bind (f_shelf_bringImage N  μ ) (fun r1 =>
      wb (wr r1 41 8 0) (fun μ3 =>
        some (μ3 45 5, μ3)))
  else
    some ((-1), μ)
set_option maxRecDepth 100000 in
set_option maxHeartbeats 4000000 in
theorem ok_f_x_restore {G : sw_G} {ad : Nat → Nat} {ν : sw_N}   {N : Nat} {o : Int32 × sw_M} (g : sw_ok G cX10_restore "DeadWires" (some .int) 4 0 0 ad) (hm : G.2.2.1.2.1.maxLocals = 1)  (μ : sw_M) (ho : sw_out G 0 0 (fun a => a = ad) (.inl (some (.int o.1))) lay0 o.2 ν)  (h : f_x_restore N  μ  = some o) : SW G ad lay0 ν 0 0 0 [some (.ref 0)] [] μ := by
  unfold f_x_restore at h
  refine SW.aload_n (pc := 0) g (dt dt_X10_restore 0 rfl) rfl ?_
  refine SW.getR (pc := 1) g (dt dt_X10_restore 1 rfl) fl_X10_67 cell_0 rfl ?_
  refine SW.getI (pc := 4) g (dt dt_X10_restore 2 rfl) fl_X10_407 cell_45 rfl ?_
  refine SW.if_gt (pc := 7) (t := 12) g (dt dt_X10_restore 3 rfl) rfl (fun hc => ?_) (fun hc => ?_)
  · have h := iteT hc h
    refine SW.aload_n (pc := 12) g (dt dt_X10_restore 6 rfl) rfl ?_
    refine SW.getR (pc := 13) g (dt dt_X10_restore 7 rfl) fl_X10_67 cell_0 rfl ?_
    obtain ⟨r1, h2, h⟩ := bindI h
    refine SW.callVv (pc := 16) g (dt dt_X10_restore 8 rfl) (mt_f_shelf_bringImage _ _ _ _ ad ν   N μ  r1 h2) me_X6_bringImage mv_X6_bringImage ml_X10_413 cell_45 rfl rfl (Nat.le_of_ble_eq_true rfl) (Nat.le_of_ble_eq_true rfl) (Nat.le_of_ble_eq_true rfl) (Nat.le_of_ble_eq_true rfl) rfl ?_
    refine SW.aload_n (pc := 19) g (dt dt_X10_restore 9 rfl) rfl ?_
    refine SW.getR (pc := 20) g (dt dt_X10_restore 10 rfl) fl_X10_60 cell_0 rfl ?_
    refine SW.iconst (pc := 23) (v := 0) g (dt dt_X10_restore 11 rfl) ki_0 ?_
    refine SW.putI (pc := 24) g (dt dt_X10_restore 12 rfl) fl_X10_132 cell_41 rfl ?_
    refine SW.genM h (fun μ3 h => ?_)
    refine SW.aload_n (pc := 27) g (dt dt_X10_restore 13 rfl) rfl ?_
    refine SW.getR (pc := 28) g (dt dt_X10_restore 14 rfl) fl_X10_67 cell_0 rfl ?_
    refine SW.getI (pc := 31) g (dt dt_X10_restore 15 rfl) fl_X10_407 cell_45 rfl ?_
    exact SW.ireturn (pc := 34) g (leafW h ho) rfl (Nat.le_of_ble_eq_true rfl) (Nat.le_of_ble_eq_true rfl) (dt dt_X10_restore 16 rfl)
  · have h := iteF hc h
    refine SW.iconst (pc := 10) (v := (-1)) g (dt dt_X10_restore 4 rfl) ki_m1 ?_
    exact SW.ireturn (pc := 11) g (leafW h ho) rfl (Nat.le_of_ble_eq_true rfl) (Nat.le_of_ble_eq_true rfl) (dt dt_X10_restore 5 rfl)
set_option maxRecDepth 100000 in
set_option maxHeartbeats 4000000 in
theorem mt_f_x_restore (l : Launch) (D : va_G) (cI cL : ClassId) (ad : Nat → Nat) (ν : sw_N)    (N : Nat) (μ : sw_M)  (o : Int32 × sw_M) (h : f_x_restore N  μ  = some o) : MetR l D cI cL yX10_restore cX10_restore 1 (some .int) 4 0 0 (fun a => a = ad) ad [.ref 0] lay0 μ ν (some (.int o.1)) lay0 o.2 ν :=
  MetR.of (n := 0) rfl (Nat.le_of_ble_eq_true rfl) (fun G g ho hm _ _ => ok_f_x_restore  g hm  μ ho  h)
def f_x_status (N : Nat)  (μ : sw_M) (a1 : Int32) : Option (Int32) :=
  if a1 = 0 then
    some (μ 0 13)
  else
    if a1 = 1 then
      some (μ 0 14)
    else
      some (-1)
set_option maxRecDepth 100000 in
set_option maxHeartbeats 4000000 in
theorem ok_f_x_status {G : sw_G} {ad : Nat → Nat} {ν : sw_N}   {N : Nat} {o : Int32} (g : sw_ok G cX10_status "DeadWires" (some .int) 1 0 0 ad) (hm : G.2.2.1.2.1.maxLocals = 2)  (μ : sw_M) (ho : sw_out G 0 0 (fun a => a = ad) (.inl (some (.int o))) lay0 μ ν) (a1 : Int32) (h : f_x_status N  μ a1 = some o) : SW G ad lay0 ν 0 0 0 [some (.ref 0), some (.int a1)] [] μ := by
  unfold f_x_status at h
  refine SW.iload_n (pc := 0) g (dt dt_X10_status 0 rfl) rfl ?_
  refine SW.if_ne (pc := 1) (t := 9) g (dt dt_X10_status 1 rfl) rfl (fun hc => ?_) (fun hc => ?_)
  · have h := iteF hc h
    refine SW.iload_n (pc := 9) g (dt dt_X10_status 5 rfl) rfl ?_
    refine SW.iconst (pc := 10) (v := 1) g (dt dt_X10_status 6 rfl) ki_1 ?_
    refine SW.icmp_ne (pc := 11) (t := 21) g (dt dt_X10_status 7 rfl) rfl (fun hc => ?_) (fun hc => ?_)
    · have h := iteF hc h
      refine SW.iconst (pc := 21) (v := (-1)) g (dt dt_X10_status 11 rfl) ki_m1 ?_
      exact SW.ireturn (pc := 22) g (leafI h ho) rfl (Nat.le_of_ble_eq_true rfl) (Nat.le_of_ble_eq_true rfl) (dt dt_X10_status 12 rfl)
    · have h := iteT hc h
      refine SW.aload_n (pc := 14) g (dt dt_X10_status 8 rfl) rfl ?_
      refine SW.getI (pc := 15) g (dt dt_X10_status 9 rfl) fl_X10_419 cell_0 rfl ?_
      refine SW.goto (pc := 18) (t := 22) g (dt dt_X10_status 10 rfl) rfl ?_
      exact SW.ireturn (pc := 22) g (leafI h ho) rfl (Nat.le_of_ble_eq_true rfl) (Nat.le_of_ble_eq_true rfl) (dt dt_X10_status 12 rfl)
  · have h := iteT hc h
    refine SW.aload_n (pc := 4) g (dt dt_X10_status 2 rfl) rfl ?_
    refine SW.getI (pc := 5) g (dt dt_X10_status 3 rfl) fl_X10_416 cell_0 rfl ?_
    exact SW.ireturn (pc := 8) g (leafI h ho) rfl (Nat.le_of_ble_eq_true rfl) (Nat.le_of_ble_eq_true rfl) (dt dt_X10_status 4 rfl)
set_option maxRecDepth 100000 in
set_option maxHeartbeats 4000000 in
theorem mt_f_x_status (l : Launch) (D : va_G) (cI cL : ClassId) (ad : Nat → Nat) (ν : sw_N)    (N : Nat) (μ : sw_M) (a1 : Int32) (o : Int32) (h : f_x_status N  μ a1 = some o) : MetR l D cI cL yX10_status cX10_status 2 (some .int) 1 0 0 (fun a => a = ad) ad [.ref 0, .int a1] lay0 μ ν (some (.int o)) lay0 μ ν :=
  MetR.of (n := 0) rfl (Nat.le_of_ble_eq_true rfl) (fun G g ho hm _ _ => ok_f_x_status  g hm  μ ho a1 h)
def f_x_count (N : Nat)  (μ : sw_M) (a1 : Int32) : Option (Int32) :=
  if a1 = 0 then
    some (μ 45 5)
  else if a1 = 1 then
    some (μ 1 3)
  else if a1 = 2 then
    some (μ 45 4)
  else 
    some (-1)
set_option maxRecDepth 100000 in
set_option maxHeartbeats 4000000 in
theorem ok_f_x_count {G : sw_G} {ad : Nat → Nat} {ν : sw_N}   {N : Nat} {o : Int32} (g : sw_ok G cX10_count "DeadWires" (some .int) 1 0 0 ad) (hm : G.2.2.1.2.1.maxLocals = 2)  (μ : sw_M) (ho : sw_out G 0 0 (fun a => a = ad) (.inl (some (.int o))) lay0 μ ν) (a1 : Int32) (h : f_x_count N  μ a1 = some o) : SW G ad lay0 ν 0 0 0 [some (.ref 0), some (.int a1)] [] μ := by
  unfold f_x_count at h
  refine SW.iload_n (pc := 0) g (dt dt_X10_count 0 rfl) rfl ?_
  refine SW.tsw (pc := 1) (dn := 52) (tb := [(0, 28), (1, 36), (2, 44)]) g (dt dt_X10_count 1 rfl) (by decide) ?_
  refine sw_cons (fun hc => ?_) (fun hc => ?_)
  · have h := iteT hc h
    refine SW.aload_n (pc := 28) g (dt dt_X10_count 2 rfl) rfl ?_
    refine SW.getR (pc := 29) g (dt dt_X10_count 3 rfl) fl_X10_67 cell_0 rfl ?_
    refine SW.getI (pc := 32) g (dt dt_X10_count 4 rfl) fl_X10_407 cell_45 rfl ?_
    exact SW.ireturn (pc := 35) g (leafI h ho) rfl (Nat.le_of_ble_eq_true rfl) (Nat.le_of_ble_eq_true rfl) (dt dt_X10_count 5 rfl)
  · have h := iteF hc h
    refine sw_cons (fun hc => ?_) (fun hc => ?_)
    · have h := iteT hc h
      refine SW.aload_n (pc := 36) g (dt dt_X10_count 6 rfl) rfl ?_
      refine SW.getR (pc := 37) g (dt dt_X10_count 7 rfl) fl_X10_10 cell_0 rfl ?_
      refine SW.getI (pc := 40) g (dt dt_X10_count 8 rfl) fl_X10_102 cell_1 rfl ?_
      exact SW.ireturn (pc := 43) g (leafI h ho) rfl (Nat.le_of_ble_eq_true rfl) (Nat.le_of_ble_eq_true rfl) (dt dt_X10_count 9 rfl)
    · have h := iteF hc h
      refine sw_cons (fun hc => ?_) (fun hc => ?_)
      · have h := iteT hc h
        refine SW.aload_n (pc := 44) g (dt dt_X10_count 10 rfl) rfl ?_
        refine SW.getR (pc := 45) g (dt dt_X10_count 11 rfl) fl_X10_67 cell_0 rfl ?_
        refine SW.getI (pc := 48) g (dt dt_X10_count 12 rfl) fl_X10_142 cell_45 rfl ?_
        exact SW.ireturn (pc := 51) g (leafI h ho) rfl (Nat.le_of_ble_eq_true rfl) (Nat.le_of_ble_eq_true rfl) (dt dt_X10_count 13 rfl)
      · have h := iteF hc h
        change SW _ _ _ _ _ _ 52 _ _ _
        refine SW.iconst (pc := 52) (v := (-1)) g (dt dt_X10_count 14 rfl) ki_m1 ?_
        exact SW.ireturn (pc := 53) g (leafI h ho) rfl (Nat.le_of_ble_eq_true rfl) (Nat.le_of_ble_eq_true rfl) (dt dt_X10_count 15 rfl)
set_option maxRecDepth 100000 in
set_option maxHeartbeats 4000000 in
theorem mt_f_x_count (l : Launch) (D : va_G) (cI cL : ClassId) (ad : Nat → Nat) (ν : sw_N)    (N : Nat) (μ : sw_M) (a1 : Int32) (o : Int32) (h : f_x_count N  μ a1 = some o) : MetR l D cI cL yX10_count cX10_count 2 (some .int) 1 0 0 (fun a => a = ad) ad [.ref 0, .int a1] lay0 μ ν (some (.int o)) lay0 μ ν :=
  MetR.of (n := 0) rfl (Nat.le_of_ble_eq_true rfl) (fun G g ho hm _ _ => ok_f_x_count  g hm  μ ho a1 h)
