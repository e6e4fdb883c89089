/-! ===== by program (wip/whole/all.py): functions over the memory, and that the machine does just that ===== -/
def f_shelf_back (N : Nat)  (μ : sw_M)  : Option (sw_M) :=
  if (μ 45 4) ≤ 0 then
    some μ
  else
    wb (wr μ 45 4 ((μ 45 4) - 1)) (fun μ1 =>
      Option.bind (f_days_load N 46 608 μ1 (μ1 45 4)) (fun r2 =>
        some r2))
set_option maxRecDepth 100000 in
set_option maxHeartbeats 4000000 in
theorem ok_f_shelf_back {G : sw_G} {ad : Nat → Nat} {ν : sw_N}   {N : Nat} {o : sw_M} (g : sw_ok G cX6_back "DeadWires$Shelf" none 3 0 0 ad) (hm : G.2.2.1.2.1.maxLocals = 1)  (μ : sw_M) (ho : sw_out G 0 0 (fun a => a = ad) (.inl none) lay0 o ν)  (h : f_shelf_back N  μ  = some o) : SW G ad lay0 ν 0 0 0 [some (.ref 45)] [] μ := by
  unfold f_shelf_back at h
  refine SW.aload_n (pc := 0) g (dt dt_X6_back 0 rfl) rfl ?_
  refine SW.getI (pc := 1) g (dt dt_X6_back 1 rfl) fl_X6_27 cell_45 rfl ?_
  refine SW.if_le (pc := 4) (t := 32) g (dt dt_X6_back 2 rfl) rfl (fun hc => ?_) (fun hc => ?_)
  · have h := iteT hc h
    exact SW.vreturn (pc := 32) g (leafV h ho) rfl (Nat.le_of_ble_eq_true rfl) (Nat.le_of_ble_eq_true rfl) (dt dt_X6_back 16 rfl)
  · have h := iteF hc h
    refine SW.aload_n (pc := 7) g (dt dt_X6_back 3 rfl) rfl ?_
    refine SW.dup (pc := 8) g (dt dt_X6_back 4 rfl) rfl ?_
    refine SW.getI (pc := 9) g (dt dt_X6_back 5 rfl) fl_X6_27 cell_45 rfl ?_
    refine SW.iconst (pc := 12) (v := 1) g (dt dt_X6_back 6 rfl) ki_1 ?_
    refine SW.isub (pc := 13) g (dt dt_X6_back 7 rfl) ?_
    refine SW.putI (pc := 14) g (dt dt_X6_back 8 rfl) fl_X6_27 cell_45 rfl ?_
    refine SW.genM h (fun μ1 h => ?_)
    refine SW.aload_n (pc := 17) g (dt dt_X6_back 9 rfl) rfl ?_
    refine SW.getR (pc := 18) g (dt dt_X6_back 10 rfl) fl_X6_23 cell_45 rfl ?_
    refine SW.aload_n (pc := 21) g (dt dt_X6_back 11 rfl) rfl ?_
    refine SW.getR (pc := 22) g (dt dt_X6_back 12 rfl) fl_X6_11 cell_45 rfl ?_
    refine SW.aload_n (pc := 25) g (dt dt_X6_back 13 rfl) rfl ?_
    refine SW.getI (pc := 26) g (dt dt_X6_back 14 rfl) fl_X6_27 cell_45 rfl ?_
    obtain ⟨r2, h3, h⟩ := bindI h
    refine SW.callVv (pc := 29) g (dt dt_X6_back 15 rfl) (mt_f_days_load _ _ _ _ ad ν 46 608 cell_46 N μ1 (μ1 45 4) r2 h3) me_X2_load mv_X2_load ml_X6_38 cell_35 rfl rfl (Nat.le_of_ble_eq_true rfl) (Nat.le_of_ble_eq_true rfl) (Nat.le_of_ble_eq_true rfl) (Nat.le_of_ble_eq_true rfl) rfl ?_
    exact SW.vreturn (pc := 32) g (leafV h ho) rfl (Nat.le_of_ble_eq_true rfl) (Nat.le_of_ble_eq_true rfl) (dt dt_X6_back 16 rfl)
set_option maxRecDepth 100000 in
set_option maxHeartbeats 4000000 in
theorem mt_f_shelf_back (l : Launch) (D : va_G) (cI cL : ClassId) (ad : Nat → Nat) (ν : sw_N)    (N : Nat) (μ : sw_M)  (o : sw_M) (h : f_shelf_back N  μ  = some o) : MetR l D cI cL yX6_back cX6_back 1 none 3 0 0 (fun a => a = ad) ad [.ref 45] lay0 μ ν none lay0 o ν :=
  MetR.of (n := 0) rfl (Nat.le_of_ble_eq_true rfl) (fun G g ho hm _ _ => ok_f_shelf_back  g hm  μ ho  h)
def f_shelf_keepImage (N : Nat)  (μ : sw_M)  : Option (sw_M) :=
  if 3 ≤ (μ 45 5) then
    some μ
  else
    ib ((μ 45 5) * 17) (fun y1 =>
      Option.bind (f_days_save N 47 1938 μ y1) (fun r2 =>
        cpc 0 ((y1 + 1) * 38) (Int32.ofNat 608) 608 1938 (wb (wrR r2 47 (va_cpy (r2 46) (r2 47) (0 : Int32).toNatClampNeg ((y1 + 1) * 38).toNatClampNeg (Int32.ofNat 608).toNatClampNeg)) (fun μ5 =>
          inb (μ5 45 5) 3 (wb (wr μ5 48 (μ5 45 5).toNatClampNeg (μ5 45 4)) (fun μ7 =>
            wb (wr μ7 45 5 ((μ7 45 5) + 1)) (fun μ8 =>
              some μ8)))))))
set_option maxRecDepth 100000 in
set_option maxHeartbeats 4000000 in
theorem ok_f_shelf_keepImage {G : sw_G} {ad : Nat → Nat} {ν : sw_N}   {N : Nat} {o : sw_M} (g : sw_ok G cX6_keepImage "DeadWires$Shelf" none 3 0 0 ad) (hm : G.2.2.1.2.1.maxLocals = 2)  (μ : sw_M) (ho : sw_out G 0 0 (fun a => a = ad) (.inl none) lay0 o ν)  (h : f_shelf_keepImage N  μ  = some o) : SW G ad lay0 ν 0 0 0 [some (.ref 45), none] [] μ := by
  unfold f_shelf_keepImage at h
  refine SW.aload_n (pc := 0) g (dt dt_X6_keepImage 0 rfl) rfl ?_
  refine SW.getI (pc := 1) g (dt dt_X6_keepImage 1 rfl) fl_X6_31 cell_45 rfl ?_
  refine SW.iconst (pc := 4) (v := 3) g (dt dt_X6_keepImage 2 rfl) ki_3 ?_
  refine SW.icmp_ge (pc := 5) (t := 74) g (dt dt_X6_keepImage 3 rfl) rfl (fun hc => ?_) (fun hc => ?_)
  · have h := iteT hc h
    exact SW.vreturn (pc := 74) g (leafV h ho) rfl (Nat.le_of_ble_eq_true rfl) (Nat.le_of_ble_eq_true rfl) (dt dt_X6_keepImage 42 rfl)
  · have h := iteF hc h
    refine SW.aload_n (pc := 8) g (dt dt_X6_keepImage 4 rfl) rfl ?_
    refine SW.getI (pc := 9) g (dt dt_X6_keepImage 5 rfl) fl_X6_31 cell_45 rfl ?_
    refine SW.bipush (pc := 12) (v := 17) g (dt dt_X6_keepImage 6 rfl) kb_17 ?_
    refine SW.imul (pc := 14) g (dt dt_X6_keepImage 7 rfl) ?_
    refine SW.istore_n (pc := 15) g (dt dt_X6_keepImage 8 rfl) (sw_ltm hm (Nat.le_of_ble_eq_true rfl)) rfl ?_
    refine SW.genL h (fun y1 h => ?_)
    refine SW.aload_n (pc := 16) g (dt dt_X6_keepImage 9 rfl) rfl ?_
    refine SW.getR (pc := 17) g (dt dt_X6_keepImage 10 rfl) fl_X6_23 cell_45 rfl ?_
    refine SW.aload_n (pc := 20) g (dt dt_X6_keepImage 11 rfl) rfl ?_
    refine SW.getR (pc := 21) g (dt dt_X6_keepImage 12 rfl) fl_X6_17 cell_45 rfl ?_
    refine SW.iload_n (pc := 24) g (dt dt_X6_keepImage 13 rfl) rfl ?_
    obtain ⟨r2, h3, h⟩ := bindI h
    refine SW.callVv (pc := 25) g (dt dt_X6_keepImage 14 rfl) (mt_f_days_save _ _ _ _ ad ν 47 1938 cell_47 N μ y1 r2 h3) me_X2_save mv_X2_save ml_X6_34 cell_35 rfl rfl (Nat.le_of_ble_eq_true rfl) (Nat.le_of_ble_eq_true rfl) (Nat.le_of_ble_eq_true rfl) (Nat.le_of_ble_eq_true rfl) rfl ?_
    refine SW.aload_n (pc := 28) g (dt dt_X6_keepImage 15 rfl) rfl ?_
    refine SW.getR (pc := 29) g (dt dt_X6_keepImage 16 rfl) fl_X6_11 cell_45 rfl ?_
    refine SW.iconst (pc := 32) (v := 0) g (dt dt_X6_keepImage 17 rfl) ki_0 ?_
    refine SW.aload_n (pc := 33) g (dt dt_X6_keepImage 18 rfl) rfl ?_
    refine SW.getR (pc := 34) g (dt dt_X6_keepImage 19 rfl) fl_X6_17 cell_45 rfl ?_
    refine SW.iload_n (pc := 37) g (dt dt_X6_keepImage 20 rfl) rfl ?_
    refine SW.iconst (pc := 38) (v := 1) g (dt dt_X6_keepImage 21 rfl) ki_1 ?_
    refine SW.iadd (pc := 39) g (dt dt_X6_keepImage 22 rfl) ?_
    refine SW.bipush (pc := 40) (v := 38) g (dt dt_X6_keepImage 23 rfl) kb_38 ?_
    refine SW.imul (pc := 42) g (dt dt_X6_keepImage 24 rfl) ?_
    refine SW.aload_n (pc := 43) g (dt dt_X6_keepImage 25 rfl) rfl ?_
    refine SW.getR (pc := 44) g (dt dt_X6_keepImage 26 rfl) fl_X6_11 cell_45 rfl ?_
    refine SW.alen (pc := 47) g (dt dt_X6_keepImage 27 rfl) cell_46 ?_
    obtain ⟨hq4, h⟩ := cpcI h
    refine SW.acopy (pc := 48) g (dt dt_X6_keepImage 28 rfl) ml_X6_41 ac_n ac_s ac_i cell_46 cell_47 hq4.1 hq4.2.1 hq4.2.2.1 hq4.2.2.2.1 hq4.2.2.2.2 (Nat.le_of_ble_eq_true rfl) (Nat.le_of_ble_eq_true rfl) ?_
    refine SW.genM h (fun μ5 h => ?_)
    refine SW.aload_n (pc := 51) g (dt dt_X6_keepImage 29 rfl) rfl ?_
    refine SW.getR (pc := 52) g (dt dt_X6_keepImage 30 rfl) fl_X6_20 cell_45 rfl ?_
    refine SW.aload_n (pc := 55) g (dt dt_X6_keepImage 31 rfl) rfl ?_
    refine SW.getI (pc := 56) g (dt dt_X6_keepImage 32 rfl) fl_X6_31 cell_45 rfl ?_
    refine SW.aload_n (pc := 59) g (dt dt_X6_keepImage 33 rfl) rfl ?_
    refine SW.getI (pc := 60) g (dt dt_X6_keepImage 34 rfl) fl_X6_27 cell_45 rfl ?_
    obtain ⟨hb6, h⟩ := inbI h
    refine SW.iastore (pc := 63) g (dt dt_X6_keepImage 35 rfl) cell_48 hb6 ?_
    refine SW.genM h (fun μ7 h => ?_)
    refine SW.aload_n (pc := 64) g (dt dt_X6_keepImage 36 rfl) rfl ?_
    refine SW.dup (pc := 65) g (dt dt_X6_keepImage 37 rfl) rfl ?_
    refine SW.getI (pc := 66) g (dt dt_X6_keepImage 38 rfl) fl_X6_31 cell_45 rfl ?_
    refine SW.iconst (pc := 69) (v := 1) g (dt dt_X6_keepImage 39 rfl) ki_1 ?_
    refine SW.iadd (pc := 70) g (dt dt_X6_keepImage 40 rfl) ?_
    refine SW.putI (pc := 71) g (dt dt_X6_keepImage 41 rfl) fl_X6_31 cell_45 rfl ?_
    refine SW.genM h (fun μ8 h => ?_)
    exact SW.vreturn (pc := 74) g (leafV h ho) rfl (Nat.le_of_ble_eq_true rfl) (Nat.le_of_ble_eq_true rfl) (dt dt_X6_keepImage 42 rfl)
set_option maxRecDepth 100000 in
set_option maxHeartbeats 4000000 in
theorem mt_f_shelf_keepImage (l : Launch) (D : va_G) (cI cL : ClassId) (ad : Nat → Nat) (ν : sw_N)    (N : Nat) (μ : sw_M)  (o : sw_M) (h : f_shelf_keepImage N  μ  = some o) : MetR l D cI cL yX6_keepImage cX6_keepImage 2 none 3 0 0 (fun a => a = ad) ad [.ref 45] lay0 μ ν none lay0 o ν :=
  MetR.of (n := 1) rfl (Nat.le_of_ble_eq_true rfl) (fun G g ho hm _ _ => ok_f_shelf_keepImage  g hm  μ ho  h)
def f_shelf_bringImage (N : Nat)  (μ : sw_M)  : Option (sw_M) :=
  if (μ 45 5) ≤ 0 then
    some μ
  else
    wb (wr μ 45 5 ((μ 45 5) - 1)) (fun μ1 =>
      ib ((μ1 45 5) * 17) (fun y2 =>
        Option.bind (f_days_load N 47 1938 μ1 y2) (fun r3 =>
          cpc ((y2 + 1) * 38) 0 (Int32.ofNat 608) 1938 608 (wb (wrR r3 46 (va_cpy (r3 47) (r3 46) ((y2 + 1) * 38).toNatClampNeg (0 : Int32).toNatClampNeg (Int32.ofNat 608).toNatClampNeg)) (fun μ6 =>
            inb (μ6 45 5) 3 (
              wb (wr μ6 45 4 (μ6 48 (μ6 45 5).toNatClampNeg)) (fun μ8 =>
                some μ8)))))))
set_option maxRecDepth 100000 in
set_option maxHeartbeats 4000000 in
theorem ok_f_shelf_bringImage {G : sw_G} {ad : Nat → Nat} {ν : sw_N}   {N : Nat} {o : sw_M} (g : sw_ok G cX6_bringImage "DeadWires$Shelf" none 3 0 0 ad) (hm : G.2.2.1.2.1.maxLocals = 2)  (μ : sw_M) (ho : sw_out G 0 0 (fun a => a = ad) (.inl none) lay0 o ν)  (h : f_shelf_bringImage N  μ  = some o) : SW G ad lay0 ν 0 0 0 [some (.ref 45), none] [] μ := by
  unfold f_shelf_bringImage at h
  refine SW.aload_n (pc := 0) g (dt dt_X6_bringImage 0 rfl) rfl ?_
  refine SW.getI (pc := 1) g (dt dt_X6_bringImage 1 rfl) fl_X6_31 cell_45 rfl ?_
  refine SW.if_le (pc := 4) (t := 73) g (dt dt_X6_bringImage 2 rfl) rfl (fun hc => ?_) (fun hc => ?_)
  · have h := iteT hc h
    exact SW.vreturn (pc := 73) g (leafV h ho) rfl (Nat.le_of_ble_eq_true rfl) (Nat.le_of_ble_eq_true rfl) (dt dt_X6_bringImage 41 rfl)
  · have h := iteF hc h
    refine SW.aload_n (pc := 7) g (dt dt_X6_bringImage 3 rfl) rfl ?_
    refine SW.dup (pc := 8) g (dt dt_X6_bringImage 4 rfl) rfl ?_
    refine SW.getI (pc := 9) g (dt dt_X6_bringImage 5 rfl) fl_X6_31 cell_45 rfl ?_
    refine SW.iconst (pc := 12) (v := 1) g (dt dt_X6_bringImage 6 rfl) ki_1 ?_
    refine SW.isub (pc := 13) g (dt dt_X6_bringImage 7 rfl) ?_
    refine SW.putI (pc := 14) g (dt dt_X6_bringImage 8 rfl) fl_X6_31 cell_45 rfl ?_
    refine SW.genM h (fun μ1 h => ?_)
    refine SW.aload_n (pc := 17) g (dt dt_X6_bringImage 9 rfl) rfl ?_
    refine SW.getI (pc := 18) g (dt dt_X6_bringImage 10 rfl) fl_X6_31 cell_45 rfl ?_
    refine SW.bipush (pc := 21) (v := 17) g (dt dt_X6_bringImage 11 rfl) kb_17 ?_
    refine SW.imul (pc := 23) g (dt dt_X6_bringImage 12 rfl) ?_
    refine SW.istore_n (pc := 24) g (dt dt_X6_bringImage 13 rfl) (sw_ltm hm (Nat.le_of_ble_eq_true rfl)) rfl ?_
    refine SW.genL h (fun y2 h => ?_)
    refine SW.aload_n (pc := 25) g (dt dt_X6_bringImage 14 rfl) rfl ?_
    refine SW.getR (pc := 26) g (dt dt_X6_bringImage 15 rfl) fl_X6_23 cell_45 rfl ?_
    refine SW.aload_n (pc := 29) g (dt dt_X6_bringImage 16 rfl) rfl ?_
    refine SW.getR (pc := 30) g (dt dt_X6_bringImage 17 rfl) fl_X6_17 cell_45 rfl ?_
    refine SW.iload_n (pc := 33) g (dt dt_X6_bringImage 18 rfl) rfl ?_
    obtain ⟨r3, h4, h⟩ := bindI h
    refine SW.callVv (pc := 34) g (dt dt_X6_bringImage 19 rfl) (mt_f_days_load _ _ _ _ ad ν 47 1938 cell_47 N μ1 y2 r3 h4) me_X2_load mv_X2_load ml_X6_38 cell_35 rfl rfl (Nat.le_of_ble_eq_true rfl) (Nat.le_of_ble_eq_true rfl) (Nat.le_of_ble_eq_true rfl) (Nat.le_of_ble_eq_true rfl) rfl ?_
    refine SW.aload_n (pc := 37) g (dt dt_X6_bringImage 20 rfl) rfl ?_
    refine SW.getR (pc := 38) g (dt dt_X6_bringImage 21 rfl) fl_X6_17 cell_45 rfl ?_
    refine SW.iload_n (pc := 41) g (dt dt_X6_bringImage 22 rfl) rfl ?_
    refine SW.iconst (pc := 42) (v := 1) g (dt dt_X6_bringImage 23 rfl) ki_1 ?_
    refine SW.iadd (pc := 43) g (dt dt_X6_bringImage 24 rfl) ?_
    refine SW.bipush (pc := 44) (v := 38) g (dt dt_X6_bringImage 25 rfl) kb_38 ?_
    refine SW.imul (pc := 46) g (dt dt_X6_bringImage 26 rfl) ?_
    refine SW.aload_n (pc := 47) g (dt dt_X6_bringImage 27 rfl) rfl ?_
    refine SW.getR (pc := 48) g (dt dt_X6_bringImage 28 rfl) fl_X6_11 cell_45 rfl ?_
    refine SW.iconst (pc := 51) (v := 0) g (dt dt_X6_bringImage 29 rfl) ki_0 ?_
    refine SW.aload_n (pc := 52) g (dt dt_X6_bringImage 30 rfl) rfl ?_
    refine SW.getR (pc := 53) g (dt dt_X6_bringImage 31 rfl) fl_X6_11 cell_45 rfl ?_
    refine SW.alen (pc := 56) g (dt dt_X6_bringImage 32 rfl) cell_46 ?_
    obtain ⟨hq5, h⟩ := cpcI h
    refine SW.acopy (pc := 57) g (dt dt_X6_bringImage 33 rfl) ml_X6_41 ac_n ac_s ac_i cell_47 cell_46 hq5.1 hq5.2.1 hq5.2.2.1 hq5.2.2.2.1 hq5.2.2.2.2 (Nat.le_of_ble_eq_true rfl) (Nat.le_of_ble_eq_true rfl) ?_
    refine SW.genM h (fun μ6 h => ?_)
    refine SW.aload_n (pc := 60) g (dt dt_X6_bringImage 34 rfl) rfl ?_
    refine SW.aload_n (pc := 61) g (dt dt_X6_bringImage 35 rfl) rfl ?_
    refine SW.getR (pc := 62) g (dt dt_X6_bringImage 36 rfl) fl_X6_20 cell_45 rfl ?_
    refine SW.aload_n (pc := 65) g (dt dt_X6_bringImage 37 rfl) rfl ?_
    refine SW.getI (pc := 66) g (dt dt_X6_bringImage 38 rfl) fl_X6_31 cell_45 rfl ?_
    obtain ⟨hb7, h⟩ := inbI h
    refine SW.iaload (pc := 69) g (dt dt_X6_bringImage 39 rfl) cell_48 hb7 ?_
    refine SW.putI (pc := 70) g (dt dt_X6_bringImage 40 rfl) fl_X6_27 cell_45 rfl ?_
    refine SW.genM h (fun μ8 h => ?_)
    exact SW.vreturn (pc := 73) g (leafV h ho) rfl (Nat.le_of_ble_eq_true rfl) (Nat.le_of_ble_eq_true rfl) (dt dt_X6_bringImage 41 rfl)
set_option maxRecDepth 100000 in
set_option maxHeartbeats 4000000 in
theorem mt_f_shelf_bringImage (l : Launch) (D : va_G) (cI cL : ClassId) (ad : Nat → Nat) (ν : sw_N)    (N : Nat) (μ : sw_M)  (o : sw_M) (h : f_shelf_bringImage N  μ  = some o) : MetR l D cI cL yX6_bringImage cX6_bringImage 2 none 3 0 0 (fun a => a = ad) ad [.ref 45] lay0 μ ν none lay0 o ν :=
  MetR.of (n := 1) rfl (Nat.le_of_ble_eq_true rfl) (fun G g ho hm _ _ => ok_f_shelf_bringImage  g hm  μ ho  h)
def f_work_add (N : Nat)  (μ : sw_M) (a1 : Int32) (a2 : Int32) (a3 : Int32) : Option (Int32 × sw_M) :=
  Option.bind (f_sx_put N 42 150 μ (μ 41 5) a1) (fun r1 =>
    Option.bind (f_sx_put N 43 150 r1 (r1 41 5) a2) (fun r3 =>
      Option.bind (f_sx_put N 44 150 r3 (r3 41 5) a3) (fun r5 =>
        wb (wr r5 41 5 (if 150 < ((r5 41 5) + 1) then 150 else ((r5 41 5) + 1))) (fun μ7 =>
          some (1, μ7)))))
set_option maxRecDepth 100000 in
set_option maxHeartbeats 4000000 in
theorem ok_f_work_add {G : sw_G} {ad : Nat → Nat} {ν : sw_N}   {N : Nat} {o : Int32 × sw_M} (g : sw_ok G cX9_add "DeadWires$Work" (some .boolean) 2 0 0 ad) (hm : G.2.2.1.2.1.maxLocals = 4)  (μ : sw_M) (ho : sw_out G 0 0 (fun a => a = ad) (.inl (some (.int o.1))) lay0 o.2 ν) (a1 : Int32) (a2 : Int32) (a3 : Int32) (h : f_work_add N  μ a1 a2 a3 = some o) : SW G ad lay0 ν 0 0 0 [some (.ref 41), some (.int a1), some (.int a2), some (.int a3)] [] μ := by
  unfold f_work_add at h
  refine SW.aload_n (pc := 0) g (dt dt_X9_add 0 rfl) rfl ?_
  refine SW.getR (pc := 1) g (dt dt_X9_add 1 rfl) fl_X9_9 cell_41 rfl ?_
  refine SW.aload_n (pc := 4) g (dt dt_X9_add 2 rfl) rfl ?_
  refine SW.getI (pc := 5) g (dt dt_X9_add 3 rfl) fl_X9_32 cell_41 rfl ?_
  refine SW.iload_n (pc := 8) g (dt dt_X9_add 4 rfl) rfl ?_
  obtain ⟨r1, h2, h⟩ := bindI h
  refine SW.callSNv (pc := 9) g (dt dt_X9_add 5 rfl) (mt_f_sx_put _ _ _ _ ad ν lay0 42 150 cell_42 N μ (μ 41 5) a1 r1 h2) me_X10_put ms_X10_put mn_X9_106 rfl (Nat.le_of_ble_eq_true rfl) (Nat.le_of_ble_eq_true rfl) (Nat.le_of_ble_eq_true rfl) (Nat.le_of_ble_eq_true rfl) rfl ?_
  refine SW.aload_n (pc := 12) g (dt dt_X9_add 6 rfl) rfl ?_
  refine SW.getR (pc := 13) g (dt dt_X9_add 7 rfl) fl_X9_15 cell_41 rfl ?_
  refine SW.aload_n (pc := 16) g (dt dt_X9_add 8 rfl) rfl ?_
  refine SW.getI (pc := 17) g (dt dt_X9_add 9 rfl) fl_X9_32 cell_41 rfl ?_
  refine SW.iload_n (pc := 20) g (dt dt_X9_add 10 rfl) rfl ?_
  obtain ⟨r3, h4, h⟩ := bindI h
  refine SW.callSNv (pc := 21) g (dt dt_X9_add 11 rfl) (mt_f_sx_put _ _ _ _ ad ν lay0 43 150 cell_43 N r1 (r1 41 5) a2 r3 h4) me_X10_put ms_X10_put mn_X9_106 rfl (Nat.le_of_ble_eq_true rfl) (Nat.le_of_ble_eq_true rfl) (Nat.le_of_ble_eq_true rfl) (Nat.le_of_ble_eq_true rfl) rfl ?_
  refine SW.aload_n (pc := 24) g (dt dt_X9_add 12 rfl) rfl ?_
  refine SW.getR (pc := 25) g (dt dt_X9_add 13 rfl) fl_X9_18 cell_41 rfl ?_
  refine SW.aload_n (pc := 28) g (dt dt_X9_add 14 rfl) rfl ?_
  refine SW.getI (pc := 29) g (dt dt_X9_add 15 rfl) fl_X9_32 cell_41 rfl ?_
  refine SW.iload_n (pc := 32) g (dt dt_X9_add 16 rfl) rfl ?_
  obtain ⟨r5, h6, h⟩ := bindI h
  refine SW.callSNv (pc := 33) g (dt dt_X9_add 17 rfl) (mt_f_sx_put _ _ _ _ ad ν lay0 44 150 cell_44 N r3 (r3 41 5) a3 r5 h6) me_X10_put ms_X10_put mn_X9_106 rfl (Nat.le_of_ble_eq_true rfl) (Nat.le_of_ble_eq_true rfl) (Nat.le_of_ble_eq_true rfl) (Nat.le_of_ble_eq_true rfl) rfl ?_
  refine SW.aload_n (pc := 36) g (dt dt_X9_add 18 rfl) rfl ?_
  refine SW.aload_n (pc := 37) g (dt dt_X9_add 19 rfl) rfl ?_
  refine SW.getI (pc := 38) g (dt dt_X9_add 20 rfl) fl_X9_32 cell_41 rfl ?_
  refine SW.iconst (pc := 41) (v := 1) g (dt dt_X9_add 21 rfl) ki_1 ?_
  refine SW.iadd (pc := 42) g (dt dt_X9_add 22 rfl) ?_
  refine SW.sipush (pc := 43) (v := 150) g (dt dt_X9_add 23 rfl) ks_150 ?_
  refine SW.mmin (pc := 46) g (dt dt_X9_add 24 rfl) ml_X9_110 ms_J9_min_7cf53 mt_init me_J9_min_7cf53.1 (Nat.le_of_ble_eq_true rfl) (Nat.le_of_ble_eq_true rfl) (Nat.le_of_ble_eq_true rfl) (Nat.le_of_ble_eq_true rfl) ?_
  refine SW.putI (pc := 49) g (dt dt_X9_add 25 rfl) fl_X9_32 cell_41 rfl ?_
  refine SW.genM h (fun μ7 h => ?_)
  refine SW.iconst (pc := 52) (v := 1) g (dt dt_X9_add 26 rfl) ki_1 ?_
  exact SW.zreturn (pc := 53) g (leafW h ho) rfl (Nat.le_of_ble_eq_true rfl) (Nat.le_of_ble_eq_true rfl) (by decide) (dt dt_X9_add 27 rfl)
set_option maxRecDepth 100000 in
set_option maxHeartbeats 4000000 in
theorem mt_f_work_add (l : Launch) (D : va_G) (cI cL : ClassId) (ad : Nat → Nat) (ν : sw_N)    (N : Nat) (μ : sw_M) (a1 : Int32) (a2 : Int32) (a3 : Int32) (o : Int32 × sw_M) (h : f_work_add N  μ a1 a2 a3 = some o) : MetR l D cI cL yX9_add cX9_add 4 (some .boolean) 2 0 0 (fun a => a = ad) ad [.ref 41, .int a1, .int a2, .int a3] lay0 μ ν (some (.int o.1)) lay0 o.2 ν :=
  MetR.of (n := 0) rfl (Nat.le_of_ble_eq_true rfl) (fun G g ho hm _ _ => ok_f_work_add  g hm  μ ho a1 a2 a3 h)
def f_work_readTwo (N : Nat)  (μ : sw_M) (a2 : Int32) (a3 : Int32) (a4 : Int32) (a5 : Int32) : Option (Int32 × sw_M) :=
  Option.bind (f_tape_advance N  μ ) (fun r1 =>
    Option.bind (f_tape_takeNumber N  r1 0 (a3 - 1)) (fun r3 =>
      if r3.1 = (-1) then
        some (0, r3.2)
      else
        Option.bind (f_tape_takeNumber N  r3.2 a4 a5) (fun r5 =>
          if r5.1 = (-1) then
            some (0, r5.2)
          else
            Option.bind (f_work_add N  r5.2 a2 r3.1 r5.1) (fun r7 =>
              if r7.1 = 0 then
                some (0, r7.2)
              else
                some (1, r7.2)))))
set_option maxRecDepth 100000 in
set_option maxHeartbeats 4000000 in
theorem ok_f_work_readTwo {G : sw_G} {ad : Nat → Nat} {ν : sw_N}   {N : Nat} {o : Int32 × sw_M} (g : sw_ok G cX9_readTwo "DeadWires$Work" (some .boolean) 3 0 0 ad) (hm : G.2.2.1.2.1.maxLocals = 8)  (μ : sw_M) (ho : sw_out G 0 0 (fun a => a = ad) (.inl (some (.int o.1))) lay0 o.2 ν) (a2 : Int32) (a3 : Int32) (a4 : Int32) (a5 : Int32) (h : f_work_readTwo N  μ a2 a3 a4 a5 = some o) : SW G ad lay0 ν 0 0 0 [some (.ref 41), some (.ref 1), some (.int a2), some (.int a3), some (.int a4), some (.int a5), none, none] [] μ := by
  unfold f_work_readTwo at h
  refine SW.aload_n (pc := 0) g (dt dt_X9_readTwo 0 rfl) rfl ?_
  obtain ⟨r1, h2, h⟩ := bindI h
  refine SW.callVv (pc := 1) g (dt dt_X9_readTwo 1 rfl) (mt_f_tape_advance _ _ _ _ ad ν   N μ  r1 h2) me_X7_advance mv_X7_advance ml_X9_84 cell_1 rfl rfl (Nat.le_of_ble_eq_true rfl) (Nat.le_of_ble_eq_true rfl) (Nat.le_of_ble_eq_true rfl) (Nat.le_of_ble_eq_true rfl) rfl ?_
  refine SW.aload_n (pc := 4) g (dt dt_X9_readTwo 2 rfl) rfl ?_
  refine SW.iconst (pc := 5) (v := 0) g (dt dt_X9_readTwo 3 rfl) ki_0 ?_
  refine SW.iload_n (pc := 6) g (dt dt_X9_readTwo 4 rfl) rfl ?_
  refine SW.iconst (pc := 7) (v := 1) g (dt dt_X9_readTwo 5 rfl) ki_1 ?_
  refine SW.isub (pc := 8) g (dt dt_X9_readTwo 6 rfl) ?_
  obtain ⟨r3, h4, h⟩ := bindI h
  refine SW.callVi (pc := 9) g (dt dt_X9_readTwo 7 rfl) (mt_f_tape_takeNumber _ _ _ _ ad ν   N r1 0 (a3 - 1) r3 h4) me_X7_takeNumber mv_X7_takeNumber ml_X9_87 cell_1 rfl rfl (Nat.le_of_ble_eq_true rfl) (Nat.le_of_ble_eq_true rfl) (Nat.le_of_ble_eq_true rfl) (Nat.le_of_ble_eq_true rfl) rfl ?_
  refine SW.istore (pc := 12) g (dt dt_X9_readTwo 8 rfl) (sw_ltm hm (Nat.le_of_ble_eq_true rfl)) rfl ?_
  refine SW.iload (pc := 14) g (dt dt_X9_readTwo 9 rfl) rfl ?_
  refine SW.iconst (pc := 16) (v := (-1)) g (dt dt_X9_readTwo 10 rfl) ki_m1 ?_
  refine SW.icmp_ne (pc := 17) (t := 22) g (dt dt_X9_readTwo 11 rfl) rfl (fun hc => ?_) (fun hc => ?_)
  · have h := iteF hc h
    refine SW.aload_n (pc := 22) g (dt dt_X9_readTwo 14 rfl) rfl ?_
    refine SW.iload (pc := 23) g (dt dt_X9_readTwo 15 rfl) rfl ?_
    refine SW.iload (pc := 25) g (dt dt_X9_readTwo 16 rfl) rfl ?_
    obtain ⟨r5, h6, h⟩ := bindI h
    refine SW.callVi (pc := 27) g (dt dt_X9_readTwo 17 rfl) (mt_f_tape_takeNumber _ _ _ _ ad ν   N r3.2 a4 a5 r5 h6) me_X7_takeNumber mv_X7_takeNumber ml_X9_87 cell_1 rfl rfl (Nat.le_of_ble_eq_true rfl) (Nat.le_of_ble_eq_true rfl) (Nat.le_of_ble_eq_true rfl) (Nat.le_of_ble_eq_true rfl) rfl ?_
    refine SW.istore (pc := 30) g (dt dt_X9_readTwo 18 rfl) (sw_ltm hm (Nat.le_of_ble_eq_true rfl)) rfl ?_
    refine SW.iload (pc := 32) g (dt dt_X9_readTwo 19 rfl) rfl ?_
    refine SW.iconst (pc := 34) (v := (-1)) g (dt dt_X9_readTwo 20 rfl) ki_m1 ?_
    refine SW.icmp_eq (pc := 35) (t := 54) g (dt dt_X9_readTwo 21 rfl) rfl (fun hc => ?_) (fun hc => ?_)
    · have h := iteT hc h
      refine SW.iconst (pc := 54) (v := 0) g (dt dt_X9_readTwo 30 rfl) ki_0 ?_
      exact SW.zreturn (pc := 55) g (leafW h ho) rfl (Nat.le_of_ble_eq_true rfl) (Nat.le_of_ble_eq_true rfl) (by decide) (dt dt_X9_readTwo 31 rfl)
    · have h := iteF hc h
      refine SW.aload_n (pc := 38) g (dt dt_X9_readTwo 22 rfl) rfl ?_
      refine SW.iload_n (pc := 39) g (dt dt_X9_readTwo 23 rfl) rfl ?_
      refine SW.iload (pc := 40) g (dt dt_X9_readTwo 24 rfl) rfl ?_
      refine SW.iload (pc := 42) g (dt dt_X9_readTwo 25 rfl) rfl ?_
      obtain ⟨r7, h8, h⟩ := bindI h
      refine SW.callVi (pc := 44) g (dt dt_X9_readTwo 26 rfl) (mt_f_work_add _ _ _ _ ad ν   N r5.2 a2 r3.1 r5.1 r7 h8) me_X9_add mv_X9_add ml_X9_91 cell_41 rfl rfl (Nat.le_of_ble_eq_true rfl) (Nat.le_of_ble_eq_true rfl) (Nat.le_of_ble_eq_true rfl) (Nat.le_of_ble_eq_true rfl) rfl ?_
      refine SW.if_eq (pc := 47) (t := 54) g (dt dt_X9_readTwo 27 rfl) rfl (fun hc => ?_) (fun hc => ?_)
      · have h := iteT hc h
        refine SW.iconst (pc := 54) (v := 0) g (dt dt_X9_readTwo 30 rfl) ki_0 ?_
        exact SW.zreturn (pc := 55) g (leafW h ho) rfl (Nat.le_of_ble_eq_true rfl) (Nat.le_of_ble_eq_true rfl) (by decide) (dt dt_X9_readTwo 31 rfl)
      · have h := iteF hc h
        refine SW.iconst (pc := 50) (v := 1) g (dt dt_X9_readTwo 28 rfl) ki_1 ?_
        refine SW.goto (pc := 51) (t := 55) g (dt dt_X9_readTwo 29 rfl) rfl ?_
        exact SW.zreturn (pc := 55) g (leafW h ho) rfl (Nat.le_of_ble_eq_true rfl) (Nat.le_of_ble_eq_true rfl) (by decide) (dt dt_X9_readTwo 31 rfl)
  · have h := iteT hc h
    refine SW.iconst (pc := 20) (v := 0) g (dt dt_X9_readTwo 12 rfl) ki_0 ?_
    exact SW.zreturn (pc := 21) g (leafW h ho) rfl (Nat.le_of_ble_eq_true rfl) (Nat.le_of_ble_eq_true rfl) (by decide) (dt dt_X9_readTwo 13 rfl)
set_option maxRecDepth 100000 in
set_option maxHeartbeats 4000000 in
theorem mt_f_work_readTwo (l : Launch) (D : va_G) (cI cL : ClassId) (ad : Nat → Nat) (ν : sw_N)    (N : Nat) (μ : sw_M) (a2 : Int32) (a3 : Int32) (a4 : Int32) (a5 : Int32) (o : Int32 × sw_M) (h : f_work_readTwo N  μ a2 a3 a4 a5 = some o) : MetR l D cI cL yX9_readTwo cX9_readTwo 8 (some .boolean) 3 0 0 (fun a => a = ad) ad [.ref 41, .ref 1, .int a2, .int a3, .int a4, .int a5] lay0 μ ν (some (.int o.1)) lay0 o.2 ν :=
  MetR.of (n := 2) rfl (Nat.le_of_ble_eq_true rfl) (fun G g ho hm _ _ => ok_f_work_readTwo  g hm  μ ho a2 a3 a4 a5 h)
def f_work_readAgain_12 (N : Nat) (q_f_work_readSteps : sw_M → Int32 → Option (Int32 × sw_M)) (q_f_work_readStep : sw_M → Int32 → Option (Int32 × sw_M)) (q_f_work_readAgain : sw_M → Int32 → Option (Int32 × sw_M))  (μ : sw_M) (x2 : Int32) (s0 : Int32) : Option (Int32 × sw_M) :=
  Option.bind (f_tape_takeUnless N  μ s0) (fun r1 =>
    if r1.1 = 0 then
      some (0, r1.2)
    else
      Option.bind (f_tape_takeNumber N  r1.2 0 40) (fun r3 =>
        if r3.1 = (-1) then
          some (0, r3.2)
        else
          Option.bind (f_tape_takeSign N  r3.2 91) (fun r5 =>
            if r5.1 = 0 then
              some (0, r5.2)
            else
              ib (r5.2 41 5) (fun y7 =>
                Option.bind (f_work_add N  r5.2 6 r3.1 ((r5.2 41 5) + 1)) (fun r8 =>
                  Option.bind (q_f_work_readSteps r8.2 (x2 + 1)) (fun r10 =>
                    if r10.1 = 0 then
                      some (0, r10.2)
                    else
                      Option.bind (f_tape_takeSign N  r10.2 93) (fun r12 =>
                        if r12.1 = 0 then
                          some (0, r12.2)
                        else
                          Option.bind (f_sx_put N 44 150 r12.2 y7 (r12.2 41 5)) (fun r14 =>
                            some (1, r14)))))))))
def f_work_readAgain_b (N : Nat) (q_f_work_readSteps : sw_M → Int32 → Option (Int32 × sw_M)) (q_f_work_readStep : sw_M → Int32 → Option (Int32 × sw_M)) (q_f_work_readAgain : sw_M → Int32 → Option (Int32 × sw_M)) (μ : sw_M) (a2 : Int32) : Option (Int32 × sw_M) :=
  if a2 < 6 then
    f_work_readAgain_12 N  q_f_work_readSteps q_f_work_readStep q_f_work_readAgain   μ a2 0
  else
    f_work_readAgain_12 N  q_f_work_readSteps q_f_work_readStep q_f_work_readAgain   μ a2 1
set_option maxRecDepth 100000 in
set_option maxHeartbeats 4000000 in
theorem ok_f_work_readAgain_12 {G : sw_G} {ad : Nat → Nat} {ν : sw_N}   {d : Nat} (q_f_work_readSteps : sw_M → Int32 → Option (Int32 × sw_M)) (q_f_work_readStep : sw_M → Int32 → Option (Int32 × sw_M)) (q_f_work_readAgain : sw_M → Int32 → Option (Int32 × sw_M)) {N : Nat} {o : Int32 × sw_M} (g : sw_ok G cX9_readAgain "DeadWires$Work" (some .boolean) (6 + (d + 1)) 0 0 ad) (hm : G.2.2.1.2.1.maxLocals = 5) (hq_f_work_readSteps : ∀ (l : Launch) (D : va_G) (cI cL : ClassId) (ad : Nat → Nat) (ν : sw_N) (μ : sw_M) (a2 : Int32) (o : Int32 × sw_M), q_f_work_readSteps μ a2 = some o → MetR l D cI cL yX9_readSteps cX9_readSteps 4 (some .boolean) (6 + d) 0 0 (fun a => a = ad) ad [.ref 41, .ref 1, .int a2] lay0 μ ν (some (.int o.1)) lay0 o.2 ν) (hq_f_work_readStep : ∀ (l : Launch) (D : va_G) (cI cL : ClassId) (ad : Nat → Nat) (ν : sw_N) (μ : sw_M) (a2 : Int32) (o : Int32 × sw_M), q_f_work_readStep μ a2 = some o → MetR l D cI cL yX9_readStep cX9_readStep 4 (some .boolean) (6 + d) 0 0 (fun a => a = ad) ad [.ref 41, .ref 1, .int a2] lay0 μ ν (some (.int o.1)) lay0 o.2 ν) (hq_f_work_readAgain : ∀ (l : Launch) (D : va_G) (cI cL : ClassId) (ad : Nat → Nat) (ν : sw_N) (μ : sw_M) (a2 : Int32) (o : Int32 × sw_M), q_f_work_readAgain μ a2 = some o → MetR l D cI cL yX9_readAgain cX9_readAgain 5 (some .boolean) (6 + d) 0 0 (fun a => a = ad) ad [.ref 41, .ref 1, .int a2] lay0 μ ν (some (.int o.1)) lay0 o.2 ν) (ho : sw_out G 0 0 (fun a => a = ad) (.inl (some (.int o.1))) lay0 o.2 ν)  (μ : sw_M) (x2 : Int32) (s0 : Int32) (h : f_work_readAgain_12 N  q_f_work_readSteps q_f_work_readStep q_f_work_readAgain   μ x2 s0 = some o) : SW G ad lay0 ν 0 0 12 [some (.ref 41), some (.ref 1), some (.int x2), none, none] [.int s0, .ref 1] μ := by
  unfold f_work_readAgain_12 at h
  obtain ⟨r1, h2, h⟩ := bindI h
  refine SW.callVi (pc := 12) g (dt dt_X9_readAgain 7 rfl) (mt_f_tape_takeUnless _ _ _ _ ad ν   N μ s0 r1 h2) me_X7_takeUnless mv_X7_takeUnless ml_X9_102 cell_1 rfl rfl (Nat.le_of_ble_eq_true rfl) (by omega) (Nat.le_of_ble_eq_true rfl) (Nat.le_of_ble_eq_true rfl) rfl ?_
  refine SW.if_ne (pc := 15) (t := 20) g (dt dt_X9_readAgain 8 rfl) rfl (fun hc => ?_) (fun hc => ?_)
  · have h := iteF hc h
    refine SW.aload_n (pc := 20) g (dt dt_X9_readAgain 11 rfl) rfl ?_
    refine SW.iconst (pc := 21) (v := 0) g (dt dt_X9_readAgain 12 rfl) ki_0 ?_
    refine SW.bipush (pc := 22) (v := 40) g (dt dt_X9_readAgain 13 rfl) kb_40 ?_
    obtain ⟨r3, h4, h⟩ := bindI h
    refine SW.callVi (pc := 24) g (dt dt_X9_readAgain 14 rfl) (mt_f_tape_takeNumber _ _ _ _ ad ν   N r1.2 0 40 r3 h4) me_X7_takeNumber mv_X7_takeNumber ml_X9_87 cell_1 rfl rfl (Nat.le_of_ble_eq_true rfl) (by omega) (Nat.le_of_ble_eq_true rfl) (Nat.le_of_ble_eq_true rfl) rfl ?_
    refine SW.istore_n (pc := 27) g (dt dt_X9_readAgain 15 rfl) (sw_ltm hm (Nat.le_of_ble_eq_true rfl)) rfl ?_
    refine SW.iload_n (pc := 28) g (dt dt_X9_readAgain 16 rfl) rfl ?_
    refine SW.iconst (pc := 29) (v := (-1)) g (dt dt_X9_readAgain 17 rfl) ki_m1 ?_
    refine SW.icmp_eq (pc := 30) (t := 42) g (dt dt_X9_readAgain 18 rfl) rfl (fun hc => ?_) (fun hc => ?_)
    · have h := iteT hc h
      refine SW.iconst (pc := 42) (v := 0) g (dt dt_X9_readAgain 23 rfl) ki_0 ?_
      exact SW.zreturn (pc := 43) g (leafW h ho) rfl (Nat.le_of_ble_eq_true rfl) (Nat.le_of_ble_eq_true rfl) (by decide) (dt dt_X9_readAgain 24 rfl)
    · have h := iteF hc h
      refine SW.aload_n (pc := 33) g (dt dt_X9_readAgain 19 rfl) rfl ?_
      refine SW.bipush (pc := 34) (v := 91) g (dt dt_X9_readAgain 20 rfl) kb_91 ?_
      obtain ⟨r5, h6, h⟩ := bindI h
      refine SW.callVi (pc := 36) g (dt dt_X9_readAgain 21 rfl) (mt_f_tape_takeSign _ _ _ _ ad ν   N r3.2 91 r5 h6) me_X7_takeSign mv_X7_takeSign ml_X9_52 cell_1 rfl rfl (Nat.le_of_ble_eq_true rfl) (by omega) (Nat.le_of_ble_eq_true rfl) (Nat.le_of_ble_eq_true rfl) rfl ?_
      refine SW.if_ne (pc := 39) (t := 44) g (dt dt_X9_readAgain 22 rfl) rfl (fun hc => ?_) (fun hc => ?_)
      · have h := iteF hc h
        refine SW.aload_n (pc := 44) g (dt dt_X9_readAgain 25 rfl) rfl ?_
        refine SW.getI (pc := 45) g (dt dt_X9_readAgain 26 rfl) fl_X9_32 cell_41 rfl ?_
        refine SW.istore (pc := 48) g (dt dt_X9_readAgain 27 rfl) (sw_ltm hm (Nat.le_of_ble_eq_true rfl)) rfl ?_
        refine SW.genL h (fun y7 h => ?_)
        refine SW.aload_n (pc := 50) g (dt dt_X9_readAgain 28 rfl) rfl ?_
        refine SW.bipush (pc := 51) (v := 6) g (dt dt_X9_readAgain 29 rfl) kb_6 ?_
        refine SW.iload_n (pc := 53) g (dt dt_X9_readAgain 30 rfl) rfl ?_
        refine SW.aload_n (pc := 54) g (dt dt_X9_readAgain 31 rfl) rfl ?_
        refine SW.getI (pc := 55) g (dt dt_X9_readAgain 32 rfl) fl_X9_32 cell_41 rfl ?_
        refine SW.iconst (pc := 58) (v := 1) g (dt dt_X9_readAgain 33 rfl) ki_1 ?_
        refine SW.iadd (pc := 59) g (dt dt_X9_readAgain 34 rfl) ?_
        obtain ⟨r8, h9, h⟩ := bindI h
        refine SW.callVi (pc := 60) g (dt dt_X9_readAgain 35 rfl) (mt_f_work_add _ _ _ _ ad ν   N r5.2 6 r3.1 ((r5.2 41 5) + 1) r8 h9) me_X9_add mv_X9_add ml_X9_91 cell_41 rfl rfl (Nat.le_of_ble_eq_true rfl) (by omega) (Nat.le_of_ble_eq_true rfl) (Nat.le_of_ble_eq_true rfl) rfl ?_
        refine SW.pop (pc := 63) g (dt dt_X9_readAgain 36 rfl) rfl ?_
        refine SW.aload_n (pc := 64) g (dt dt_X9_readAgain 37 rfl) rfl ?_
        refine SW.aload_n (pc := 65) g (dt dt_X9_readAgain 38 rfl) rfl ?_
        refine SW.iload_n (pc := 66) g (dt dt_X9_readAgain 39 rfl) rfl ?_
        refine SW.iconst (pc := 67) (v := 1) g (dt dt_X9_readAgain 40 rfl) ki_1 ?_
        refine SW.iadd (pc := 68) g (dt dt_X9_readAgain 41 rfl) ?_
        obtain ⟨r10, h11, h⟩ := bindI h
        refine SW.callVi (pc := 69) g (dt dt_X9_readAgain 42 rfl) (hq_f_work_readSteps _ _ _ _ ad ν r8.2 (x2 + 1) r10 h11) me_X9_readSteps mv_X9_readSteps ml_X9_36 cell_41 rfl rfl (Nat.le_of_ble_eq_true rfl) (by omega) (Nat.le_of_ble_eq_true rfl) (Nat.le_of_ble_eq_true rfl) rfl ?_
        refine SW.if_eq (pc := 72) (t := 84) g (dt dt_X9_readAgain 43 rfl) rfl (fun hc => ?_) (fun hc => ?_)
        · have h := iteT hc h
          refine SW.iconst (pc := 84) (v := 0) g (dt dt_X9_readAgain 48 rfl) ki_0 ?_
          exact SW.zreturn (pc := 85) g (leafW h ho) rfl (Nat.le_of_ble_eq_true rfl) (Nat.le_of_ble_eq_true rfl) (by decide) (dt dt_X9_readAgain 49 rfl)
        · have h := iteF hc h
          refine SW.aload_n (pc := 75) g (dt dt_X9_readAgain 44 rfl) rfl ?_
          refine SW.bipush (pc := 76) (v := 93) g (dt dt_X9_readAgain 45 rfl) kb_93 ?_
          obtain ⟨r12, h13, h⟩ := bindI h
          refine SW.callVi (pc := 78) g (dt dt_X9_readAgain 46 rfl) (mt_f_tape_takeSign _ _ _ _ ad ν   N r10.2 93 r12 h13) me_X7_takeSign mv_X7_takeSign ml_X9_52 cell_1 rfl rfl (Nat.le_of_ble_eq_true rfl) (by omega) (Nat.le_of_ble_eq_true rfl) (Nat.le_of_ble_eq_true rfl) rfl ?_
          refine SW.if_ne (pc := 81) (t := 86) g (dt dt_X9_readAgain 47 rfl) rfl (fun hc => ?_) (fun hc => ?_)
          · have h := iteF hc h
            refine SW.aload_n (pc := 86) g (dt dt_X9_readAgain 50 rfl) rfl ?_
            refine SW.getR (pc := 87) g (dt dt_X9_readAgain 51 rfl) fl_X9_18 cell_41 rfl ?_
            refine SW.iload (pc := 90) g (dt dt_X9_readAgain 52 rfl) rfl ?_
            refine SW.aload_n (pc := 92) g (dt dt_X9_readAgain 53 rfl) rfl ?_
            refine SW.getI (pc := 93) g (dt dt_X9_readAgain 54 rfl) fl_X9_32 cell_41 rfl ?_
            obtain ⟨r14, h15, h⟩ := bindI h
            refine SW.callSNv (pc := 96) g (dt dt_X9_readAgain 55 rfl) (mt_f_sx_put _ _ _ _ ad ν lay0 44 150 cell_44 N r12.2 y7 (r12.2 41 5) r14 h15) me_X10_put ms_X10_put mn_X9_106 rfl (Nat.le_of_ble_eq_true rfl) (by omega) (Nat.le_of_ble_eq_true rfl) (Nat.le_of_ble_eq_true rfl) rfl ?_
            refine SW.iconst (pc := 99) (v := 1) g (dt dt_X9_readAgain 56 rfl) ki_1 ?_
            exact SW.zreturn (pc := 100) g (leafW h ho) rfl (Nat.le_of_ble_eq_true rfl) (Nat.le_of_ble_eq_true rfl) (by decide) (dt dt_X9_readAgain 57 rfl)
          · have h := iteT hc h
            refine SW.iconst (pc := 84) (v := 0) g (dt dt_X9_readAgain 48 rfl) ki_0 ?_
            exact SW.zreturn (pc := 85) g (leafW h ho) rfl (Nat.le_of_ble_eq_true rfl) (Nat.le_of_ble_eq_true rfl) (by decide) (dt dt_X9_readAgain 49 rfl)
      · have h := iteT hc h
        refine SW.iconst (pc := 42) (v := 0) g (dt dt_X9_readAgain 23 rfl) ki_0 ?_
        exact SW.zreturn (pc := 43) g (leafW h ho) rfl (Nat.le_of_ble_eq_true rfl) (Nat.le_of_ble_eq_true rfl) (by decide) (dt dt_X9_readAgain 24 rfl)
  · have h := iteT hc h
    refine SW.iconst (pc := 18) (v := 0) g (dt dt_X9_readAgain 9 rfl) ki_0 ?_
    exact SW.zreturn (pc := 19) g (leafW h ho) rfl (Nat.le_of_ble_eq_true rfl) (Nat.le_of_ble_eq_true rfl) (by decide) (dt dt_X9_readAgain 10 rfl)
set_option maxRecDepth 100000 in
set_option maxHeartbeats 4000000 in
theorem ok_f_work_readAgain_b {G : sw_G} {ad : Nat → Nat} {ν : sw_N}   {d : Nat} (q_f_work_readSteps : sw_M → Int32 → Option (Int32 × sw_M)) (q_f_work_readStep : sw_M → Int32 → Option (Int32 × sw_M)) (q_f_work_readAgain : sw_M → Int32 → Option (Int32 × sw_M)) {N : Nat} {o : Int32 × sw_M} (g : sw_ok G cX9_readAgain "DeadWires$Work" (some .boolean) (6 + (d + 1)) 0 0 ad) (hm : G.2.2.1.2.1.maxLocals = 5) (hq_f_work_readSteps : ∀ (l : Launch) (D : va_G) (cI cL : ClassId) (ad : Nat → Nat) (ν : sw_N) (μ : sw_M) (a2 : Int32) (o : Int32 × sw_M), q_f_work_readSteps μ a2 = some o → MetR l D cI cL yX9_readSteps cX9_readSteps 4 (some .boolean) (6 + d) 0 0 (fun a => a = ad) ad [.ref 41, .ref 1, .int a2] lay0 μ ν (some (.int o.1)) lay0 o.2 ν) (hq_f_work_readStep : ∀ (l : Launch) (D : va_G) (cI cL : ClassId) (ad : Nat → Nat) (ν : sw_N) (μ : sw_M) (a2 : Int32) (o : Int32 × sw_M), q_f_work_readStep μ a2 = some o → MetR l D cI cL yX9_readStep cX9_readStep 4 (some .boolean) (6 + d) 0 0 (fun a => a = ad) ad [.ref 41, .ref 1, .int a2] lay0 μ ν (some (.int o.1)) lay0 o.2 ν) (hq_f_work_readAgain : ∀ (l : Launch) (D : va_G) (cI cL : ClassId) (ad : Nat → Nat) (ν : sw_N) (μ : sw_M) (a2 : Int32) (o : Int32 × sw_M), q_f_work_readAgain μ a2 = some o → MetR l D cI cL yX9_readAgain cX9_readAgain 5 (some .boolean) (6 + d) 0 0 (fun a => a = ad) ad [.ref 41, .ref 1, .int a2] lay0 μ ν (some (.int o.1)) lay0 o.2 ν) (μ : sw_M) (ho : sw_out G 0 0 (fun a => a = ad) (.inl (some (.int o.1))) lay0 o.2 ν) (a2 : Int32) (h : f_work_readAgain_b N  q_f_work_readSteps q_f_work_readStep q_f_work_readAgain μ a2 = some o) : SW G ad lay0 ν 0 0 0 [some (.ref 41), some (.ref 1), some (.int a2), none, none] [] μ := by
  unfold f_work_readAgain_b at h
  refine SW.aload_n (pc := 0) g (dt dt_X9_readAgain 0 rfl) rfl ?_
  refine SW.iload_n (pc := 1) g (dt dt_X9_readAgain 1 rfl) rfl ?_
  refine SW.bipush (pc := 2) (v := 6) g (dt dt_X9_readAgain 2 rfl) kb_6 ?_
  refine SW.icmp_lt (pc := 4) (t := 11) g (dt dt_X9_readAgain 3 rfl) rfl (fun hc => ?_) (fun hc => ?_)
  · have h := iteT hc h
    refine SW.iconst (pc := 11) (v := 0) g (dt dt_X9_readAgain 6 rfl) ki_0 ?_
    refine SW.msk [true, true, true, false, false] ?_
    exact ok_f_work_readAgain_12  q_f_work_readSteps q_f_work_readStep q_f_work_readAgain g hm  hq_f_work_readSteps hq_f_work_readStep hq_f_work_readAgain ho    μ a2 0 h
  · have h := iteF hc h
    refine SW.iconst (pc := 7) (v := 1) g (dt dt_X9_readAgain 4 rfl) ki_1 ?_
    refine SW.goto (pc := 8) (t := 12) g (dt dt_X9_readAgain 5 rfl) rfl ?_
    refine SW.msk [true, true, true, false, false] ?_
    exact ok_f_work_readAgain_12  q_f_work_readSteps q_f_work_readStep q_f_work_readAgain g hm  hq_f_work_readSteps hq_f_work_readStep hq_f_work_readAgain ho    μ a2 1 h
set_option maxRecDepth 100000 in
set_option maxHeartbeats 4000000 in
theorem mtb_f_work_readAgain (l : Launch) (D : va_G) (cI cL : ClassId) (ad : Nat → Nat) (ν : sw_N)   {d : Nat} (q_f_work_readSteps : sw_M → Int32 → Option (Int32 × sw_M)) (q_f_work_readStep : sw_M → Int32 → Option (Int32 × sw_M)) (q_f_work_readAgain : sw_M → Int32 → Option (Int32 × sw_M)) (hq_f_work_readSteps : ∀ (l : Launch) (D : va_G) (cI cL : ClassId) (ad : Nat → Nat) (ν : sw_N) (μ : sw_M) (a2 : Int32) (o : Int32 × sw_M), q_f_work_readSteps μ a2 = some o → MetR l D cI cL yX9_readSteps cX9_readSteps 4 (some .boolean) (6 + d) 0 0 (fun a => a = ad) ad [.ref 41, .ref 1, .int a2] lay0 μ ν (some (.int o.1)) lay0 o.2 ν) (hq_f_work_readStep : ∀ (l : Launch) (D : va_G) (cI cL : ClassId) (ad : Nat → Nat) (ν : sw_N) (μ : sw_M) (a2 : Int32) (o : Int32 × sw_M), q_f_work_readStep μ a2 = some o → MetR l D cI cL yX9_readStep cX9_readStep 4 (some .boolean) (6 + d) 0 0 (fun a => a = ad) ad [.ref 41, .ref 1, .int a2] lay0 μ ν (some (.int o.1)) lay0 o.2 ν) (hq_f_work_readAgain : ∀ (l : Launch) (D : va_G) (cI cL : ClassId) (ad : Nat → Nat) (ν : sw_N) (μ : sw_M) (a2 : Int32) (o : Int32 × sw_M), q_f_work_readAgain μ a2 = some o → MetR l D cI cL yX9_readAgain cX9_readAgain 5 (some .boolean) (6 + d) 0 0 (fun a => a = ad) ad [.ref 41, .ref 1, .int a2] lay0 μ ν (some (.int o.1)) lay0 o.2 ν) (N : Nat) (μ : sw_M) (a2 : Int32) (o : Int32 × sw_M) (h : f_work_readAgain_b N  q_f_work_readSteps q_f_work_readStep q_f_work_readAgain μ a2 = some o) : MetR l D cI cL yX9_readAgain cX9_readAgain 5 (some .boolean) (6 + (d + 1)) 0 0 (fun a => a = ad) ad [.ref 41, .ref 1, .int a2] lay0 μ ν (some (.int o.1)) lay0 o.2 ν :=
  MetR.of (n := 2) rfl (Nat.le_of_ble_eq_true rfl) (fun G g ho hm _ _ => ok_f_work_readAgain_b  q_f_work_readSteps q_f_work_readStep q_f_work_readAgain g hm  hq_f_work_readSteps hq_f_work_readStep hq_f_work_readAgain μ ho a2 h)
def f_work_readStep_b (N : Nat) (q_f_work_readSteps : sw_M → Int32 → Option (Int32 × sw_M)) (q_f_work_readStep : sw_M → Int32 → Option (Int32 × sw_M)) (q_f_work_readAgain : sw_M → Int32 → Option (Int32 × sw_M)) (μ : sw_M) (a2 : Int32) : Option (Int32 × sw_M) :=
  Option.bind (f_tape_isWord N 7 μ ) (fun r1 =>
    if r1 = 0 then
      Option.bind (f_tape_isWord N 13 μ ) (fun r3 =>
        if r3 = 0 then
          Option.bind (f_tape_isWord N 1 μ ) (fun r5 =>
            if r5 = 0 then
              Option.bind (f_tape_isWord N 10 μ ) (fun r7 =>
                if r7 = 0 then
                  Option.bind (f_tape_isWord N 2 μ ) (fun r9 =>
                    if r9 = 0 then
                      Option.bind (f_tape_isWord N 4 μ ) (fun r11 =>
                        if r11 = 0 then
                          Option.bind (f_tape_isWord N 0 μ ) (fun r13 =>
                            if r13 = 0 then
                              Option.bind (f_tape_fail N  μ 1) (fun r15 =>
                                bl r15.1 (some (r15.1, r15.2)))
                            else
                              Option.bind (q_f_work_readAgain μ a2) (fun r17 =>
                                bl r17.1 (some (r17.1, r17.2))))
                        else
                          Option.bind (f_tape_advance N  μ ) (fun r19 =>
                            Option.bind (f_work_add N  r19 5 0 0) (fun r21 =>
                              bl r21.1 (some (r21.1, r21.2)))))
                    else
                      Option.bind (f_tape_advance N  μ ) (fun r23 =>
                        Option.bind (f_tape_takeNumber N  r23 0 ((r23 3 1) - 1)) (fun r25 =>
                          if r25.1 = (-1) then
                            some (0, r25.2)
                          else
                            Option.bind (f_work_add N  r25.2 4 r25.1 0) (fun r27 =>
                              if r27.1 = 0 then
                                some (0, r27.2)
                              else
                                some (1, r27.2)))))
                else
                  Option.bind (f_work_readTwo N  μ 3 (μ 3 1) 1 20) (fun r29 =>
                    bl r29.1 (some (r29.1, r29.2))))
            else
              Option.bind (f_work_readTwo N  μ 2 (μ 3 3) 0 ((μ 3 1) - 1)) (fun r31 =>
                bl r31.1 (some (r31.1, r31.2))))
        else
          Option.bind (f_work_readTwo N  μ 1 (μ 3 3) 0 ((μ 3 2) - 1)) (fun r33 =>
            bl r33.1 (some (r33.1, r33.2))))
    else
      Option.bind (f_work_readTwo N  μ 0 (μ 3 3) 0 ((μ 3 2) - 1)) (fun r35 =>
        bl r35.1 (some (r35.1, r35.2))))
set_option maxRecDepth 100000 in
set_option maxHeartbeats 4000000 in
theorem ok_f_work_readStep_b {G : sw_G} {ad : Nat → Nat} {ν : sw_N}   {d : Nat} (q_f_work_readSteps : sw_M → Int32 → Option (Int32 × sw_M)) (q_f_work_readStep : sw_M → Int32 → Option (Int32 × sw_M)) (q_f_work_readAgain : sw_M → Int32 → Option (Int32 × sw_M)) {N : Nat} {o : Int32 × sw_M} (g : sw_ok G cX9_readStep "DeadWires$Work" (some .boolean) (6 + (d + 1)) 0 0 ad) (hm : G.2.2.1.2.1.maxLocals = 4) (hq_f_work_readSteps : ∀ (l : Launch) (D : va_G) (cI cL : ClassId) (ad : Nat → Nat) (ν : sw_N) (μ : sw_M) (a2 : Int32) (o : Int32 × sw_M), q_f_work_readSteps μ a2 = some o → MetR l D cI cL yX9_readSteps cX9_readSteps 4 (some .boolean) (6 + d) 0 0 (fun a => a = ad) ad [.ref 41, .ref 1, .int a2] lay0 μ ν (some (.int o.1)) lay0 o.2 ν) (hq_f_work_readStep : ∀ (l : Launch) (D : va_G) (cI cL : ClassId) (ad : Nat → Nat) (ν : sw_N) (μ : sw_M) (a2 : Int32) (o : Int32 × sw_M), q_f_work_readStep μ a2 = some o → MetR l D cI cL yX9_readStep cX9_readStep 4 (some .boolean) (6 + d) 0 0 (fun a => a = ad) ad [.ref 41, .ref 1, .int a2] lay0 μ ν (some (.int o.1)) lay0 o.2 ν) (hq_f_work_readAgain : ∀ (l : Launch) (D : va_G) (cI cL : ClassId) (ad : Nat → Nat) (ν : sw_N) (μ : sw_M) (a2 : Int32) (o : Int32 × sw_M), q_f_work_readAgain μ a2 = some o → MetR l D cI cL yX9_readAgain cX9_readAgain 5 (some .boolean) (6 + d) 0 0 (fun a => a = ad) ad [.ref 41, .ref 1, .int a2] lay0 μ ν (some (.int o.1)) lay0 o.2 ν) (μ : sw_M) (ho : sw_out G 0 0 (fun a => a = ad) (.inl (some (.int o.1))) lay0 o.2 ν) (a2 : Int32) (h : f_work_readStep_b N  q_f_work_readSteps q_f_work_readStep q_f_work_readAgain μ a2 = some o) : SW G ad lay0 ν 0 0 0 [some (.ref 41), some (.ref 1), some (.int a2), none] [] μ := by
  unfold f_work_readStep_b at h
  refine SW.aload_n (pc := 0) g (dt dt_X9_readStep 0 rfl) rfl ?_
  refine SW.ldcS (pc := 1) (j := 7) g (dt dt_X9_readStep 1 rfl) sr_X9_55 rfl ?_
  obtain ⟨r1, h2, h⟩ := bindI h
  refine SW.callVi (pc := 3) g (dt dt_X9_readStep 2 rfl) (mt_f_tape_isWord _ _ _ _ ad ν 7 (by decide) N μ  r1 h2) me_X7_isWord mv_X7_isWord ml_X9_57 cell_1 rfl rfl (Nat.le_of_ble_eq_true rfl) (by omega) (Nat.le_of_ble_eq_true rfl) (Nat.le_of_ble_eq_true rfl) rfl ?_
  refine SW.if_eq (pc := 6) (t := 33) g (dt dt_X9_readStep 3 rfl) rfl (fun hc => ?_) (fun hc => ?_)
  · have h := iteT hc h
    refine SW.aload_n (pc := 33) g (dt dt_X9_readStep 18 rfl) rfl ?_
    refine SW.ldcS (pc := 34) (j := 13) g (dt dt_X9_readStep 19 rfl) sr_X9_73 rfl ?_
    obtain ⟨r3, h4, h⟩ := bindI h
    refine SW.callVi (pc := 36) g (dt dt_X9_readStep 20 rfl) (mt_f_tape_isWord _ _ _ _ ad ν 13 (by decide) N μ  r3 h4) me_X7_isWord mv_X7_isWord ml_X9_57 cell_1 rfl rfl (Nat.le_of_ble_eq_true rfl) (by omega) (Nat.le_of_ble_eq_true rfl) (Nat.le_of_ble_eq_true rfl) rfl ?_
    refine SW.if_eq (pc := 39) (t := 66) g (dt dt_X9_readStep 21 rfl) rfl (fun hc => ?_) (fun hc => ?_)
    · have h := iteT hc h
      refine SW.aload_n (pc := 66) g (dt dt_X9_readStep 36 rfl) rfl ?_
      refine SW.ldcS (pc := 67) (j := 1) g (dt dt_X9_readStep 37 rfl) sr_X9_75 rfl ?_
      obtain ⟨r5, h6, h⟩ := bindI h
      refine SW.callVi (pc := 69) g (dt dt_X9_readStep 38 rfl) (mt_f_tape_isWord _ _ _ _ ad ν 1 (by decide) N μ  r5 h6) me_X7_isWord mv_X7_isWord ml_X9_57 cell_1 rfl rfl (Nat.le_of_ble_eq_true rfl) (by omega) (Nat.le_of_ble_eq_true rfl) (Nat.le_of_ble_eq_true rfl) rfl ?_
      refine SW.if_eq (pc := 72) (t := 99) g (dt dt_X9_readStep 39 rfl) rfl (fun hc => ?_) (fun hc => ?_)
      · have h := iteT hc h
        refine SW.aload_n (pc := 99) g (dt dt_X9_readStep 54 rfl) rfl ?_
        refine SW.ldcS (pc := 100) (j := 10) g (dt dt_X9_readStep 55 rfl) sr_X9_80 rfl ?_
        obtain ⟨r7, h8, h⟩ := bindI h
        refine SW.callVi (pc := 102) g (dt dt_X9_readStep 56 rfl) (mt_f_tape_isWord _ _ _ _ ad ν 10 (by decide) N μ  r7 h8) me_X7_isWord mv_X7_isWord ml_X9_57 cell_1 rfl rfl (Nat.le_of_ble_eq_true rfl) (by omega) (Nat.le_of_ble_eq_true rfl) (Nat.le_of_ble_eq_true rfl) rfl ?_
        refine SW.if_eq (pc := 105) (t := 125) g (dt dt_X9_readStep 57 rfl) rfl (fun hc => ?_) (fun hc => ?_)
        · have h := iteT hc h
          refine SW.aload_n (pc := 125) g (dt dt_X9_readStep 68 rfl) rfl ?_
          refine SW.ldcS (pc := 126) (j := 2) g (dt dt_X9_readStep 69 rfl) sr_X9_82 rfl ?_
          obtain ⟨r9, h10, h⟩ := bindI h
          refine SW.callVi (pc := 128) g (dt dt_X9_readStep 70 rfl) (mt_f_tape_isWord _ _ _ _ ad ν 2 (by decide) N μ  r9 h10) me_X7_isWord mv_X7_isWord ml_X9_57 cell_1 rfl rfl (Nat.le_of_ble_eq_true rfl) (by omega) (Nat.le_of_ble_eq_true rfl) (Nat.le_of_ble_eq_true rfl) rfl ?_
          refine SW.if_eq (pc := 131) (t := 174) g (dt dt_X9_readStep 71 rfl) rfl (fun hc => ?_) (fun hc => ?_)
          · have h := iteT hc h
            refine SW.aload_n (pc := 174) g (dt dt_X9_readStep 96 rfl) rfl ?_
            refine SW.ldcS (pc := 175) (j := 4) g (dt dt_X9_readStep 97 rfl) sr_X9_95 rfl ?_
            obtain ⟨r11, h12, h⟩ := bindI h
            refine SW.callVi (pc := 177) g (dt dt_X9_readStep 98 rfl) (mt_f_tape_isWord _ _ _ _ ad ν 4 (by decide) N μ  r11 h12) me_X7_isWord mv_X7_isWord ml_X9_57 cell_1 rfl rfl (Nat.le_of_ble_eq_true rfl) (by omega) (Nat.le_of_ble_eq_true rfl) (Nat.le_of_ble_eq_true rfl) rfl ?_
            refine SW.if_eq (pc := 180) (t := 195) g (dt dt_X9_readStep 99 rfl) rfl (fun hc => ?_) (fun hc => ?_)
            · have h := iteT hc h
              refine SW.aload_n (pc := 195) g (dt dt_X9_readStep 108 rfl) rfl ?_
              refine SW.ldcS (pc := 196) (j := 0) g (dt dt_X9_readStep 109 rfl) sr_X9_97 rfl ?_
              obtain ⟨r13, h14, h⟩ := bindI h
              refine SW.callVi (pc := 198) g (dt dt_X9_readStep 110 rfl) (mt_f_tape_isWord _ _ _ _ ad ν 0 (by decide) N μ  r13 h14) me_X7_isWord mv_X7_isWord ml_X9_57 cell_1 rfl rfl (Nat.le_of_ble_eq_true rfl) (by omega) (Nat.le_of_ble_eq_true rfl) (Nat.le_of_ble_eq_true rfl) rfl ?_
              refine SW.if_eq (pc := 201) (t := 211) g (dt dt_X9_readStep 111 rfl) rfl (fun hc => ?_) (fun hc => ?_)
              · have h := iteT hc h
                refine SW.aload_n (pc := 211) g (dt dt_X9_readStep 117 rfl) rfl ?_
                refine SW.iconst (pc := 212) (v := 1) g (dt dt_X9_readStep 118 rfl) ki_1 ?_
                obtain ⟨r15, h16, h⟩ := bindI h
                refine SW.callVi (pc := 213) g (dt dt_X9_readStep 119 rfl) (mt_f_tape_fail _ _ _ _ ad ν   N μ 1 r15 h16) me_X7_fail mv_X7_fail ml_X9_45 cell_1 rfl rfl (Nat.le_of_ble_eq_true rfl) (by omega) (Nat.le_of_ble_eq_true rfl) (Nat.le_of_ble_eq_true rfl) rfl ?_
                obtain ⟨hn, h⟩ := blI h
                exact SW.zreturn (pc := 216) g (leafW h ho) rfl (Nat.le_of_ble_eq_true rfl) (Nat.le_of_ble_eq_true rfl) hn (dt dt_X9_readStep 120 rfl)
              · have h := iteF hc h
                refine SW.aload_n (pc := 204) g (dt dt_X9_readStep 112 rfl) rfl ?_
                refine SW.aload_n (pc := 205) g (dt dt_X9_readStep 113 rfl) rfl ?_
                refine SW.iload_n (pc := 206) g (dt dt_X9_readStep 114 rfl) rfl ?_
                obtain ⟨r17, h18, h⟩ := bindI h
                refine SW.callVi (pc := 207) g (dt dt_X9_readStep 115 rfl) (hq_f_work_readAgain _ _ _ _ ad ν μ a2 r17 h18) me_X9_readAgain mv_X9_readAgain ml_X9_99 cell_41 rfl rfl (Nat.le_of_ble_eq_true rfl) (by omega) (Nat.le_of_ble_eq_true rfl) (Nat.le_of_ble_eq_true rfl) rfl ?_
                obtain ⟨hn, h⟩ := blI h
                exact SW.zreturn (pc := 210) g (leafW h ho) rfl (Nat.le_of_ble_eq_true rfl) (Nat.le_of_ble_eq_true rfl) hn (dt dt_X9_readStep 116 rfl)
            · have h := iteF hc h
              refine SW.aload_n (pc := 183) g (dt dt_X9_readStep 100 rfl) rfl ?_
              obtain ⟨r19, h20, h⟩ := bindI h
              refine SW.callVv (pc := 184) g (dt dt_X9_readStep 101 rfl) (mt_f_tape_advance _ _ _ _ ad ν   N μ  r19 h20) me_X7_advance mv_X7_advance ml_X9_84 cell_1 rfl rfl (Nat.le_of_ble_eq_true rfl) (by omega) (Nat.le_of_ble_eq_true rfl) (Nat.le_of_ble_eq_true rfl) rfl ?_
              refine SW.aload_n (pc := 187) g (dt dt_X9_readStep 102 rfl) rfl ?_
              refine SW.iconst (pc := 188) (v := 5) g (dt dt_X9_readStep 103 rfl) ki_5 ?_
              refine SW.iconst (pc := 189) (v := 0) g (dt dt_X9_readStep 104 rfl) ki_0 ?_
              refine SW.iconst (pc := 190) (v := 0) g (dt dt_X9_readStep 105 rfl) ki_0 ?_
              obtain ⟨r21, h22, h⟩ := bindI h
              refine SW.callVi (pc := 191) g (dt dt_X9_readStep 106 rfl) (mt_f_work_add _ _ _ _ ad ν   N r19 5 0 0 r21 h22) me_X9_add mv_X9_add ml_X9_91 cell_41 rfl rfl (Nat.le_of_ble_eq_true rfl) (by omega) (Nat.le_of_ble_eq_true rfl) (Nat.le_of_ble_eq_true rfl) rfl ?_
              obtain ⟨hn, h⟩ := blI h
              exact SW.zreturn (pc := 194) g (leafW h ho) rfl (Nat.le_of_ble_eq_true rfl) (Nat.le_of_ble_eq_true rfl) hn (dt dt_X9_readStep 107 rfl)
          · have h := iteF hc h
            refine SW.aload_n (pc := 134) g (dt dt_X9_readStep 72 rfl) rfl ?_
            obtain ⟨r23, h24, h⟩ := bindI h
            refine SW.callVv (pc := 135) g (dt dt_X9_readStep 73 rfl) (mt_f_tape_advance _ _ _ _ ad ν   N μ  r23 h24) me_X7_advance mv_X7_advance ml_X9_84 cell_1 rfl rfl (Nat.le_of_ble_eq_true rfl) (by omega) (Nat.le_of_ble_eq_true rfl) (Nat.le_of_ble_eq_true rfl) rfl ?_
            refine SW.aload_n (pc := 138) g (dt dt_X9_readStep 74 rfl) rfl ?_
            refine SW.iconst (pc := 139) (v := 0) g (dt dt_X9_readStep 75 rfl) ki_0 ?_
            refine SW.aload_n (pc := 140) g (dt dt_X9_readStep 76 rfl) rfl ?_
            refine SW.getR (pc := 141) g (dt dt_X9_readStep 77 rfl) fl_X9_31 cell_41 rfl ?_
            refine SW.getI (pc := 144) g (dt dt_X9_readStep 78 rfl) fl_X9_77 cell_3 rfl ?_
            refine SW.iconst (pc := 147) (v := 1) g (dt dt_X9_readStep 79 rfl) ki_1 ?_
            refine SW.isub (pc := 148) g (dt dt_X9_readStep 80 rfl) ?_
            obtain ⟨r25, h26, h⟩ := bindI h
            refine SW.callVi (pc := 149) g (dt dt_X9_readStep 81 rfl) (mt_f_tape_takeNumber _ _ _ _ ad ν   N r23 0 ((r23 3 1) - 1) r25 h26) me_X7_takeNumber mv_X7_takeNumber ml_X9_87 cell_1 rfl rfl (Nat.le_of_ble_eq_true rfl) (by omega) (Nat.le_of_ble_eq_true rfl) (Nat.le_of_ble_eq_true rfl) rfl ?_
            refine SW.istore_n (pc := 152) g (dt dt_X9_readStep 82 rfl) (sw_ltm hm (Nat.le_of_ble_eq_true rfl)) rfl ?_
            refine SW.iload_n (pc := 153) g (dt dt_X9_readStep 83 rfl) rfl ?_
            refine SW.iconst (pc := 154) (v := (-1)) g (dt dt_X9_readStep 84 rfl) ki_m1 ?_
            refine SW.icmp_eq (pc := 155) (t := 172) g (dt dt_X9_readStep 85 rfl) rfl (fun hc => ?_) (fun hc => ?_)
            · have h := iteT hc h
              refine SW.iconst (pc := 172) (v := 0) g (dt dt_X9_readStep 94 rfl) ki_0 ?_
              exact SW.zreturn (pc := 173) g (leafW h ho) rfl (Nat.le_of_ble_eq_true rfl) (Nat.le_of_ble_eq_true rfl) (by decide) (dt dt_X9_readStep 95 rfl)
            · have h := iteF hc h
              refine SW.aload_n (pc := 158) g (dt dt_X9_readStep 86 rfl) rfl ?_
              refine SW.iconst (pc := 159) (v := 4) g (dt dt_X9_readStep 87 rfl) ki_4 ?_
              refine SW.iload_n (pc := 160) g (dt dt_X9_readStep 88 rfl) rfl ?_
              refine SW.iconst (pc := 161) (v := 0) g (dt dt_X9_readStep 89 rfl) ki_0 ?_
              obtain ⟨r27, h28, h⟩ := bindI h
              refine SW.callVi (pc := 162) g (dt dt_X9_readStep 90 rfl) (mt_f_work_add _ _ _ _ ad ν   N r25.2 4 r25.1 0 r27 h28) me_X9_add mv_X9_add ml_X9_91 cell_41 rfl rfl (Nat.le_of_ble_eq_true rfl) (by omega) (Nat.le_of_ble_eq_true rfl) (Nat.le_of_ble_eq_true rfl) rfl ?_
              refine SW.if_eq (pc := 165) (t := 172) g (dt dt_X9_readStep 91 rfl) rfl (fun hc => ?_) (fun hc => ?_)
              · have h := iteT hc h
                refine SW.iconst (pc := 172) (v := 0) g (dt dt_X9_readStep 94 rfl) ki_0 ?_
                exact SW.zreturn (pc := 173) g (leafW h ho) rfl (Nat.le_of_ble_eq_true rfl) (Nat.le_of_ble_eq_true rfl) (by decide) (dt dt_X9_readStep 95 rfl)
              · have h := iteF hc h
                refine SW.iconst (pc := 168) (v := 1) g (dt dt_X9_readStep 92 rfl) ki_1 ?_
                refine SW.goto (pc := 169) (t := 173) g (dt dt_X9_readStep 93 rfl) rfl ?_
                exact SW.zreturn (pc := 173) g (leafW h ho) rfl (Nat.le_of_ble_eq_true rfl) (Nat.le_of_ble_eq_true rfl) (by decide) (dt dt_X9_readStep 95 rfl)
        · have h := iteF hc h
          refine SW.aload_n (pc := 108) g (dt dt_X9_readStep 58 rfl) rfl ?_
          refine SW.aload_n (pc := 109) g (dt dt_X9_readStep 59 rfl) rfl ?_
          refine SW.iconst (pc := 110) (v := 3) g (dt dt_X9_readStep 60 rfl) ki_3 ?_
          refine SW.aload_n (pc := 111) g (dt dt_X9_readStep 61 rfl) rfl ?_
          refine SW.getR (pc := 112) g (dt dt_X9_readStep 62 rfl) fl_X9_31 cell_41 rfl ?_
          refine SW.getI (pc := 115) g (dt dt_X9_readStep 63 rfl) fl_X9_77 cell_3 rfl ?_
          refine SW.iconst (pc := 118) (v := 1) g (dt dt_X9_readStep 64 rfl) ki_1 ?_
          refine SW.bipush (pc := 119) (v := 20) g (dt dt_X9_readStep 65 rfl) kb_20 ?_
          obtain ⟨r29, h30, h⟩ := bindI h
          refine SW.callVi (pc := 121) g (dt dt_X9_readStep 66 rfl) (mt_f_work_readTwo _ _ _ _ ad ν   N μ 3 (μ 3 1) 1 20 r29 h30) me_X9_readTwo mv_X9_readTwo ml_X9_69 cell_41 rfl rfl (Nat.le_of_ble_eq_true rfl) (by omega) (Nat.le_of_ble_eq_true rfl) (Nat.le_of_ble_eq_true rfl) rfl ?_
          obtain ⟨hn, h⟩ := blI h
          exact SW.zreturn (pc := 124) g (leafW h ho) rfl (Nat.le_of_ble_eq_true rfl) (Nat.le_of_ble_eq_true rfl) hn (dt dt_X9_readStep 67 rfl)
      · have h := iteF hc h
        refine SW.aload_n (pc := 75) g (dt dt_X9_readStep 40 rfl) rfl ?_
        refine SW.aload_n (pc := 76) g (dt dt_X9_readStep 41 rfl) rfl ?_
        refine SW.iconst (pc := 77) (v := 2) g (dt dt_X9_readStep 42 rfl) ki_2 ?_
        refine SW.aload_n (pc := 78) g (dt dt_X9_readStep 43 rfl) rfl ?_
        refine SW.getR (pc := 79) g (dt dt_X9_readStep 44 rfl) fl_X9_31 cell_41 rfl ?_
        refine SW.getI (pc := 82) g (dt dt_X9_readStep 45 rfl) fl_X9_61 cell_3 rfl ?_
        refine SW.iconst (pc := 85) (v := 0) g (dt dt_X9_readStep 46 rfl) ki_0 ?_
        refine SW.aload_n (pc := 86) g (dt dt_X9_readStep 47 rfl) rfl ?_
        refine SW.getR (pc := 87) g (dt dt_X9_readStep 48 rfl) fl_X9_31 cell_41 rfl ?_
        refine SW.getI (pc := 90) g (dt dt_X9_readStep 49 rfl) fl_X9_77 cell_3 rfl ?_
        refine SW.iconst (pc := 93) (v := 1) g (dt dt_X9_readStep 50 rfl) ki_1 ?_
        refine SW.isub (pc := 94) g (dt dt_X9_readStep 51 rfl) ?_
        obtain ⟨r31, h32, h⟩ := bindI h
        refine SW.callVi (pc := 95) g (dt dt_X9_readStep 52 rfl) (mt_f_work_readTwo _ _ _ _ ad ν   N μ 2 (μ 3 3) 0 ((μ 3 1) - 1) r31 h32) me_X9_readTwo mv_X9_readTwo ml_X9_69 cell_41 rfl rfl (Nat.le_of_ble_eq_true rfl) (by omega) (Nat.le_of_ble_eq_true rfl) (Nat.le_of_ble_eq_true rfl) rfl ?_
        obtain ⟨hn, h⟩ := blI h
        exact SW.zreturn (pc := 98) g (leafW h ho) rfl (Nat.le_of_ble_eq_true rfl) (Nat.le_of_ble_eq_true rfl) hn (dt dt_X9_readStep 53 rfl)
    · have h := iteF hc h
      refine SW.aload_n (pc := 42) g (dt dt_X9_readStep 22 rfl) rfl ?_
      refine SW.aload_n (pc := 43) g (dt dt_X9_readStep 23 rfl) rfl ?_
      refine SW.iconst (pc := 44) (v := 1) g (dt dt_X9_readStep 24 rfl) ki_1 ?_
      refine SW.aload_n (pc := 45) g (dt dt_X9_readStep 25 rfl) rfl ?_
      refine SW.getR (pc := 46) g (dt dt_X9_readStep 26 rfl) fl_X9_31 cell_41 rfl ?_
      refine SW.getI (pc := 49) g (dt dt_X9_readStep 27 rfl) fl_X9_61 cell_3 rfl ?_
      refine SW.iconst (pc := 52) (v := 0) g (dt dt_X9_readStep 28 rfl) ki_0 ?_
      refine SW.aload_n (pc := 53) g (dt dt_X9_readStep 29 rfl) rfl ?_
      refine SW.getR (pc := 54) g (dt dt_X9_readStep 30 rfl) fl_X9_31 cell_41 rfl ?_
      refine SW.getI (pc := 57) g (dt dt_X9_readStep 31 rfl) fl_X9_66 cell_3 rfl ?_
      refine SW.iconst (pc := 60) (v := 1) g (dt dt_X9_readStep 32 rfl) ki_1 ?_
      refine SW.isub (pc := 61) g (dt dt_X9_readStep 33 rfl) ?_
      obtain ⟨r33, h34, h⟩ := bindI h
      refine SW.callVi (pc := 62) g (dt dt_X9_readStep 34 rfl) (mt_f_work_readTwo _ _ _ _ ad ν   N μ 1 (μ 3 3) 0 ((μ 3 2) - 1) r33 h34) me_X9_readTwo mv_X9_readTwo ml_X9_69 cell_41 rfl rfl (Nat.le_of_ble_eq_true rfl) (by omega) (Nat.le_of_ble_eq_true rfl) (Nat.le_of_ble_eq_true rfl) rfl ?_
      obtain ⟨hn, h⟩ := blI h
      exact SW.zreturn (pc := 65) g (leafW h ho) rfl (Nat.le_of_ble_eq_true rfl) (Nat.le_of_ble_eq_true rfl) hn (dt dt_X9_readStep 35 rfl)
  · have h := iteF hc h
    refine SW.aload_n (pc := 9) g (dt dt_X9_readStep 4 rfl) rfl ?_
    refine SW.aload_n (pc := 10) g (dt dt_X9_readStep 5 rfl) rfl ?_
    refine SW.iconst (pc := 11) (v := 0) g (dt dt_X9_readStep 6 rfl) ki_0 ?_
    refine SW.aload_n (pc := 12) g (dt dt_X9_readStep 7 rfl) rfl ?_
    refine SW.getR (pc := 13) g (dt dt_X9_readStep 8 rfl) fl_X9_31 cell_41 rfl ?_
    refine SW.getI (pc := 16) g (dt dt_X9_readStep 9 rfl) fl_X9_61 cell_3 rfl ?_
    refine SW.iconst (pc := 19) (v := 0) g (dt dt_X9_readStep 10 rfl) ki_0 ?_
    refine SW.aload_n (pc := 20) g (dt dt_X9_readStep 11 rfl) rfl ?_
    refine SW.getR (pc := 21) g (dt dt_X9_readStep 12 rfl) fl_X9_31 cell_41 rfl ?_
    refine SW.getI (pc := 24) g (dt dt_X9_readStep 13 rfl) fl_X9_66 cell_3 rfl ?_
    refine SW.iconst (pc := 27) (v := 1) g (dt dt_X9_readStep 14 rfl) ki_1 ?_
    refine SW.isub (pc := 28) g (dt dt_X9_readStep 15 rfl) ?_
    obtain ⟨r35, h36, h⟩ := bindI h
    refine SW.callVi (pc := 29) g (dt dt_X9_readStep 16 rfl) (mt_f_work_readTwo _ _ _ _ ad ν   N μ 0 (μ 3 3) 0 ((μ 3 2) - 1) r35 h36) me_X9_readTwo mv_X9_readTwo ml_X9_69 cell_41 rfl rfl (Nat.le_of_ble_eq_true rfl) (by omega) (Nat.le_of_ble_eq_true rfl) (Nat.le_of_ble_eq_true rfl) rfl ?_
    obtain ⟨hn, h⟩ := blI h
    exact SW.zreturn (pc := 32) g (leafW h ho) rfl (Nat.le_of_ble_eq_true rfl) (Nat.le_of_ble_eq_true rfl) hn (dt dt_X9_readStep 17 rfl)
set_option maxRecDepth 100000 in
set_option maxHeartbeats 4000000 in
theorem mtb_f_work_readStep (l : Launch) (D : va_G) (cI cL : ClassId) (ad : Nat → Nat) (ν : sw_N)   {d : Nat} (q_f_work_readSteps : sw_M → Int32 → Option (Int32 × sw_M)) (q_f_work_readStep : sw_M → Int32 → Option (Int32 × sw_M)) (q_f_work_readAgain : sw_M → Int32 → Option (Int32 × sw_M)) (hq_f_work_readSteps : ∀ (l : Launch) (D : va_G) (cI cL : ClassId) (ad : Nat → Nat) (ν : sw_N) (μ : sw_M) (a2 : Int32) (o : Int32 × sw_M), q_f_work_readSteps μ a2 = some o → MetR l D cI cL yX9_readSteps cX9_readSteps 4 (some .boolean) (6 + d) 0 0 (fun a => a = ad) ad [.ref 41, .ref 1, .int a2] lay0 μ ν (some (.int o.1)) lay0 o.2 ν) (hq_f_work_readStep : ∀ (l : Launch) (D : va_G) (cI cL : ClassId) (ad : Nat → Nat) (ν : sw_N) (μ : sw_M) (a2 : Int32) (o : Int32 × sw_M), q_f_work_readStep μ a2 = some o → MetR l D cI cL yX9_readStep cX9_readStep 4 (some .boolean) (6 + d) 0 0 (fun a => a = ad) ad [.ref 41, .ref 1, .int a2] lay0 μ ν (some (.int o.1)) lay0 o.2 ν) (hq_f_work_readAgain : ∀ (l : Launch) (D : va_G) (cI cL : ClassId) (ad : Nat → Nat) (ν : sw_N) (μ : sw_M) (a2 : Int32) (o : Int32 × sw_M), q_f_work_readAgain μ a2 = some o → MetR l D cI cL yX9_readAgain cX9_readAgain 5 (some .boolean) (6 + d) 0 0 (fun a => a = ad) ad [.ref 41, .ref 1, .int a2] lay0 μ ν (some (.int o.1)) lay0 o.2 ν) (N : Nat) (μ : sw_M) (a2 : Int32) (o : Int32 × sw_M) (h : f_work_readStep_b N  q_f_work_readSteps q_f_work_readStep q_f_work_readAgain μ a2 = some o) : MetR l D cI cL yX9_readStep cX9_readStep 4 (some .boolean) (6 + (d + 1)) 0 0 (fun a => a = ad) ad [.ref 41, .ref 1, .int a2] lay0 μ ν (some (.int o.1)) lay0 o.2 ν :=
  MetR.of (n := 1) rfl (Nat.le_of_ble_eq_true rfl) (fun G g ho hm _ _ => ok_f_work_readStep_b  q_f_work_readSteps q_f_work_readStep q_f_work_readAgain g hm  hq_f_work_readSteps hq_f_work_readStep hq_f_work_readAgain μ ho a2 h)
def f_work_readSteps_2 (N : Nat) (q_f_work_readSteps : sw_M → Int32 → Option (Int32 × sw_M)) (q_f_work_readStep : sw_M → Int32 → Option (Int32 × sw_M)) (q_f_work_readAgain : sw_M → Int32 → Option (Int32 × sw_M))  : Nat → sw_M → Int32 → Int32 → Option (Int32 × sw_M)
  | 0, _, _, _ => none
  | n + 1, μ, x2, x3 =>
    if 150 ≤ x3 then
      some (1, μ)
    else
      if (μ 1 4) = 258 then
        Option.bind (q_f_work_readStep μ x2) (fun r1 =>
          if r1.1 = 0 then
            some (0, r1.2)
          else
            Option.bind (f_tape_takeSign N  r1.2 59) (fun r3 =>
              if r3.1 = 0 then
                some (0, r3.2)
              else
                f_work_readSteps_2 N  q_f_work_readSteps q_f_work_readStep q_f_work_readAgain  n r3.2 x2 (x3 + 1)))
      else
        some (1, μ)
def f_work_readSteps_b (N : Nat) (q_f_work_readSteps : sw_M → Int32 → Option (Int32 × sw_M)) (q_f_work_readStep : sw_M → Int32 → Option (Int32 × sw_M)) (q_f_work_readAgain : sw_M → Int32 → Option (Int32 × sw_M)) (μ : sw_M) (a2 : Int32) : Option (Int32 × sw_M) :=
  f_work_readSteps_2 N  q_f_work_readSteps q_f_work_readStep q_f_work_readAgain  N μ a2 0
set_option maxRecDepth 100000 in
set_option maxHeartbeats 4000000 in
theorem ok_f_work_readSteps_2 {G : sw_G} {ad : Nat → Nat} {ν : sw_N}   {d : Nat} (q_f_work_readSteps : sw_M → Int32 → Option (Int32 × sw_M)) (q_f_work_readStep : sw_M → Int32 → Option (Int32 × sw_M)) (q_f_work_readAgain : sw_M → Int32 → Option (Int32 × sw_M)) {N : Nat} {o : Int32 × sw_M} (g : sw_ok G cX9_readSteps "DeadWires$Work" (some .boolean) (6 + (d + 1)) 0 0 ad) (hm : G.2.2.1.2.1.maxLocals = 4) (hq_f_work_readSteps : ∀ (l : Launch) (D : va_G) (cI cL : ClassId) (ad : Nat → Nat) (ν : sw_N) (μ : sw_M) (a2 : Int32) (o : Int32 × sw_M), q_f_work_readSteps μ a2 = some o → MetR l D cI cL yX9_readSteps cX9_readSteps 4 (some .boolean) (6 + d) 0 0 (fun a => a = ad) ad [.ref 41, .ref 1, .int a2] lay0 μ ν (some (.int o.1)) lay0 o.2 ν) (hq_f_work_readStep : ∀ (l : Launch) (D : va_G) (cI cL : ClassId) (ad : Nat → Nat) (ν : sw_N) (μ : sw_M) (a2 : Int32) (o : Int32 × sw_M), q_f_work_readStep μ a2 = some o → MetR l D cI cL yX9_readStep cX9_readStep 4 (some .boolean) (6 + d) 0 0 (fun a => a = ad) ad [.ref 41, .ref 1, .int a2] lay0 μ ν (some (.int o.1)) lay0 o.2 ν) (hq_f_work_readAgain : ∀ (l : Launch) (D : va_G) (cI cL : ClassId) (ad : Nat → Nat) (ν : sw_N) (μ : sw_M) (a2 : Int32) (o : Int32 × sw_M), q_f_work_readAgain μ a2 = some o → MetR l D cI cL yX9_readAgain cX9_readAgain 5 (some .boolean) (6 + d) 0 0 (fun a => a = ad) ad [.ref 41, .ref 1, .int a2] lay0 μ ν (some (.int o.1)) lay0 o.2 ν) (ho : sw_out G 0 0 (fun a => a = ad) (.inl (some (.int o.1))) lay0 o.2 ν)  : ∀ (n : Nat) (μ : sw_M) (x2 : Int32) (x3 : Int32) (h : f_work_readSteps_2 N  q_f_work_readSteps q_f_work_readStep q_f_work_readAgain  n μ x2 x3 = some o), SW G ad lay0 ν 0 0 2 [some (.ref 41), some (.ref 1), some (.int x2), some (.int x3)] [] μ := by
  intro n
  induction n with
  | zero => intro μ x2 x3 h; simp only [f_work_readSteps_2] at h; cases h
  | succ n ih =>
    intro μ x2 x3 h
    unfold f_work_readSteps_2 at h
    refine SW.iload_n (pc := 2) g (dt dt_X9_readSteps 2 rfl) rfl ?_
    refine SW.sipush (pc := 3) (v := 150) g (dt dt_X9_readSteps 3 rfl) ks_150 ?_
    refine SW.icmp_ge (pc := 6) (t := 47) g (dt dt_X9_readSteps 4 rfl) rfl (fun hc => ?_) (fun hc => ?_)
    · have h := iteT hc h
      refine SW.iconst (pc := 47) (v := 1) g (dt dt_X9_readSteps 24 rfl) ki_1 ?_
      exact SW.zreturn (pc := 48) g (leafW h ho) rfl (Nat.le_of_ble_eq_true rfl) (Nat.le_of_ble_eq_true rfl) (by decide) (dt dt_X9_readSteps 25 rfl)
    · have h := iteF hc h
      refine SW.aload_n (pc := 9) g (dt dt_X9_readSteps 5 rfl) rfl ?_
      refine SW.getI (pc := 10) g (dt dt_X9_readSteps 6 rfl) fl_X9_40 cell_1 rfl ?_
      refine SW.sipush (pc := 13) (v := 258) g (dt dt_X9_readSteps 7 rfl) ks_258 ?_
      refine SW.icmp_eq (pc := 16) (t := 21) g (dt dt_X9_readSteps 8 rfl) rfl (fun hc => ?_) (fun hc => ?_)
      · have h := iteT hc h
        refine SW.aload_n (pc := 21) g (dt dt_X9_readSteps 11 rfl) rfl ?_
        refine SW.aload_n (pc := 22) g (dt dt_X9_readSteps 12 rfl) rfl ?_
        refine SW.iload_n (pc := 23) g (dt dt_X9_readSteps 13 rfl) rfl ?_
        obtain ⟨r1, h2, h⟩ := bindI h
        refine SW.callVi (pc := 24) g (dt dt_X9_readSteps 14 rfl) (hq_f_work_readStep _ _ _ _ ad ν μ x2 r1 h2) me_X9_readStep mv_X9_readStep ml_X9_49 cell_41 rfl rfl (Nat.le_of_ble_eq_true rfl) (by omega) (Nat.le_of_ble_eq_true rfl) (Nat.le_of_ble_eq_true rfl) rfl ?_
        refine SW.if_eq (pc := 27) (t := 39) g (dt dt_X9_readSteps 15 rfl) rfl (fun hc => ?_) (fun hc => ?_)
        · have h := iteT hc h
          refine SW.iconst (pc := 39) (v := 0) g (dt dt_X9_readSteps 20 rfl) ki_0 ?_
          exact SW.zreturn (pc := 40) g (leafW h ho) rfl (Nat.le_of_ble_eq_true rfl) (Nat.le_of_ble_eq_true rfl) (by decide) (dt dt_X9_readSteps 21 rfl)
        · have h := iteF hc h
          refine SW.aload_n (pc := 30) g (dt dt_X9_readSteps 16 rfl) rfl ?_
          refine SW.bipush (pc := 31) (v := 59) g (dt dt_X9_readSteps 17 rfl) kb_59 ?_
          obtain ⟨r3, h4, h⟩ := bindI h
          refine SW.callVi (pc := 33) g (dt dt_X9_readSteps 18 rfl) (mt_f_tape_takeSign _ _ _ _ ad ν   N r1.2 59 r3 h4) me_X7_takeSign mv_X7_takeSign ml_X9_52 cell_1 rfl rfl (Nat.le_of_ble_eq_true rfl) (by omega) (Nat.le_of_ble_eq_true rfl) (Nat.le_of_ble_eq_true rfl) rfl ?_
          refine SW.if_ne (pc := 36) (t := 41) g (dt dt_X9_readSteps 19 rfl) rfl (fun hc => ?_) (fun hc => ?_)
          · have h := iteF hc h
            refine SW.iinc (pc := 41) (v := x3 + 1) g (dt dt_X9_readSteps 22 rfl) rfl (kn_1 _) (sw_ltm hm (Nat.le_of_ble_eq_true rfl)) rfl ?_
            refine SW.goto (pc := 44) (t := 2) g (dt dt_X9_readSteps 23 rfl) rfl ?_
            refine SW.msk [true, true, true, true] ?_
            exact ih r3.2 x2 (x3 + 1) h
          · have h := iteT hc h
            refine SW.iconst (pc := 39) (v := 0) g (dt dt_X9_readSteps 20 rfl) ki_0 ?_
            exact SW.zreturn (pc := 40) g (leafW h ho) rfl (Nat.le_of_ble_eq_true rfl) (Nat.le_of_ble_eq_true rfl) (by decide) (dt dt_X9_readSteps 21 rfl)
      · have h := iteF hc h
        refine SW.iconst (pc := 19) (v := 1) g (dt dt_X9_readSteps 9 rfl) ki_1 ?_
        exact SW.zreturn (pc := 20) g (leafW h ho) rfl (Nat.le_of_ble_eq_true rfl) (Nat.le_of_ble_eq_true rfl) (by decide) (dt dt_X9_readSteps 10 rfl)
set_option maxRecDepth 100000 in
set_option maxHeartbeats 4000000 in
theorem ok_f_work_readSteps_b {G : sw_G} {ad : Nat → Nat} {ν : sw_N}   {d : Nat} (q_f_work_readSteps : sw_M → Int32 → Option (Int32 × sw_M)) (q_f_work_readStep : sw_M → Int32 → Option (Int32 × sw_M)) (q_f_work_readAgain : sw_M → Int32 → Option (Int32 × sw_M)) {N : Nat} {o : Int32 × sw_M} (g : sw_ok G cX9_readSteps "DeadWires$Work" (some .boolean) (6 + (d + 1)) 0 0 ad) (hm : G.2.2.1.2.1.maxLocals = 4) (hq_f_work_readSteps : ∀ (l : Launch) (D : va_G) (cI cL : ClassId) (ad : Nat → Nat) (ν : sw_N) (μ : sw_M) (a2 : Int32) (o : Int32 × sw_M), q_f_work_readSteps μ a2 = some o → MetR l D cI cL yX9_readSteps cX9_readSteps 4 (some .boolean) (6 + d) 0 0 (fun a => a = ad) ad [.ref 41, .ref 1, .int a2] lay0 μ ν (some (.int o.1)) lay0 o.2 ν) (hq_f_work_readStep : ∀ (l : Launch) (D : va_G) (cI cL : ClassId) (ad : Nat → Nat) (ν : sw_N) (μ : sw_M) (a2 : Int32) (o : Int32 × sw_M), q_f_work_readStep μ a2 = some o → MetR l D cI cL yX9_readStep cX9_readStep 4 (some .boolean) (6 + d) 0 0 (fun a => a = ad) ad [.ref 41, .ref 1, .int a2] lay0 μ ν (some (.int o.1)) lay0 o.2 ν) (hq_f_work_readAgain : ∀ (l : Launch) (D : va_G) (cI cL : ClassId) (ad : Nat → Nat) (ν : sw_N) (μ : sw_M) (a2 : Int32) (o : Int32 × sw_M), q_f_work_readAgain μ a2 = some o → MetR l D cI cL yX9_readAgain cX9_readAgain 5 (some .boolean) (6 + d) 0 0 (fun a => a = ad) ad [.ref 41, .ref 1, .int a2] lay0 μ ν (some (.int o.1)) lay0 o.2 ν) (μ : sw_M) (ho : sw_out G 0 0 (fun a => a = ad) (.inl (some (.int o.1))) lay0 o.2 ν) (a2 : Int32) (h : f_work_readSteps_b N  q_f_work_readSteps q_f_work_readStep q_f_work_readAgain μ a2 = some o) : SW G ad lay0 ν 0 0 0 [some (.ref 41), some (.ref 1), some (.int a2), none] [] μ := by
  unfold f_work_readSteps_b at h
  refine SW.iconst (pc := 0) (v := 0) g (dt dt_X9_readSteps 0 rfl) ki_0 ?_
  refine SW.istore_n (pc := 1) g (dt dt_X9_readSteps 1 rfl) (sw_ltm hm (Nat.le_of_ble_eq_true rfl)) rfl ?_
  refine SW.msk [true, true, true, true] ?_
  exact ok_f_work_readSteps_2  q_f_work_readSteps q_f_work_readStep q_f_work_readAgain g hm  hq_f_work_readSteps hq_f_work_readStep hq_f_work_readAgain ho   N μ a2 0 h
set_option maxRecDepth 100000 in
set_option maxHeartbeats 4000000 in
theorem mtb_f_work_readSteps (l : Launch) (D : va_G) (cI cL : ClassId) (ad : Nat → Nat) (ν : sw_N)   {d : Nat} (q_f_work_readSteps : sw_M → Int32 → Option (Int32 × sw_M)) (q_f_work_readStep : sw_M → Int32 → Option (Int32 × sw_M)) (q_f_work_readAgain : sw_M → Int32 → Option (Int32 × sw_M)) (hq_f_work_readSteps : ∀ (l : Launch) (D : va_G) (cI cL : ClassId) (ad : Nat → Nat) (ν : sw_N) (μ : sw_M) (a2 : Int32) (o : Int32 × sw_M), q_f_work_readSteps μ a2 = some o → MetR l D cI cL yX9_readSteps cX9_readSteps 4 (some .boolean) (6 + d) 0 0 (fun a => a = ad) ad [.ref 41, .ref 1, .int a2] lay0 μ ν (some (.int o.1)) lay0 o.2 ν) (hq_f_work_readStep : ∀ (l : Launch) (D : va_G) (cI cL : ClassId) (ad : Nat → Nat) (ν : sw_N) (μ : sw_M) (a2 : Int32) (o : Int32 × sw_M), q_f_work_readStep μ a2 = some o → MetR l D cI cL yX9_readStep cX9_readStep 4 (some .boolean) (6 + d) 0 0 (fun a => a = ad) ad [.ref 41, .ref 1, .int a2] lay0 μ ν (some (.int o.1)) lay0 o.2 ν) (hq_f_work_readAgain : ∀ (l : Launch) (D : va_G) (cI cL : ClassId) (ad : Nat → Nat) (ν : sw_N) (μ : sw_M) (a2 : Int32) (o : Int32 × sw_M), q_f_work_readAgain μ a2 = some o → MetR l D cI cL yX9_readAgain cX9_readAgain 5 (some .boolean) (6 + d) 0 0 (fun a => a = ad) ad [.ref 41, .ref 1, .int a2] lay0 μ ν (some (.int o.1)) lay0 o.2 ν) (N : Nat) (μ : sw_M) (a2 : Int32) (o : Int32 × sw_M) (h : f_work_readSteps_b N  q_f_work_readSteps q_f_work_readStep q_f_work_readAgain μ a2 = some o) : MetR l D cI cL yX9_readSteps cX9_readSteps 4 (some .boolean) (6 + (d + 1)) 0 0 (fun a => a = ad) ad [.ref 41, .ref 1, .int a2] lay0 μ ν (some (.int o.1)) lay0 o.2 ν :=
  MetR.of (n := 1) rfl (Nat.le_of_ble_eq_true rfl) (fun G g ho hm _ _ => ok_f_work_readSteps_b  q_f_work_readSteps q_f_work_readStep q_f_work_readAgain g hm  hq_f_work_readSteps hq_f_work_readStep hq_f_work_readAgain μ ho a2 h)
def grp_work_readSteps (N : Nat) : Nat → (sw_M → Int32 → Option (Int32 × sw_M)) × (sw_M → Int32 → Option (Int32 × sw_M)) × (sw_M → Int32 → Option (Int32 × sw_M))
  | 0 => (fun _ _ => none, fun _ _ => none, fun _ _ => none)
  | d + 1 => (f_work_readSteps_b N ((grp_work_readSteps N d).1) ((grp_work_readSteps N d).2.1) ((grp_work_readSteps N d).2.2), f_work_readStep_b N ((grp_work_readSteps N d).1) ((grp_work_readSteps N d).2.1) ((grp_work_readSteps N d).2.2), f_work_readAgain_b N ((grp_work_readSteps N d).1) ((grp_work_readSteps N d).2.1) ((grp_work_readSteps N d).2.2))
def f_work_readSteps (N : Nat) (μ : sw_M) (a2 : Int32) : Option (Int32 × sw_M) := (grp_work_readSteps N 40).1 μ a2
def f_work_readStep (N : Nat) (μ : sw_M) (a2 : Int32) : Option (Int32 × sw_M) := (grp_work_readSteps N 40).2.1 μ a2
def f_work_readAgain (N : Nat) (μ : sw_M) (a2 : Int32) : Option (Int32 × sw_M) := (grp_work_readSteps N 40).2.2 μ a2
set_option maxRecDepth 100000 in
set_option maxHeartbeats 4000000 in
theorem ok_grp_work_readSteps (N : Nat) : ∀ d : Nat, (∀ (l : Launch) (D : va_G) (cI cL : ClassId) (ad : Nat → Nat) (ν : sw_N) (μ : sw_M) (a2 : Int32) (o : Int32 × sw_M), (grp_work_readSteps N d).1 μ a2 = some o → MetR l D cI cL yX9_readSteps cX9_readSteps 4 (some .boolean) (6 + d) 0 0 (fun a => a = ad) ad [.ref 41, .ref 1, .int a2] lay0 μ ν (some (.int o.1)) lay0 o.2 ν) ∧ (∀ (l : Launch) (D : va_G) (cI cL : ClassId) (ad : Nat → Nat) (ν : sw_N) (μ : sw_M) (a2 : Int32) (o : Int32 × sw_M), (grp_work_readSteps N d).2.1 μ a2 = some o → MetR l D cI cL yX9_readStep cX9_readStep 4 (some .boolean) (6 + d) 0 0 (fun a => a = ad) ad [.ref 41, .ref 1, .int a2] lay0 μ ν (some (.int o.1)) lay0 o.2 ν) ∧ (∀ (l : Launch) (D : va_G) (cI cL : ClassId) (ad : Nat → Nat) (ν : sw_N) (μ : sw_M) (a2 : Int32) (o : Int32 × sw_M), (grp_work_readSteps N d).2.2 μ a2 = some o → MetR l D cI cL yX9_readAgain cX9_readAgain 5 (some .boolean) (6 + d) 0 0 (fun a => a = ad) ad [.ref 41, .ref 1, .int a2] lay0 μ ν (some (.int o.1)) lay0 o.2 ν) := by
  intro d
  induction d with
  | zero => exact ⟨(fun l D cI cL ad ν μ a2 o h => nomatch h), (fun l D cI cL ad ν μ a2 o h => nomatch h), (fun l D cI cL ad ν μ a2 o h => nomatch h)⟩
  | succ d ih => exact ⟨fun l D cI cL ad ν μ a2 o h => mtb_f_work_readSteps l D cI cL ad ν ((grp_work_readSteps N d).1) ((grp_work_readSteps N d).2.1) ((grp_work_readSteps N d).2.2) (ih.1) (ih.2.1) (ih.2.2) N μ a2 o h, fun l D cI cL ad ν μ a2 o h => mtb_f_work_readStep l D cI cL ad ν ((grp_work_readSteps N d).1) ((grp_work_readSteps N d).2.1) ((grp_work_readSteps N d).2.2) (ih.1) (ih.2.1) (ih.2.2) N μ a2 o h, fun l D cI cL ad ν μ a2 o h => mtb_f_work_readAgain l D cI cL ad ν ((grp_work_readSteps N d).1) ((grp_work_readSteps N d).2.1) ((grp_work_readSteps N d).2.2) (ih.1) (ih.2.1) (ih.2.2) N μ a2 o h⟩
set_option maxRecDepth 100000 in
set_option maxHeartbeats 4000000 in
theorem mt_f_work_readSteps (l : Launch) (D : va_G) (cI cL : ClassId) (ad : Nat → Nat) (ν : sw_N) (N : Nat) (μ : sw_M) (a2 : Int32) (o : Int32 × sw_M) (h : f_work_readSteps N μ a2 = some o) : MetR l D cI cL yX9_readSteps cX9_readSteps 4 (some .boolean) 46 0 0 (fun a => a = ad) ad [.ref 41, .ref 1, .int a2] lay0 μ ν (some (.int o.1)) lay0 o.2 ν := (ok_grp_work_readSteps N 40).1 l D cI cL ad ν μ a2 o h
set_option maxRecDepth 100000 in
set_option maxHeartbeats 4000000 in
theorem mt_f_work_readStep (l : Launch) (D : va_G) (cI cL : ClassId) (ad : Nat → Nat) (ν : sw_N) (N : Nat) (μ : sw_M) (a2 : Int32) (o : Int32 × sw_M) (h : f_work_readStep N μ a2 = some o) : MetR l D cI cL yX9_readStep cX9_readStep 4 (some .boolean) 46 0 0 (fun a => a = ad) ad [.ref 41, .ref 1, .int a2] lay0 μ ν (some (.int o.1)) lay0 o.2 ν := (ok_grp_work_readSteps N 40).2.1 l D cI cL ad ν μ a2 o h
set_option maxRecDepth 100000 in
set_option maxHeartbeats 4000000 in
theorem mt_f_work_readAgain (l : Launch) (D : va_G) (cI cL : ClassId) (ad : Nat → Nat) (ν : sw_N) (N : Nat) (μ : sw_M) (a2 : Int32) (o : Int32 × sw_M) (h : f_work_readAgain N μ a2 = some o) : MetR l D cI cL yX9_readAgain cX9_readAgain 5 (some .boolean) 46 0 0 (fun a => a = ad) ad [.ref 41, .ref 1, .int a2] lay0 μ ν (some (.int o.1)) lay0 o.2 ν := (ok_grp_work_readSteps N 40).2.2 l D cI cL ad ν μ a2 o h
def f_work_read (N : Nat)  (μ : sw_M)  : Option (Int32 × sw_M) :=
  wb (wr μ 41 5 0) (fun μ1 =>
    Option.bind (f_work_readSteps N  μ1 0) (fun r2 =>
      if r2.1 = 0 then
        some (0, r2.2)
      else
        if (r2.2 1 4) = 256 then
          some (1, r2.2)
        else
          Option.bind (f_tape_fail N  r2.2 1) (fun r4 =>
            if r4.1 = 0 then
              some (0, r4.2)
            else
              some (1, r4.2))))
set_option maxRecDepth 100000 in
set_option maxHeartbeats 4000000 in
theorem ok_f_work_read {G : sw_G} {ad : Nat → Nat} {ν : sw_N}   {N : Nat} {o : Int32 × sw_M} (g : sw_ok G cX9_read "DeadWires$Work" (some .boolean) 47 0 0 ad) (hm : G.2.2.1.2.1.maxLocals = 2)  (μ : sw_M) (ho : sw_out G 0 0 (fun a => a = ad) (.inl (some (.int o.1))) lay0 o.2 ν)  (h : f_work_read N  μ  = some o) : SW G ad lay0 ν 0 0 0 [some (.ref 41), some (.ref 1)] [] μ := by
  unfold f_work_read at h
  refine SW.aload_n (pc := 0) g (dt dt_X9_read 0 rfl) rfl ?_
  refine SW.iconst (pc := 1) (v := 0) g (dt dt_X9_read 1 rfl) ki_0 ?_
  refine SW.putI (pc := 2) g (dt dt_X9_read 2 rfl) fl_X9_32 cell_41 rfl ?_
  refine SW.genM h (fun μ1 h => ?_)
  refine SW.aload_n (pc := 5) g (dt dt_X9_read 3 rfl) rfl ?_
  refine SW.aload_n (pc := 6) g (dt dt_X9_read 4 rfl) rfl ?_
  refine SW.iconst (pc := 7) (v := 0) g (dt dt_X9_read 5 rfl) ki_0 ?_
  obtain ⟨r2, h3, h⟩ := bindI h
  refine SW.callVi (pc := 8) g (dt dt_X9_read 6 rfl) (mt_f_work_readSteps _ _ _ _ ad ν   N μ1 0 r2 h3) me_X9_readSteps mv_X9_readSteps ml_X9_36 cell_41 rfl rfl (Nat.le_of_ble_eq_true rfl) (Nat.le_of_ble_eq_true rfl) (Nat.le_of_ble_eq_true rfl) (Nat.le_of_ble_eq_true rfl) rfl ?_
  refine SW.if_eq (pc := 11) (t := 36) g (dt dt_X9_read 7 rfl) rfl (fun hc => ?_) (fun hc => ?_)
  · have h := iteT hc h
    refine SW.iconst (pc := 36) (v := 0) g (dt dt_X9_read 18 rfl) ki_0 ?_
    exact SW.zreturn (pc := 37) g (leafW h ho) rfl (Nat.le_of_ble_eq_true rfl) (Nat.le_of_ble_eq_true rfl) (by decide) (dt dt_X9_read 19 rfl)
  · have h := iteF hc h
    refine SW.aload_n (pc := 14) g (dt dt_X9_read 8 rfl) rfl ?_
    refine SW.getI (pc := 15) g (dt dt_X9_read 9 rfl) fl_X9_40 cell_1 rfl ?_
    refine SW.sipush (pc := 18) (v := 256) g (dt dt_X9_read 10 rfl) ks_256 ?_
    refine SW.icmp_eq (pc := 21) (t := 32) g (dt dt_X9_read 11 rfl) rfl (fun hc => ?_) (fun hc => ?_)
    · have h := iteT hc h
      refine SW.iconst (pc := 32) (v := 1) g (dt dt_X9_read 16 rfl) ki_1 ?_
      refine SW.goto (pc := 33) (t := 37) g (dt dt_X9_read 17 rfl) rfl ?_
      exact SW.zreturn (pc := 37) g (leafW h ho) rfl (Nat.le_of_ble_eq_true rfl) (Nat.le_of_ble_eq_true rfl) (by decide) (dt dt_X9_read 19 rfl)
    · have h := iteF hc h
      refine SW.aload_n (pc := 24) g (dt dt_X9_read 12 rfl) rfl ?_
      refine SW.iconst (pc := 25) (v := 1) g (dt dt_X9_read 13 rfl) ki_1 ?_
      obtain ⟨r4, h5, h⟩ := bindI h
      refine SW.callVi (pc := 26) g (dt dt_X9_read 14 rfl) (mt_f_tape_fail _ _ _ _ ad ν   N r2.2 1 r4 h5) me_X7_fail mv_X7_fail ml_X9_45 cell_1 rfl rfl (Nat.le_of_ble_eq_true rfl) (Nat.le_of_ble_eq_true rfl) (Nat.le_of_ble_eq_true rfl) (Nat.le_of_ble_eq_true rfl) rfl ?_
      refine SW.if_eq (pc := 29) (t := 36) g (dt dt_X9_read 15 rfl) rfl (fun hc => ?_) (fun hc => ?_)
      · have h := iteT hc h
        refine SW.iconst (pc := 36) (v := 0) g (dt dt_X9_read 18 rfl) ki_0 ?_
        exact SW.zreturn (pc := 37) g (leafW h ho) rfl (Nat.le_of_ble_eq_true rfl) (Nat.le_of_ble_eq_true rfl) (by decide) (dt dt_X9_read 19 rfl)
      · have h := iteF hc h
        refine SW.iconst (pc := 32) (v := 1) g (dt dt_X9_read 16 rfl) ki_1 ?_
        refine SW.goto (pc := 33) (t := 37) g (dt dt_X9_read 17 rfl) rfl ?_
        exact SW.zreturn (pc := 37) g (leafW h ho) rfl (Nat.le_of_ble_eq_true rfl) (Nat.le_of_ble_eq_true rfl) (by decide) (dt dt_X9_read 19 rfl)
set_option maxRecDepth 100000 in
set_option maxHeartbeats 4000000 in
theorem mt_f_work_read (l : Launch) (D : va_G) (cI cL : ClassId) (ad : Nat → Nat) (ν : sw_N)    (N : Nat) (μ : sw_M)  (o : Int32 × sw_M) (h : f_work_read N  μ  = some o) : MetR l D cI cL yX9_read cX9_read 2 (some .boolean) 47 0 0 (fun a => a = ad) ad [.ref 41, .ref 1] lay0 μ ν (some (.int o.1)) lay0 o.2 ν :=
  MetR.of (n := 0) rfl (Nat.le_of_ble_eq_true rfl) (fun G g ho hm _ _ => ok_f_work_read  g hm  μ ho  h)
def f_days_lift (N : Nat)  (μ : sw_M) (a1 : Int32) (a2 : Int32) : Option (Int32 × sw_M) :=
  Option.bind (f_sx_at N 39 5 μ a1) (fun r1 =>
    Option.bind (f_days_lyingBits N  μ r1) (fun r3 =>
      Option.bind (f_sx_has N  μ r3 a2) (fun r5 =>
        if r5 = 0 then
          some (0, μ)
        else
          Option.bind (f_sx_at N 8 6 μ a2) (fun r7 =>
            Option.bind (f_days_freeOf N  μ a1) (fun r9 =>
              if r7 ≤ r9 then
                Option.bind (f_sx_put N 38 6 μ a2 a1) (fun r11 =>
                  some (1, r11))
              else
                some (0, μ))))))
set_option maxRecDepth 100000 in
set_option maxHeartbeats 4000000 in
theorem ok_f_days_lift {G : sw_G} {ad : Nat → Nat} {ν : sw_N}   {N : Nat} {o : Int32 × sw_M} (g : sw_ok G cX2_lift "DeadWires$Days" (some .boolean) 3 0 0 ad) (hm : G.2.2.1.2.1.maxLocals = 4)  (μ : sw_M) (ho : sw_out G 0 0 (fun a => a = ad) (.inl (some (.int o.1))) lay0 o.2 ν) (a1 : Int32) (a2 : Int32) (h : f_days_lift N  μ a1 a2 = some o) : SW G ad lay0 ν 0 0 0 [some (.ref 35), some (.int a1), some (.int a2), none] [] μ := by
  unfold f_days_lift at h
  refine SW.aload_n (pc := 0) g (dt dt_X2_lift 0 rfl) rfl ?_
  refine SW.aload_n (pc := 1) g (dt dt_X2_lift 1 rfl) rfl ?_
  refine SW.getR (pc := 2) g (dt dt_X2_lift 2 rfl) fl_X2_21 cell_35 rfl ?_
  refine SW.iload_n (pc := 5) g (dt dt_X2_lift 3 rfl) rfl ?_
  obtain ⟨r1, h2, h⟩ := bindI h
  refine SW.callSNi (pc := 6) g (dt dt_X2_lift 4 rfl) (mt_f_sx_at _ _ _ _ ad ν lay0 39 5 cell_39 N μ a1 r1 h2) me_X10_at ms_X10_at mn_X2_79 rfl (Nat.le_of_ble_eq_true rfl) (Nat.le_of_ble_eq_true rfl) (Nat.le_of_ble_eq_true rfl) (Nat.le_of_ble_eq_true rfl) rfl ?_
  obtain ⟨r3, h4, h⟩ := bindI h
  refine SW.callVi (pc := 9) g (dt dt_X2_lift 5 rfl) (mt_f_days_lyingBits _ _ _ _ ad ν   N μ r1 r3 h4) me_X2_lyingBits mv_X2_lyingBits ml_X2_128 cell_35 rfl rfl (Nat.le_of_ble_eq_true rfl) (Nat.le_of_ble_eq_true rfl) (Nat.le_of_ble_eq_true rfl) (Nat.le_of_ble_eq_true rfl) rfl ?_
  refine SW.iload_n (pc := 12) g (dt dt_X2_lift 6 rfl) rfl ?_
  obtain ⟨r5, h6, h⟩ := bindI h
  refine SW.callSNi (pc := 13) g (dt dt_X2_lift 7 rfl) (mt_f_sx_has _ _ _ _ ad ν lay0   N μ r3 a2 r5 h6) me_X10_has ms_X10_has mn_X2_98 rfl (Nat.le_of_ble_eq_true rfl) (Nat.le_of_ble_eq_true rfl) (Nat.le_of_ble_eq_true rfl) (Nat.le_of_ble_eq_true rfl) rfl ?_
  refine SW.istore_n (pc := 16) g (dt dt_X2_lift 8 rfl) (sw_ltm hm (Nat.le_of_ble_eq_true rfl)) rfl ?_
  refine SW.iload_n (pc := 17) g (dt dt_X2_lift 9 rfl) rfl ?_
  refine SW.if_eq (pc := 18) (t := 40) g (dt dt_X2_lift 10 rfl) rfl (fun hc => ?_) (fun hc => ?_)
  · have h := iteT hc h
    refine SW.iconst (pc := 40) (v := 0) g (dt dt_X2_lift 20 rfl) ki_0 ?_
    exact SW.zreturn (pc := 41) g (leafW h ho) rfl (Nat.le_of_ble_eq_true rfl) (Nat.le_of_ble_eq_true rfl) (by decide) (dt dt_X2_lift 21 rfl)
  · have h := iteF hc h
    refine SW.aload_n (pc := 21) g (dt dt_X2_lift 11 rfl) rfl ?_
    refine SW.getR (pc := 22) g (dt dt_X2_lift 12 rfl) fl_X2_27 cell_35 rfl ?_
    refine SW.getR (pc := 25) g (dt dt_X2_lift 13 rfl) fl_X2_116 cell_3 rfl ?_
    refine SW.iload_n (pc := 28) g (dt dt_X2_lift 14 rfl) rfl ?_
    obtain ⟨r7, h8, h⟩ := bindI h
    refine SW.callSNi (pc := 29) g (dt dt_X2_lift 15 rfl) (mt_f_sx_at _ _ _ _ ad ν lay0 8 6 cell_8 N μ a2 r7 h8) me_X10_at ms_X10_at mn_X2_79 rfl (Nat.le_of_ble_eq_true rfl) (Nat.le_of_ble_eq_true rfl) (Nat.le_of_ble_eq_true rfl) (Nat.le_of_ble_eq_true rfl) rfl ?_
    refine SW.aload_n (pc := 32) g (dt dt_X2_lift 16 rfl) rfl ?_
    refine SW.iload_n (pc := 33) g (dt dt_X2_lift 17 rfl) rfl ?_
    obtain ⟨r9, h10, h⟩ := bindI h
    refine SW.callVi (pc := 34) g (dt dt_X2_lift 18 rfl) (mt_f_days_freeOf _ _ _ _ ad ν   N μ a1 r9 h10) me_X2_freeOf mv_X2_freeOf ml_X2_131 cell_35 rfl rfl (Nat.le_of_ble_eq_true rfl) (Nat.le_of_ble_eq_true rfl) (Nat.le_of_ble_eq_true rfl) (Nat.le_of_ble_eq_true rfl) rfl ?_
    refine SW.icmp_le (pc := 37) (t := 42) g (dt dt_X2_lift 19 rfl) rfl (fun hc => ?_) (fun hc => ?_)
    · have h := iteT hc h
      refine SW.aload_n (pc := 42) g (dt dt_X2_lift 22 rfl) rfl ?_
      refine SW.getR (pc := 43) g (dt dt_X2_lift 23 rfl) fl_X2_18 cell_35 rfl ?_
      refine SW.iload_n (pc := 46) g (dt dt_X2_lift 24 rfl) rfl ?_
      refine SW.iload_n (pc := 47) g (dt dt_X2_lift 25 rfl) rfl ?_
      obtain ⟨r11, h12, h⟩ := bindI h
      refine SW.callSNv (pc := 48) g (dt dt_X2_lift 26 rfl) (mt_f_sx_put _ _ _ _ ad ν lay0 38 6 cell_38 N μ a2 a1 r11 h12) me_X10_put ms_X10_put mn_X2_162 rfl (Nat.le_of_ble_eq_true rfl) (Nat.le_of_ble_eq_true rfl) (Nat.le_of_ble_eq_true rfl) (Nat.le_of_ble_eq_true rfl) rfl ?_
      refine SW.iconst (pc := 51) (v := 1) g (dt dt_X2_lift 27 rfl) ki_1 ?_
      exact SW.zreturn (pc := 52) g (leafW h ho) rfl (Nat.le_of_ble_eq_true rfl) (Nat.le_of_ble_eq_true rfl) (by decide) (dt dt_X2_lift 28 rfl)
    · have h := iteF hc h
      refine SW.iconst (pc := 40) (v := 0) g (dt dt_X2_lift 20 rfl) ki_0 ?_
      exact SW.zreturn (pc := 41) g (leafW h ho) rfl (Nat.le_of_ble_eq_true rfl) (Nat.le_of_ble_eq_true rfl) (by decide) (dt dt_X2_lift 21 rfl)
set_option maxRecDepth 100000 in
set_option maxHeartbeats 4000000 in
theorem mt_f_days_lift (l : Launch) (D : va_G) (cI cL : ClassId) (ad : Nat → Nat) (ν : sw_N)    (N : Nat) (μ : sw_M) (a1 : Int32) (a2 : Int32) (o : Int32 × sw_M) (h : f_days_lift N  μ a1 a2 = some o) : MetR l D cI cL yX2_lift cX2_lift 4 (some .boolean) 3 0 0 (fun a => a = ad) ad [.ref 35, .int a1, .int a2] lay0 μ ν (some (.int o.1)) lay0 o.2 ν :=
  MetR.of (n := 1) rfl (Nat.le_of_ble_eq_true rfl) (fun G g ho hm _ _ => ok_f_days_lift  g hm  μ ho a1 a2 h)
def f_days_setDown (N : Nat)  (μ : sw_M) (a1 : Int32) (a2 : Int32) : Option (Int32 × sw_M) :=
  Option.bind (f_sx_at N 38 6 μ a2) (fun r1 =>
    if r1 = a1 then
      Option.bind (f_sx_put N 38 6 μ a2 (-1)) (fun r3 =>
        Option.bind (f_sx_at N 39 5 r3 a1) (fun r5 =>
          Option.bind (f_sx_put N 37 6 r3 a2 r5) (fun r7 =>
            some (1, r7))))
    else
      some (0, μ))
set_option maxRecDepth 100000 in
set_option maxHeartbeats 4000000 in
theorem ok_f_days_setDown {G : sw_G} {ad : Nat → Nat} {ν : sw_N}   {N : Nat} {o : Int32 × sw_M} (g : sw_ok G cX2_setDown "DeadWires$Days" (some .boolean) 2 0 0 ad) (hm : G.2.2.1.2.1.maxLocals = 3)  (μ : sw_M) (ho : sw_out G 0 0 (fun a => a = ad) (.inl (some (.int o.1))) lay0 o.2 ν) (a1 : Int32) (a2 : Int32) (h : f_days_setDown N  μ a1 a2 = some o) : SW G ad lay0 ν 0 0 0 [some (.ref 35), some (.int a1), some (.int a2)] [] μ := by
  unfold f_days_setDown at h
  refine SW.aload_n (pc := 0) g (dt dt_X2_setDown 0 rfl) rfl ?_
  refine SW.getR (pc := 1) g (dt dt_X2_setDown 1 rfl) fl_X2_18 cell_35 rfl ?_
  refine SW.iload_n (pc := 4) g (dt dt_X2_setDown 2 rfl) rfl ?_
  obtain ⟨r1, h2, h⟩ := bindI h
  refine SW.callSNi (pc := 5) g (dt dt_X2_setDown 3 rfl) (mt_f_sx_at _ _ _ _ ad ν lay0 38 6 cell_38 N μ a2 r1 h2) me_X10_at ms_X10_at mn_X2_79 rfl (Nat.le_of_ble_eq_true rfl) (Nat.le_of_ble_eq_true rfl) (Nat.le_of_ble_eq_true rfl) (Nat.le_of_ble_eq_true rfl) rfl ?_
  refine SW.iload_n (pc := 8) g (dt dt_X2_setDown 4 rfl) rfl ?_
  refine SW.icmp_eq (pc := 9) (t := 14) g (dt dt_X2_setDown 5 rfl) rfl (fun hc => ?_) (fun hc => ?_)
  · have h := iteT hc h
    refine SW.aload_n (pc := 14) g (dt dt_X2_setDown 8 rfl) rfl ?_
    refine SW.getR (pc := 15) g (dt dt_X2_setDown 9 rfl) fl_X2_18 cell_35 rfl ?_
    refine SW.iload_n (pc := 18) g (dt dt_X2_setDown 10 rfl) rfl ?_
    refine SW.iconst (pc := 19) (v := (-1)) g (dt dt_X2_setDown 11 rfl) ki_m1 ?_
    obtain ⟨r3, h4, h⟩ := bindI h
    refine SW.callSNv (pc := 20) g (dt dt_X2_setDown 12 rfl) (mt_f_sx_put _ _ _ _ ad ν lay0 38 6 cell_38 N μ a2 (-1) r3 h4) me_X10_put ms_X10_put mn_X2_162 rfl (Nat.le_of_ble_eq_true rfl) (Nat.le_of_ble_eq_true rfl) (Nat.le_of_ble_eq_true rfl) (Nat.le_of_ble_eq_true rfl) rfl ?_
    refine SW.aload_n (pc := 23) g (dt dt_X2_setDown 13 rfl) rfl ?_
    refine SW.getR (pc := 24) g (dt dt_X2_setDown 14 rfl) fl_X2_15 cell_35 rfl ?_
    refine SW.iload_n (pc := 27) g (dt dt_X2_setDown 15 rfl) rfl ?_
    refine SW.aload_n (pc := 28) g (dt dt_X2_setDown 16 rfl) rfl ?_
    refine SW.getR (pc := 29) g (dt dt_X2_setDown 17 rfl) fl_X2_21 cell_35 rfl ?_
    refine SW.iload_n (pc := 32) g (dt dt_X2_setDown 18 rfl) rfl ?_
    obtain ⟨r5, h6, h⟩ := bindI h
    refine SW.callSNi (pc := 33) g (dt dt_X2_setDown 19 rfl) (mt_f_sx_at _ _ _ _ ad ν lay0 39 5 cell_39 N r3 a1 r5 h6) me_X10_at ms_X10_at mn_X2_79 rfl (Nat.le_of_ble_eq_true rfl) (Nat.le_of_ble_eq_true rfl) (Nat.le_of_ble_eq_true rfl) (Nat.le_of_ble_eq_true rfl) rfl ?_
    obtain ⟨r7, h8, h⟩ := bindI h
    refine SW.callSNv (pc := 36) g (dt dt_X2_setDown 20 rfl) (mt_f_sx_put _ _ _ _ ad ν lay0 37 6 cell_37 N r3 a2 r5 r7 h8) me_X10_put ms_X10_put mn_X2_162 rfl (Nat.le_of_ble_eq_true rfl) (Nat.le_of_ble_eq_true rfl) (Nat.le_of_ble_eq_true rfl) (Nat.le_of_ble_eq_true rfl) rfl ?_
    refine SW.iconst (pc := 39) (v := 1) g (dt dt_X2_setDown 21 rfl) ki_1 ?_
    exact SW.zreturn (pc := 40) g (leafW h ho) rfl (Nat.le_of_ble_eq_true rfl) (Nat.le_of_ble_eq_true rfl) (by decide) (dt dt_X2_setDown 22 rfl)
  · have h := iteF hc h
    refine SW.iconst (pc := 12) (v := 0) g (dt dt_X2_setDown 6 rfl) ki_0 ?_
    exact SW.zreturn (pc := 13) g (leafW h ho) rfl (Nat.le_of_ble_eq_true rfl) (Nat.le_of_ble_eq_true rfl) (by decide) (dt dt_X2_setDown 7 rfl)
set_option maxRecDepth 100000 in
set_option maxHeartbeats 4000000 in
theorem mt_f_days_setDown (l : Launch) (D : va_G) (cI cL : ClassId) (ad : Nat → Nat) (ν : sw_N)    (N : Nat) (μ : sw_M) (a1 : Int32) (a2 : Int32) (o : Int32 × sw_M) (h : f_days_setDown N  μ a1 a2 = some o) : MetR l D cI cL yX2_setDown cX2_setDown 3 (some .boolean) 2 0 0 (fun a => a = ad) ad [.ref 35, .int a1, .int a2] lay0 μ ν (some (.int o.1)) lay0 o.2 ν :=
  MetR.of (n := 0) rfl (Nat.le_of_ble_eq_true rfl) (fun G g ho hm _ _ => ok_f_days_setDown  g hm  μ ho a1 a2 h)
def f_days_cross (N : Nat)  (μ : sw_M) (a1 : Int32) (a2 : Int32) : Option (Int32 × sw_M) :=
  Option.bind (f_days_isOpenTo N  μ a1 a2) (fun r1 =>
    if r1 = 0 then
      some (0, μ)
    else
      Option.bind (f_sx_at N 40 5 μ a1) (fun r3 =>
        Option.bind (f_days_tollOf N  μ a1 a2) (fun r5 =>
          ib (r3 + r5.1) (fun y7 =>
            if y7 ≤ 60 then
              Option.bind (f_sx_put N 40 5 r5.2 a1 y7) (fun r8 =>
                Option.bind (f_sx_at N 39 5 r8 a1) (fun r10 =>
                  Option.bind (f_land_across N  r8 a2 r10) (fun r12 =>
                    Option.bind (f_sx_put N 39 5 r8 a1 r12) (fun r14 =>
                      wb (wr r14 35 5 ((r14 35 5) + 1)) (fun μ16 =>
                        some (1, μ16))))))
            else
              some (0, r5.2)))))
set_option maxRecDepth 100000 in
set_option maxHeartbeats 4000000 in
theorem ok_f_days_cross {G : sw_G} {ad : Nat → Nat} {ν : sw_N}   {N : Nat} {o : Int32 × sw_M} (g : sw_ok G cX2_cross "DeadWires$Days" (some .boolean) 4 0 0 ad) (hm : G.2.2.1.2.1.maxLocals = 4)  (μ : sw_M) (ho : sw_out G 0 0 (fun a => a = ad) (.inl (some (.int o.1))) lay0 o.2 ν) (a1 : Int32) (a2 : Int32) (h : f_days_cross N  μ a1 a2 = some o) : SW G ad lay0 ν 0 0 0 [some (.ref 35), some (.int a1), some (.int a2), none] [] μ := by
  unfold f_days_cross at h
  refine SW.aload_n (pc := 0) g (dt dt_X2_cross 0 rfl) rfl ?_
  refine SW.iload_n (pc := 1) g (dt dt_X2_cross 1 rfl) rfl ?_
  refine SW.iload_n (pc := 2) g (dt dt_X2_cross 2 rfl) rfl ?_
  obtain ⟨r1, h2, h⟩ := bindI h
  refine SW.callVi (pc := 3) g (dt dt_X2_cross 3 rfl) (mt_f_days_isOpenTo _ _ _ _ ad ν   N μ a1 a2 r1 h2) me_X2_isOpenTo mv_X2_isOpenTo ml_X2_153 cell_35 rfl rfl (Nat.le_of_ble_eq_true rfl) (Nat.le_of_ble_eq_true rfl) (Nat.le_of_ble_eq_true rfl) (Nat.le_of_ble_eq_true rfl) rfl ?_
  refine SW.if_ne (pc := 6) (t := 11) g (dt dt_X2_cross 4 rfl) rfl (fun hc => ?_) (fun hc => ?_)
  · have h := iteF hc h
    refine SW.aload_n (pc := 11) g (dt dt_X2_cross 7 rfl) rfl ?_
    refine SW.getR (pc := 12) g (dt dt_X2_cross 8 rfl) fl_X2_24 cell_35 rfl ?_
    refine SW.iload_n (pc := 15) g (dt dt_X2_cross 9 rfl) rfl ?_
    obtain ⟨r3, h4, h⟩ := bindI h
    refine SW.callSNi (pc := 16) g (dt dt_X2_cross 10 rfl) (mt_f_sx_at _ _ _ _ ad ν lay0 40 5 cell_40 N μ a1 r3 h4) me_X10_at ms_X10_at mn_X2_79 rfl (Nat.le_of_ble_eq_true rfl) (Nat.le_of_ble_eq_true rfl) (Nat.le_of_ble_eq_true rfl) (Nat.le_of_ble_eq_true rfl) rfl ?_
    refine SW.aload_n (pc := 19) g (dt dt_X2_cross 11 rfl) rfl ?_
    refine SW.iload_n (pc := 20) g (dt dt_X2_cross 12 rfl) rfl ?_
    refine SW.iload_n (pc := 21) g (dt dt_X2_cross 13 rfl) rfl ?_
    obtain ⟨r5, h6, h⟩ := bindI h
    refine SW.callVi (pc := 22) g (dt dt_X2_cross 14 rfl) (mt_f_days_tollOf _ _ _ _ ad ν   N μ a1 a2 r5 h6) me_X2_tollOf mv_X2_tollOf ml_X2_156 cell_35 rfl rfl (Nat.le_of_ble_eq_true rfl) (Nat.le_of_ble_eq_true rfl) (Nat.le_of_ble_eq_true rfl) (Nat.le_of_ble_eq_true rfl) rfl ?_
    refine SW.iadd (pc := 25) g (dt dt_X2_cross 15 rfl) ?_
    refine SW.istore_n (pc := 26) g (dt dt_X2_cross 16 rfl) (sw_ltm hm (Nat.le_of_ble_eq_true rfl)) rfl ?_
    refine SW.genL h (fun y7 h => ?_)
    refine SW.iload_n (pc := 27) g (dt dt_X2_cross 17 rfl) rfl ?_
    refine SW.bipush (pc := 28) (v := 60) g (dt dt_X2_cross 18 rfl) kb_60 ?_
    refine SW.icmp_le (pc := 30) (t := 35) g (dt dt_X2_cross 19 rfl) rfl (fun hc => ?_) (fun hc => ?_)
    · have h := iteT hc h
      refine SW.aload_n (pc := 35) g (dt dt_X2_cross 22 rfl) rfl ?_
      refine SW.getR (pc := 36) g (dt dt_X2_cross 23 rfl) fl_X2_24 cell_35 rfl ?_
      refine SW.iload_n (pc := 39) g (dt dt_X2_cross 24 rfl) rfl ?_
      refine SW.iload_n (pc := 40) g (dt dt_X2_cross 25 rfl) rfl ?_
      obtain ⟨r8, h9, h⟩ := bindI h
      refine SW.callSNv (pc := 41) g (dt dt_X2_cross 26 rfl) (mt_f_sx_put _ _ _ _ ad ν lay0 40 5 cell_40 N r5.2 a1 y7 r8 h9) me_X10_put ms_X10_put mn_X2_162 rfl (Nat.le_of_ble_eq_true rfl) (Nat.le_of_ble_eq_true rfl) (Nat.le_of_ble_eq_true rfl) (Nat.le_of_ble_eq_true rfl) rfl ?_
      refine SW.aload_n (pc := 44) g (dt dt_X2_cross 27 rfl) rfl ?_
      refine SW.getR (pc := 45) g (dt dt_X2_cross 28 rfl) fl_X2_21 cell_35 rfl ?_
      refine SW.iload_n (pc := 48) g (dt dt_X2_cross 29 rfl) rfl ?_
      refine SW.aload_n (pc := 49) g (dt dt_X2_cross 30 rfl) rfl ?_
      refine SW.getR (pc := 50) g (dt dt_X2_cross 31 rfl) fl_X2_27 cell_35 rfl ?_
      refine SW.iload_n (pc := 53) g (dt dt_X2_cross 32 rfl) rfl ?_
      refine SW.aload_n (pc := 54) g (dt dt_X2_cross 33 rfl) rfl ?_
      refine SW.getR (pc := 55) g (dt dt_X2_cross 34 rfl) fl_X2_21 cell_35 rfl ?_
      refine SW.iload_n (pc := 58) g (dt dt_X2_cross 35 rfl) rfl ?_
      obtain ⟨r10, h11, h⟩ := bindI h
      refine SW.callSNi (pc := 59) g (dt dt_X2_cross 36 rfl) (mt_f_sx_at _ _ _ _ ad ν lay0 39 5 cell_39 N r8 a1 r10 h11) me_X10_at ms_X10_at mn_X2_79 rfl (Nat.le_of_ble_eq_true rfl) (Nat.le_of_ble_eq_true rfl) (Nat.le_of_ble_eq_true rfl) (Nat.le_of_ble_eq_true rfl) rfl ?_
      obtain ⟨r12, h13, h⟩ := bindI h
      refine SW.callVi (pc := 62) g (dt dt_X2_cross 37 rfl) (mt_f_land_across _ _ _ _ ad ν   N r8 a2 r10 r12 h13) me_X4_across mv_X4_across ml_X2_150 cell_3 rfl rfl (Nat.le_of_ble_eq_true rfl) (Nat.le_of_ble_eq_true rfl) (Nat.le_of_ble_eq_true rfl) (Nat.le_of_ble_eq_true rfl) rfl ?_
      obtain ⟨r14, h15, h⟩ := bindI h
      refine SW.callSNv (pc := 65) g (dt dt_X2_cross 38 rfl) (mt_f_sx_put _ _ _ _ ad ν lay0 39 5 cell_39 N r8 a1 r12 r14 h15) me_X10_put ms_X10_put mn_X2_162 rfl (Nat.le_of_ble_eq_true rfl) (Nat.le_of_ble_eq_true rfl) (Nat.le_of_ble_eq_true rfl) (Nat.le_of_ble_eq_true rfl) rfl ?_
      refine SW.aload_n (pc := 68) g (dt dt_X2_cross 39 rfl) rfl ?_
      refine SW.dup (pc := 69) g (dt dt_X2_cross 40 rfl) rfl ?_
      refine SW.getI (pc := 70) g (dt dt_X2_cross 41 rfl) fl_X2_53 cell_35 rfl ?_
      refine SW.iconst (pc := 73) (v := 1) g (dt dt_X2_cross 42 rfl) ki_1 ?_
      refine SW.iadd (pc := 74) g (dt dt_X2_cross 43 rfl) ?_
      refine SW.putI (pc := 75) g (dt dt_X2_cross 44 rfl) fl_X2_53 cell_35 rfl ?_
      refine SW.genM h (fun μ16 h => ?_)
      refine SW.iconst (pc := 78) (v := 1) g (dt dt_X2_cross 45 rfl) ki_1 ?_
      exact SW.zreturn (pc := 79) g (leafW h ho) rfl (Nat.le_of_ble_eq_true rfl) (Nat.le_of_ble_eq_true rfl) (by decide) (dt dt_X2_cross 46 rfl)
    · have h := iteF hc h
      refine SW.iconst (pc := 33) (v := 0) g (dt dt_X2_cross 20 rfl) ki_0 ?_
      exact SW.zreturn (pc := 34) g (leafW h ho) rfl (Nat.le_of_ble_eq_true rfl) (Nat.le_of_ble_eq_true rfl) (by decide) (dt dt_X2_cross 21 rfl)
  · have h := iteT hc h
    refine SW.iconst (pc := 9) (v := 0) g (dt dt_X2_cross 5 rfl) ki_0 ?_
    exact SW.zreturn (pc := 10) g (leafW h ho) rfl (Nat.le_of_ble_eq_true rfl) (Nat.le_of_ble_eq_true rfl) (by decide) (dt dt_X2_cross 6 rfl)
set_option maxRecDepth 100000 in
set_option maxHeartbeats 4000000 in
theorem mt_f_days_cross (l : Launch) (D : va_G) (cI cL : ClassId) (ad : Nat → Nat) (ν : sw_N)    (N : Nat) (μ : sw_M) (a1 : Int32) (a2 : Int32) (o : Int32 × sw_M) (h : f_days_cross N  μ a1 a2 = some o) : MetR l D cI cL yX2_cross cX2_cross 4 (some .boolean) 4 0 0 (fun a => a = ad) ad [.ref 35, .int a1, .int a2] lay0 μ ν (some (.int o.1)) lay0 o.2 ν :=
  MetR.of (n := 1) rfl (Nat.le_of_ble_eq_true rfl) (fun G g ho hm _ _ => ok_f_days_cross  g hm  μ ho a1 a2 h)
def f_days_move (N : Nat)  (μ : sw_M) (a1 : Int32) (a2 : Int32) : Option (Int32 × sw_M) :=
  Option.bind (f_sx_at N 36 12 μ a1) (fun r1 =>
    Option.bind (f_days_isCut N  μ a1) (fun r3 =>
      if r3 = 0 then
        Option.bind (f_days_isLive N  μ a1 0) (fun r5 =>
          if r5 = 0 then
            if r1 < 199 then
              Option.bind (f_sx_put N 36 12 μ a1 (if (r1 + a2) < 199 then (r1 + a2) else 199)) (fun r7 =>
                some (1, r7))
            else
              some (0, μ)
          else
            some (0, μ))
      else
        some (0, μ)))
set_option maxRecDepth 100000 in
set_option maxHeartbeats 4000000 in
theorem ok_f_days_move {G : sw_G} {ad : Nat → Nat} {ν : sw_N}   {N : Nat} {o : Int32 × sw_M} (g : sw_ok G cX2_move "DeadWires$Days" (some .boolean) 3 0 0 ad) (hm : G.2.2.1.2.1.maxLocals = 4)  (μ : sw_M) (ho : sw_out G 0 0 (fun a => a = ad) (.inl (some (.int o.1))) lay0 o.2 ν) (a1 : Int32) (a2 : Int32) (h : f_days_move N  μ a1 a2 = some o) : SW G ad lay0 ν 0 0 0 [some (.ref 35), some (.int a1), some (.int a2), none] [] μ := by
  unfold f_days_move at h
  refine SW.aload_n (pc := 0) g (dt dt_X2_move 0 rfl) rfl ?_
  refine SW.getR (pc := 1) g (dt dt_X2_move 1 rfl) fl_X2_9 cell_35 rfl ?_
  refine SW.iload_n (pc := 4) g (dt dt_X2_move 2 rfl) rfl ?_
  obtain ⟨r1, h2, h⟩ := bindI h
  refine SW.callSNi (pc := 5) g (dt dt_X2_move 3 rfl) (mt_f_sx_at _ _ _ _ ad ν lay0 36 12 cell_36 N μ a1 r1 h2) me_X10_at ms_X10_at mn_X2_79 rfl (Nat.le_of_ble_eq_true rfl) (Nat.le_of_ble_eq_true rfl) (Nat.le_of_ble_eq_true rfl) (Nat.le_of_ble_eq_true rfl) rfl ?_
  refine SW.istore_n (pc := 8) g (dt dt_X2_move 4 rfl) (sw_ltm hm (Nat.le_of_ble_eq_true rfl)) rfl ?_
  refine SW.aload_n (pc := 9) g (dt dt_X2_move 5 rfl) rfl ?_
  refine SW.iload_n (pc := 10) g (dt dt_X2_move 6 rfl) rfl ?_
  obtain ⟨r3, h4, h⟩ := bindI h
  refine SW.callVi (pc := 11) g (dt dt_X2_move 7 rfl) (mt_f_days_isCut _ _ _ _ ad ν   N μ a1 r3 h4) me_X2_isCut mv_X2_isCut ml_X2_75 cell_35 rfl rfl (Nat.le_of_ble_eq_true rfl) (Nat.le_of_ble_eq_true rfl) (Nat.le_of_ble_eq_true rfl) (Nat.le_of_ble_eq_true rfl) rfl ?_
  refine SW.if_ne (pc := 14) (t := 33) g (dt dt_X2_move 8 rfl) rfl (fun hc => ?_) (fun hc => ?_)
  · have h := iteF hc h
    refine SW.iconst (pc := 33) (v := 0) g (dt dt_X2_move 17 rfl) ki_0 ?_
    exact SW.zreturn (pc := 34) g (leafW h ho) rfl (Nat.le_of_ble_eq_true rfl) (Nat.le_of_ble_eq_true rfl) (by decide) (dt dt_X2_move 18 rfl)
  · have h := iteT hc h
    refine SW.aload_n (pc := 17) g (dt dt_X2_move 9 rfl) rfl ?_
    refine SW.iload_n (pc := 18) g (dt dt_X2_move 10 rfl) rfl ?_
    refine SW.iconst (pc := 19) (v := 0) g (dt dt_X2_move 11 rfl) ki_0 ?_
    obtain ⟨r5, h6, h⟩ := bindI h
    refine SW.callVi (pc := 20) g (dt dt_X2_move 12 rfl) (mt_f_days_isLive _ _ _ _ ad ν   N μ a1 0 r5 h6) me_X2_isLive mv_X2_isLive ml_X2_86 cell_35 rfl rfl (Nat.le_of_ble_eq_true rfl) (Nat.le_of_ble_eq_true rfl) (Nat.le_of_ble_eq_true rfl) (Nat.le_of_ble_eq_true rfl) rfl ?_
    refine SW.if_ne (pc := 23) (t := 33) g (dt dt_X2_move 13 rfl) rfl (fun hc => ?_) (fun hc => ?_)
    · have h := iteF hc h
      refine SW.iconst (pc := 33) (v := 0) g (dt dt_X2_move 17 rfl) ki_0 ?_
      exact SW.zreturn (pc := 34) g (leafW h ho) rfl (Nat.le_of_ble_eq_true rfl) (Nat.le_of_ble_eq_true rfl) (by decide) (dt dt_X2_move 18 rfl)
    · have h := iteT hc h
      refine SW.iload_n (pc := 26) g (dt dt_X2_move 14 rfl) rfl ?_
      refine SW.sipush (pc := 27) (v := 199) g (dt dt_X2_move 15 rfl) ks_199 ?_
      refine SW.icmp_lt (pc := 30) (t := 35) g (dt dt_X2_move 16 rfl) rfl (fun hc => ?_) (fun hc => ?_)
      · have h := iteT hc h
        refine SW.aload_n (pc := 35) g (dt dt_X2_move 19 rfl) rfl ?_
        refine SW.getR (pc := 36) g (dt dt_X2_move 20 rfl) fl_X2_9 cell_35 rfl ?_
        refine SW.iload_n (pc := 39) g (dt dt_X2_move 21 rfl) rfl ?_
        refine SW.sipush (pc := 40) (v := 199) g (dt dt_X2_move 22 rfl) ks_199 ?_
        refine SW.iload_n (pc := 43) g (dt dt_X2_move 23 rfl) rfl ?_
        refine SW.iload_n (pc := 44) g (dt dt_X2_move 24 rfl) rfl ?_
        refine SW.iadd (pc := 45) g (dt dt_X2_move 25 rfl) ?_
        refine SW.mmin (pc := 46) g (dt dt_X2_move 26 rfl) ml_X2_105 ms_J9_min_7cf53 mt_init me_J9_min_7cf53.1 (Nat.le_of_ble_eq_true rfl) (Nat.le_of_ble_eq_true rfl) (Nat.le_of_ble_eq_true rfl) (Nat.le_of_ble_eq_true rfl) ?_
        obtain ⟨r7, h8, h⟩ := bindI h
        refine SW.callSNv (pc := 49) g (dt dt_X2_move 27 rfl) (mt_f_sx_put _ _ _ _ ad ν lay0 36 12 cell_36 N μ a1 (if (r1 + a2) < 199 then (r1 + a2) else 199) r7 h8) me_X10_put ms_X10_put mn_X2_162 rfl (Nat.le_of_ble_eq_true rfl) (Nat.le_of_ble_eq_true rfl) (Nat.le_of_ble_eq_true rfl) (Nat.le_of_ble_eq_true rfl) rfl ?_
        refine SW.iconst (pc := 52) (v := 1) g (dt dt_X2_move 28 rfl) ki_1 ?_
        exact SW.zreturn (pc := 53) g (leafW h ho) rfl (Nat.le_of_ble_eq_true rfl) (Nat.le_of_ble_eq_true rfl) (by decide) (dt dt_X2_move 29 rfl)
      · have h := iteF hc h
        refine SW.iconst (pc := 33) (v := 0) g (dt dt_X2_move 17 rfl) ki_0 ?_
        exact SW.zreturn (pc := 34) g (leafW h ho) rfl (Nat.le_of_ble_eq_true rfl) (Nat.le_of_ble_eq_true rfl) (by decide) (dt dt_X2_move 18 rfl)
set_option maxRecDepth 100000 in
set_option maxHeartbeats 4000000 in
theorem mt_f_days_move (l : Launch) (D : va_G) (cI cL : ClassId) (ad : Nat → Nat) (ν : sw_N)    (N : Nat) (μ : sw_M) (a1 : Int32) (a2 : Int32) (o : Int32 × sw_M) (h : f_days_move N  μ a1 a2 = some o) : MetR l D cI cL yX2_move cX2_move 4 (some .boolean) 3 0 0 (fun a => a = ad) ad [.ref 35, .int a1, .int a2] lay0 μ ν (some (.int o.1)) lay0 o.2 ν :=
  MetR.of (n := 1) rfl (Nat.le_of_ble_eq_true rfl) (fun G g ho hm _ _ => ok_f_days_move  g hm  μ ho a1 a2 h)
def f_days_cut (N : Nat)  (μ : sw_M) (a1 : Int32) : Option (Int32 × sw_M) :=
  Option.bind (f_days_isCut N  μ a1) (fun r1 =>
    if r1 = 0 then
      if 0 < (μ 35 3) then
        wb (wr μ 35 4 ((μ 35 4) ||| ((1 : Int32) <<< (a1 &&& 31)))) (fun μ3 =>
          wb (wr μ3 35 3 ((μ3 35 3) - 1)) (fun μ4 =>
            some (1, μ4)))
      else
        some (0, μ)
    else
      some (0, μ))
set_option maxRecDepth 100000 in
set_option maxHeartbeats 4000000 in
theorem ok_f_days_cut {G : sw_G} {ad : Nat → Nat} {ν : sw_N}   {N : Nat} {o : Int32 × sw_M} (g : sw_ok G cX2_cut "DeadWires$Days" (some .boolean) 2 0 0 ad) (hm : G.2.2.1.2.1.maxLocals = 2)  (μ : sw_M) (ho : sw_out G 0 0 (fun a => a = ad) (.inl (some (.int o.1))) lay0 o.2 ν) (a1 : Int32) (h : f_days_cut N  μ a1 = some o) : SW G ad lay0 ν 0 0 0 [some (.ref 35), some (.int a1)] [] μ := by
  unfold f_days_cut at h
  refine SW.aload_n (pc := 0) g (dt dt_X2_cut 0 rfl) rfl ?_
  refine SW.iload_n (pc := 1) g (dt dt_X2_cut 1 rfl) rfl ?_
  obtain ⟨r1, h2, h⟩ := bindI h
  refine SW.callVi (pc := 2) g (dt dt_X2_cut 2 rfl) (mt_f_days_isCut _ _ _ _ ad ν   N μ a1 r1 h2) me_X2_isCut mv_X2_isCut ml_X2_75 cell_35 rfl rfl (Nat.le_of_ble_eq_true rfl) (Nat.le_of_ble_eq_true rfl) (Nat.le_of_ble_eq_true rfl) (Nat.le_of_ble_eq_true rfl) rfl ?_
  refine SW.if_ne (pc := 5) (t := 15) g (dt dt_X2_cut 3 rfl) rfl (fun hc => ?_) (fun hc => ?_)
  · have h := iteF hc h
    refine SW.iconst (pc := 15) (v := 0) g (dt dt_X2_cut 7 rfl) ki_0 ?_
    exact SW.zreturn (pc := 16) g (leafW h ho) rfl (Nat.le_of_ble_eq_true rfl) (Nat.le_of_ble_eq_true rfl) (by decide) (dt dt_X2_cut 8 rfl)
  · have h := iteT hc h
    refine SW.aload_n (pc := 8) g (dt dt_X2_cut 4 rfl) rfl ?_
    refine SW.getI (pc := 9) g (dt dt_X2_cut 5 rfl) fl_X2_47 cell_35 rfl ?_
    refine SW.if_gt (pc := 12) (t := 17) g (dt dt_X2_cut 6 rfl) rfl (fun hc => ?_) (fun hc => ?_)
    · have h := iteT hc h
      refine SW.aload_n (pc := 17) g (dt dt_X2_cut 9 rfl) rfl ?_
      refine SW.dup (pc := 18) g (dt dt_X2_cut 10 rfl) rfl ?_
      refine SW.getI (pc := 19) g (dt dt_X2_cut 11 rfl) fl_X2_50 cell_35 rfl ?_
      refine SW.iconst (pc := 22) (v := 1) g (dt dt_X2_cut 12 rfl) ki_1 ?_
      refine SW.iload_n (pc := 23) g (dt dt_X2_cut 13 rfl) rfl ?_
      refine SW.ishl (pc := 24) g (dt dt_X2_cut 14 rfl) ?_
      refine SW.ior (pc := 25) g (dt dt_X2_cut 15 rfl) ?_
      refine SW.putI (pc := 26) g (dt dt_X2_cut 16 rfl) fl_X2_50 cell_35 rfl ?_
      refine SW.genM h (fun μ3 h => ?_)
      refine SW.aload_n (pc := 29) g (dt dt_X2_cut 17 rfl) rfl ?_
      refine SW.dup (pc := 30) g (dt dt_X2_cut 18 rfl) rfl ?_
      refine SW.getI (pc := 31) g (dt dt_X2_cut 19 rfl) fl_X2_47 cell_35 rfl ?_
      refine SW.iconst (pc := 34) (v := 1) g (dt dt_X2_cut 20 rfl) ki_1 ?_
      refine SW.isub (pc := 35) g (dt dt_X2_cut 21 rfl) ?_
      refine SW.putI (pc := 36) g (dt dt_X2_cut 22 rfl) fl_X2_47 cell_35 rfl ?_
      refine SW.genM h (fun μ4 h => ?_)
      refine SW.iconst (pc := 39) (v := 1) g (dt dt_X2_cut 23 rfl) ki_1 ?_
      exact SW.zreturn (pc := 40) g (leafW h ho) rfl (Nat.le_of_ble_eq_true rfl) (Nat.le_of_ble_eq_true rfl) (by decide) (dt dt_X2_cut 24 rfl)
    · have h := iteF hc h
      refine SW.iconst (pc := 15) (v := 0) g (dt dt_X2_cut 7 rfl) ki_0 ?_
      exact SW.zreturn (pc := 16) g (leafW h ho) rfl (Nat.le_of_ble_eq_true rfl) (Nat.le_of_ble_eq_true rfl) (by decide) (dt dt_X2_cut 8 rfl)
set_option maxRecDepth 100000 in
set_option maxHeartbeats 4000000 in
theorem mt_f_days_cut (l : Launch) (D : va_G) (cI cL : ClassId) (ad : Nat → Nat) (ν : sw_N)    (N : Nat) (μ : sw_M) (a1 : Int32) (o : Int32 × sw_M) (h : f_days_cut N  μ a1 = some o) : MetR l D cI cL yX2_cut cX2_cut 2 (some .boolean) 2 0 0 (fun a => a = ad) ad [.ref 35, .int a1] lay0 μ ν (some (.int o.1)) lay0 o.2 ν :=
  MetR.of (n := 0) rfl (Nat.le_of_ble_eq_true rfl) (fun G g ho hm _ _ => ok_f_days_cut  g hm  μ ho a1 h)
def f_days_passHour_2 (N : Nat)   : Nat → sw_M → Int32 → Option (sw_M)
  | 0, _, _ => none
  | n + 1, μ, x1 =>
    if (μ 3 3) ≤ x1 then
      wb (wr μ 35 2 ((μ 35 2) + 1)) (fun μ1 =>
        some μ1)
    else
      inb x1 5 (
        inb x1 5 (wb (wr μ 40 x1.toNatClampNeg (if 0 < ((μ 40 x1.toNatClampNeg) - 5) then ((μ 40 x1.toNatClampNeg) - 5) else 0)) (fun μ4 =>
          f_days_passHour_2 N   n μ4 (x1 + 1))))
def f_days_passHour (N : Nat)  (μ : sw_M)  : Option (sw_M) :=
  f_days_passHour_2 N   N μ 0
set_option maxRecDepth 100000 in
set_option maxHeartbeats 4000000 in
theorem ok_f_days_passHour_2 {G : sw_G} {ad : Nat → Nat} {ν : sw_N}   {N : Nat} {o : sw_M} (g : sw_ok G cX2_passHour "DeadWires$Days" none 1 0 0 ad) (hm : G.2.2.1.2.1.maxLocals = 2)  (ho : sw_out G 0 0 (fun a => a = ad) (.inl none) lay0 o ν)  : ∀ (n : Nat) (μ : sw_M) (x1 : Int32) (h : f_days_passHour_2 N   n μ x1 = some o), SW G ad lay0 ν 0 0 2 [some (.ref 35), some (.int x1)] [] μ := by
  intro n
  induction n with
  | zero => intro μ x1 h; simp only [f_days_passHour_2] at h; cases h
  | succ n ih =>
    intro μ x1 h
    unfold f_days_passHour_2 at h
    refine SW.iload_n (pc := 2) g (dt dt_X2_passHour 2 rfl) rfl ?_
    refine SW.aload_n (pc := 3) g (dt dt_X2_passHour 3 rfl) rfl ?_
    refine SW.getR (pc := 4) g (dt dt_X2_passHour 4 rfl) fl_X2_27 cell_35 rfl ?_
    refine SW.getI (pc := 7) g (dt dt_X2_passHour 5 rfl) fl_X2_113 cell_3 rfl ?_
    refine SW.icmp_ge (pc := 10) (t := 37) g (dt dt_X2_passHour 6 rfl) rfl (fun hc => ?_) (fun hc => ?_)
    · have h := iteT hc h
      refine SW.aload_n (pc := 37) g (dt dt_X2_passHour 21 rfl) rfl ?_
      refine SW.dup (pc := 38) g (dt dt_X2_passHour 22 rfl) rfl ?_
      refine SW.getI (pc := 39) g (dt dt_X2_passHour 23 rfl) fl_X2_38 cell_35 rfl ?_
      refine SW.iconst (pc := 42) (v := 1) g (dt dt_X2_passHour 24 rfl) ki_1 ?_
      refine SW.iadd (pc := 43) g (dt dt_X2_passHour 25 rfl) ?_
      refine SW.putI (pc := 44) g (dt dt_X2_passHour 26 rfl) fl_X2_38 cell_35 rfl ?_
      refine SW.genM h (fun μ1 h => ?_)
      exact SW.vreturn (pc := 47) g (leafV h ho) rfl (Nat.le_of_ble_eq_true rfl) (Nat.le_of_ble_eq_true rfl) (dt dt_X2_passHour 27 rfl)
    · have h := iteF hc h
      refine SW.aload_n (pc := 13) g (dt dt_X2_passHour 7 rfl) rfl ?_
      refine SW.getR (pc := 14) g (dt dt_X2_passHour 8 rfl) fl_X2_24 cell_35 rfl ?_
      refine SW.iload_n (pc := 17) g (dt dt_X2_passHour 9 rfl) rfl ?_
      refine SW.iconst (pc := 18) (v := 0) g (dt dt_X2_passHour 10 rfl) ki_0 ?_
      refine SW.aload_n (pc := 19) g (dt dt_X2_passHour 11 rfl) rfl ?_
      refine SW.getR (pc := 20) g (dt dt_X2_passHour 12 rfl) fl_X2_24 cell_35 rfl ?_
      refine SW.iload_n (pc := 23) g (dt dt_X2_passHour 13 rfl) rfl ?_
      obtain ⟨hb2, h⟩ := inbI h
      refine SW.iaload (pc := 24) g (dt dt_X2_passHour 14 rfl) cell_40 hb2 ?_
      refine SW.iconst (pc := 25) (v := 5) g (dt dt_X2_passHour 15 rfl) ki_5 ?_
      refine SW.isub (pc := 26) g (dt dt_X2_passHour 16 rfl) ?_
      refine SW.mmax (pc := 27) g (dt dt_X2_passHour 17 rfl) ml_X2_125 ms_J9_max_7cf53 mt_init me_J9_max_7cf53.1 (Nat.le_of_ble_eq_true rfl) (Nat.le_of_ble_eq_true rfl) (Nat.le_of_ble_eq_true rfl) (Nat.le_of_ble_eq_true rfl) ?_
      obtain ⟨hb3, h⟩ := inbI h
      refine SW.iastore (pc := 30) g (dt dt_X2_passHour 18 rfl) cell_40 hb3 ?_
      refine SW.genM h (fun μ4 h => ?_)
      refine SW.iinc (pc := 31) (v := x1 + 1) g (dt dt_X2_passHour 19 rfl) rfl (kn_1 _) (sw_ltm hm (Nat.le_of_ble_eq_true rfl)) rfl ?_
      refine SW.goto (pc := 34) (t := 2) g (dt dt_X2_passHour 20 rfl) rfl ?_
      refine SW.msk [true, true] ?_
      exact ih μ4 (x1 + 1) h
set_option maxRecDepth 100000 in
set_option maxHeartbeats 4000000 in
theorem ok_f_days_passHour {G : sw_G} {ad : Nat → Nat} {ν : sw_N}   {N : Nat} {o : sw_M} (g : sw_ok G cX2_passHour "DeadWires$Days" none 1 0 0 ad) (hm : G.2.2.1.2.1.maxLocals = 2)  (μ : sw_M) (ho : sw_out G 0 0 (fun a => a = ad) (.inl none) lay0 o ν)  (h : f_days_passHour N  μ  = some o) : SW G ad lay0 ν 0 0 0 [some (.ref 35), none] [] μ := by
  unfold f_days_passHour at h
  refine SW.iconst (pc := 0) (v := 0) g (dt dt_X2_passHour 0 rfl) ki_0 ?_
  refine SW.istore_n (pc := 1) g (dt dt_X2_passHour 1 rfl) (sw_ltm hm (Nat.le_of_ble_eq_true rfl)) rfl ?_
  refine SW.msk [true, true] ?_
  exact ok_f_days_passHour_2  g hm  ho   N μ 0 h
set_option maxRecDepth 100000 in
set_option maxHeartbeats 4000000 in
theorem mt_f_days_passHour (l : Launch) (D : va_G) (cI cL : ClassId) (ad : Nat → Nat) (ν : sw_N)    (N : Nat) (μ : sw_M)  (o : sw_M) (h : f_days_passHour N  μ  = some o) : MetR l D cI cL yX2_passHour cX2_passHour 2 none 1 0 0 (fun a => a = ad) ad [.ref 35] lay0 μ ν none lay0 o ν :=
  MetR.of (n := 1) rfl (Nat.le_of_ble_eq_true rfl) (fun G g ho hm _ _ => ok_f_days_passHour  g hm  μ ho  h)
def f_days_hourStep (N : Nat)  (μ : sw_M)  : Option (Int32 × sw_M) :=
  if (μ 35 2) < 400 then
    Option.bind (f_days_passHour N  μ ) (fun r1 =>
      some (1, r1))
  else
    some (0, μ)
set_option maxRecDepth 100000 in
set_option maxHeartbeats 4000000 in
theorem ok_f_days_hourStep {G : sw_G} {ad : Nat → Nat} {ν : sw_N}   {N : Nat} {o : Int32 × sw_M} (g : sw_ok G cX2_hourStep "DeadWires$Days" (some .boolean) 2 0 0 ad) (hm : G.2.2.1.2.1.maxLocals = 1)  (μ : sw_M) (ho : sw_out G 0 0 (fun a => a = ad) (.inl (some (.int o.1))) lay0 o.2 ν)  (h : f_days_hourStep N  μ  = some o) : SW G ad lay0 ν 0 0 0 [some (.ref 35)] [] μ := by
  unfold f_days_hourStep at h
  refine SW.aload_n (pc := 0) g (dt dt_X2_hourStep 0 rfl) rfl ?_
  refine SW.getI (pc := 1) g (dt dt_X2_hourStep 1 rfl) fl_X2_38 cell_35 rfl ?_
  refine SW.sipush (pc := 4) (v := 400) g (dt dt_X2_hourStep 2 rfl) ks_400 ?_
  refine SW.icmp_lt (pc := 7) (t := 12) g (dt dt_X2_hourStep 3 rfl) rfl (fun hc => ?_) (fun hc => ?_)
  · have h := iteT hc h
    refine SW.aload_n (pc := 12) g (dt dt_X2_hourStep 6 rfl) rfl ?_
    obtain ⟨r1, h2, h⟩ := bindI h
    refine SW.callVv (pc := 13) g (dt dt_X2_hourStep 7 rfl) (mt_f_days_passHour _ _ _ _ ad ν   N μ  r1 h2) me_X2_passHour mv_X2_passHour ml_X2_166 cell_35 rfl rfl (Nat.le_of_ble_eq_true rfl) (Nat.le_of_ble_eq_true rfl) (Nat.le_of_ble_eq_true rfl) (Nat.le_of_ble_eq_true rfl) rfl ?_
    refine SW.iconst (pc := 16) (v := 1) g (dt dt_X2_hourStep 8 rfl) ki_1 ?_
    exact SW.zreturn (pc := 17) g (leafW h ho) rfl (Nat.le_of_ble_eq_true rfl) (Nat.le_of_ble_eq_true rfl) (by decide) (dt dt_X2_hourStep 9 rfl)
  · have h := iteF hc h
    refine SW.iconst (pc := 10) (v := 0) g (dt dt_X2_hourStep 4 rfl) ki_0 ?_
    exact SW.zreturn (pc := 11) g (leafW h ho) rfl (Nat.le_of_ble_eq_true rfl) (Nat.le_of_ble_eq_true rfl) (by decide) (dt dt_X2_hourStep 5 rfl)
set_option maxRecDepth 100000 in
set_option maxHeartbeats 4000000 in
theorem mt_f_days_hourStep (l : Launch) (D : va_G) (cI cL : ClassId) (ad : Nat → Nat) (ν : sw_N)    (N : Nat) (μ : sw_M)  (o : Int32 × sw_M) (h : f_days_hourStep N  μ  = some o) : MetR l D cI cL yX2_hourStep cX2_hourStep 1 (some .boolean) 2 0 0 (fun a => a = ad) ad [.ref 35] lay0 μ ν (some (.int o.1)) lay0 o.2 ν :=
  MetR.of (n := 0) rfl (Nat.le_of_ble_eq_true rfl) (fun G g ho hm _ _ => ok_f_days_hourStep  g hm  μ ho  h)
def f_work_runStep (N : Nat)  (μ : sw_M) (a1 : Int32) : Option (Int32 × sw_M) :=
  Option.bind (f_sx_at N 43 150 μ a1) (fun r1 =>
    Option.bind (f_sx_at N 44 150 μ a1) (fun r3 =>
      Option.bind (f_sx_at N 42 150 μ a1) (fun r5 =>
        if r5 = 0 then
          Option.bind (f_days_lift N  μ r1 r3) (fun r7 =>
            bl r7.1 (some (r7.1, r7.2)))
        else if r5 = 1 then
          Option.bind (f_days_setDown N  μ r1 r3) (fun r9 =>
            bl r9.1 (some (r9.1, r9.2)))
        else if r5 = 2 then
          Option.bind (f_days_cross N  μ r1 r3) (fun r11 =>
            bl r11.1 (some (r11.1, r11.2)))
        else if r5 = 3 then
          Option.bind (f_days_move N  μ r1 r3) (fun r13 =>
            bl r13.1 (some (r13.1, r13.2)))
        else if r5 = 4 then
          Option.bind (f_days_cut N  μ r1) (fun r15 =>
            bl r15.1 (some (r15.1, r15.2)))
        else 
          Option.bind (f_days_hourStep N  μ ) (fun r17 =>
            bl r17.1 (some (r17.1, r17.2))))))
set_option maxRecDepth 100000 in
set_option maxHeartbeats 4000000 in
theorem ok_f_work_runStep {G : sw_G} {ad : Nat → Nat} {ν : sw_N}   {N : Nat} {o : Int32 × sw_M} (g : sw_ok G cX9_runStep "DeadWires$Work" (some .boolean) 5 0 0 ad) (hm : G.2.2.1.2.1.maxLocals = 4)  (μ : sw_M) (ho : sw_out G 0 0 (fun a => a = ad) (.inl (some (.int o.1))) lay0 o.2 ν) (a1 : Int32) (h : f_work_runStep N  μ a1 = some o) : SW G ad lay0 ν 0 0 0 [some (.ref 41), some (.int a1), none, none] [] μ := by
  unfold f_work_runStep at h
  refine SW.aload_n (pc := 0) g (dt dt_X9_runStep 0 rfl) rfl ?_
  refine SW.getR (pc := 1) g (dt dt_X9_runStep 1 rfl) fl_X9_15 cell_41 rfl ?_
  refine SW.iload_n (pc := 4) g (dt dt_X9_runStep 2 rfl) rfl ?_
  obtain ⟨r1, h2, h⟩ := bindI h
  refine SW.callSNi (pc := 5) g (dt dt_X9_runStep 3 rfl) (mt_f_sx_at _ _ _ _ ad ν lay0 43 150 cell_43 N μ a1 r1 h2) me_X10_at ms_X10_at mn_X9_128 rfl (Nat.le_of_ble_eq_true rfl) (Nat.le_of_ble_eq_true rfl) (Nat.le_of_ble_eq_true rfl) (Nat.le_of_ble_eq_true rfl) rfl ?_
  refine SW.istore_n (pc := 8) g (dt dt_X9_runStep 4 rfl) (sw_ltm hm (Nat.le_of_ble_eq_true rfl)) rfl ?_
  refine SW.aload_n (pc := 9) g (dt dt_X9_runStep 5 rfl) rfl ?_
  refine SW.getR (pc := 10) g (dt dt_X9_runStep 6 rfl) fl_X9_18 cell_41 rfl ?_
  refine SW.iload_n (pc := 13) g (dt dt_X9_runStep 7 rfl) rfl ?_
  obtain ⟨r3, h4, h⟩ := bindI h
  refine SW.callSNi (pc := 14) g (dt dt_X9_runStep 8 rfl) (mt_f_sx_at _ _ _ _ ad ν lay0 44 150 cell_44 N μ a1 r3 h4) me_X10_at ms_X10_at mn_X9_128 rfl (Nat.le_of_ble_eq_true rfl) (Nat.le_of_ble_eq_true rfl) (Nat.le_of_ble_eq_true rfl) (Nat.le_of_ble_eq_true rfl) rfl ?_
  refine SW.istore_n (pc := 17) g (dt dt_X9_runStep 9 rfl) (sw_ltm hm (Nat.le_of_ble_eq_true rfl)) rfl ?_
  refine SW.aload_n (pc := 18) g (dt dt_X9_runStep 10 rfl) rfl ?_
  refine SW.getR (pc := 19) g (dt dt_X9_runStep 11 rfl) fl_X9_9 cell_41 rfl ?_
  refine SW.iload_n (pc := 22) g (dt dt_X9_runStep 12 rfl) rfl ?_
  obtain ⟨r5, h6, h⟩ := bindI h
  refine SW.callSNi (pc := 23) g (dt dt_X9_runStep 13 rfl) (mt_f_sx_at _ _ _ _ ad ν lay0 42 150 cell_42 N μ a1 r5 h6) me_X10_at ms_X10_at mn_X9_128 rfl (Nat.le_of_ble_eq_true rfl) (Nat.le_of_ble_eq_true rfl) (Nat.le_of_ble_eq_true rfl) (Nat.le_of_ble_eq_true rfl) rfl ?_
  refine SW.tsw (pc := 26) (dn := 109) (tb := [(0, 60), (1, 70), (2, 80), (3, 90), (4, 100)]) g (dt dt_X9_runStep 14 rfl) (by decide) ?_
  refine sw_cons (fun hc => ?_) (fun hc => ?_)
  · have h := iteT hc h
    refine SW.aload_n (pc := 60) g (dt dt_X9_runStep 15 rfl) rfl ?_
    refine SW.getR (pc := 61) g (dt dt_X9_runStep 16 rfl) fl_X9_21 cell_41 rfl ?_
    refine SW.iload_n (pc := 64) g (dt dt_X9_runStep 17 rfl) rfl ?_
    refine SW.iload_n (pc := 65) g (dt dt_X9_runStep 18 rfl) rfl ?_
    obtain ⟨r7, h8, h⟩ := bindI h
    refine SW.callVi (pc := 66) g (dt dt_X9_runStep 19 rfl) (mt_f_days_lift _ _ _ _ ad ν   N μ r1 r3 r7 h8) me_X2_lift mv_X2_lift ml_X9_141 cell_35 rfl rfl (Nat.le_of_ble_eq_true rfl) (Nat.le_of_ble_eq_true rfl) (Nat.le_of_ble_eq_true rfl) (Nat.le_of_ble_eq_true rfl) rfl ?_
    obtain ⟨hn, h⟩ := blI h
    exact SW.zreturn (pc := 69) g (leafW h ho) rfl (Nat.le_of_ble_eq_true rfl) (Nat.le_of_ble_eq_true rfl) hn (dt dt_X9_runStep 20 rfl)
  · have h := iteF hc h
    refine sw_cons (fun hc => ?_) (fun hc => ?_)
    · have h := iteT hc h
      refine SW.aload_n (pc := 70) g (dt dt_X9_runStep 21 rfl) rfl ?_
      refine SW.getR (pc := 71) g (dt dt_X9_runStep 22 rfl) fl_X9_21 cell_41 rfl ?_
      refine SW.iload_n (pc := 74) g (dt dt_X9_runStep 23 rfl) rfl ?_
      refine SW.iload_n (pc := 75) g (dt dt_X9_runStep 24 rfl) rfl ?_
      obtain ⟨r9, h10, h⟩ := bindI h
      refine SW.callVi (pc := 76) g (dt dt_X9_runStep 25 rfl) (mt_f_days_setDown _ _ _ _ ad ν   N μ r1 r3 r9 h10) me_X2_setDown mv_X2_setDown ml_X9_144 cell_35 rfl rfl (Nat.le_of_ble_eq_true rfl) (Nat.le_of_ble_eq_true rfl) (Nat.le_of_ble_eq_true rfl) (Nat.le_of_ble_eq_true rfl) rfl ?_
      obtain ⟨hn, h⟩ := blI h
      exact SW.zreturn (pc := 79) g (leafW h ho) rfl (Nat.le_of_ble_eq_true rfl) (Nat.le_of_ble_eq_true rfl) hn (dt dt_X9_runStep 26 rfl)
    · have h := iteF hc h
      refine sw_cons (fun hc => ?_) (fun hc => ?_)
      · have h := iteT hc h
        refine SW.aload_n (pc := 80) g (dt dt_X9_runStep 27 rfl) rfl ?_
        refine SW.getR (pc := 81) g (dt dt_X9_runStep 28 rfl) fl_X9_21 cell_41 rfl ?_
        refine SW.iload_n (pc := 84) g (dt dt_X9_runStep 29 rfl) rfl ?_
        refine SW.iload_n (pc := 85) g (dt dt_X9_runStep 30 rfl) rfl ?_
        obtain ⟨r11, h12, h⟩ := bindI h
        refine SW.callVi (pc := 86) g (dt dt_X9_runStep 31 rfl) (mt_f_days_cross _ _ _ _ ad ν   N μ r1 r3 r11 h12) me_X2_cross mv_X2_cross ml_X9_147 cell_35 rfl rfl (Nat.le_of_ble_eq_true rfl) (Nat.le_of_ble_eq_true rfl) (Nat.le_of_ble_eq_true rfl) (Nat.le_of_ble_eq_true rfl) rfl ?_
        obtain ⟨hn, h⟩ := blI h
        exact SW.zreturn (pc := 89) g (leafW h ho) rfl (Nat.le_of_ble_eq_true rfl) (Nat.le_of_ble_eq_true rfl) hn (dt dt_X9_runStep 32 rfl)
      · have h := iteF hc h
        refine sw_cons (fun hc => ?_) (fun hc => ?_)
        · have h := iteT hc h
          refine SW.aload_n (pc := 90) g (dt dt_X9_runStep 33 rfl) rfl ?_
          refine SW.getR (pc := 91) g (dt dt_X9_runStep 34 rfl) fl_X9_21 cell_41 rfl ?_
          refine SW.iload_n (pc := 94) g (dt dt_X9_runStep 35 rfl) rfl ?_
          refine SW.iload_n (pc := 95) g (dt dt_X9_runStep 36 rfl) rfl ?_
          obtain ⟨r13, h14, h⟩ := bindI h
          refine SW.callVi (pc := 96) g (dt dt_X9_runStep 37 rfl) (mt_f_days_move _ _ _ _ ad ν   N μ r1 r3 r13 h14) me_X2_move mv_X2_move ml_X9_149 cell_35 rfl rfl (Nat.le_of_ble_eq_true rfl) (Nat.le_of_ble_eq_true rfl) (Nat.le_of_ble_eq_true rfl) (Nat.le_of_ble_eq_true rfl) rfl ?_
          obtain ⟨hn, h⟩ := blI h
          exact SW.zreturn (pc := 99) g (leafW h ho) rfl (Nat.le_of_ble_eq_true rfl) (Nat.le_of_ble_eq_true rfl) hn (dt dt_X9_runStep 38 rfl)
        · have h := iteF hc h
          refine sw_cons (fun hc => ?_) (fun hc => ?_)
          · have h := iteT hc h
            refine SW.aload_n (pc := 100) g (dt dt_X9_runStep 39 rfl) rfl ?_
            refine SW.getR (pc := 101) g (dt dt_X9_runStep 40 rfl) fl_X9_21 cell_41 rfl ?_
            refine SW.iload_n (pc := 104) g (dt dt_X9_runStep 41 rfl) rfl ?_
            obtain ⟨r15, h16, h⟩ := bindI h
            refine SW.callVi (pc := 105) g (dt dt_X9_runStep 42 rfl) (mt_f_days_cut _ _ _ _ ad ν   N μ r1 r15 h16) me_X2_cut mv_X2_cut ml_X9_151 cell_35 rfl rfl (Nat.le_of_ble_eq_true rfl) (Nat.le_of_ble_eq_true rfl) (Nat.le_of_ble_eq_true rfl) (Nat.le_of_ble_eq_true rfl) rfl ?_
            obtain ⟨hn, h⟩ := blI h
            exact SW.zreturn (pc := 108) g (leafW h ho) rfl (Nat.le_of_ble_eq_true rfl) (Nat.le_of_ble_eq_true rfl) hn (dt dt_X9_runStep 43 rfl)
          · have h := iteF hc h
            change SW _ _ _ _ _ _ 109 _ _ _
            refine SW.aload_n (pc := 109) g (dt dt_X9_runStep 44 rfl) rfl ?_
            refine SW.getR (pc := 110) g (dt dt_X9_runStep 45 rfl) fl_X9_21 cell_41 rfl ?_
            obtain ⟨r17, h18, h⟩ := bindI h
            refine SW.callVi (pc := 113) g (dt dt_X9_runStep 46 rfl) (mt_f_days_hourStep _ _ _ _ ad ν   N μ  r17 h18) me_X2_hourStep mv_X2_hourStep ml_X9_153 cell_35 rfl rfl (Nat.le_of_ble_eq_true rfl) (Nat.le_of_ble_eq_true rfl) (Nat.le_of_ble_eq_true rfl) (Nat.le_of_ble_eq_true rfl) rfl ?_
            obtain ⟨hn, h⟩ := blI h
            exact SW.zreturn (pc := 116) g (leafW h ho) rfl (Nat.le_of_ble_eq_true rfl) (Nat.le_of_ble_eq_true rfl) hn (dt dt_X9_runStep 47 rfl)
set_option maxRecDepth 100000 in
set_option maxHeartbeats 4000000 in
theorem mt_f_work_runStep (l : Launch) (D : va_G) (cI cL : ClassId) (ad : Nat → Nat) (ν : sw_N)    (N : Nat) (μ : sw_M) (a1 : Int32) (o : Int32 × sw_M) (h : f_work_runStep N  μ a1 = some o) : MetR l D cI cL yX9_runStep cX9_runStep 4 (some .boolean) 5 0 0 (fun a => a = ad) ad [.ref 41, .int a1] lay0 μ ν (some (.int o.1)) lay0 o.2 ν :=
  MetR.of (n := 2) rfl (Nat.le_of_ble_eq_true rfl) (fun G g ho hm _ _ => ok_f_work_runStep  g hm  μ ho a1 h)
def f_work_runAgain_20 (N : Nat) (q_f_work_runSteps : sw_M → Int32 → Int32 → Int32 → Option (sw_M)) (q_f_work_runAgain : sw_M → Int32 → Int32 → Int32 → Option (sw_M))  : Nat → sw_M → Int32 → Int32 → Int32 → Int32 → Int32 → Option (sw_M)
  | 0, _, _, _, _, _, _ => none
  | n + 1, μ, x1, x2, x3, x4, x5 =>
    if x4 ≤ x5 then
      some μ
    else
      if 200 ≤ (μ 41 6) then
        some μ
      else
        Option.bind (q_f_work_runSteps μ (x1 + 1) x2 (x3 + 1)) (fun r1 =>
          f_work_runAgain_20 N  q_f_work_runSteps q_f_work_runAgain  n r1 x1 x2 x3 x4 (x5 + 1))
def f_work_runAgain_b (N : Nat) (q_f_work_runSteps : sw_M → Int32 → Int32 → Int32 → Option (sw_M)) (q_f_work_runAgain : sw_M → Int32 → Int32 → Int32 → Option (sw_M)) (μ : sw_M) (a1 : Int32) (a2 : Int32) (a3 : Int32) : Option (sw_M) :=
  Option.bind (f_sx_at N 43 150 μ a1) (fun r1 =>
    if a3 < 6 then
      f_work_runAgain_20 N  q_f_work_runSteps q_f_work_runAgain  N μ a1 a2 a3 r1 0
    else
      some μ)
set_option maxRecDepth 100000 in
set_option maxHeartbeats 4000000 in
theorem ok_f_work_runAgain_20 {G : sw_G} {ad : Nat → Nat} {ν : sw_N}   {d : Nat} (q_f_work_runSteps : sw_M → Int32 → Int32 → Int32 → Option (sw_M)) (q_f_work_runAgain : sw_M → Int32 → Int32 → Int32 → Option (sw_M)) {N : Nat} {o : sw_M} (g : sw_ok G cX9_runAgain "DeadWires$Work" none (6 + (d + 1)) 0 0 ad) (hm : G.2.2.1.2.1.maxLocals = 6) (hq_f_work_runSteps : ∀ (l : Launch) (D : va_G) (cI cL : ClassId) (ad : Nat → Nat) (ν : sw_N) (μ : sw_M) (a1 : Int32) (a2 : Int32) (a3 : Int32) (o : sw_M), q_f_work_runSteps μ a1 a2 a3 = some o → MetR l D cI cL yX9_runSteps cX9_runSteps 6 none (6 + d) 0 0 (fun a => a = ad) ad [.ref 41, .int a1, .int a2, .int a3] lay0 μ ν none lay0 o ν) (hq_f_work_runAgain : ∀ (l : Launch) (D : va_G) (cI cL : ClassId) (ad : Nat → Nat) (ν : sw_N) (μ : sw_M) (a1 : Int32) (a2 : Int32) (a3 : Int32) (o : sw_M), q_f_work_runAgain μ a1 a2 a3 = some o → MetR l D cI cL yX9_runAgain cX9_runAgain 6 none (6 + d) 0 0 (fun a => a = ad) ad [.ref 41, .int a1, .int a2, .int a3] lay0 μ ν none lay0 o ν) (ho : sw_out G 0 0 (fun a => a = ad) (.inl none) lay0 o ν)  : ∀ (n : Nat) (μ : sw_M) (x1 : Int32) (x2 : Int32) (x3 : Int32) (x4 : Int32) (x5 : Int32) (h : f_work_runAgain_20 N  q_f_work_runSteps q_f_work_runAgain  n μ x1 x2 x3 x4 x5 = some o), SW G ad lay0 ν 0 0 20 [some (.ref 41), some (.int x1), some (.int x2), some (.int x3), some (.int x4), some (.int x5)] [] μ := by
  intro n
  induction n with
  | zero => intro μ x1 x2 x3 x4 x5 h; simp only [f_work_runAgain_20] at h; cases h
  | succ n ih =>
    intro μ x1 x2 x3 x4 x5 h
    unfold f_work_runAgain_20 at h
    refine SW.iload (pc := 20) g (dt dt_X9_runAgain 11 rfl) rfl ?_
    refine SW.iload (pc := 22) g (dt dt_X9_runAgain 12 rfl) rfl ?_
    refine SW.icmp_ge (pc := 24) (t := 54) g (dt dt_X9_runAgain 13 rfl) rfl (fun hc => ?_) (fun hc => ?_)
    · have h := iteT hc h
      exact SW.vreturn (pc := 54) g (leafV h ho) rfl (Nat.le_of_ble_eq_true rfl) (Nat.le_of_ble_eq_true rfl) (dt dt_X9_runAgain 29 rfl)
    · have h := iteF hc h
      refine SW.aload_n (pc := 27) g (dt dt_X9_runAgain 14 rfl) rfl ?_
      refine SW.getI (pc := 28) g (dt dt_X9_runAgain 15 rfl) fl_X9_115 cell_41 rfl ?_
      refine SW.sipush (pc := 31) (v := 200) g (dt dt_X9_runAgain 16 rfl) ks_200 ?_
      refine SW.icmp_ge (pc := 34) (t := 54) g (dt dt_X9_runAgain 17 rfl) rfl (fun hc => ?_) (fun hc => ?_)
      · have h := iteT hc h
        exact SW.vreturn (pc := 54) g (leafV h ho) rfl (Nat.le_of_ble_eq_true rfl) (Nat.le_of_ble_eq_true rfl) (dt dt_X9_runAgain 29 rfl)
      · have h := iteF hc h
        refine SW.aload_n (pc := 37) g (dt dt_X9_runAgain 18 rfl) rfl ?_
        refine SW.iload_n (pc := 38) g (dt dt_X9_runAgain 19 rfl) rfl ?_
        refine SW.iconst (pc := 39) (v := 1) g (dt dt_X9_runAgain 20 rfl) ki_1 ?_
        refine SW.iadd (pc := 40) g (dt dt_X9_runAgain 21 rfl) ?_
        refine SW.iload_n (pc := 41) g (dt dt_X9_runAgain 22 rfl) rfl ?_
        refine SW.iload_n (pc := 42) g (dt dt_X9_runAgain 23 rfl) rfl ?_
        refine SW.iconst (pc := 43) (v := 1) g (dt dt_X9_runAgain 24 rfl) ki_1 ?_
        refine SW.iadd (pc := 44) g (dt dt_X9_runAgain 25 rfl) ?_
        obtain ⟨r1, h2, h⟩ := bindI h
        refine SW.callVv (pc := 45) g (dt dt_X9_runAgain 26 rfl) (hq_f_work_runSteps _ _ _ _ ad ν μ (x1 + 1) x2 (x3 + 1) r1 h2) me_X9_runSteps mv_X9_runSteps ml_X9_124 cell_41 rfl rfl (Nat.le_of_ble_eq_true rfl) (by omega) (Nat.le_of_ble_eq_true rfl) (Nat.le_of_ble_eq_true rfl) rfl ?_
        refine SW.iinc (pc := 48) (v := x5 + 1) g (dt dt_X9_runAgain 27 rfl) rfl (kn_1 _) (sw_ltm hm (Nat.le_of_ble_eq_true rfl)) rfl ?_
        refine SW.goto (pc := 51) (t := 20) g (dt dt_X9_runAgain 28 rfl) rfl ?_
        refine SW.msk [true, true, true, true, true, true] ?_
        exact ih r1 x1 x2 x3 x4 (x5 + 1) h
set_option maxRecDepth 100000 in
set_option maxHeartbeats 4000000 in
theorem ok_f_work_runAgain_b {G : sw_G} {ad : Nat → Nat} {ν : sw_N}   {d : Nat} (q_f_work_runSteps : sw_M → Int32 → Int32 → Int32 → Option (sw_M)) (q_f_work_runAgain : sw_M → Int32 → Int32 → Int32 → Option (sw_M)) {N : Nat} {o : sw_M} (g : sw_ok G cX9_runAgain "DeadWires$Work" none (6 + (d + 1)) 0 0 ad) (hm : G.2.2.1.2.1.maxLocals = 6) (hq_f_work_runSteps : ∀ (l : Launch) (D : va_G) (cI cL : ClassId) (ad : Nat → Nat) (ν : sw_N) (μ : sw_M) (a1 : Int32) (a2 : Int32) (a3 : Int32) (o : sw_M), q_f_work_runSteps μ a1 a2 a3 = some o → MetR l D cI cL yX9_runSteps cX9_runSteps 6 none (6 + d) 0 0 (fun a => a = ad) ad [.ref 41, .int a1, .int a2, .int a3] lay0 μ ν none lay0 o ν) (hq_f_work_runAgain : ∀ (l : Launch) (D : va_G) (cI cL : ClassId) (ad : Nat → Nat) (ν : sw_N) (μ : sw_M) (a1 : Int32) (a2 : Int32) (a3 : Int32) (o : sw_M), q_f_work_runAgain μ a1 a2 a3 = some o → MetR l D cI cL yX9_runAgain cX9_runAgain 6 none (6 + d) 0 0 (fun a => a = ad) ad [.ref 41, .int a1, .int a2, .int a3] lay0 μ ν none lay0 o ν) (μ : sw_M) (ho : sw_out G 0 0 (fun a => a = ad) (.inl none) lay0 o ν) (a1 : Int32) (a2 : Int32) (a3 : Int32) (h : f_work_runAgain_b N  q_f_work_runSteps q_f_work_runAgain μ a1 a2 a3 = some o) : SW G ad lay0 ν 0 0 0 [some (.ref 41), some (.int a1), some (.int a2), some (.int a3), none, none] [] μ := by
  unfold f_work_runAgain_b at h
  refine SW.aload_n (pc := 0) g (dt dt_X9_runAgain 0 rfl) rfl ?_
  refine SW.getR (pc := 1) g (dt dt_X9_runAgain 1 rfl) fl_X9_15 cell_41 rfl ?_
  refine SW.iload_n (pc := 4) g (dt dt_X9_runAgain 2 rfl) rfl ?_
  obtain ⟨r1, h2, h⟩ := bindI h
  refine SW.callSNi (pc := 5) g (dt dt_X9_runAgain 3 rfl) (mt_f_sx_at _ _ _ _ ad ν lay0 43 150 cell_43 N μ a1 r1 h2) me_X10_at ms_X10_at mn_X9_128 rfl (Nat.le_of_ble_eq_true rfl) (by omega) (Nat.le_of_ble_eq_true rfl) (Nat.le_of_ble_eq_true rfl) rfl ?_
  refine SW.istore (pc := 8) g (dt dt_X9_runAgain 4 rfl) (sw_ltm hm (Nat.le_of_ble_eq_true rfl)) rfl ?_
  refine SW.iload_n (pc := 10) g (dt dt_X9_runAgain 5 rfl) rfl ?_
  refine SW.bipush (pc := 11) (v := 6) g (dt dt_X9_runAgain 6 rfl) kb_6 ?_
  refine SW.icmp_lt (pc := 13) (t := 17) g (dt dt_X9_runAgain 7 rfl) rfl (fun hc => ?_) (fun hc => ?_)
  · have h := iteT hc h
    refine SW.iconst (pc := 17) (v := 0) g (dt dt_X9_runAgain 9 rfl) ki_0 ?_
    refine SW.istore (pc := 18) g (dt dt_X9_runAgain 10 rfl) (sw_ltm hm (Nat.le_of_ble_eq_true rfl)) rfl ?_
    refine SW.msk [true, true, true, true, true, true] ?_
    exact ok_f_work_runAgain_20  q_f_work_runSteps q_f_work_runAgain g hm  hq_f_work_runSteps hq_f_work_runAgain ho   N μ a1 a2 a3 r1 0 h
  · have h := iteF hc h
    exact SW.vreturn (pc := 16) g (leafV h ho) rfl (Nat.le_of_ble_eq_true rfl) (Nat.le_of_ble_eq_true rfl) (dt dt_X9_runAgain 8 rfl)
set_option maxRecDepth 100000 in
set_option maxHeartbeats 4000000 in
theorem mtb_f_work_runAgain (l : Launch) (D : va_G) (cI cL : ClassId) (ad : Nat → Nat) (ν : sw_N)   {d : Nat} (q_f_work_runSteps : sw_M → Int32 → Int32 → Int32 → Option (sw_M)) (q_f_work_runAgain : sw_M → Int32 → Int32 → Int32 → Option (sw_M)) (hq_f_work_runSteps : ∀ (l : Launch) (D : va_G) (cI cL : ClassId) (ad : Nat → Nat) (ν : sw_N) (μ : sw_M) (a1 : Int32) (a2 : Int32) (a3 : Int32) (o : sw_M), q_f_work_runSteps μ a1 a2 a3 = some o → MetR l D cI cL yX9_runSteps cX9_runSteps 6 none (6 + d) 0 0 (fun a => a = ad) ad [.ref 41, .int a1, .int a2, .int a3] lay0 μ ν none lay0 o ν) (hq_f_work_runAgain : ∀ (l : Launch) (D : va_G) (cI cL : ClassId) (ad : Nat → Nat) (ν : sw_N) (μ : sw_M) (a1 : Int32) (a2 : Int32) (a3 : Int32) (o : sw_M), q_f_work_runAgain μ a1 a2 a3 = some o → MetR l D cI cL yX9_runAgain cX9_runAgain 6 none (6 + d) 0 0 (fun a => a = ad) ad [.ref 41, .int a1, .int a2, .int a3] lay0 μ ν none lay0 o ν) (N : Nat) (μ : sw_M) (a1 : Int32) (a2 : Int32) (a3 : Int32) (o : sw_M) (h : f_work_runAgain_b N  q_f_work_runSteps q_f_work_runAgain μ a1 a2 a3 = some o) : MetR l D cI cL yX9_runAgain cX9_runAgain 6 none (6 + (d + 1)) 0 0 (fun a => a = ad) ad [.ref 41, .int a1, .int a2, .int a3] lay0 μ ν none lay0 o ν :=
  MetR.of (n := 2) rfl (Nat.le_of_ble_eq_true rfl) (fun G g ho hm _ _ => ok_f_work_runAgain_b  q_f_work_runSteps q_f_work_runAgain g hm  hq_f_work_runSteps hq_f_work_runAgain μ ho a1 a2 a3 h)
def f_work_runSteps_109 (N : Nat) (q_f_work_runSteps : sw_M → Int32 → Int32 → Int32 → Option (sw_M)) (q_f_work_runAgain : sw_M → Int32 → Int32 → Int32 → Option (sw_M)) (k_3 : sw_M → Int32 → Int32 → Int32 → Option (sw_M)) (μ : sw_M) (x2 : Int32) (x3 : Int32) (x5 : Int32) : Option (sw_M) :=
  k_3 μ x2 x3 x5
def f_work_runSteps_3 (N : Nat) (q_f_work_runSteps : sw_M → Int32 → Int32 → Int32 → Option (sw_M)) (q_f_work_runAgain : sw_M → Int32 → Int32 → Int32 → Option (sw_M))  : Nat → sw_M → Int32 → Int32 → Int32 → Option (sw_M)
  | 0, _, _, _, _ => none
  | n + 1, μ, x2, x3, x4 =>
    if x2 ≤ x4 then
      some μ
    else
      if 200 ≤ (μ 41 6) then
        some μ
      else
        wb (wr μ 41 6 ((μ 41 6) + 1)) (fun μ1 =>
          ib (x4 + 1) (fun y2 =>
            Option.bind (f_sx_at N 42 150 μ1 x4) (fun r3 =>
              if r3 = 6 then
                Option.bind (f_sx_at N 44 150 μ1 x4) (fun r9 =>
                  ib (if y2 < r9 then r9 else y2) (fun y11 =>
                    Option.bind (q_f_work_runAgain μ1 x4 y11 x3) (fun r12 =>
                      f_work_runSteps_109 N  q_f_work_runSteps q_f_work_runAgain (f_work_runSteps_3 N  q_f_work_runSteps q_f_work_runAgain  n)  r12 x2 x3 y11)))
              else
                Option.bind (f_work_runStep N  μ1 x4) (fun r5 =>
                  if r5.1 = 0 then
                    wb (wr r5.2 41 8 ((r5.2 41 8) + 1)) (fun μ7 =>
                      f_work_runSteps_109 N  q_f_work_runSteps q_f_work_runAgain (f_work_runSteps_3 N  q_f_work_runSteps q_f_work_runAgain  n)  μ7 x2 x3 y2)
                  else
                    wb (wr r5.2 41 7 ((r5.2 41 7) + 1)) (fun μ8 =>
                      f_work_runSteps_109 N  q_f_work_runSteps q_f_work_runAgain (f_work_runSteps_3 N  q_f_work_runSteps q_f_work_runAgain  n)  μ8 x2 x3 y2)))))
def f_work_runSteps_b (N : Nat) (q_f_work_runSteps : sw_M → Int32 → Int32 → Int32 → Option (sw_M)) (q_f_work_runAgain : sw_M → Int32 → Int32 → Int32 → Option (sw_M)) (μ : sw_M) (a1 : Int32) (a2 : Int32) (a3 : Int32) : Option (sw_M) :=
  f_work_runSteps_3 N  q_f_work_runSteps q_f_work_runAgain  N μ a2 a3 a1
set_option maxRecDepth 100000 in
set_option maxHeartbeats 4000000 in
theorem ok_f_work_runSteps_109 {G : sw_G} {ad : Nat → Nat} {ν : sw_N}   {d : Nat} (q_f_work_runSteps : sw_M → Int32 → Int32 → Int32 → Option (sw_M)) (q_f_work_runAgain : sw_M → Int32 → Int32 → Int32 → Option (sw_M)) {N : Nat} {o : sw_M} (g : sw_ok G cX9_runSteps "DeadWires$Work" none (6 + (d + 1)) 0 0 ad) (hm : G.2.2.1.2.1.maxLocals = 6) (hq_f_work_runSteps : ∀ (l : Launch) (D : va_G) (cI cL : ClassId) (ad : Nat → Nat) (ν : sw_N) (μ : sw_M) (a1 : Int32) (a2 : Int32) (a3 : Int32) (o : sw_M), q_f_work_runSteps μ a1 a2 a3 = some o → MetR l D cI cL yX9_runSteps cX9_runSteps 6 none (6 + d) 0 0 (fun a => a = ad) ad [.ref 41, .int a1, .int a2, .int a3] lay0 μ ν none lay0 o ν) (hq_f_work_runAgain : ∀ (l : Launch) (D : va_G) (cI cL : ClassId) (ad : Nat → Nat) (ν : sw_N) (μ : sw_M) (a1 : Int32) (a2 : Int32) (a3 : Int32) (o : sw_M), q_f_work_runAgain μ a1 a2 a3 = some o → MetR l D cI cL yX9_runAgain cX9_runAgain 6 none (6 + d) 0 0 (fun a => a = ad) ad [.ref 41, .int a1, .int a2, .int a3] lay0 μ ν none lay0 o ν) (ho : sw_out G 0 0 (fun a => a = ad) (.inl none) lay0 o ν) (k_3 : sw_M → Int32 → Int32 → Int32 → Option (sw_M)) (hk_3 : ∀ (μ : sw_M) (x2 : Int32) (x3 : Int32) (x4 : Int32), k_3 μ x2 x3 x4 = some o → SW G ad lay0 ν 0 0 3 [some (.ref 41), none, some (.int x2), some (.int x3), some (.int x4), none] [] μ) (μ : sw_M) (x2 : Int32) (x3 : Int32) (x5 : Int32) (h : f_work_runSteps_109 N  q_f_work_runSteps q_f_work_runAgain k_3  μ x2 x3 x5 = some o) : SW G ad lay0 ν 0 0 109 [some (.ref 41), none, some (.int x2), some (.int x3), none, some (.int x5)] [] μ := by
  unfold f_work_runSteps_109 at h
  refine SW.iload (pc := 109) g (dt dt_X9_runSteps 55 rfl) rfl ?_
  refine SW.istore (pc := 111) g (dt dt_X9_runSteps 56 rfl) (sw_ltm hm (Nat.le_of_ble_eq_true rfl)) rfl ?_
  refine SW.goto (pc := 113) (t := 3) g (dt dt_X9_runSteps 57 rfl) rfl ?_
  refine SW.msk [true, false, true, true, true, false] ?_
  exact hk_3 μ x2 x3 x5 h
set_option maxRecDepth 100000 in
set_option maxHeartbeats 4000000 in
theorem ok_f_work_runSteps_3 {G : sw_G} {ad : Nat → Nat} {ν : sw_N}   {d : Nat} (q_f_work_runSteps : sw_M → Int32 → Int32 → Int32 → Option (sw_M)) (q_f_work_runAgain : sw_M → Int32 → Int32 → Int32 → Option (sw_M)) {N : Nat} {o : sw_M} (g : sw_ok G cX9_runSteps "DeadWires$Work" none (6 + (d + 1)) 0 0 ad) (hm : G.2.2.1.2.1.maxLocals = 6) (hq_f_work_runSteps : ∀ (l : Launch) (D : va_G) (cI cL : ClassId) (ad : Nat → Nat) (ν : sw_N) (μ : sw_M) (a1 : Int32) (a2 : Int32) (a3 : Int32) (o : sw_M), q_f_work_runSteps μ a1 a2 a3 = some o → MetR l D cI cL yX9_runSteps cX9_runSteps 6 none (6 + d) 0 0 (fun a => a = ad) ad [.ref 41, .int a1, .int a2, .int a3] lay0 μ ν none lay0 o ν) (hq_f_work_runAgain : ∀ (l : Launch) (D : va_G) (cI cL : ClassId) (ad : Nat → Nat) (ν : sw_N) (μ : sw_M) (a1 : Int32) (a2 : Int32) (a3 : Int32) (o : sw_M), q_f_work_runAgain μ a1 a2 a3 = some o → MetR l D cI cL yX9_runAgain cX9_runAgain 6 none (6 + d) 0 0 (fun a => a = ad) ad [.ref 41, .int a1, .int a2, .int a3] lay0 μ ν none lay0 o ν) (ho : sw_out G 0 0 (fun a => a = ad) (.inl none) lay0 o ν)  : ∀ (n : Nat) (μ : sw_M) (x2 : Int32) (x3 : Int32) (x4 : Int32) (h : f_work_runSteps_3 N  q_f_work_runSteps q_f_work_runAgain  n μ x2 x3 x4 = some o), SW G ad lay0 ν 0 0 3 [some (.ref 41), none, some (.int x2), some (.int x3), some (.int x4), none] [] μ := by
  intro n
  induction n with
  | zero => intro μ x2 x3 x4 h; simp only [f_work_runSteps_3] at h; cases h
  | succ n ih =>
    intro μ x2 x3 x4 h
    unfold f_work_runSteps_3 at h
    refine SW.iload (pc := 3) g (dt dt_X9_runSteps 2 rfl) rfl ?_
    refine SW.iload_n (pc := 5) g (dt dt_X9_runSteps 3 rfl) rfl ?_
    refine SW.icmp_ge (pc := 6) (t := 116) g (dt dt_X9_runSteps 4 rfl) rfl (fun hc => ?_) (fun hc => ?_)
    · have h := iteT hc h
      exact SW.vreturn (pc := 116) g (leafV h ho) rfl (Nat.le_of_ble_eq_true rfl) (Nat.le_of_ble_eq_true rfl) (dt dt_X9_runSteps 58 rfl)
    · have h := iteF hc h
      refine SW.aload_n (pc := 9) g (dt dt_X9_runSteps 5 rfl) rfl ?_
      refine SW.getI (pc := 10) g (dt dt_X9_runSteps 6 rfl) fl_X9_115 cell_41 rfl ?_
      refine SW.sipush (pc := 13) (v := 200) g (dt dt_X9_runSteps 7 rfl) ks_200 ?_
      refine SW.icmp_ge (pc := 16) (t := 116) g (dt dt_X9_runSteps 8 rfl) rfl (fun hc => ?_) (fun hc => ?_)
      · have h := iteT hc h
        exact SW.vreturn (pc := 116) g (leafV h ho) rfl (Nat.le_of_ble_eq_true rfl) (Nat.le_of_ble_eq_true rfl) (dt dt_X9_runSteps 58 rfl)
      · have h := iteF hc h
        refine SW.aload_n (pc := 19) g (dt dt_X9_runSteps 9 rfl) rfl ?_
        refine SW.dup (pc := 20) g (dt dt_X9_runSteps 10 rfl) rfl ?_
        refine SW.getI (pc := 21) g (dt dt_X9_runSteps 11 rfl) fl_X9_115 cell_41 rfl ?_
        refine SW.iconst (pc := 24) (v := 1) g (dt dt_X9_runSteps 12 rfl) ki_1 ?_
        refine SW.iadd (pc := 25) g (dt dt_X9_runSteps 13 rfl) ?_
        refine SW.putI (pc := 26) g (dt dt_X9_runSteps 14 rfl) fl_X9_115 cell_41 rfl ?_
        refine SW.genM h (fun μ1 h => ?_)
        refine SW.iload (pc := 29) g (dt dt_X9_runSteps 15 rfl) rfl ?_
        refine SW.iconst (pc := 31) (v := 1) g (dt dt_X9_runSteps 16 rfl) ki_1 ?_
        refine SW.iadd (pc := 32) g (dt dt_X9_runSteps 17 rfl) ?_
        refine SW.istore (pc := 33) g (dt dt_X9_runSteps 18 rfl) (sw_ltm hm (Nat.le_of_ble_eq_true rfl)) rfl ?_
        refine SW.genL h (fun y2 h => ?_)
        refine SW.aload_n (pc := 35) g (dt dt_X9_runSteps 19 rfl) rfl ?_
        refine SW.getR (pc := 36) g (dt dt_X9_runSteps 20 rfl) fl_X9_9 cell_41 rfl ?_
        refine SW.iload (pc := 39) g (dt dt_X9_runSteps 21 rfl) rfl ?_
        obtain ⟨r3, h4, h⟩ := bindI h
        refine SW.callSNi (pc := 41) g (dt dt_X9_runSteps 22 rfl) (mt_f_sx_at _ _ _ _ ad ν lay0 42 150 cell_42 N μ1 x4 r3 h4) me_X10_at ms_X10_at mn_X9_128 rfl (Nat.le_of_ble_eq_true rfl) (by omega) (Nat.le_of_ble_eq_true rfl) (Nat.le_of_ble_eq_true rfl) rfl ?_
        refine SW.bipush (pc := 44) (v := 6) g (dt dt_X9_runSteps 23 rfl) kb_6 ?_
        refine SW.icmp_ne (pc := 46) (t := 77) g (dt dt_X9_runSteps 24 rfl) rfl (fun hc => ?_) (fun hc => ?_)
        · have h := iteF hc h
          refine SW.aload_n (pc := 77) g (dt dt_X9_runSteps 38 rfl) rfl ?_
          refine SW.iload (pc := 78) g (dt dt_X9_runSteps 39 rfl) rfl ?_
          obtain ⟨r5, h6, h⟩ := bindI h
          refine SW.callVi (pc := 80) g (dt dt_X9_runSteps 40 rfl) (mt_f_work_runStep _ _ _ _ ad ν   N μ1 x4 r5 h6) me_X9_runStep mv_X9_runStep ml_X9_138 cell_41 rfl rfl (Nat.le_of_ble_eq_true rfl) (by omega) (Nat.le_of_ble_eq_true rfl) (Nat.le_of_ble_eq_true rfl) rfl ?_
          refine SW.if_eq (pc := 83) (t := 99) g (dt dt_X9_runSteps 41 rfl) rfl (fun hc => ?_) (fun hc => ?_)
          · have h := iteT hc h
            refine SW.aload_n (pc := 99) g (dt dt_X9_runSteps 49 rfl) rfl ?_
            refine SW.dup (pc := 100) g (dt dt_X9_runSteps 50 rfl) rfl ?_
            refine SW.getI (pc := 101) g (dt dt_X9_runSteps 51 rfl) fl_X9_121 cell_41 rfl ?_
            refine SW.iconst (pc := 104) (v := 1) g (dt dt_X9_runSteps 52 rfl) ki_1 ?_
            refine SW.iadd (pc := 105) g (dt dt_X9_runSteps 53 rfl) ?_
            refine SW.putI (pc := 106) g (dt dt_X9_runSteps 54 rfl) fl_X9_121 cell_41 rfl ?_
            refine SW.genM h (fun μ7 h => ?_)
            refine SW.msk [true, false, true, true, false, true] ?_
            exact ok_f_work_runSteps_109  q_f_work_runSteps q_f_work_runAgain g hm  hq_f_work_runSteps hq_f_work_runAgain ho (f_work_runSteps_3 N  q_f_work_runSteps q_f_work_runAgain  n) ih  μ7 x2 x3 y2 h
          · have h := iteF hc h
            refine SW.aload_n (pc := 86) g (dt dt_X9_runSteps 42 rfl) rfl ?_
            refine SW.dup (pc := 87) g (dt dt_X9_runSteps 43 rfl) rfl ?_
            refine SW.getI (pc := 88) g (dt dt_X9_runSteps 44 rfl) fl_X9_118 cell_41 rfl ?_
            refine SW.iconst (pc := 91) (v := 1) g (dt dt_X9_runSteps 45 rfl) ki_1 ?_
            refine SW.iadd (pc := 92) g (dt dt_X9_runSteps 46 rfl) ?_
            refine SW.putI (pc := 93) g (dt dt_X9_runSteps 47 rfl) fl_X9_118 cell_41 rfl ?_
            refine SW.genM h (fun μ8 h => ?_)
            refine SW.goto (pc := 96) (t := 109) g (dt dt_X9_runSteps 48 rfl) rfl ?_
            refine SW.msk [true, false, true, true, false, true] ?_
            exact ok_f_work_runSteps_109  q_f_work_runSteps q_f_work_runAgain g hm  hq_f_work_runSteps hq_f_work_runAgain ho (f_work_runSteps_3 N  q_f_work_runSteps q_f_work_runAgain  n) ih  μ8 x2 x3 y2 h
        · have h := iteT hc h
          refine SW.iload (pc := 49) g (dt dt_X9_runSteps 25 rfl) rfl ?_
          refine SW.aload_n (pc := 51) g (dt dt_X9_runSteps 26 rfl) rfl ?_
          refine SW.getR (pc := 52) g (dt dt_X9_runSteps 27 rfl) fl_X9_18 cell_41 rfl ?_
          refine SW.iload (pc := 55) g (dt dt_X9_runSteps 28 rfl) rfl ?_
          obtain ⟨r9, h10, h⟩ := bindI h
          refine SW.callSNi (pc := 57) g (dt dt_X9_runSteps 29 rfl) (mt_f_sx_at _ _ _ _ ad ν lay0 44 150 cell_44 N μ1 x4 r9 h10) me_X10_at ms_X10_at mn_X9_128 rfl (Nat.le_of_ble_eq_true rfl) (by omega) (Nat.le_of_ble_eq_true rfl) (Nat.le_of_ble_eq_true rfl) rfl ?_
          refine SW.mmax (pc := 60) g (dt dt_X9_runSteps 30 rfl) ml_X9_132 ms_J9_max_7cf53 mt_init me_J9_max_7cf53.1 (Nat.le_of_ble_eq_true rfl) (by omega) (Nat.le_of_ble_eq_true rfl) (Nat.le_of_ble_eq_true rfl) ?_
          refine SW.istore (pc := 63) g (dt dt_X9_runSteps 31 rfl) (sw_ltm hm (Nat.le_of_ble_eq_true rfl)) rfl ?_
          refine SW.genL h (fun y11 h => ?_)
          refine SW.aload_n (pc := 65) g (dt dt_X9_runSteps 32 rfl) rfl ?_
          refine SW.iload (pc := 66) g (dt dt_X9_runSteps 33 rfl) rfl ?_
          refine SW.iload (pc := 68) g (dt dt_X9_runSteps 34 rfl) rfl ?_
          refine SW.iload_n (pc := 70) g (dt dt_X9_runSteps 35 rfl) rfl ?_
          obtain ⟨r12, h13, h⟩ := bindI h
          refine SW.callVv (pc := 71) g (dt dt_X9_runSteps 36 rfl) (hq_f_work_runAgain _ _ _ _ ad ν μ1 x4 y11 x3 r12 h13) me_X9_runAgain mv_X9_runAgain ml_X9_135 cell_41 rfl rfl (Nat.le_of_ble_eq_true rfl) (by omega) (Nat.le_of_ble_eq_true rfl) (Nat.le_of_ble_eq_true rfl) rfl ?_
          refine SW.goto (pc := 74) (t := 109) g (dt dt_X9_runSteps 37 rfl) rfl ?_
          refine SW.msk [true, false, true, true, false, true] ?_
          exact ok_f_work_runSteps_109  q_f_work_runSteps q_f_work_runAgain g hm  hq_f_work_runSteps hq_f_work_runAgain ho (f_work_runSteps_3 N  q_f_work_runSteps q_f_work_runAgain  n) ih  r12 x2 x3 y11 h
set_option maxRecDepth 100000 in
set_option maxHeartbeats 4000000 in
theorem ok_f_work_runSteps_b {G : sw_G} {ad : Nat → Nat} {ν : sw_N}   {d : Nat} (q_f_work_runSteps : sw_M → Int32 → Int32 → Int32 → Option (sw_M)) (q_f_work_runAgain : sw_M → Int32 → Int32 → Int32 → Option (sw_M)) {N : Nat} {o : sw_M} (g : sw_ok G cX9_runSteps "DeadWires$Work" none (6 + (d + 1)) 0 0 ad) (hm : G.2.2.1.2.1.maxLocals = 6) (hq_f_work_runSteps : ∀ (l : Launch) (D : va_G) (cI cL : ClassId) (ad : Nat → Nat) (ν : sw_N) (μ : sw_M) (a1 : Int32) (a2 : Int32) (a3 : Int32) (o : sw_M), q_f_work_runSteps μ a1 a2 a3 = some o → MetR l D cI cL yX9_runSteps cX9_runSteps 6 none (6 + d) 0 0 (fun a => a = ad) ad [.ref 41, .int a1, .int a2, .int a3] lay0 μ ν none lay0 o ν) (hq_f_work_runAgain : ∀ (l : Launch) (D : va_G) (cI cL : ClassId) (ad : Nat → Nat) (ν : sw_N) (μ : sw_M) (a1 : Int32) (a2 : Int32) (a3 : Int32) (o : sw_M), q_f_work_runAgain μ a1 a2 a3 = some o → MetR l D cI cL yX9_runAgain cX9_runAgain 6 none (6 + d) 0 0 (fun a => a = ad) ad [.ref 41, .int a1, .int a2, .int a3] lay0 μ ν none lay0 o ν) (μ : sw_M) (ho : sw_out G 0 0 (fun a => a = ad) (.inl none) lay0 o ν) (a1 : Int32) (a2 : Int32) (a3 : Int32) (h : f_work_runSteps_b N  q_f_work_runSteps q_f_work_runAgain μ a1 a2 a3 = some o) : SW G ad lay0 ν 0 0 0 [some (.ref 41), some (.int a1), some (.int a2), some (.int a3), none, none] [] μ := by
  unfold f_work_runSteps_b at h
  refine SW.iload_n (pc := 0) g (dt dt_X9_runSteps 0 rfl) rfl ?_
  refine SW.istore (pc := 1) g (dt dt_X9_runSteps 1 rfl) (sw_ltm hm (Nat.le_of_ble_eq_true rfl)) rfl ?_
  refine SW.msk [true, false, true, true, true, false] ?_
  exact ok_f_work_runSteps_3  q_f_work_runSteps q_f_work_runAgain g hm  hq_f_work_runSteps hq_f_work_runAgain ho   N μ a2 a3 a1 h
set_option maxRecDepth 100000 in
set_option maxHeartbeats 4000000 in
theorem mtb_f_work_runSteps (l : Launch) (D : va_G) (cI cL : ClassId) (ad : Nat → Nat) (ν : sw_N)   {d : Nat} (q_f_work_runSteps : sw_M → Int32 → Int32 → Int32 → Option (sw_M)) (q_f_work_runAgain : sw_M → Int32 → Int32 → Int32 → Option (sw_M)) (hq_f_work_runSteps : ∀ (l : Launch) (D : va_G) (cI cL : ClassId) (ad : Nat → Nat) (ν : sw_N) (μ : sw_M) (a1 : Int32) (a2 : Int32) (a3 : Int32) (o : sw_M), q_f_work_runSteps μ a1 a2 a3 = some o → MetR l D cI cL yX9_runSteps cX9_runSteps 6 none (6 + d) 0 0 (fun a => a = ad) ad [.ref 41, .int a1, .int a2, .int a3] lay0 μ ν none lay0 o ν) (hq_f_work_runAgain : ∀ (l : Launch) (D : va_G) (cI cL : ClassId) (ad : Nat → Nat) (ν : sw_N) (μ : sw_M) (a1 : Int32) (a2 : Int32) (a3 : Int32) (o : sw_M), q_f_work_runAgain μ a1 a2 a3 = some o → MetR l D cI cL yX9_runAgain cX9_runAgain 6 none (6 + d) 0 0 (fun a => a = ad) ad [.ref 41, .int a1, .int a2, .int a3] lay0 μ ν none lay0 o ν) (N : Nat) (μ : sw_M) (a1 : Int32) (a2 : Int32) (a3 : Int32) (o : sw_M) (h : f_work_runSteps_b N  q_f_work_runSteps q_f_work_runAgain μ a1 a2 a3 = some o) : MetR l D cI cL yX9_runSteps cX9_runSteps 6 none (6 + (d + 1)) 0 0 (fun a => a = ad) ad [.ref 41, .int a1, .int a2, .int a3] lay0 μ ν none lay0 o ν :=
  MetR.of (n := 2) rfl (Nat.le_of_ble_eq_true rfl) (fun G g ho hm _ _ => ok_f_work_runSteps_b  q_f_work_runSteps q_f_work_runAgain g hm  hq_f_work_runSteps hq_f_work_runAgain μ ho a1 a2 a3 h)
def grp_work_runSteps (N : Nat) : Nat → (sw_M → Int32 → Int32 → Int32 → Option (sw_M)) × (sw_M → Int32 → Int32 → Int32 → Option (sw_M))
  | 0 => (fun _ _ _ _ => none, fun _ _ _ _ => none)
  | d + 1 => (f_work_runSteps_b N ((grp_work_runSteps N d).1) ((grp_work_runSteps N d).2), f_work_runAgain_b N ((grp_work_runSteps N d).1) ((grp_work_runSteps N d).2))
def f_work_runSteps (N : Nat) (μ : sw_M) (a1 : Int32) (a2 : Int32) (a3 : Int32) : Option (sw_M) := (grp_work_runSteps N 40).1 μ a1 a2 a3
def f_work_runAgain (N : Nat) (μ : sw_M) (a1 : Int32) (a2 : Int32) (a3 : Int32) : Option (sw_M) := (grp_work_runSteps N 40).2 μ a1 a2 a3
set_option maxRecDepth 100000 in
set_option maxHeartbeats 4000000 in
theorem ok_grp_work_runSteps (N : Nat) : ∀ d : Nat, (∀ (l : Launch) (D : va_G) (cI cL : ClassId) (ad : Nat → Nat) (ν : sw_N) (μ : sw_M) (a1 : Int32) (a2 : Int32) (a3 : Int32) (o : sw_M), (grp_work_runSteps N d).1 μ a1 a2 a3 = some o → MetR l D cI cL yX9_runSteps cX9_runSteps 6 none (6 + d) 0 0 (fun a => a = ad) ad [.ref 41, .int a1, .int a2, .int a3] lay0 μ ν none lay0 o ν) ∧ (∀ (l : Launch) (D : va_G) (cI cL : ClassId) (ad : Nat → Nat) (ν : sw_N) (μ : sw_M) (a1 : Int32) (a2 : Int32) (a3 : Int32) (o : sw_M), (grp_work_runSteps N d).2 μ a1 a2 a3 = some o → MetR l D cI cL yX9_runAgain cX9_runAgain 6 none (6 + d) 0 0 (fun a => a = ad) ad [.ref 41, .int a1, .int a2, .int a3] lay0 μ ν none lay0 o ν) := by
  intro d
  induction d with
  | zero => exact ⟨(fun l D cI cL ad ν μ a1 a2 a3 o h => nomatch h), (fun l D cI cL ad ν μ a1 a2 a3 o h => nomatch h)⟩
  | succ d ih => exact ⟨fun l D cI cL ad ν μ a1 a2 a3 o h => mtb_f_work_runSteps l D cI cL ad ν ((grp_work_runSteps N d).1) ((grp_work_runSteps N d).2) (ih.1) (ih.2) N μ a1 a2 a3 o h, fun l D cI cL ad ν μ a1 a2 a3 o h => mtb_f_work_runAgain l D cI cL ad ν ((grp_work_runSteps N d).1) ((grp_work_runSteps N d).2) (ih.1) (ih.2) N μ a1 a2 a3 o h⟩
set_option maxRecDepth 100000 in
set_option maxHeartbeats 4000000 in
theorem mt_f_work_runSteps (l : Launch) (D : va_G) (cI cL : ClassId) (ad : Nat → Nat) (ν : sw_N) (N : Nat) (μ : sw_M) (a1 : Int32) (a2 : Int32) (a3 : Int32) (o : sw_M) (h : f_work_runSteps N μ a1 a2 a3 = some o) : MetR l D cI cL yX9_runSteps cX9_runSteps 6 none 46 0 0 (fun a => a = ad) ad [.ref 41, .int a1, .int a2, .int a3] lay0 μ ν none lay0 o ν := (ok_grp_work_runSteps N 40).1 l D cI cL ad ν μ a1 a2 a3 o h
set_option maxRecDepth 100000 in
set_option maxHeartbeats 4000000 in
theorem mt_f_work_runAgain (l : Launch) (D : va_G) (cI cL : ClassId) (ad : Nat → Nat) (ν : sw_N) (N : Nat) (μ : sw_M) (a1 : Int32) (a2 : Int32) (a3 : Int32) (o : sw_M) (h : f_work_runAgain N μ a1 a2 a3 = some o) : MetR l D cI cL yX9_runAgain cX9_runAgain 6 none 46 0 0 (fun a => a = ad) ad [.ref 41, .int a1, .int a2, .int a3] lay0 μ ν none lay0 o ν := (ok_grp_work_runSteps N 40).2 l D cI cL ad ν μ a1 a2 a3 o h
def f_work_run (N : Nat)  (μ : sw_M)  : Option (sw_M) :=
  wb (wr μ 41 6 0) (fun μ1 =>
    wb (wr μ1 41 7 0) (fun μ2 =>
      wb (wr μ2 41 8 0) (fun μ3 =>
        Option.bind (f_work_runSteps N  μ3 0 (μ3 41 5) 0) (fun r4 =>
          some r4))))
set_option maxRecDepth 100000 in
set_option maxHeartbeats 4000000 in
theorem ok_f_work_run {G : sw_G} {ad : Nat → Nat} {ν : sw_N}   {N : Nat} {o : sw_M} (g : sw_ok G cX9_run "DeadWires$Work" none 47 0 0 ad) (hm : G.2.2.1.2.1.maxLocals = 1)  (μ : sw_M) (ho : sw_out G 0 0 (fun a => a = ad) (.inl none) lay0 o ν)  (h : f_work_run N  μ  = some o) : SW G ad lay0 ν 0 0 0 [some (.ref 41)] [] μ := by
  unfold f_work_run at h
  refine SW.aload_n (pc := 0) g (dt dt_X9_run 0 rfl) rfl ?_
  refine SW.iconst (pc := 1) (v := 0) g (dt dt_X9_run 1 rfl) ki_0 ?_
  refine SW.putI (pc := 2) g (dt dt_X9_run 2 rfl) fl_X9_115 cell_41 rfl ?_
  refine SW.genM h (fun μ1 h => ?_)
  refine SW.aload_n (pc := 5) g (dt dt_X9_run 3 rfl) rfl ?_
  refine SW.iconst (pc := 6) (v := 0) g (dt dt_X9_run 4 rfl) ki_0 ?_
  refine SW.putI (pc := 7) g (dt dt_X9_run 5 rfl) fl_X9_118 cell_41 rfl ?_
  refine SW.genM h (fun μ2 h => ?_)
  refine SW.aload_n (pc := 10) g (dt dt_X9_run 6 rfl) rfl ?_
  refine SW.iconst (pc := 11) (v := 0) g (dt dt_X9_run 7 rfl) ki_0 ?_
  refine SW.putI (pc := 12) g (dt dt_X9_run 8 rfl) fl_X9_121 cell_41 rfl ?_
  refine SW.genM h (fun μ3 h => ?_)
  refine SW.aload_n (pc := 15) g (dt dt_X9_run 9 rfl) rfl ?_
  refine SW.iconst (pc := 16) (v := 0) g (dt dt_X9_run 10 rfl) ki_0 ?_
  refine SW.aload_n (pc := 17) g (dt dt_X9_run 11 rfl) rfl ?_
  refine SW.getI (pc := 18) g (dt dt_X9_run 12 rfl) fl_X9_32 cell_41 rfl ?_
  refine SW.iconst (pc := 21) (v := 0) g (dt dt_X9_run 13 rfl) ki_0 ?_
  obtain ⟨r4, h5, h⟩ := bindI h
  refine SW.callVv (pc := 22) g (dt dt_X9_run 14 rfl) (mt_f_work_runSteps _ _ _ _ ad ν   N μ3 0 (μ3 41 5) 0 r4 h5) me_X9_runSteps mv_X9_runSteps ml_X9_124 cell_41 rfl rfl (Nat.le_of_ble_eq_true rfl) (Nat.le_of_ble_eq_true rfl) (Nat.le_of_ble_eq_true rfl) (Nat.le_of_ble_eq_true rfl) rfl ?_
  exact SW.vreturn (pc := 25) g (leafV h ho) rfl (Nat.le_of_ble_eq_true rfl) (Nat.le_of_ble_eq_true rfl) (dt dt_X9_run 15 rfl)
set_option maxRecDepth 100000 in
set_option maxHeartbeats 4000000 in
theorem mt_f_work_run (l : Launch) (D : va_G) (cI cL : ClassId) (ad : Nat → Nat) (ν : sw_N)    (N : Nat) (μ : sw_M)  (o : sw_M) (h : f_work_run N  μ  = some o) : MetR l D cI cL yX9_run cX9_run 1 none 47 0 0 (fun a => a = ad) ad [.ref 41] lay0 μ ν none lay0 o ν :=
  MetR.of (n := 0) rfl (Nat.le_of_ble_eq_true rfl) (fun G g ho hm _ _ => ok_f_work_run  g hm  μ ho  h)
def f_ways_spread_119 (N : Nat)  (μ : sw_M) (k_6 : Int32 → Int32 → Int32 → Int32 → Int32 → Option (Int32)) (x1 : Int32) (x2 : Int32) (x3 : Int32) (x5 : Int32) (s0 : Int32) (s1 : Int32) : Option (Int32) :=
  ib (s1 ||| s0) (fun y1 =>
    k_6  x1 x2 x3 y1 (x5 + 1))
def f_ways_spread_81 (N : Nat)  (μ : sw_M) (k_6 : Int32 → Int32 → Int32 → Int32 → Int32 → Option (Int32)) (x1 : Int32) (x2 : Int32) (x3 : Int32) (x5 : Int32) (s0 : Int32) (s1 : Int32) : Option (Int32) :=
  ib (s1 ||| s0) (fun y1 =>
    inb x5 12 (
      Option.bind (f_sx_has N  μ x1 (μ 5 x5.toNatClampNeg)) (fun r3 =>
        if r3 = 0 then
          f_ways_spread_119 N  μ k_6  x1 x2 x3 x5 0 y1
        else
          inb x5 12 (
            f_ways_spread_119 N  μ k_6  x1 x2 x3 x5 ((1 : Int32) <<< ((μ 4 x5.toNatClampNeg) &&& 31)) y1))))
def f_ways_spread_46 (N : Nat)  (μ : sw_M) (k_6 : Int32 → Int32 → Int32 → Int32 → Int32 → Option (Int32)) (x1 : Int32) (x2 : Int32) (x3 : Int32) (x4 : Int32) (x5 : Int32) : Option (Int32) :=
  inb x5 12 (
    Option.bind (f_sx_has N  μ x1 (μ 4 x5.toNatClampNeg)) (fun r2 =>
      if r2 = 0 then
        f_ways_spread_81 N  μ k_6  x1 x2 x3 x5 0 x4
      else
        inb x5 12 (
          f_ways_spread_81 N  μ k_6  x1 x2 x3 x5 ((1 : Int32) <<< ((μ 5 x5.toNatClampNeg) &&& 31)) x4)))
def f_ways_spread_6 (N : Nat)  (μ : sw_M)  : Nat → Int32 → Int32 → Int32 → Int32 → Int32 → Option (Int32)
  | 0, _, _, _, _, _ => none
  | n + 1, x1, x2, x3, x4, x5 =>
    if (μ 3 1) ≤ x5 then
      some x4
    else
      Option.bind (f_days_isCut N  μ x5) (fun r1 =>
        if r1 = 0 then
          inb x5 12 (
            if ((μ 36 x5.toNatClampNeg) + x3) ≤ x2 then
              f_ways_spread_6 N  μ  n x1 x2 x3 x4 (x5 + 1)
            else
              f_ways_spread_46 N  μ (f_ways_spread_6 N  μ  n)  x1 x2 x3 x4 x5)
        else
          f_ways_spread_46 N  μ (f_ways_spread_6 N  μ  n)  x1 x2 x3 x4 x5)
def f_ways_spread (N : Nat)  (μ : sw_M) (a1 : Int32) (a2 : Int32) (a3 : Int32) : Option (Int32) :=
  f_ways_spread_6 N  μ  N a1 a2 a3 a1 0
set_option maxRecDepth 100000 in
set_option maxHeartbeats 4000000 in
theorem ok_f_ways_spread_119 {G : sw_G} {ad : Nat → Nat} {ν : sw_N}   {N : Nat} {o : Int32} (g : sw_ok G cX8_spread "DeadWires$Ways" (some .int) 2 0 0 ad) (hm : G.2.2.1.2.1.maxLocals = 6)  (μ : sw_M) (ho : sw_out G 0 0 (fun a => a = ad) (.inl (some (.int o))) lay0 μ ν) (k_6 : Int32 → Int32 → Int32 → Int32 → Int32 → Option (Int32)) (hk_6 : ∀ (x1 : Int32) (x2 : Int32) (x3 : Int32) (x4 : Int32) (x5 : Int32), k_6 x1 x2 x3 x4 x5 = some o → SW G ad lay0 ν 0 0 6 [some (.ref 49), some (.int x1), some (.int x2), some (.int x3), some (.int x4), some (.int x5)] [] μ) (x1 : Int32) (x2 : Int32) (x3 : Int32) (x5 : Int32) (s0 : Int32) (s1 : Int32) (h : f_ways_spread_119 N  μ k_6  x1 x2 x3 x5 s0 s1 = some o) : SW G ad lay0 ν 0 0 119 [some (.ref 49), some (.int x1), some (.int x2), some (.int x3), none, some (.int x5)] [.int s0, .int s1] μ := by
  unfold f_ways_spread_119 at h
  refine SW.ior (pc := 119) g (dt dt_X8_spread 61 rfl) ?_
  refine SW.istore (pc := 120) g (dt dt_X8_spread 62 rfl) (sw_ltm hm (Nat.le_of_ble_eq_true rfl)) rfl ?_
  refine SW.genL h (fun y1 h => ?_)
  refine SW.iinc (pc := 122) (v := x5 + 1) g (dt dt_X8_spread 63 rfl) rfl (kn_1 _) (sw_ltm hm (Nat.le_of_ble_eq_true rfl)) rfl ?_
  refine SW.goto (pc := 125) (t := 6) g (dt dt_X8_spread 64 rfl) rfl ?_
  refine SW.msk [true, true, true, true, true, true] ?_
  exact hk_6  x1 x2 x3 y1 (x5 + 1) h
set_option maxRecDepth 100000 in
set_option maxHeartbeats 4000000 in
theorem ok_f_ways_spread_81 {G : sw_G} {ad : Nat → Nat} {ν : sw_N}   {N : Nat} {o : Int32} (g : sw_ok G cX8_spread "DeadWires$Ways" (some .int) 2 0 0 ad) (hm : G.2.2.1.2.1.maxLocals = 6)  (μ : sw_M) (ho : sw_out G 0 0 (fun a => a = ad) (.inl (some (.int o))) lay0 μ ν) (k_6 : Int32 → Int32 → Int32 → Int32 → Int32 → Option (Int32)) (hk_6 : ∀ (x1 : Int32) (x2 : Int32) (x3 : Int32) (x4 : Int32) (x5 : Int32), k_6 x1 x2 x3 x4 x5 = some o → SW G ad lay0 ν 0 0 6 [some (.ref 49), some (.int x1), some (.int x2), some (.int x3), some (.int x4), some (.int x5)] [] μ) (x1 : Int32) (x2 : Int32) (x3 : Int32) (x5 : Int32) (s0 : Int32) (s1 : Int32) (h : f_ways_spread_81 N  μ k_6  x1 x2 x3 x5 s0 s1 = some o) : SW G ad lay0 ν 0 0 81 [some (.ref 49), some (.int x1), some (.int x2), some (.int x3), none, some (.int x5)] [.int s0, .int s1] μ := by
  unfold f_ways_spread_81 at h
  refine SW.ior (pc := 81) g (dt dt_X8_spread 41 rfl) ?_
  refine SW.istore (pc := 82) g (dt dt_X8_spread 42 rfl) (sw_ltm hm (Nat.le_of_ble_eq_true rfl)) rfl ?_
  refine SW.genL h (fun y1 h => ?_)
  refine SW.iload (pc := 84) g (dt dt_X8_spread 43 rfl) rfl ?_
  refine SW.iload_n (pc := 86) g (dt dt_X8_spread 44 rfl) rfl ?_
  refine SW.aload_n (pc := 87) g (dt dt_X8_spread 45 rfl) rfl ?_
  refine SW.getR (pc := 88) g (dt dt_X8_spread 46 rfl) fl_X8_25 cell_49 rfl ?_
  refine SW.getR (pc := 91) g (dt dt_X8_spread 47 rfl) fl_X8_46 cell_3 rfl ?_
  refine SW.iload (pc := 94) g (dt dt_X8_spread 48 rfl) rfl ?_
  obtain ⟨hb2, h⟩ := inbI h
  refine SW.iaload (pc := 96) g (dt dt_X8_spread 49 rfl) cell_5 hb2 ?_
  obtain ⟨r3, h4, h⟩ := bindI h
  refine SW.callSNi (pc := 97) g (dt dt_X8_spread 50 rfl) (mt_f_sx_has _ _ _ _ ad ν lay0   N μ x1 (μ 5 x5.toNatClampNeg) r3 h4) me_X10_has ms_X10_has mn_X8_42 rfl (Nat.le_of_ble_eq_true rfl) (Nat.le_of_ble_eq_true rfl) (Nat.le_of_ble_eq_true rfl) (Nat.le_of_ble_eq_true rfl) rfl ?_
  refine SW.if_eq (pc := 100) (t := 118) g (dt dt_X8_spread 51 rfl) rfl (fun hc => ?_) (fun hc => ?_)
  · have h := iteT hc h
    refine SW.iconst (pc := 118) (v := 0) g (dt dt_X8_spread 60 rfl) ki_0 ?_
    refine SW.msk [true, true, true, true, false, true] ?_
    exact ok_f_ways_spread_119  g hm  μ ho k_6 hk_6  x1 x2 x3 x5 0 y1 h
  · have h := iteF hc h
    refine SW.iconst (pc := 103) (v := 1) g (dt dt_X8_spread 52 rfl) ki_1 ?_
    refine SW.aload_n (pc := 104) g (dt dt_X8_spread 53 rfl) rfl ?_
    refine SW.getR (pc := 105) g (dt dt_X8_spread 54 rfl) fl_X8_25 cell_49 rfl ?_
    refine SW.getR (pc := 108) g (dt dt_X8_spread 55 rfl) fl_X8_39 cell_3 rfl ?_
    refine SW.iload (pc := 111) g (dt dt_X8_spread 56 rfl) rfl ?_
    obtain ⟨hb5, h⟩ := inbI h
    refine SW.iaload (pc := 113) g (dt dt_X8_spread 57 rfl) cell_4 hb5 ?_
    refine SW.ishl (pc := 114) g (dt dt_X8_spread 58 rfl) ?_
    refine SW.goto (pc := 115) (t := 119) g (dt dt_X8_spread 59 rfl) rfl ?_
    refine SW.msk [true, true, true, true, false, true] ?_
    exact ok_f_ways_spread_119  g hm  μ ho k_6 hk_6  x1 x2 x3 x5 ((1 : Int32) <<< ((μ 4 x5.toNatClampNeg) &&& 31)) y1 h
set_option maxRecDepth 100000 in
set_option maxHeartbeats 4000000 in
theorem ok_f_ways_spread_46 {G : sw_G} {ad : Nat → Nat} {ν : sw_N}   {N : Nat} {o : Int32} (g : sw_ok G cX8_spread "DeadWires$Ways" (some .int) 2 0 0 ad) (hm : G.2.2.1.2.1.maxLocals = 6)  (μ : sw_M) (ho : sw_out G 0 0 (fun a => a = ad) (.inl (some (.int o))) lay0 μ ν) (k_6 : Int32 → Int32 → Int32 → Int32 → Int32 → Option (Int32)) (hk_6 : ∀ (x1 : Int32) (x2 : Int32) (x3 : Int32) (x4 : Int32) (x5 : Int32), k_6 x1 x2 x3 x4 x5 = some o → SW G ad lay0 ν 0 0 6 [some (.ref 49), some (.int x1), some (.int x2), some (.int x3), some (.int x4), some (.int x5)] [] μ) (x1 : Int32) (x2 : Int32) (x3 : Int32) (x4 : Int32) (x5 : Int32) (h : f_ways_spread_46 N  μ k_6  x1 x2 x3 x4 x5 = some o) : SW G ad lay0 ν 0 0 46 [some (.ref 49), some (.int x1), some (.int x2), some (.int x3), some (.int x4), some (.int x5)] [] μ := by
  unfold f_ways_spread_46 at h
  refine SW.iload (pc := 46) g (dt dt_X8_spread 23 rfl) rfl ?_
  refine SW.iload_n (pc := 48) g (dt dt_X8_spread 24 rfl) rfl ?_
  refine SW.aload_n (pc := 49) g (dt dt_X8_spread 25 rfl) rfl ?_
  refine SW.getR (pc := 50) g (dt dt_X8_spread 26 rfl) fl_X8_25 cell_49 rfl ?_
  refine SW.getR (pc := 53) g (dt dt_X8_spread 27 rfl) fl_X8_39 cell_3 rfl ?_
  refine SW.iload (pc := 56) g (dt dt_X8_spread 28 rfl) rfl ?_
  obtain ⟨hb1, h⟩ := inbI h
  refine SW.iaload (pc := 58) g (dt dt_X8_spread 29 rfl) cell_4 hb1 ?_
  obtain ⟨r2, h3, h⟩ := bindI h
  refine SW.callSNi (pc := 59) g (dt dt_X8_spread 30 rfl) (mt_f_sx_has _ _ _ _ ad ν lay0   N μ x1 (μ 4 x5.toNatClampNeg) r2 h3) me_X10_has ms_X10_has mn_X8_42 rfl (Nat.le_of_ble_eq_true rfl) (Nat.le_of_ble_eq_true rfl) (Nat.le_of_ble_eq_true rfl) (Nat.le_of_ble_eq_true rfl) rfl ?_
  refine SW.if_eq (pc := 62) (t := 80) g (dt dt_X8_spread 31 rfl) rfl (fun hc => ?_) (fun hc => ?_)
  · have h := iteT hc h
    refine SW.iconst (pc := 80) (v := 0) g (dt dt_X8_spread 40 rfl) ki_0 ?_
    refine SW.msk [true, true, true, true, false, true] ?_
    exact ok_f_ways_spread_81  g hm  μ ho k_6 hk_6  x1 x2 x3 x5 0 x4 h
  · have h := iteF hc h
    refine SW.iconst (pc := 65) (v := 1) g (dt dt_X8_spread 32 rfl) ki_1 ?_
    refine SW.aload_n (pc := 66) g (dt dt_X8_spread 33 rfl) rfl ?_
    refine SW.getR (pc := 67) g (dt dt_X8_spread 34 rfl) fl_X8_25 cell_49 rfl ?_
    refine SW.getR (pc := 70) g (dt dt_X8_spread 35 rfl) fl_X8_46 cell_3 rfl ?_
    refine SW.iload (pc := 73) g (dt dt_X8_spread 36 rfl) rfl ?_
    obtain ⟨hb4, h⟩ := inbI h
    refine SW.iaload (pc := 75) g (dt dt_X8_spread 37 rfl) cell_5 hb4 ?_
    refine SW.ishl (pc := 76) g (dt dt_X8_spread 38 rfl) ?_
    refine SW.goto (pc := 77) (t := 81) g (dt dt_X8_spread 39 rfl) rfl ?_
    refine SW.msk [true, true, true, true, false, true] ?_
    exact ok_f_ways_spread_81  g hm  μ ho k_6 hk_6  x1 x2 x3 x5 ((1 : Int32) <<< ((μ 5 x5.toNatClampNeg) &&& 31)) x4 h
set_option maxRecDepth 100000 in
set_option maxHeartbeats 4000000 in
theorem ok_f_ways_spread_6 {G : sw_G} {ad : Nat → Nat} {ν : sw_N}   {N : Nat} {o : Int32} (g : sw_ok G cX8_spread "DeadWires$Ways" (some .int) 2 0 0 ad) (hm : G.2.2.1.2.1.maxLocals = 6)  (μ : sw_M) (ho : sw_out G 0 0 (fun a => a = ad) (.inl (some (.int o))) lay0 μ ν)  : ∀ (n : Nat) (x1 : Int32) (x2 : Int32) (x3 : Int32) (x4 : Int32) (x5 : Int32) (h : f_ways_spread_6 N  μ  n x1 x2 x3 x4 x5 = some o), SW G ad lay0 ν 0 0 6 [some (.ref 49), some (.int x1), some (.int x2), some (.int x3), some (.int x4), some (.int x5)] [] μ := by
  intro n
  induction n with
  | zero => intro x1 x2 x3 x4 x5 h; simp only [f_ways_spread_6] at h; cases h
  | succ n ih =>
    intro x1 x2 x3 x4 x5 h
    unfold f_ways_spread_6 at h
    refine SW.iload (pc := 6) g (dt dt_X8_spread 4 rfl) rfl ?_
    refine SW.aload_n (pc := 8) g (dt dt_X8_spread 5 rfl) rfl ?_
    refine SW.getR (pc := 9) g (dt dt_X8_spread 6 rfl) fl_X8_25 cell_49 rfl ?_
    refine SW.getI (pc := 12) g (dt dt_X8_spread 7 rfl) fl_X8_26 cell_3 rfl ?_
    refine SW.icmp_ge (pc := 15) (t := 128) g (dt dt_X8_spread 8 rfl) rfl (fun hc => ?_) (fun hc => ?_)
    · have h := iteT hc h
      refine SW.iload (pc := 128) g (dt dt_X8_spread 65 rfl) rfl ?_
      exact SW.ireturn (pc := 130) g (leafI h ho) rfl (Nat.le_of_ble_eq_true rfl) (Nat.le_of_ble_eq_true rfl) (dt dt_X8_spread 66 rfl)
    · have h := iteF hc h
      refine SW.aload_n (pc := 18) g (dt dt_X8_spread 9 rfl) rfl ?_
      refine SW.getR (pc := 19) g (dt dt_X8_spread 10 rfl) fl_X8_15 cell_49 rfl ?_
      refine SW.iload (pc := 22) g (dt dt_X8_spread 11 rfl) rfl ?_
      obtain ⟨r1, h2, h⟩ := bindI h
      refine SW.callVi (pc := 24) g (dt dt_X8_spread 12 rfl) (mt_f_days_isCut _ _ _ _ ad ν   N μ x5 r1 h2) me_X2_isCut mv_X2_isCut ml_X8_32 cell_35 rfl rfl (Nat.le_of_ble_eq_true rfl) (Nat.le_of_ble_eq_true rfl) (Nat.le_of_ble_eq_true rfl) (Nat.le_of_ble_eq_true rfl) rfl ?_
      refine SW.if_ne (pc := 27) (t := 46) g (dt dt_X8_spread 13 rfl) rfl (fun hc => ?_) (fun hc => ?_)
      · have h := iteF hc h
        refine SW.msk [true, true, true, true, true, true] ?_
        exact ok_f_ways_spread_46  g hm  μ ho (f_ways_spread_6 N  μ  n) ih  x1 x2 x3 x4 x5 h
      · have h := iteT hc h
        refine SW.iload_n (pc := 30) g (dt dt_X8_spread 14 rfl) rfl ?_
        refine SW.aload_n (pc := 31) g (dt dt_X8_spread 15 rfl) rfl ?_
        refine SW.getR (pc := 32) g (dt dt_X8_spread 16 rfl) fl_X8_15 cell_49 rfl ?_
        refine SW.getR (pc := 35) g (dt dt_X8_spread 17 rfl) fl_X8_36 cell_35 rfl ?_
        refine SW.iload (pc := 38) g (dt dt_X8_spread 18 rfl) rfl ?_
        obtain ⟨hb3, h⟩ := inbI h
        refine SW.iaload (pc := 40) g (dt dt_X8_spread 19 rfl) cell_36 hb3 ?_
        refine SW.iload_n (pc := 41) g (dt dt_X8_spread 20 rfl) rfl ?_
        refine SW.iadd (pc := 42) g (dt dt_X8_spread 21 rfl) ?_
        refine SW.icmp_ge (pc := 43) (t := 122) g (dt dt_X8_spread 22 rfl) rfl (fun hc => ?_) (fun hc => ?_)
        · have h := iteT hc h
          refine SW.iinc (pc := 122) (v := x5 + 1) g (dt dt_X8_spread 63 rfl) rfl (kn_1 _) (sw_ltm hm (Nat.le_of_ble_eq_true rfl)) rfl ?_
          refine SW.goto (pc := 125) (t := 6) g (dt dt_X8_spread 64 rfl) rfl ?_
          refine SW.msk [true, true, true, true, true, true] ?_
          exact ih  x1 x2 x3 x4 (x5 + 1) h
        · have h := iteF hc h
          refine SW.msk [true, true, true, true, true, true] ?_
          exact ok_f_ways_spread_46  g hm  μ ho (f_ways_spread_6 N  μ  n) ih  x1 x2 x3 x4 x5 h
set_option maxRecDepth 100000 in
set_option maxHeartbeats 4000000 in
theorem ok_f_ways_spread {G : sw_G} {ad : Nat → Nat} {ν : sw_N}   {N : Nat} {o : Int32} (g : sw_ok G cX8_spread "DeadWires$Ways" (some .int) 2 0 0 ad) (hm : G.2.2.1.2.1.maxLocals = 6)  (μ : sw_M) (ho : sw_out G 0 0 (fun a => a = ad) (.inl (some (.int o))) lay0 μ ν) (a1 : Int32) (a2 : Int32) (a3 : Int32) (h : f_ways_spread N  μ a1 a2 a3 = some o) : SW G ad lay0 ν 0 0 0 [some (.ref 49), some (.int a1), some (.int a2), some (.int a3), none, none] [] μ := by
  unfold f_ways_spread at h
  refine SW.iload_n (pc := 0) g (dt dt_X8_spread 0 rfl) rfl ?_
  refine SW.istore (pc := 1) g (dt dt_X8_spread 1 rfl) (sw_ltm hm (Nat.le_of_ble_eq_true rfl)) rfl ?_
  refine SW.iconst (pc := 3) (v := 0) g (dt dt_X8_spread 2 rfl) ki_0 ?_
  refine SW.istore (pc := 4) g (dt dt_X8_spread 3 rfl) (sw_ltm hm (Nat.le_of_ble_eq_true rfl)) rfl ?_
  refine SW.msk [true, true, true, true, true, true] ?_
  exact ok_f_ways_spread_6  g hm  μ ho   N a1 a2 a3 a1 0 h
set_option maxRecDepth 100000 in
set_option maxHeartbeats 4000000 in
theorem mt_f_ways_spread (l : Launch) (D : va_G) (cI cL : ClassId) (ad : Nat → Nat) (ν : sw_N)    (N : Nat) (μ : sw_M) (a1 : Int32) (a2 : Int32) (a3 : Int32) (o : Int32) (h : f_ways_spread N  μ a1 a2 a3 = some o) : MetR l D cI cL yX8_spread cX8_spread 6 (some .int) 2 0 0 (fun a => a = ad) ad [.ref 49, .int a1, .int a2, .int a3] lay0 μ ν (some (.int o)) lay0 μ ν :=
  MetR.of (n := 2) rfl (Nat.le_of_ble_eq_true rfl) (fun G g ho hm _ _ => ok_f_ways_spread  g hm  μ ho a1 a2 a3 h)
def f_ways_hoursTo_8 (N : Nat)  (μ : sw_M)  : Nat → Int32 → Int32 → Int32 → Int32 → Int32 → Option (Int32)
  | 0, _, _, _, _, _ => none
  | n + 1, x2, x3, x4, x5, x6 =>
    if 8 ≤ x6 then
      some (-1)
    else
      Option.bind (f_sx_has N  μ x5 x2) (fun r1 =>
        if r1 = 0 then
          Option.bind (f_ways_spread N  μ x5 (((μ 35 2) + x3) + x6) x4) (fun r3 =>
            f_ways_hoursTo_8 N  μ  n x2 x3 x4 r3 (x6 + 1))
        else
          some x6)
def f_ways_hoursTo (N : Nat)  (μ : sw_M) (a1 : Int32) (a2 : Int32) (a3 : Int32) (a4 : Int32) : Option (Int32) :=
  ib ((1 : Int32) <<< (a1 &&& 31)) (fun y1 =>
    f_ways_hoursTo_8 N  μ  N a2 a3 a4 y1 0)
set_option maxRecDepth 100000 in
set_option maxHeartbeats 4000000 in
theorem ok_f_ways_hoursTo_8 {G : sw_G} {ad : Nat → Nat} {ν : sw_N}   {N : Nat} {o : Int32} (g : sw_ok G cX8_hoursTo "DeadWires$Ways" (some .int) 3 0 0 ad) (hm : G.2.2.1.2.1.maxLocals = 7)  (μ : sw_M) (ho : sw_out G 0 0 (fun a => a = ad) (.inl (some (.int o))) lay0 μ ν)  : ∀ (n : Nat) (x2 : Int32) (x3 : Int32) (x4 : Int32) (x5 : Int32) (x6 : Int32) (h : f_ways_hoursTo_8 N  μ  n x2 x3 x4 x5 x6 = some o), SW G ad lay0 ν 0 0 8 [some (.ref 49), none, some (.int x2), some (.int x3), some (.int x4), some (.int x5), some (.int x6)] [] μ := by
  intro n
  induction n with
  | zero => intro x2 x3 x4 x5 x6 h; simp only [f_ways_hoursTo_8] at h; cases h
  | succ n ih =>
    intro x2 x3 x4 x5 x6 h
    unfold f_ways_hoursTo_8 at h
    refine SW.iload (pc := 8) g (dt dt_X8_hoursTo 6 rfl) rfl ?_
    refine SW.bipush (pc := 10) (v := 8) g (dt dt_X8_hoursTo 7 rfl) kb_8 ?_
    refine SW.icmp_ge (pc := 12) (t := 55) g (dt dt_X8_hoursTo 8 rfl) rfl (fun hc => ?_) (fun hc => ?_)
    · have h := iteT hc h
      refine SW.iconst (pc := 55) (v := (-1)) g (dt dt_X8_hoursTo 29 rfl) ki_m1 ?_
      exact SW.ireturn (pc := 56) g (leafI h ho) rfl (Nat.le_of_ble_eq_true rfl) (Nat.le_of_ble_eq_true rfl) (dt dt_X8_hoursTo 30 rfl)
    · have h := iteF hc h
      refine SW.iload (pc := 15) g (dt dt_X8_hoursTo 9 rfl) rfl ?_
      refine SW.iload_n (pc := 17) g (dt dt_X8_hoursTo 10 rfl) rfl ?_
      obtain ⟨r1, h2, h⟩ := bindI h
      refine SW.callSNi (pc := 18) g (dt dt_X8_hoursTo 11 rfl) (mt_f_sx_has _ _ _ _ ad ν lay0   N μ x5 x2 r1 h2) me_X10_has ms_X10_has mn_X8_42 rfl (Nat.le_of_ble_eq_true rfl) (Nat.le_of_ble_eq_true rfl) (Nat.le_of_ble_eq_true rfl) (Nat.le_of_ble_eq_true rfl) rfl ?_
      refine SW.if_eq (pc := 21) (t := 27) g (dt dt_X8_hoursTo 12 rfl) rfl (fun hc => ?_) (fun hc => ?_)
      · have h := iteT hc h
        refine SW.aload_n (pc := 27) g (dt dt_X8_hoursTo 15 rfl) rfl ?_
        refine SW.iload (pc := 28) g (dt dt_X8_hoursTo 16 rfl) rfl ?_
        refine SW.aload_n (pc := 30) g (dt dt_X8_hoursTo 17 rfl) rfl ?_
        refine SW.getR (pc := 31) g (dt dt_X8_hoursTo 18 rfl) fl_X8_15 cell_49 rfl ?_
        refine SW.getI (pc := 34) g (dt dt_X8_hoursTo 19 rfl) fl_X8_49 cell_35 rfl ?_
        refine SW.iload_n (pc := 37) g (dt dt_X8_hoursTo 20 rfl) rfl ?_
        refine SW.iadd (pc := 38) g (dt dt_X8_hoursTo 21 rfl) ?_
        refine SW.iload (pc := 39) g (dt dt_X8_hoursTo 22 rfl) rfl ?_
        refine SW.iadd (pc := 41) g (dt dt_X8_hoursTo 23 rfl) ?_
        refine SW.iload (pc := 42) g (dt dt_X8_hoursTo 24 rfl) rfl ?_
        obtain ⟨r3, h4, h⟩ := bindI h
        refine SW.callVi (pc := 44) g (dt dt_X8_hoursTo 25 rfl) (mt_f_ways_spread _ _ _ _ ad ν   N μ x5 (((μ 35 2) + x3) + x6) x4 r3 h4) me_X8_spread mv_X8_spread ml_X8_52 cell_49 rfl rfl (Nat.le_of_ble_eq_true rfl) (Nat.le_of_ble_eq_true rfl) (Nat.le_of_ble_eq_true rfl) (Nat.le_of_ble_eq_true rfl) rfl ?_
        refine SW.istore (pc := 47) g (dt dt_X8_hoursTo 26 rfl) (sw_ltm hm (Nat.le_of_ble_eq_true rfl)) rfl ?_
        refine SW.iinc (pc := 49) (v := x6 + 1) g (dt dt_X8_hoursTo 27 rfl) rfl (kn_1 _) (sw_ltm hm (Nat.le_of_ble_eq_true rfl)) rfl ?_
        refine SW.goto (pc := 52) (t := 8) g (dt dt_X8_hoursTo 28 rfl) rfl ?_
        refine SW.msk [true, false, true, true, true, true, true] ?_
        exact ih  x2 x3 x4 r3 (x6 + 1) h
      · have h := iteF hc h
        refine SW.iload (pc := 24) g (dt dt_X8_hoursTo 13 rfl) rfl ?_
        exact SW.ireturn (pc := 26) g (leafI h ho) rfl (Nat.le_of_ble_eq_true rfl) (Nat.le_of_ble_eq_true rfl) (dt dt_X8_hoursTo 14 rfl)
set_option maxRecDepth 100000 in
set_option maxHeartbeats 4000000 in
theorem ok_f_ways_hoursTo {G : sw_G} {ad : Nat → Nat} {ν : sw_N}   {N : Nat} {o : Int32} (g : sw_ok G cX8_hoursTo "DeadWires$Ways" (some .int) 3 0 0 ad) (hm : G.2.2.1.2.1.maxLocals = 7)  (μ : sw_M) (ho : sw_out G 0 0 (fun a => a = ad) (.inl (some (.int o))) lay0 μ ν) (a1 : Int32) (a2 : Int32) (a3 : Int32) (a4 : Int32) (h : f_ways_hoursTo N  μ a1 a2 a3 a4 = some o) : SW G ad lay0 ν 0 0 0 [some (.ref 49), some (.int a1), some (.int a2), some (.int a3), some (.int a4), none, none] [] μ := by
  unfold f_ways_hoursTo at h
  refine SW.iconst (pc := 0) (v := 1) g (dt dt_X8_hoursTo 0 rfl) ki_1 ?_
  refine SW.iload_n (pc := 1) g (dt dt_X8_hoursTo 1 rfl) rfl ?_
  refine SW.ishl (pc := 2) g (dt dt_X8_hoursTo 2 rfl) ?_
  refine SW.istore (pc := 3) g (dt dt_X8_hoursTo 3 rfl) (sw_ltm hm (Nat.le_of_ble_eq_true rfl)) rfl ?_
  refine SW.genL h (fun y1 h => ?_)
  refine SW.iconst (pc := 5) (v := 0) g (dt dt_X8_hoursTo 4 rfl) ki_0 ?_
  refine SW.istore (pc := 6) g (dt dt_X8_hoursTo 5 rfl) (sw_ltm hm (Nat.le_of_ble_eq_true rfl)) rfl ?_
  refine SW.msk [true, false, true, true, true, true, true] ?_
  exact ok_f_ways_hoursTo_8  g hm  μ ho   N a2 a3 a4 y1 0 h
set_option maxRecDepth 100000 in
set_option maxHeartbeats 4000000 in
theorem mt_f_ways_hoursTo (l : Launch) (D : va_G) (cI cL : ClassId) (ad : Nat → Nat) (ν : sw_N)    (N : Nat) (μ : sw_M) (a1 : Int32) (a2 : Int32) (a3 : Int32) (a4 : Int32) (o : Int32) (h : f_ways_hoursTo N  μ a1 a2 a3 a4 = some o) : MetR l D cI cL yX8_hoursTo cX8_hoursTo 7 (some .int) 3 0 0 (fun a => a = ad) ad [.ref 49, .int a1, .int a2, .int a3, .int a4] lay0 μ ν (some (.int o)) lay0 μ ν :=
  MetR.of (n := 2) rfl (Nat.le_of_ble_eq_true rfl) (fun G g ho hm _ _ => ok_f_ways_hoursTo  g hm  μ ho a1 a2 a3 a4 h)
def f_ways_longestWait_56 (N : Nat)  (μ : sw_M) (k_21 : Int32 → Int32 → Int32 → Int32 → Option (Int32)) (x1 : Int32) (x2 : Int32) (x3 : Int32) (x4 : Int32) : Option (Int32) :=
  ib (x4 >>> ((1 : Int32) &&& 31)) (fun y1 =>
    k_21  x1 x2 x3 y1)
def f_ways_longestWait_21 (N : Nat)  (μ : sw_M)  : Nat → Int32 → Int32 → Int32 → Int32 → Option (Int32)
  | 0, _, _, _, _ => none
  | n + 1, x1, x2, x3, x4 =>
    if x4 ≤ 0 then
      some x3
    else
      if 200 < (x3 + x4) then
        f_ways_longestWait_56 N  μ (f_ways_longestWait_21 N  μ  n)  x1 x2 x3 x4
      else
        Option.bind (f_ways_hoursTo N  μ x1 x2 (x3 + x4) 0) (fun r1 =>
          if r1 = (-1) then
            f_ways_longestWait_56 N  μ (f_ways_longestWait_21 N  μ  n)  x1 x2 x3 x4
          else
            ib (x3 + x4) (fun y3 =>
              f_ways_longestWait_56 N  μ (f_ways_longestWait_21 N  μ  n)  x1 x2 y3 x4))
def f_ways_longestWait (N : Nat)  (μ : sw_M) (a1 : Int32) (a2 : Int32) : Option (Int32) :=
  Option.bind (f_ways_hoursTo N  μ a1 a2 0 0) (fun r1 =>
    if r1 = (-1) then
      some (-1)
    else
      f_ways_longestWait_21 N  μ  N a1 a2 0 128)
set_option maxRecDepth 100000 in
set_option maxHeartbeats 4000000 in
theorem ok_f_ways_longestWait_56 {G : sw_G} {ad : Nat → Nat} {ν : sw_N}   {N : Nat} {o : Int32} (g : sw_ok G cX8_longestWait "DeadWires$Ways" (some .int) 4 0 0 ad) (hm : G.2.2.1.2.1.maxLocals = 5)  (μ : sw_M) (ho : sw_out G 0 0 (fun a => a = ad) (.inl (some (.int o))) lay0 μ ν) (k_21 : Int32 → Int32 → Int32 → Int32 → Option (Int32)) (hk_21 : ∀ (x1 : Int32) (x2 : Int32) (x3 : Int32) (x4 : Int32), k_21 x1 x2 x3 x4 = some o → SW G ad lay0 ν 0 0 21 [some (.ref 49), some (.int x1), some (.int x2), some (.int x3), some (.int x4)] [] μ) (x1 : Int32) (x2 : Int32) (x3 : Int32) (x4 : Int32) (h : f_ways_longestWait_56 N  μ k_21  x1 x2 x3 x4 = some o) : SW G ad lay0 ν 0 0 56 [some (.ref 49), some (.int x1), some (.int x2), some (.int x3), some (.int x4)] [] μ := by
  unfold f_ways_longestWait_56 at h
  refine SW.iload (pc := 56) g (dt dt_X8_longestWait 35 rfl) rfl ?_
  refine SW.iconst (pc := 58) (v := 1) g (dt dt_X8_longestWait 36 rfl) ki_1 ?_
  refine SW.ishr (pc := 59) g (dt dt_X8_longestWait 37 rfl) ?_
  refine SW.istore (pc := 60) g (dt dt_X8_longestWait 38 rfl) (sw_ltm hm (Nat.le_of_ble_eq_true rfl)) rfl ?_
  refine SW.genL h (fun y1 h => ?_)
  refine SW.goto (pc := 62) (t := 21) g (dt dt_X8_longestWait 39 rfl) rfl ?_
  refine SW.msk [true, true, true, true, true] ?_
  exact hk_21  x1 x2 x3 y1 h
set_option maxRecDepth 100000 in
set_option maxHeartbeats 4000000 in
theorem ok_f_ways_longestWait_21 {G : sw_G} {ad : Nat → Nat} {ν : sw_N}   {N : Nat} {o : Int32} (g : sw_ok G cX8_longestWait "DeadWires$Ways" (some .int) 4 0 0 ad) (hm : G.2.2.1.2.1.maxLocals = 5)  (μ : sw_M) (ho : sw_out G 0 0 (fun a => a = ad) (.inl (some (.int o))) lay0 μ ν)  : ∀ (n : Nat) (x1 : Int32) (x2 : Int32) (x3 : Int32) (x4 : Int32) (h : f_ways_longestWait_21 N  μ  n x1 x2 x3 x4 = some o), SW G ad lay0 ν 0 0 21 [some (.ref 49), some (.int x1), some (.int x2), some (.int x3), some (.int x4)] [] μ := by
  intro n
  induction n with
  | zero => intro x1 x2 x3 x4 h; simp only [f_ways_longestWait_21] at h; cases h
  | succ n ih =>
    intro x1 x2 x3 x4 h
    unfold f_ways_longestWait_21 at h
    refine SW.iload (pc := 21) g (dt dt_X8_longestWait 14 rfl) rfl ?_
    refine SW.if_le (pc := 23) (t := 65) g (dt dt_X8_longestWait 15 rfl) rfl (fun hc => ?_) (fun hc => ?_)
    · have h := iteT hc h
      refine SW.iload_n (pc := 65) g (dt dt_X8_longestWait 40 rfl) rfl ?_
      exact SW.ireturn (pc := 66) g (leafI h ho) rfl (Nat.le_of_ble_eq_true rfl) (Nat.le_of_ble_eq_true rfl) (dt dt_X8_longestWait 41 rfl)
    · have h := iteF hc h
      refine SW.iload_n (pc := 26) g (dt dt_X8_longestWait 16 rfl) rfl ?_
      refine SW.iload (pc := 27) g (dt dt_X8_longestWait 17 rfl) rfl ?_
      refine SW.iadd (pc := 29) g (dt dt_X8_longestWait 18 rfl) ?_
      refine SW.sipush (pc := 30) (v := 200) g (dt dt_X8_longestWait 19 rfl) ks_200 ?_
      refine SW.icmp_gt (pc := 33) (t := 56) g (dt dt_X8_longestWait 20 rfl) rfl (fun hc => ?_) (fun hc => ?_)
      · have h := iteT hc h
        refine SW.msk [true, true, true, true, true] ?_
        exact ok_f_ways_longestWait_56  g hm  μ ho (f_ways_longestWait_21 N  μ  n) ih  x1 x2 x3 x4 h
      · have h := iteF hc h
        refine SW.aload_n (pc := 36) g (dt dt_X8_longestWait 21 rfl) rfl ?_
        refine SW.iload_n (pc := 37) g (dt dt_X8_longestWait 22 rfl) rfl ?_
        refine SW.iload_n (pc := 38) g (dt dt_X8_longestWait 23 rfl) rfl ?_
        refine SW.iload_n (pc := 39) g (dt dt_X8_longestWait 24 rfl) rfl ?_
        refine SW.iload (pc := 40) g (dt dt_X8_longestWait 25 rfl) rfl ?_
        refine SW.iadd (pc := 42) g (dt dt_X8_longestWait 26 rfl) ?_
        refine SW.iconst (pc := 43) (v := 0) g (dt dt_X8_longestWait 27 rfl) ki_0 ?_
        obtain ⟨r1, h2, h⟩ := bindI h
        refine SW.callVi (pc := 44) g (dt dt_X8_longestWait 28 rfl) (mt_f_ways_hoursTo _ _ _ _ ad ν   N μ x1 x2 (x3 + x4) 0 r1 h2) me_X8_hoursTo mv_X8_hoursTo ml_X8_56 cell_49 rfl rfl (Nat.le_of_ble_eq_true rfl) (Nat.le_of_ble_eq_true rfl) (Nat.le_of_ble_eq_true rfl) (Nat.le_of_ble_eq_true rfl) rfl ?_
        refine SW.iconst (pc := 47) (v := (-1)) g (dt dt_X8_longestWait 29 rfl) ki_m1 ?_
        refine SW.icmp_eq (pc := 48) (t := 56) g (dt dt_X8_longestWait 30 rfl) rfl (fun hc => ?_) (fun hc => ?_)
        · have h := iteT hc h
          refine SW.msk [true, true, true, true, true] ?_
          exact ok_f_ways_longestWait_56  g hm  μ ho (f_ways_longestWait_21 N  μ  n) ih  x1 x2 x3 x4 h
        · have h := iteF hc h
          refine SW.iload_n (pc := 51) g (dt dt_X8_longestWait 31 rfl) rfl ?_
          refine SW.iload (pc := 52) g (dt dt_X8_longestWait 32 rfl) rfl ?_
          refine SW.iadd (pc := 54) g (dt dt_X8_longestWait 33 rfl) ?_
          refine SW.istore_n (pc := 55) g (dt dt_X8_longestWait 34 rfl) (sw_ltm hm (Nat.le_of_ble_eq_true rfl)) rfl ?_
          refine SW.genL h (fun y3 h => ?_)
          refine SW.msk [true, true, true, true, true] ?_
          exact ok_f_ways_longestWait_56  g hm  μ ho (f_ways_longestWait_21 N  μ  n) ih  x1 x2 y3 x4 h
set_option maxRecDepth 100000 in
set_option maxHeartbeats 4000000 in
theorem ok_f_ways_longestWait {G : sw_G} {ad : Nat → Nat} {ν : sw_N}   {N : Nat} {o : Int32} (g : sw_ok G cX8_longestWait "DeadWires$Ways" (some .int) 4 0 0 ad) (hm : G.2.2.1.2.1.maxLocals = 5)  (μ : sw_M) (ho : sw_out G 0 0 (fun a => a = ad) (.inl (some (.int o))) lay0 μ ν) (a1 : Int32) (a2 : Int32) (h : f_ways_longestWait N  μ a1 a2 = some o) : SW G ad lay0 ν 0 0 0 [some (.ref 49), some (.int a1), some (.int a2), none, none] [] μ := by
  unfold f_ways_longestWait at h
  refine SW.aload_n (pc := 0) g (dt dt_X8_longestWait 0 rfl) rfl ?_
  refine SW.iload_n (pc := 1) g (dt dt_X8_longestWait 1 rfl) rfl ?_
  refine SW.iload_n (pc := 2) g (dt dt_X8_longestWait 2 rfl) rfl ?_
  refine SW.iconst (pc := 3) (v := 0) g (dt dt_X8_longestWait 3 rfl) ki_0 ?_
  refine SW.iconst (pc := 4) (v := 0) g (dt dt_X8_longestWait 4 rfl) ki_0 ?_
  obtain ⟨r1, h2, h⟩ := bindI h
  refine SW.callVi (pc := 5) g (dt dt_X8_longestWait 5 rfl) (mt_f_ways_hoursTo _ _ _ _ ad ν   N μ a1 a2 0 0 r1 h2) me_X8_hoursTo mv_X8_hoursTo ml_X8_56 cell_49 rfl rfl (Nat.le_of_ble_eq_true rfl) (Nat.le_of_ble_eq_true rfl) (Nat.le_of_ble_eq_true rfl) (Nat.le_of_ble_eq_true rfl) rfl ?_
  refine SW.iconst (pc := 8) (v := (-1)) g (dt dt_X8_longestWait 6 rfl) ki_m1 ?_
  refine SW.icmp_ne (pc := 9) (t := 14) g (dt dt_X8_longestWait 7 rfl) rfl (fun hc => ?_) (fun hc => ?_)
  · have h := iteF hc h
    refine SW.iconst (pc := 14) (v := 0) g (dt dt_X8_longestWait 10 rfl) ki_0 ?_
    refine SW.istore_n (pc := 15) g (dt dt_X8_longestWait 11 rfl) (sw_ltm hm (Nat.le_of_ble_eq_true rfl)) rfl ?_
    refine SW.sipush (pc := 16) (v := 128) g (dt dt_X8_longestWait 12 rfl) ks_128 ?_
    refine SW.istore (pc := 19) g (dt dt_X8_longestWait 13 rfl) (sw_ltm hm (Nat.le_of_ble_eq_true rfl)) rfl ?_
    refine SW.msk [true, true, true, true, true] ?_
    exact ok_f_ways_longestWait_21  g hm  μ ho   N a1 a2 0 128 h
  · have h := iteT hc h
    refine SW.iconst (pc := 12) (v := (-1)) g (dt dt_X8_longestWait 8 rfl) ki_m1 ?_
    exact SW.ireturn (pc := 13) g (leafI h ho) rfl (Nat.le_of_ble_eq_true rfl) (Nat.le_of_ble_eq_true rfl) (dt dt_X8_longestWait 9 rfl)
set_option maxRecDepth 100000 in
set_option maxHeartbeats 4000000 in
theorem mt_f_ways_longestWait (l : Launch) (D : va_G) (cI cL : ClassId) (ad : Nat → Nat) (ν : sw_N)    (N : Nat) (μ : sw_M) (a1 : Int32) (a2 : Int32) (o : Int32) (h : f_ways_longestWait N  μ a1 a2 = some o) : MetR l D cI cL yX8_longestWait cX8_longestWait 5 (some .int) 4 0 0 (fun a => a = ad) ad [.ref 49, .int a1, .int a2] lay0 μ ν (some (.int o)) lay0 μ ν :=
  MetR.of (n := 2) rfl (Nat.le_of_ble_eq_true rfl) (fun G g ho hm _ _ => ok_f_ways_longestWait  g hm  μ ho a1 a2 h)
def f_ways_leastGrant_56 (N : Nat)  (μ : sw_M) (k_21 : Int32 → Int32 → Int32 → Int32 → Option (Int32)) (x1 : Int32) (x2 : Int32) (x3 : Int32) (x4 : Int32) : Option (Int32) :=
  ib (x4 >>> ((1 : Int32) &&& 31)) (fun y1 =>
    k_21  x1 x2 x3 y1)
def f_ways_leastGrant_21 (N : Nat)  (μ : sw_M)  : Nat → Int32 → Int32 → Int32 → Int32 → Option (Int32)
  | 0, _, _, _, _ => none
  | n + 1, x1, x2, x3, x4 =>
    if x4 ≤ 0 then
      if 200 ≤ x3 then
        some (-1)
      else
        some (x3 + 1)
    else
      if 200 < (x3 + x4) then
        f_ways_leastGrant_56 N  μ (f_ways_leastGrant_21 N  μ  n)  x1 x2 x3 x4
      else
        Option.bind (f_ways_hoursTo N  μ x1 x2 0 (x3 + x4)) (fun r1 =>
          if r1 = (-1) then
            ib (x3 + x4) (fun y3 =>
              f_ways_leastGrant_56 N  μ (f_ways_leastGrant_21 N  μ  n)  x1 x2 y3 x4)
          else
            f_ways_leastGrant_56 N  μ (f_ways_leastGrant_21 N  μ  n)  x1 x2 x3 x4)
def f_ways_leastGrant (N : Nat)  (μ : sw_M) (a1 : Int32) (a2 : Int32) : Option (Int32) :=
  Option.bind (f_ways_hoursTo N  μ a1 a2 0 0) (fun r1 =>
    if r1 = (-1) then
      f_ways_leastGrant_21 N  μ  N a1 a2 0 128
    else
      some 0)
set_option maxRecDepth 100000 in
set_option maxHeartbeats 4000000 in
theorem ok_f_ways_leastGrant_56 {G : sw_G} {ad : Nat → Nat} {ν : sw_N}   {N : Nat} {o : Int32} (g : sw_ok G cX8_leastGrant "DeadWires$Ways" (some .int) 4 0 0 ad) (hm : G.2.2.1.2.1.maxLocals = 5)  (μ : sw_M) (ho : sw_out G 0 0 (fun a => a = ad) (.inl (some (.int o))) lay0 μ ν) (k_21 : Int32 → Int32 → Int32 → Int32 → Option (Int32)) (hk_21 : ∀ (x1 : Int32) (x2 : Int32) (x3 : Int32) (x4 : Int32), k_21 x1 x2 x3 x4 = some o → SW G ad lay0 ν 0 0 21 [some (.ref 49), some (.int x1), some (.int x2), some (.int x3), some (.int x4)] [] μ) (x1 : Int32) (x2 : Int32) (x3 : Int32) (x4 : Int32) (h : f_ways_leastGrant_56 N  μ k_21  x1 x2 x3 x4 = some o) : SW G ad lay0 ν 0 0 56 [some (.ref 49), some (.int x1), some (.int x2), some (.int x3), some (.int x4)] [] μ := by
  unfold f_ways_leastGrant_56 at h
  refine SW.iload (pc := 56) g (dt dt_X8_leastGrant 35 rfl) rfl ?_
  refine SW.iconst (pc := 58) (v := 1) g (dt dt_X8_leastGrant 36 rfl) ki_1 ?_
  refine SW.ishr (pc := 59) g (dt dt_X8_leastGrant 37 rfl) ?_
  refine SW.istore (pc := 60) g (dt dt_X8_leastGrant 38 rfl) (sw_ltm hm (Nat.le_of_ble_eq_true rfl)) rfl ?_
  refine SW.genL h (fun y1 h => ?_)
  refine SW.goto (pc := 62) (t := 21) g (dt dt_X8_leastGrant 39 rfl) rfl ?_
  refine SW.msk [true, true, true, true, true] ?_
  exact hk_21  x1 x2 x3 y1 h
set_option maxRecDepth 100000 in
set_option maxHeartbeats 4000000 in
theorem ok_f_ways_leastGrant_21 {G : sw_G} {ad : Nat → Nat} {ν : sw_N}   {N : Nat} {o : Int32} (g : sw_ok G cX8_leastGrant "DeadWires$Ways" (some .int) 4 0 0 ad) (hm : G.2.2.1.2.1.maxLocals = 5)  (μ : sw_M) (ho : sw_out G 0 0 (fun a => a = ad) (.inl (some (.int o))) lay0 μ ν)  : ∀ (n : Nat) (x1 : Int32) (x2 : Int32) (x3 : Int32) (x4 : Int32) (h : f_ways_leastGrant_21 N  μ  n x1 x2 x3 x4 = some o), SW G ad lay0 ν 0 0 21 [some (.ref 49), some (.int x1), some (.int x2), some (.int x3), some (.int x4)] [] μ := by
  intro n
  induction n with
  | zero => intro x1 x2 x3 x4 h; simp only [f_ways_leastGrant_21] at h; cases h
  | succ n ih =>
    intro x1 x2 x3 x4 h
    unfold f_ways_leastGrant_21 at h
    refine SW.iload (pc := 21) g (dt dt_X8_leastGrant 14 rfl) rfl ?_
    refine SW.if_le (pc := 23) (t := 65) g (dt dt_X8_leastGrant 15 rfl) rfl (fun hc => ?_) (fun hc => ?_)
    · have h := iteT hc h
      refine SW.iload_n (pc := 65) g (dt dt_X8_leastGrant 40 rfl) rfl ?_
      refine SW.sipush (pc := 66) (v := 200) g (dt dt_X8_leastGrant 41 rfl) ks_200 ?_
      refine SW.icmp_ge (pc := 69) (t := 78) g (dt dt_X8_leastGrant 42 rfl) rfl (fun hc => ?_) (fun hc => ?_)
      · have h := iteT hc h
        refine SW.iconst (pc := 78) (v := (-1)) g (dt dt_X8_leastGrant 47 rfl) ki_m1 ?_
        exact SW.ireturn (pc := 79) g (leafI h ho) rfl (Nat.le_of_ble_eq_true rfl) (Nat.le_of_ble_eq_true rfl) (dt dt_X8_leastGrant 48 rfl)
      · have h := iteF hc h
        refine SW.iload_n (pc := 72) g (dt dt_X8_leastGrant 43 rfl) rfl ?_
        refine SW.iconst (pc := 73) (v := 1) g (dt dt_X8_leastGrant 44 rfl) ki_1 ?_
        refine SW.iadd (pc := 74) g (dt dt_X8_leastGrant 45 rfl) ?_
        refine SW.goto (pc := 75) (t := 79) g (dt dt_X8_leastGrant 46 rfl) rfl ?_
        exact SW.ireturn (pc := 79) g (leafI h ho) rfl (Nat.le_of_ble_eq_true rfl) (Nat.le_of_ble_eq_true rfl) (dt dt_X8_leastGrant 48 rfl)
    · have h := iteF hc h
      refine SW.iload_n (pc := 26) g (dt dt_X8_leastGrant 16 rfl) rfl ?_
      refine SW.iload (pc := 27) g (dt dt_X8_leastGrant 17 rfl) rfl ?_
      refine SW.iadd (pc := 29) g (dt dt_X8_leastGrant 18 rfl) ?_
      refine SW.sipush (pc := 30) (v := 200) g (dt dt_X8_leastGrant 19 rfl) ks_200 ?_
      refine SW.icmp_gt (pc := 33) (t := 56) g (dt dt_X8_leastGrant 20 rfl) rfl (fun hc => ?_) (fun hc => ?_)
      · have h := iteT hc h
        refine SW.msk [true, true, true, true, true] ?_
        exact ok_f_ways_leastGrant_56  g hm  μ ho (f_ways_leastGrant_21 N  μ  n) ih  x1 x2 x3 x4 h
      · have h := iteF hc h
        refine SW.aload_n (pc := 36) g (dt dt_X8_leastGrant 21 rfl) rfl ?_
        refine SW.iload_n (pc := 37) g (dt dt_X8_leastGrant 22 rfl) rfl ?_
        refine SW.iload_n (pc := 38) g (dt dt_X8_leastGrant 23 rfl) rfl ?_
        refine SW.iconst (pc := 39) (v := 0) g (dt dt_X8_leastGrant 24 rfl) ki_0 ?_
        refine SW.iload_n (pc := 40) g (dt dt_X8_leastGrant 25 rfl) rfl ?_
        refine SW.iload (pc := 41) g (dt dt_X8_leastGrant 26 rfl) rfl ?_
        refine SW.iadd (pc := 43) g (dt dt_X8_leastGrant 27 rfl) ?_
        obtain ⟨r1, h2, h⟩ := bindI h
        refine SW.callVi (pc := 44) g (dt dt_X8_leastGrant 28 rfl) (mt_f_ways_hoursTo _ _ _ _ ad ν   N μ x1 x2 0 (x3 + x4) r1 h2) me_X8_hoursTo mv_X8_hoursTo ml_X8_56 cell_49 rfl rfl (Nat.le_of_ble_eq_true rfl) (Nat.le_of_ble_eq_true rfl) (Nat.le_of_ble_eq_true rfl) (Nat.le_of_ble_eq_true rfl) rfl ?_
        refine SW.iconst (pc := 47) (v := (-1)) g (dt dt_X8_leastGrant 29 rfl) ki_m1 ?_
        refine SW.icmp_ne (pc := 48) (t := 56) g (dt dt_X8_leastGrant 30 rfl) rfl (fun hc => ?_) (fun hc => ?_)
        · have h := iteF hc h
          refine SW.msk [true, true, true, true, true] ?_
          exact ok_f_ways_leastGrant_56  g hm  μ ho (f_ways_leastGrant_21 N  μ  n) ih  x1 x2 x3 x4 h
        · have h := iteT hc h
          refine SW.iload_n (pc := 51) g (dt dt_X8_leastGrant 31 rfl) rfl ?_
          refine SW.iload (pc := 52) g (dt dt_X8_leastGrant 32 rfl) rfl ?_
          refine SW.iadd (pc := 54) g (dt dt_X8_leastGrant 33 rfl) ?_
          refine SW.istore_n (pc := 55) g (dt dt_X8_leastGrant 34 rfl) (sw_ltm hm (Nat.le_of_ble_eq_true rfl)) rfl ?_
          refine SW.genL h (fun y3 h => ?_)
          refine SW.msk [true, true, true, true, true] ?_
          exact ok_f_ways_leastGrant_56  g hm  μ ho (f_ways_leastGrant_21 N  μ  n) ih  x1 x2 y3 x4 h
set_option maxRecDepth 100000 in
set_option maxHeartbeats 4000000 in
theorem ok_f_ways_leastGrant {G : sw_G} {ad : Nat → Nat} {ν : sw_N}   {N : Nat} {o : Int32} (g : sw_ok G cX8_leastGrant "DeadWires$Ways" (some .int) 4 0 0 ad) (hm : G.2.2.1.2.1.maxLocals = 5)  (μ : sw_M) (ho : sw_out G 0 0 (fun a => a = ad) (.inl (some (.int o))) lay0 μ ν) (a1 : Int32) (a2 : Int32) (h : f_ways_leastGrant N  μ a1 a2 = some o) : SW G ad lay0 ν 0 0 0 [some (.ref 49), some (.int a1), some (.int a2), none, none] [] μ := by
  unfold f_ways_leastGrant at h
  refine SW.aload_n (pc := 0) g (dt dt_X8_leastGrant 0 rfl) rfl ?_
  refine SW.iload_n (pc := 1) g (dt dt_X8_leastGrant 1 rfl) rfl ?_
  refine SW.iload_n (pc := 2) g (dt dt_X8_leastGrant 2 rfl) rfl ?_
  refine SW.iconst (pc := 3) (v := 0) g (dt dt_X8_leastGrant 3 rfl) ki_0 ?_
  refine SW.iconst (pc := 4) (v := 0) g (dt dt_X8_leastGrant 4 rfl) ki_0 ?_
  obtain ⟨r1, h2, h⟩ := bindI h
  refine SW.callVi (pc := 5) g (dt dt_X8_leastGrant 5 rfl) (mt_f_ways_hoursTo _ _ _ _ ad ν   N μ a1 a2 0 0 r1 h2) me_X8_hoursTo mv_X8_hoursTo ml_X8_56 cell_49 rfl rfl (Nat.le_of_ble_eq_true rfl) (Nat.le_of_ble_eq_true rfl) (Nat.le_of_ble_eq_true rfl) (Nat.le_of_ble_eq_true rfl) rfl ?_
  refine SW.iconst (pc := 8) (v := (-1)) g (dt dt_X8_leastGrant 6 rfl) ki_m1 ?_
  refine SW.icmp_eq (pc := 9) (t := 14) g (dt dt_X8_leastGrant 7 rfl) rfl (fun hc => ?_) (fun hc => ?_)
  · have h := iteT hc h
    refine SW.iconst (pc := 14) (v := 0) g (dt dt_X8_leastGrant 10 rfl) ki_0 ?_
    refine SW.istore_n (pc := 15) g (dt dt_X8_leastGrant 11 rfl) (sw_ltm hm (Nat.le_of_ble_eq_true rfl)) rfl ?_
    refine SW.sipush (pc := 16) (v := 128) g (dt dt_X8_leastGrant 12 rfl) ks_128 ?_
    refine SW.istore (pc := 19) g (dt dt_X8_leastGrant 13 rfl) (sw_ltm hm (Nat.le_of_ble_eq_true rfl)) rfl ?_
    refine SW.msk [true, true, true, true, true] ?_
    exact ok_f_ways_leastGrant_21  g hm  μ ho   N a1 a2 0 128 h
  · have h := iteF hc h
    refine SW.iconst (pc := 12) (v := 0) g (dt dt_X8_leastGrant 8 rfl) ki_0 ?_
    exact SW.ireturn (pc := 13) g (leafI h ho) rfl (Nat.le_of_ble_eq_true rfl) (Nat.le_of_ble_eq_true rfl) (dt dt_X8_leastGrant 9 rfl)
set_option maxRecDepth 100000 in
set_option maxHeartbeats 4000000 in
theorem mt_f_ways_leastGrant (l : Launch) (D : va_G) (cI cL : ClassId) (ad : Nat → Nat) (ν : sw_N)    (N : Nat) (μ : sw_M) (a1 : Int32) (a2 : Int32) (o : Int32) (h : f_ways_leastGrant N  μ a1 a2 = some o) : MetR l D cI cL yX8_leastGrant cX8_leastGrant 5 (some .int) 4 0 0 (fun a => a = ad) ad [.ref 49, .int a1, .int a2] lay0 μ ν (some (.int o)) lay0 μ ν :=
  MetR.of (n := 2) rfl (Nat.le_of_ble_eq_true rfl) (fun G g ho hm _ _ => ok_f_ways_leastGrant  g hm  μ ho a1 a2 h)
def f_ways_cheapen (N : Nat)  (μ : sw_M) (a1 : Int32) (a2 : Int32) (a3 : Int32) : Option (sw_M) :=
  Option.bind (f_sx_at N 50 8 μ a2) (fun r1 =>
    Option.bind (f_sx_at N 50 8 μ a1) (fun r3 =>
      Option.bind (f_sx_put N 50 8 μ a2 (if (r3 + a3) < r1 then (r3 + a3) else r1)) (fun r5 =>
        some r5)))
set_option maxRecDepth 100000 in
set_option maxHeartbeats 4000000 in
theorem ok_f_ways_cheapen {G : sw_G} {ad : Nat → Nat} {ν : sw_N}   {N : Nat} {o : sw_M} (g : sw_ok G cX8_cheapen "DeadWires$Ways" none 2 0 0 ad) (hm : G.2.2.1.2.1.maxLocals = 4)  (μ : sw_M) (ho : sw_out G 0 0 (fun a => a = ad) (.inl none) lay0 o ν) (a1 : Int32) (a2 : Int32) (a3 : Int32) (h : f_ways_cheapen N  μ a1 a2 a3 = some o) : SW G ad lay0 ν 0 0 0 [some (.ref 49), some (.int a1), some (.int a2), some (.int a3)] [] μ := by
  unfold f_ways_cheapen at h
  refine SW.aload_n (pc := 0) g (dt dt_X8_cheapen 0 rfl) rfl ?_
  refine SW.getR (pc := 1) g (dt dt_X8_cheapen 1 rfl) fl_X8_9 cell_49 rfl ?_
  refine SW.iload_n (pc := 4) g (dt dt_X8_cheapen 2 rfl) rfl ?_
  refine SW.aload_n (pc := 5) g (dt dt_X8_cheapen 3 rfl) rfl ?_
  refine SW.getR (pc := 6) g (dt dt_X8_cheapen 4 rfl) fl_X8_9 cell_49 rfl ?_
  refine SW.iload_n (pc := 9) g (dt dt_X8_cheapen 5 rfl) rfl ?_
  obtain ⟨r1, h2, h⟩ := bindI h
  refine SW.callSNi (pc := 10) g (dt dt_X8_cheapen 6 rfl) (mt_f_sx_at _ _ _ _ ad ν lay0 50 8 cell_50 N μ a2 r1 h2) me_X10_at ms_X10_at mn_X8_72 rfl (Nat.le_of_ble_eq_true rfl) (Nat.le_of_ble_eq_true rfl) (Nat.le_of_ble_eq_true rfl) (Nat.le_of_ble_eq_true rfl) rfl ?_
  refine SW.aload_n (pc := 13) g (dt dt_X8_cheapen 7 rfl) rfl ?_
  refine SW.getR (pc := 14) g (dt dt_X8_cheapen 8 rfl) fl_X8_9 cell_49 rfl ?_
  refine SW.iload_n (pc := 17) g (dt dt_X8_cheapen 9 rfl) rfl ?_
  obtain ⟨r3, h4, h⟩ := bindI h
  refine SW.callSNi (pc := 18) g (dt dt_X8_cheapen 10 rfl) (mt_f_sx_at _ _ _ _ ad ν lay0 50 8 cell_50 N μ a1 r3 h4) me_X10_at ms_X10_at mn_X8_72 rfl (Nat.le_of_ble_eq_true rfl) (Nat.le_of_ble_eq_true rfl) (Nat.le_of_ble_eq_true rfl) (Nat.le_of_ble_eq_true rfl) rfl ?_
  refine SW.iload_n (pc := 21) g (dt dt_X8_cheapen 11 rfl) rfl ?_
  refine SW.iadd (pc := 22) g (dt dt_X8_cheapen 12 rfl) ?_
  refine SW.mmin (pc := 23) g (dt dt_X8_cheapen 13 rfl) ml_X8_76 ms_J9_min_7cf53 mt_init me_J9_min_7cf53.1 (Nat.le_of_ble_eq_true rfl) (Nat.le_of_ble_eq_true rfl) (Nat.le_of_ble_eq_true rfl) (Nat.le_of_ble_eq_true rfl) ?_
  obtain ⟨r5, h6, h⟩ := bindI h
  refine SW.callSNv (pc := 26) g (dt dt_X8_cheapen 14 rfl) (mt_f_sx_put _ _ _ _ ad ν lay0 50 8 cell_50 N μ a2 (if (r3 + a3) < r1 then (r3 + a3) else r1) r5 h6) me_X10_put ms_X10_put mn_X8_81 rfl (Nat.le_of_ble_eq_true rfl) (Nat.le_of_ble_eq_true rfl) (Nat.le_of_ble_eq_true rfl) (Nat.le_of_ble_eq_true rfl) rfl ?_
  exact SW.vreturn (pc := 29) g (leafV h ho) rfl (Nat.le_of_ble_eq_true rfl) (Nat.le_of_ble_eq_true rfl) (dt dt_X8_cheapen 15 rfl)
set_option maxRecDepth 100000 in
set_option maxHeartbeats 4000000 in
theorem mt_f_ways_cheapen (l : Launch) (D : va_G) (cI cL : ClassId) (ad : Nat → Nat) (ν : sw_N)    (N : Nat) (μ : sw_M) (a1 : Int32) (a2 : Int32) (a3 : Int32) (o : sw_M) (h : f_ways_cheapen N  μ a1 a2 a3 = some o) : MetR l D cI cL yX8_cheapen cX8_cheapen 4 none 2 0 0 (fun a => a = ad) ad [.ref 49, .int a1, .int a2, .int a3] lay0 μ ν none lay0 o ν :=
  MetR.of (n := 0) rfl (Nat.le_of_ble_eq_true rfl) (fun G g ho hm _ _ => ok_f_ways_cheapen  g hm  μ ho a1 a2 a3 h)
def f_ways_fewestCuts_78 (N : Nat)  (k_33 : sw_M → Int32 → Int32 → Option (Int32 × sw_M)) (k_42 : sw_M → Int32 → Int32 → Int32 → Option (Int32 × sw_M)) (μ : sw_M) (x2 : Int32) (x3 : Int32) (x4 : Int32) (s0 : Int32) : Option (Int32 × sw_M) :=
  inb x4 12 (
    inb x4 12 (
      Option.bind (f_ways_cheapen N  μ (μ 4 x4.toNatClampNeg) (μ 5 x4.toNatClampNeg) s0) (fun r3 =>
        inb x4 12 (
          inb x4 12 (
            Option.bind (f_ways_cheapen N  r3 (r3 5 x4.toNatClampNeg) (r3 4 x4.toNatClampNeg) s0) (fun r7 =>
              k_42 r7 x2 x3 (x4 + 1)))))))
def f_ways_fewestCuts_42 (N : Nat)  (k_33 : sw_M → Int32 → Int32 → Option (Int32 × sw_M)) : Nat → sw_M → Int32 → Int32 → Int32 → Option (Int32 × sw_M)
  | 0, _, _, _, _ => none
  | n + 1, μ, x2, x3, x4 =>
    if (μ 3 1) ≤ x4 then
      k_33 μ x2 (x3 + 1)
    else
      Option.bind (f_days_isCut N  μ x4) (fun r1 =>
        if r1 = 0 then
          f_ways_fewestCuts_78 N  k_33 (f_ways_fewestCuts_42 N  k_33 n)  μ x2 x3 x4 ((4096 : Int32) + ((1 : Int32) <<< (x4 &&& 31)))
        else
          f_ways_fewestCuts_78 N  k_33 (f_ways_fewestCuts_42 N  k_33 n)  μ x2 x3 x4 0)
def f_ways_fewestCuts_33 (N : Nat)   : Nat → sw_M → Int32 → Int32 → Option (Int32 × sw_M)
  | 0, _, _, _ => none
  | n + 1, μ, x2, x3 =>
    if 8 ≤ x3 then
      Option.bind (f_sx_at N 50 8 μ x2) (fun r1 =>
        if r1 < 1073741824 then
          some (r1 &&& 4095, μ)
        else
          some ((-1), μ))
    else
      f_ways_fewestCuts_42 N  (f_ways_fewestCuts_33 N   n) N μ x2 x3 0
def f_ways_fewestCuts_24 (N : Nat)  (k_2 : sw_M → Int32 → Int32 → Int32 → Option (Int32 × sw_M)) (μ : sw_M) (x1 : Int32) (x2 : Int32) (x3 : Int32) (s0 : Int32) (s1 : Int32) : Option (Int32 × sw_M) :=
  inb s1 8 (wb (wr μ 50 s1.toNatClampNeg s0) (fun μ2 =>
    k_2 μ2 x1 x2 (x3 + 1)))
def f_ways_fewestCuts_2 (N : Nat)   : Nat → sw_M → Int32 → Int32 → Int32 → Option (Int32 × sw_M)
  | 0, _, _, _, _ => none
  | n + 1, μ, x1, x2, x3 =>
    if 8 ≤ x3 then
      f_ways_fewestCuts_33 N   N μ x2 0
    else
      if x3 = x1 then
        f_ways_fewestCuts_24 N  (f_ways_fewestCuts_2 N   n)  μ x1 x2 x3 0 x3
      else
        f_ways_fewestCuts_24 N  (f_ways_fewestCuts_2 N   n)  μ x1 x2 x3 1073741824 x3
def f_ways_fewestCuts (N : Nat)  (μ : sw_M) (a1 : Int32) (a2 : Int32) : Option (Int32 × sw_M) :=
  f_ways_fewestCuts_2 N   N μ a1 a2 0
set_option maxRecDepth 100000 in
set_option maxHeartbeats 4000000 in
theorem ok_f_ways_fewestCuts_78 {G : sw_G} {ad : Nat → Nat} {ν : sw_N}   {N : Nat} {o : Int32 × sw_M} (g : sw_ok G cX8_fewestCuts "DeadWires$Ways" (some .int) 3 0 0 ad) (hm : G.2.2.1.2.1.maxLocals = 6)  (ho : sw_out G 0 0 (fun a => a = ad) (.inl (some (.int o.1))) lay0 o.2 ν) (k_33 : sw_M → Int32 → Int32 → Option (Int32 × sw_M)) (k_42 : sw_M → Int32 → Int32 → Int32 → Option (Int32 × sw_M)) (hk_33 : ∀ (μ : sw_M) (x2 : Int32) (x3 : Int32), k_33 μ x2 x3 = some o → SW G ad lay0 ν 0 0 33 [some (.ref 49), none, some (.int x2), some (.int x3), none, none] [] μ) (hk_42 : ∀ (μ : sw_M) (x2 : Int32) (x3 : Int32) (x4 : Int32), k_42 μ x2 x3 x4 = some o → SW G ad lay0 ν 0 0 42 [some (.ref 49), none, some (.int x2), some (.int x3), some (.int x4), none] [] μ) (μ : sw_M) (x2 : Int32) (x3 : Int32) (x4 : Int32) (s0 : Int32) (h : f_ways_fewestCuts_78 N  k_33 k_42  μ x2 x3 x4 s0 = some o) : SW G ad lay0 ν 0 0 78 [some (.ref 49), none, some (.int x2), some (.int x3), some (.int x4), none] [.int s0] μ := by
  unfold f_ways_fewestCuts_78 at h
  refine SW.istore (pc := 78) g (dt dt_X8_fewestCuts 41 rfl) (sw_ltm hm (Nat.le_of_ble_eq_true rfl)) rfl ?_
  refine SW.aload_n (pc := 80) g (dt dt_X8_fewestCuts 42 rfl) rfl ?_
  refine SW.aload_n (pc := 81) g (dt dt_X8_fewestCuts 43 rfl) rfl ?_
  refine SW.getR (pc := 82) g (dt dt_X8_fewestCuts 44 rfl) fl_X8_25 cell_49 rfl ?_
  refine SW.getR (pc := 85) g (dt dt_X8_fewestCuts 45 rfl) fl_X8_39 cell_3 rfl ?_
  refine SW.iload (pc := 88) g (dt dt_X8_fewestCuts 46 rfl) rfl ?_
  obtain ⟨hb1, h⟩ := inbI h
  refine SW.iaload (pc := 90) g (dt dt_X8_fewestCuts 47 rfl) cell_4 hb1 ?_
  refine SW.aload_n (pc := 91) g (dt dt_X8_fewestCuts 48 rfl) rfl ?_
  refine SW.getR (pc := 92) g (dt dt_X8_fewestCuts 49 rfl) fl_X8_25 cell_49 rfl ?_
  refine SW.getR (pc := 95) g (dt dt_X8_fewestCuts 50 rfl) fl_X8_46 cell_3 rfl ?_
  refine SW.iload (pc := 98) g (dt dt_X8_fewestCuts 51 rfl) rfl ?_
  obtain ⟨hb2, h⟩ := inbI h
  refine SW.iaload (pc := 100) g (dt dt_X8_fewestCuts 52 rfl) cell_5 hb2 ?_
  refine SW.iload (pc := 101) g (dt dt_X8_fewestCuts 53 rfl) rfl ?_
  obtain ⟨r3, h4, h⟩ := bindI h
  refine SW.callVv (pc := 103) g (dt dt_X8_fewestCuts 54 rfl) (mt_f_ways_cheapen _ _ _ _ ad ν   N μ (μ 4 x4.toNatClampNeg) (μ 5 x4.toNatClampNeg) s0 r3 h4) me_X8_cheapen mv_X8_cheapen ml_X8_68 cell_49 rfl rfl (Nat.le_of_ble_eq_true rfl) (Nat.le_of_ble_eq_true rfl) (Nat.le_of_ble_eq_true rfl) (Nat.le_of_ble_eq_true rfl) rfl ?_
  refine SW.aload_n (pc := 106) g (dt dt_X8_fewestCuts 55 rfl) rfl ?_
  refine SW.aload_n (pc := 107) g (dt dt_X8_fewestCuts 56 rfl) rfl ?_
  refine SW.getR (pc := 108) g (dt dt_X8_fewestCuts 57 rfl) fl_X8_25 cell_49 rfl ?_
  refine SW.getR (pc := 111) g (dt dt_X8_fewestCuts 58 rfl) fl_X8_46 cell_3 rfl ?_
  refine SW.iload (pc := 114) g (dt dt_X8_fewestCuts 59 rfl) rfl ?_
  obtain ⟨hb5, h⟩ := inbI h
  refine SW.iaload (pc := 116) g (dt dt_X8_fewestCuts 60 rfl) cell_5 hb5 ?_
  refine SW.aload_n (pc := 117) g (dt dt_X8_fewestCuts 61 rfl) rfl ?_
  refine SW.getR (pc := 118) g (dt dt_X8_fewestCuts 62 rfl) fl_X8_25 cell_49 rfl ?_
  refine SW.getR (pc := 121) g (dt dt_X8_fewestCuts 63 rfl) fl_X8_39 cell_3 rfl ?_
  refine SW.iload (pc := 124) g (dt dt_X8_fewestCuts 64 rfl) rfl ?_
  obtain ⟨hb6, h⟩ := inbI h
  refine SW.iaload (pc := 126) g (dt dt_X8_fewestCuts 65 rfl) cell_4 hb6 ?_
  refine SW.iload (pc := 127) g (dt dt_X8_fewestCuts 66 rfl) rfl ?_
  obtain ⟨r7, h8, h⟩ := bindI h
  refine SW.callVv (pc := 129) g (dt dt_X8_fewestCuts 67 rfl) (mt_f_ways_cheapen _ _ _ _ ad ν   N r3 (r3 5 x4.toNatClampNeg) (r3 4 x4.toNatClampNeg) s0 r7 h8) me_X8_cheapen mv_X8_cheapen ml_X8_68 cell_49 rfl rfl (Nat.le_of_ble_eq_true rfl) (Nat.le_of_ble_eq_true rfl) (Nat.le_of_ble_eq_true rfl) (Nat.le_of_ble_eq_true rfl) rfl ?_
  refine SW.iinc (pc := 132) (v := x4 + 1) g (dt dt_X8_fewestCuts 68 rfl) rfl (kn_1 _) (sw_ltm hm (Nat.le_of_ble_eq_true rfl)) rfl ?_
  refine SW.goto (pc := 135) (t := 42) g (dt dt_X8_fewestCuts 69 rfl) rfl ?_
  refine SW.msk [true, false, true, true, true, false] ?_
  exact hk_42 r7 x2 x3 (x4 + 1) h
set_option maxRecDepth 100000 in
set_option maxHeartbeats 4000000 in
theorem ok_f_ways_fewestCuts_42 {G : sw_G} {ad : Nat → Nat} {ν : sw_N}   {N : Nat} {o : Int32 × sw_M} (g : sw_ok G cX8_fewestCuts "DeadWires$Ways" (some .int) 3 0 0 ad) (hm : G.2.2.1.2.1.maxLocals = 6)  (ho : sw_out G 0 0 (fun a => a = ad) (.inl (some (.int o.1))) lay0 o.2 ν) (k_33 : sw_M → Int32 → Int32 → Option (Int32 × sw_M)) (hk_33 : ∀ (μ : sw_M) (x2 : Int32) (x3 : Int32), k_33 μ x2 x3 = some o → SW G ad lay0 ν 0 0 33 [some (.ref 49), none, some (.int x2), some (.int x3), none, none] [] μ) : ∀ (n : Nat) (μ : sw_M) (x2 : Int32) (x3 : Int32) (x4 : Int32) (h : f_ways_fewestCuts_42 N  k_33 n μ x2 x3 x4 = some o), SW G ad lay0 ν 0 0 42 [some (.ref 49), none, some (.int x2), some (.int x3), some (.int x4), none] [] μ := by
  intro n
  induction n with
  | zero => intro μ x2 x3 x4 h; simp only [f_ways_fewestCuts_42] at h; cases h
  | succ n ih =>
    intro μ x2 x3 x4 h
    unfold f_ways_fewestCuts_42 at h
    refine SW.iload (pc := 42) g (dt dt_X8_fewestCuts 24 rfl) rfl ?_
    refine SW.aload_n (pc := 44) g (dt dt_X8_fewestCuts 25 rfl) rfl ?_
    refine SW.getR (pc := 45) g (dt dt_X8_fewestCuts 26 rfl) fl_X8_25 cell_49 rfl ?_
    refine SW.getI (pc := 48) g (dt dt_X8_fewestCuts 27 rfl) fl_X8_26 cell_3 rfl ?_
    refine SW.icmp_ge (pc := 51) (t := 138) g (dt dt_X8_fewestCuts 28 rfl) rfl (fun hc => ?_) (fun hc => ?_)
    · have h := iteT hc h
      refine SW.iinc (pc := 138) (v := x3 + 1) g (dt dt_X8_fewestCuts 70 rfl) rfl (kn_1 _) (sw_ltm hm (Nat.le_of_ble_eq_true rfl)) rfl ?_
      refine SW.goto (pc := 141) (t := 33) g (dt dt_X8_fewestCuts 71 rfl) rfl ?_
      refine SW.msk [true, false, true, true, false, false] ?_
      exact hk_33 μ x2 (x3 + 1) h
    · have h := iteF hc h
      refine SW.aload_n (pc := 54) g (dt dt_X8_fewestCuts 29 rfl) rfl ?_
      refine SW.getR (pc := 55) g (dt dt_X8_fewestCuts 30 rfl) fl_X8_15 cell_49 rfl ?_
      refine SW.iload (pc := 58) g (dt dt_X8_fewestCuts 31 rfl) rfl ?_
      obtain ⟨r1, h2, h⟩ := bindI h
      refine SW.callVi (pc := 60) g (dt dt_X8_fewestCuts 32 rfl) (mt_f_days_isCut _ _ _ _ ad ν   N μ x4 r1 h2) me_X2_isCut mv_X2_isCut ml_X8_32 cell_35 rfl rfl (Nat.le_of_ble_eq_true rfl) (Nat.le_of_ble_eq_true rfl) (Nat.le_of_ble_eq_true rfl) (Nat.le_of_ble_eq_true rfl) rfl ?_
      refine SW.if_eq (pc := 63) (t := 70) g (dt dt_X8_fewestCuts 33 rfl) rfl (fun hc => ?_) (fun hc => ?_)
      · have h := iteT hc h
        refine SW.sipush (pc := 70) (v := 4096) g (dt dt_X8_fewestCuts 36 rfl) ks_4096 ?_
        refine SW.iconst (pc := 73) (v := 1) g (dt dt_X8_fewestCuts 37 rfl) ki_1 ?_
        refine SW.iload (pc := 74) g (dt dt_X8_fewestCuts 38 rfl) rfl ?_
        refine SW.ishl (pc := 76) g (dt dt_X8_fewestCuts 39 rfl) ?_
        refine SW.iadd (pc := 77) g (dt dt_X8_fewestCuts 40 rfl) ?_
        refine SW.msk [true, false, true, true, true, false] ?_
        exact ok_f_ways_fewestCuts_78  g hm  ho k_33 (f_ways_fewestCuts_42 N  k_33 n) hk_33 ih  μ x2 x3 x4 ((4096 : Int32) + ((1 : Int32) <<< (x4 &&& 31))) h
      · have h := iteF hc h
        refine SW.iconst (pc := 66) (v := 0) g (dt dt_X8_fewestCuts 34 rfl) ki_0 ?_
        refine SW.goto (pc := 67) (t := 78) g (dt dt_X8_fewestCuts 35 rfl) rfl ?_
        refine SW.msk [true, false, true, true, true, false] ?_
        exact ok_f_ways_fewestCuts_78  g hm  ho k_33 (f_ways_fewestCuts_42 N  k_33 n) hk_33 ih  μ x2 x3 x4 0 h
set_option maxRecDepth 100000 in
set_option maxHeartbeats 4000000 in
theorem ok_f_ways_fewestCuts_33 {G : sw_G} {ad : Nat → Nat} {ν : sw_N}   {N : Nat} {o : Int32 × sw_M} (g : sw_ok G cX8_fewestCuts "DeadWires$Ways" (some .int) 3 0 0 ad) (hm : G.2.2.1.2.1.maxLocals = 6)  (ho : sw_out G 0 0 (fun a => a = ad) (.inl (some (.int o.1))) lay0 o.2 ν)  : ∀ (n : Nat) (μ : sw_M) (x2 : Int32) (x3 : Int32) (h : f_ways_fewestCuts_33 N   n μ x2 x3 = some o), SW G ad lay0 ν 0 0 33 [some (.ref 49), none, some (.int x2), some (.int x3), none, none] [] μ := by
  intro n
  induction n with
  | zero => intro μ x2 x3 h; simp only [f_ways_fewestCuts_33] at h; cases h
  | succ n ih =>
    intro μ x2 x3 h
    unfold f_ways_fewestCuts_33 at h
    refine SW.iload_n (pc := 33) g (dt dt_X8_fewestCuts 19 rfl) rfl ?_
    refine SW.bipush (pc := 34) (v := 8) g (dt dt_X8_fewestCuts 20 rfl) kb_8 ?_
    refine SW.icmp_ge (pc := 36) (t := 144) g (dt dt_X8_fewestCuts 21 rfl) rfl (fun hc => ?_) (fun hc => ?_)
    · have h := iteT hc h
      refine SW.aload_n (pc := 144) g (dt dt_X8_fewestCuts 72 rfl) rfl ?_
      refine SW.getR (pc := 145) g (dt dt_X8_fewestCuts 73 rfl) fl_X8_9 cell_49 rfl ?_
      refine SW.iload_n (pc := 148) g (dt dt_X8_fewestCuts 74 rfl) rfl ?_
      obtain ⟨r1, h2, h⟩ := bindI h
      refine SW.callSNi (pc := 149) g (dt dt_X8_fewestCuts 75 rfl) (mt_f_sx_at _ _ _ _ ad ν lay0 50 8 cell_50 N μ x2 r1 h2) me_X10_at ms_X10_at mn_X8_72 rfl (Nat.le_of_ble_eq_true rfl) (Nat.le_of_ble_eq_true rfl) (Nat.le_of_ble_eq_true rfl) (Nat.le_of_ble_eq_true rfl) rfl ?_
      refine SW.istore_n (pc := 152) g (dt dt_X8_fewestCuts 76 rfl) (sw_ltm hm (Nat.le_of_ble_eq_true rfl)) rfl ?_
      refine SW.iload_n (pc := 153) g (dt dt_X8_fewestCuts 77 rfl) rfl ?_
      refine SW.ldc (pc := 154) g (dt dt_X8_fewestCuts 78 rfl) ko_X8_67 ?_
      refine SW.icmp_lt (pc := 156) (t := 163) g (dt dt_X8_fewestCuts 79 rfl) rfl (fun hc => ?_) (fun hc => ?_)
      · have h := iteT hc h
        refine SW.iload_n (pc := 163) g (dt dt_X8_fewestCuts 82 rfl) rfl ?_
        refine SW.sipush (pc := 164) (v := 4095) g (dt dt_X8_fewestCuts 83 rfl) ks_4095 ?_
        refine SW.iand (pc := 167) g (dt dt_X8_fewestCuts 84 rfl) ?_
        exact SW.ireturn (pc := 168) g (leafW h ho) rfl (Nat.le_of_ble_eq_true rfl) (Nat.le_of_ble_eq_true rfl) (dt dt_X8_fewestCuts 85 rfl)
      · have h := iteF hc h
        refine SW.iconst (pc := 159) (v := (-1)) g (dt dt_X8_fewestCuts 80 rfl) ki_m1 ?_
        refine SW.goto (pc := 160) (t := 168) g (dt dt_X8_fewestCuts 81 rfl) rfl ?_
        exact SW.ireturn (pc := 168) g (leafW h ho) rfl (Nat.le_of_ble_eq_true rfl) (Nat.le_of_ble_eq_true rfl) (dt dt_X8_fewestCuts 85 rfl)
    · have h := iteF hc h
      refine SW.iconst (pc := 39) (v := 0) g (dt dt_X8_fewestCuts 22 rfl) ki_0 ?_
      refine SW.istore (pc := 40) g (dt dt_X8_fewestCuts 23 rfl) (sw_ltm hm (Nat.le_of_ble_eq_true rfl)) rfl ?_
      refine SW.msk [true, false, true, true, true, false] ?_
      exact ok_f_ways_fewestCuts_42  g hm  ho (f_ways_fewestCuts_33 N   n) ih N μ x2 x3 0 h
set_option maxRecDepth 100000 in
set_option maxHeartbeats 4000000 in
theorem ok_f_ways_fewestCuts_24 {G : sw_G} {ad : Nat → Nat} {ν : sw_N}   {N : Nat} {o : Int32 × sw_M} (g : sw_ok G cX8_fewestCuts "DeadWires$Ways" (some .int) 3 0 0 ad) (hm : G.2.2.1.2.1.maxLocals = 6)  (ho : sw_out G 0 0 (fun a => a = ad) (.inl (some (.int o.1))) lay0 o.2 ν) (k_2 : sw_M → Int32 → Int32 → Int32 → Option (Int32 × sw_M)) (hk_2 : ∀ (μ : sw_M) (x1 : Int32) (x2 : Int32) (x3 : Int32), k_2 μ x1 x2 x3 = some o → SW G ad lay0 ν 0 0 2 [some (.ref 49), some (.int x1), some (.int x2), some (.int x3), none, none] [] μ) (μ : sw_M) (x1 : Int32) (x2 : Int32) (x3 : Int32) (s0 : Int32) (s1 : Int32) (h : f_ways_fewestCuts_24 N  k_2  μ x1 x2 x3 s0 s1 = some o) : SW G ad lay0 ν 0 0 24 [some (.ref 49), some (.int x1), some (.int x2), some (.int x3), none, none] [.int s0, .int s1, .ref 50] μ := by
  unfold f_ways_fewestCuts_24 at h
  obtain ⟨hb1, h⟩ := inbI h
  refine SW.iastore (pc := 24) g (dt dt_X8_fewestCuts 14 rfl) cell_50 hb1 ?_
  refine SW.genM h (fun μ2 h => ?_)
  refine SW.iinc (pc := 25) (v := x3 + 1) g (dt dt_X8_fewestCuts 15 rfl) rfl (kn_1 _) (sw_ltm hm (Nat.le_of_ble_eq_true rfl)) rfl ?_
  refine SW.goto (pc := 28) (t := 2) g (dt dt_X8_fewestCuts 16 rfl) rfl ?_
  refine SW.msk [true, true, true, true, false, false] ?_
  exact hk_2 μ2 x1 x2 (x3 + 1) h
set_option maxRecDepth 100000 in
set_option maxHeartbeats 4000000 in
theorem ok_f_ways_fewestCuts_2 {G : sw_G} {ad : Nat → Nat} {ν : sw_N}   {N : Nat} {o : Int32 × sw_M} (g : sw_ok G cX8_fewestCuts "DeadWires$Ways" (some .int) 3 0 0 ad) (hm : G.2.2.1.2.1.maxLocals = 6)  (ho : sw_out G 0 0 (fun a => a = ad) (.inl (some (.int o.1))) lay0 o.2 ν)  : ∀ (n : Nat) (μ : sw_M) (x1 : Int32) (x2 : Int32) (x3 : Int32) (h : f_ways_fewestCuts_2 N   n μ x1 x2 x3 = some o), SW G ad lay0 ν 0 0 2 [some (.ref 49), some (.int x1), some (.int x2), some (.int x3), none, none] [] μ := by
  intro n
  induction n with
  | zero => intro μ x1 x2 x3 h; simp only [f_ways_fewestCuts_2] at h; cases h
  | succ n ih =>
    intro μ x1 x2 x3 h
    unfold f_ways_fewestCuts_2 at h
    refine SW.iload_n (pc := 2) g (dt dt_X8_fewestCuts 2 rfl) rfl ?_
    refine SW.bipush (pc := 3) (v := 8) g (dt dt_X8_fewestCuts 3 rfl) kb_8 ?_
    refine SW.icmp_ge (pc := 5) (t := 31) g (dt dt_X8_fewestCuts 4 rfl) rfl (fun hc => ?_) (fun hc => ?_)
    · have h := iteT hc h
      refine SW.iconst (pc := 31) (v := 0) g (dt dt_X8_fewestCuts 17 rfl) ki_0 ?_
      refine SW.istore_n (pc := 32) g (dt dt_X8_fewestCuts 18 rfl) (sw_ltm hm (Nat.le_of_ble_eq_true rfl)) rfl ?_
      refine SW.msk [true, false, true, true, false, false] ?_
      exact ok_f_ways_fewestCuts_33  g hm  ho   N μ x2 0 h
    · have h := iteF hc h
      refine SW.aload_n (pc := 8) g (dt dt_X8_fewestCuts 5 rfl) rfl ?_
      refine SW.getR (pc := 9) g (dt dt_X8_fewestCuts 6 rfl) fl_X8_9 cell_49 rfl ?_
      refine SW.iload_n (pc := 12) g (dt dt_X8_fewestCuts 7 rfl) rfl ?_
      refine SW.iload_n (pc := 13) g (dt dt_X8_fewestCuts 8 rfl) rfl ?_
      refine SW.iload_n (pc := 14) g (dt dt_X8_fewestCuts 9 rfl) rfl ?_
      refine SW.icmp_ne (pc := 15) (t := 22) g (dt dt_X8_fewestCuts 10 rfl) rfl (fun hc => ?_) (fun hc => ?_)
      · have h := iteF hc h
        refine SW.ldc (pc := 22) g (dt dt_X8_fewestCuts 13 rfl) ko_X8_67 ?_
        refine SW.msk [true, true, true, true, false, false] ?_
        exact ok_f_ways_fewestCuts_24  g hm  ho (f_ways_fewestCuts_2 N   n) ih  μ x1 x2 x3 1073741824 x3 h
      · have h := iteT hc h
        refine SW.iconst (pc := 18) (v := 0) g (dt dt_X8_fewestCuts 11 rfl) ki_0 ?_
        refine SW.goto (pc := 19) (t := 24) g (dt dt_X8_fewestCuts 12 rfl) rfl ?_
        refine SW.msk [true, true, true, true, false, false] ?_
        exact ok_f_ways_fewestCuts_24  g hm  ho (f_ways_fewestCuts_2 N   n) ih  μ x1 x2 x3 0 x3 h
set_option maxRecDepth 100000 in
set_option maxHeartbeats 4000000 in
theorem ok_f_ways_fewestCuts {G : sw_G} {ad : Nat → Nat} {ν : sw_N}   {N : Nat} {o : Int32 × sw_M} (g : sw_ok G cX8_fewestCuts "DeadWires$Ways" (some .int) 3 0 0 ad) (hm : G.2.2.1.2.1.maxLocals = 6)  (μ : sw_M) (ho : sw_out G 0 0 (fun a => a = ad) (.inl (some (.int o.1))) lay0 o.2 ν) (a1 : Int32) (a2 : Int32) (h : f_ways_fewestCuts N  μ a1 a2 = some o) : SW G ad lay0 ν 0 0 0 [some (.ref 49), some (.int a1), some (.int a2), none, none, none] [] μ := by
  unfold f_ways_fewestCuts at h
  refine SW.iconst (pc := 0) (v := 0) g (dt dt_X8_fewestCuts 0 rfl) ki_0 ?_
  refine SW.istore_n (pc := 1) g (dt dt_X8_fewestCuts 1 rfl) (sw_ltm hm (Nat.le_of_ble_eq_true rfl)) rfl ?_
  refine SW.msk [true, true, true, true, false, false] ?_
  exact ok_f_ways_fewestCuts_2  g hm  ho   N μ a1 a2 0 h
set_option maxRecDepth 100000 in
set_option maxHeartbeats 4000000 in
theorem mt_f_ways_fewestCuts (l : Launch) (D : va_G) (cI cL : ClassId) (ad : Nat → Nat) (ν : sw_N)    (N : Nat) (μ : sw_M) (a1 : Int32) (a2 : Int32) (o : Int32 × sw_M) (h : f_ways_fewestCuts N  μ a1 a2 = some o) : MetR l D cI cL yX8_fewestCuts cX8_fewestCuts 6 (some .int) 3 0 0 (fun a => a = ad) ad [.ref 49, .int a1, .int a2] lay0 μ ν (some (.int o.1)) lay0 o.2 ν :=
  MetR.of (n := 3) rfl (Nat.le_of_ble_eq_true rfl) (fun G g ho hm _ _ => ok_f_ways_fewestCuts  g hm  μ ho a1 a2 h)
def f_ways_setAround_7 (N : Nat)  (μ : sw_M)  : Nat → Int32 → Int32 → Int32 → Option (Int32)
  | 0, _, _, _ => none
  | n + 1, x2, x3, x4 =>
    if 8 ≤ x4 then
      some x3
    else
      Option.bind (f_ways_spread N  μ x3 x2 0) (fun r1 =>
        f_ways_setAround_7 N  μ  n x2 r1 (x4 + 1))
def f_ways_setAround (N : Nat)  (μ : sw_M) (a1 : Int32) (a2 : Int32) : Option (Int32) :=
  ib ((1 : Int32) <<< (a1 &&& 31)) (fun y1 =>
    f_ways_setAround_7 N  μ  N a2 y1 0)
set_option maxRecDepth 100000 in
set_option maxHeartbeats 4000000 in
theorem ok_f_ways_setAround_7 {G : sw_G} {ad : Nat → Nat} {ν : sw_N}   {N : Nat} {o : Int32} (g : sw_ok G cX8_setAround "DeadWires$Ways" (some .int) 3 0 0 ad) (hm : G.2.2.1.2.1.maxLocals = 5)  (μ : sw_M) (ho : sw_out G 0 0 (fun a => a = ad) (.inl (some (.int o))) lay0 μ ν)  : ∀ (n : Nat) (x2 : Int32) (x3 : Int32) (x4 : Int32) (h : f_ways_setAround_7 N  μ  n x2 x3 x4 = some o), SW G ad lay0 ν 0 0 7 [some (.ref 49), none, some (.int x2), some (.int x3), some (.int x4)] [] μ := by
  intro n
  induction n with
  | zero => intro x2 x3 x4 h; simp only [f_ways_setAround_7] at h; cases h
  | succ n ih =>
    intro x2 x3 x4 h
    unfold f_ways_setAround_7 at h
    refine SW.iload (pc := 7) g (dt dt_X8_setAround 6 rfl) rfl ?_
    refine SW.bipush (pc := 9) (v := 8) g (dt dt_X8_setAround 7 rfl) kb_8 ?_
    refine SW.icmp_ge (pc := 11) (t := 28) g (dt dt_X8_setAround 8 rfl) rfl (fun hc => ?_) (fun hc => ?_)
    · have h := iteT hc h
      refine SW.iload_n (pc := 28) g (dt dt_X8_setAround 17 rfl) rfl ?_
      exact SW.ireturn (pc := 29) g (leafI h ho) rfl (Nat.le_of_ble_eq_true rfl) (Nat.le_of_ble_eq_true rfl) (dt dt_X8_setAround 18 rfl)
    · have h := iteF hc h
      refine SW.aload_n (pc := 14) g (dt dt_X8_setAround 9 rfl) rfl ?_
      refine SW.iload_n (pc := 15) g (dt dt_X8_setAround 10 rfl) rfl ?_
      refine SW.iload_n (pc := 16) g (dt dt_X8_setAround 11 rfl) rfl ?_
      refine SW.iconst (pc := 17) (v := 0) g (dt dt_X8_setAround 12 rfl) ki_0 ?_
      obtain ⟨r1, h2, h⟩ := bindI h
      refine SW.callVi (pc := 18) g (dt dt_X8_setAround 13 rfl) (mt_f_ways_spread _ _ _ _ ad ν   N μ x3 x2 0 r1 h2) me_X8_spread mv_X8_spread ml_X8_52 cell_49 rfl rfl (Nat.le_of_ble_eq_true rfl) (Nat.le_of_ble_eq_true rfl) (Nat.le_of_ble_eq_true rfl) (Nat.le_of_ble_eq_true rfl) rfl ?_
      refine SW.istore_n (pc := 21) g (dt dt_X8_setAround 14 rfl) (sw_ltm hm (Nat.le_of_ble_eq_true rfl)) rfl ?_
      refine SW.iinc (pc := 22) (v := x4 + 1) g (dt dt_X8_setAround 15 rfl) rfl (kn_1 _) (sw_ltm hm (Nat.le_of_ble_eq_true rfl)) rfl ?_
      refine SW.goto (pc := 25) (t := 7) g (dt dt_X8_setAround 16 rfl) rfl ?_
      refine SW.msk [true, false, true, true, true] ?_
      exact ih  x2 r1 (x4 + 1) h
set_option maxRecDepth 100000 in
set_option maxHeartbeats 4000000 in
theorem ok_f_ways_setAround {G : sw_G} {ad : Nat → Nat} {ν : sw_N}   {N : Nat} {o : Int32} (g : sw_ok G cX8_setAround "DeadWires$Ways" (some .int) 3 0 0 ad) (hm : G.2.2.1.2.1.maxLocals = 5)  (μ : sw_M) (ho : sw_out G 0 0 (fun a => a = ad) (.inl (some (.int o))) lay0 μ ν) (a1 : Int32) (a2 : Int32) (h : f_ways_setAround N  μ a1 a2 = some o) : SW G ad lay0 ν 0 0 0 [some (.ref 49), some (.int a1), some (.int a2), none, none] [] μ := by
  unfold f_ways_setAround at h
  refine SW.iconst (pc := 0) (v := 1) g (dt dt_X8_setAround 0 rfl) ki_1 ?_
  refine SW.iload_n (pc := 1) g (dt dt_X8_setAround 1 rfl) rfl ?_
  refine SW.ishl (pc := 2) g (dt dt_X8_setAround 2 rfl) ?_
  refine SW.istore_n (pc := 3) g (dt dt_X8_setAround 3 rfl) (sw_ltm hm (Nat.le_of_ble_eq_true rfl)) rfl ?_
  refine SW.genL h (fun y1 h => ?_)
  refine SW.iconst (pc := 4) (v := 0) g (dt dt_X8_setAround 4 rfl) ki_0 ?_
  refine SW.istore (pc := 5) g (dt dt_X8_setAround 5 rfl) (sw_ltm hm (Nat.le_of_ble_eq_true rfl)) rfl ?_
  refine SW.msk [true, false, true, true, true] ?_
  exact ok_f_ways_setAround_7  g hm  μ ho   N a2 y1 0 h
set_option maxRecDepth 100000 in
set_option maxHeartbeats 4000000 in
theorem mt_f_ways_setAround (l : Launch) (D : va_G) (cI cL : ClassId) (ad : Nat → Nat) (ν : sw_N)    (N : Nat) (μ : sw_M) (a1 : Int32) (a2 : Int32) (o : Int32) (h : f_ways_setAround N  μ a1 a2 = some o) : MetR l D cI cL yX8_setAround cX8_setAround 5 (some .int) 3 0 0 (fun a => a = ad) ad [.ref 49, .int a1, .int a2] lay0 μ ν (some (.int o)) lay0 μ ν :=
  MetR.of (n := 2) rfl (Nat.le_of_ble_eq_true rfl) (fun G g ho hm _ _ => ok_f_ways_setAround  g hm  μ ho a1 a2 h)
def f_ways_setsOfFields_7 (N : Nat)  (μ : sw_M)  : Nat → Int32 → Int32 → Int32 → Int32 → Option (Int32)
  | 0, _, _, _, _ => none
  | n + 1, x1, x2, x3, x4 =>
    if (μ 3 0) ≤ x4 then
      some x3
    else
      Option.bind (f_sx_has N  μ x2 x4) (fun r1 =>
        if r1 = 0 then
          ib (x3 + 1) (fun y3 =>
            Option.bind (f_ways_setAround N  μ x4 x1) (fun r4 =>
              ib (x2 ||| r4) (fun y6 =>
                f_ways_setsOfFields_7 N  μ  n x1 y6 y3 (x4 + 1))))
        else
          f_ways_setsOfFields_7 N  μ  n x1 x2 x3 (x4 + 1))
def f_ways_setsOfFields (N : Nat)  (μ : sw_M) (a1 : Int32) : Option (Int32) :=
  f_ways_setsOfFields_7 N  μ  N a1 0 0 0
set_option maxRecDepth 100000 in
set_option maxHeartbeats 4000000 in
theorem ok_f_ways_setsOfFields_7 {G : sw_G} {ad : Nat → Nat} {ν : sw_N}   {N : Nat} {o : Int32} (g : sw_ok G cX8_setsOfFields "DeadWires$Ways" (some .int) 4 0 0 ad) (hm : G.2.2.1.2.1.maxLocals = 5)  (μ : sw_M) (ho : sw_out G 0 0 (fun a => a = ad) (.inl (some (.int o))) lay0 μ ν)  : ∀ (n : Nat) (x1 : Int32) (x2 : Int32) (x3 : Int32) (x4 : Int32) (h : f_ways_setsOfFields_7 N  μ  n x1 x2 x3 x4 = some o), SW G ad lay0 ν 0 0 7 [some (.ref 49), some (.int x1), some (.int x2), some (.int x3), some (.int x4)] [] μ := by
  intro n
  induction n with
  | zero => intro x1 x2 x3 x4 h; simp only [f_ways_setsOfFields_7] at h; cases h
  | succ n ih =>
    intro x1 x2 x3 x4 h
    unfold f_ways_setsOfFields_7 at h
    refine SW.iload (pc := 7) g (dt dt_X8_setsOfFields 6 rfl) rfl ?_
    refine SW.aload_n (pc := 9) g (dt dt_X8_setsOfFields 7 rfl) rfl ?_
    refine SW.getR (pc := 10) g (dt dt_X8_setsOfFields 8 rfl) fl_X8_25 cell_49 rfl ?_
    refine SW.getI (pc := 13) g (dt dt_X8_setsOfFields 9 rfl) fl_X8_60 cell_3 rfl ?_
    refine SW.icmp_ge (pc := 16) (t := 47) g (dt dt_X8_setsOfFields 10 rfl) rfl (fun hc => ?_) (fun hc => ?_)
    · have h := iteT hc h
      refine SW.iload_n (pc := 47) g (dt dt_X8_setsOfFields 25 rfl) rfl ?_
      exact SW.ireturn (pc := 48) g (leafI h ho) rfl (Nat.le_of_ble_eq_true rfl) (Nat.le_of_ble_eq_true rfl) (dt dt_X8_setsOfFields 26 rfl)
    · have h := iteF hc h
      refine SW.iload_n (pc := 19) g (dt dt_X8_setsOfFields 11 rfl) rfl ?_
      refine SW.iload (pc := 20) g (dt dt_X8_setsOfFields 12 rfl) rfl ?_
      obtain ⟨r1, h2, h⟩ := bindI h
      refine SW.callSNi (pc := 22) g (dt dt_X8_setsOfFields 13 rfl) (mt_f_sx_has _ _ _ _ ad ν lay0   N μ x2 x4 r1 h2) me_X10_has ms_X10_has mn_X8_42 rfl (Nat.le_of_ble_eq_true rfl) (Nat.le_of_ble_eq_true rfl) (Nat.le_of_ble_eq_true rfl) (Nat.le_of_ble_eq_true rfl) rfl ?_
      refine SW.if_ne (pc := 25) (t := 41) g (dt dt_X8_setsOfFields 14 rfl) rfl (fun hc => ?_) (fun hc => ?_)
      · have h := iteF hc h
        refine SW.iinc (pc := 41) (v := x4 + 1) g (dt dt_X8_setsOfFields 23 rfl) rfl (kn_1 _) (sw_ltm hm (Nat.le_of_ble_eq_true rfl)) rfl ?_
        refine SW.goto (pc := 44) (t := 7) g (dt dt_X8_setsOfFields 24 rfl) rfl ?_
        refine SW.msk [true, true, true, true, true] ?_
        exact ih  x1 x2 x3 (x4 + 1) h
      · have h := iteT hc h
        refine SW.iinc (pc := 28) (v := x3 + 1) g (dt dt_X8_setsOfFields 15 rfl) rfl (kn_1 _) (sw_ltm hm (Nat.le_of_ble_eq_true rfl)) rfl ?_
        refine SW.genL h (fun y3 h => ?_)
        refine SW.iload_n (pc := 31) g (dt dt_X8_setsOfFields 16 rfl) rfl ?_
        refine SW.aload_n (pc := 32) g (dt dt_X8_setsOfFields 17 rfl) rfl ?_
        refine SW.iload (pc := 33) g (dt dt_X8_setsOfFields 18 rfl) rfl ?_
        refine SW.iload_n (pc := 35) g (dt dt_X8_setsOfFields 19 rfl) rfl ?_
        obtain ⟨r4, h5, h⟩ := bindI h
        refine SW.callVi (pc := 36) g (dt dt_X8_setsOfFields 20 rfl) (mt_f_ways_setAround _ _ _ _ ad ν   N μ x4 x1 r4 h5) me_X8_setAround mv_X8_setAround ml_X8_63 cell_49 rfl rfl (Nat.le_of_ble_eq_true rfl) (Nat.le_of_ble_eq_true rfl) (Nat.le_of_ble_eq_true rfl) (Nat.le_of_ble_eq_true rfl) rfl ?_
        refine SW.ior (pc := 39) g (dt dt_X8_setsOfFields 21 rfl) ?_
        refine SW.istore_n (pc := 40) g (dt dt_X8_setsOfFields 22 rfl) (sw_ltm hm (Nat.le_of_ble_eq_true rfl)) rfl ?_
        refine SW.genL h (fun y6 h => ?_)
        refine SW.iinc (pc := 41) (v := x4 + 1) g (dt dt_X8_setsOfFields 23 rfl) rfl (kn_1 _) (sw_ltm hm (Nat.le_of_ble_eq_true rfl)) rfl ?_
        refine SW.goto (pc := 44) (t := 7) g (dt dt_X8_setsOfFields 24 rfl) rfl ?_
        refine SW.msk [true, true, true, true, true] ?_
        exact ih  x1 y6 y3 (x4 + 1) h
set_option maxRecDepth 100000 in
set_option maxHeartbeats 4000000 in
theorem ok_f_ways_setsOfFields {G : sw_G} {ad : Nat → Nat} {ν : sw_N}   {N : Nat} {o : Int32} (g : sw_ok G cX8_setsOfFields "DeadWires$Ways" (some .int) 4 0 0 ad) (hm : G.2.2.1.2.1.maxLocals = 5)  (μ : sw_M) (ho : sw_out G 0 0 (fun a => a = ad) (.inl (some (.int o))) lay0 μ ν) (a1 : Int32) (h : f_ways_setsOfFields N  μ a1 = some o) : SW G ad lay0 ν 0 0 0 [some (.ref 49), some (.int a1), none, none, none] [] μ := by
  unfold f_ways_setsOfFields at h
  refine SW.iconst (pc := 0) (v := 0) g (dt dt_X8_setsOfFields 0 rfl) ki_0 ?_
  refine SW.istore_n (pc := 1) g (dt dt_X8_setsOfFields 1 rfl) (sw_ltm hm (Nat.le_of_ble_eq_true rfl)) rfl ?_
  refine SW.iconst (pc := 2) (v := 0) g (dt dt_X8_setsOfFields 2 rfl) ki_0 ?_
  refine SW.istore_n (pc := 3) g (dt dt_X8_setsOfFields 3 rfl) (sw_ltm hm (Nat.le_of_ble_eq_true rfl)) rfl ?_
  refine SW.iconst (pc := 4) (v := 0) g (dt dt_X8_setsOfFields 4 rfl) ki_0 ?_
  refine SW.istore (pc := 5) g (dt dt_X8_setsOfFields 5 rfl) (sw_ltm hm (Nat.le_of_ble_eq_true rfl)) rfl ?_
  refine SW.msk [true, true, true, true, true] ?_
  exact ok_f_ways_setsOfFields_7  g hm  μ ho   N a1 0 0 0 h
set_option maxRecDepth 100000 in
set_option maxHeartbeats 4000000 in
theorem mt_f_ways_setsOfFields (l : Launch) (D : va_G) (cI cL : ClassId) (ad : Nat → Nat) (ν : sw_N)    (N : Nat) (μ : sw_M) (a1 : Int32) (o : Int32) (h : f_ways_setsOfFields N  μ a1 = some o) : MetR l D cI cL yX8_setsOfFields cX8_setsOfFields 5 (some .int) 4 0 0 (fun a => a = ad) ad [.ref 49, .int a1] lay0 μ ν (some (.int o)) lay0 μ ν :=
  MetR.of (n := 3) rfl (Nat.le_of_ble_eq_true rfl) (fun G g ho hm _ _ => ok_f_ways_setsOfFields  g hm  μ ho a1 h)
def f_ways_fieldsWithin_7 (N : Nat)  (μ : sw_M)  : Nat → Int32 → Int32 → Int32 → Option (Int32)
  | 0, _, _, _ => none
  | n + 1, x2, x3, x4 =>
    if x2 ≤ x4 then
      some x3
    else
      if 8 ≤ x4 then
        some x3
      else
        Option.bind (f_ways_spread N  μ x3 ((μ 35 2) + x4) 0) (fun r1 =>
          f_ways_fieldsWithin_7 N  μ  n x2 r1 (x4 + 1))
def f_ways_fieldsWithin (N : Nat)  (μ : sw_M) (a1 : Int32) (a2 : Int32) : Option (Int32) :=
  ib ((1 : Int32) <<< (a1 &&& 31)) (fun y1 =>
    f_ways_fieldsWithin_7 N  μ  N a2 y1 0)
set_option maxRecDepth 100000 in
set_option maxHeartbeats 4000000 in
theorem ok_f_ways_fieldsWithin_7 {G : sw_G} {ad : Nat → Nat} {ν : sw_N}   {N : Nat} {o : Int32} (g : sw_ok G cX8_fieldsWithin "DeadWires$Ways" (some .int) 3 0 0 ad) (hm : G.2.2.1.2.1.maxLocals = 5)  (μ : sw_M) (ho : sw_out G 0 0 (fun a => a = ad) (.inl (some (.int o))) lay0 μ ν)  : ∀ (n : Nat) (x2 : Int32) (x3 : Int32) (x4 : Int32) (h : f_ways_fieldsWithin_7 N  μ  n x2 x3 x4 = some o), SW G ad lay0 ν 0 0 7 [some (.ref 49), none, some (.int x2), some (.int x3), some (.int x4)] [] μ := by
  intro n
  induction n with
  | zero => intro x2 x3 x4 h; simp only [f_ways_fieldsWithin_7] at h; cases h
  | succ n ih =>
    intro x2 x3 x4 h
    unfold f_ways_fieldsWithin_7 at h
    refine SW.iload (pc := 7) g (dt dt_X8_fieldsWithin 6 rfl) rfl ?_
    refine SW.iload_n (pc := 9) g (dt dt_X8_fieldsWithin 7 rfl) rfl ?_
    refine SW.icmp_ge (pc := 10) (t := 43) g (dt dt_X8_fieldsWithin 8 rfl) rfl (fun hc => ?_) (fun hc => ?_)
    · have h := iteT hc h
      refine SW.iload_n (pc := 43) g (dt dt_X8_fieldsWithin 24 rfl) rfl ?_
      exact SW.ireturn (pc := 44) g (leafI h ho) rfl (Nat.le_of_ble_eq_true rfl) (Nat.le_of_ble_eq_true rfl) (dt dt_X8_fieldsWithin 25 rfl)
    · have h := iteF hc h
      refine SW.iload (pc := 13) g (dt dt_X8_fieldsWithin 9 rfl) rfl ?_
      refine SW.bipush (pc := 15) (v := 8) g (dt dt_X8_fieldsWithin 10 rfl) kb_8 ?_
      refine SW.icmp_ge (pc := 17) (t := 43) g (dt dt_X8_fieldsWithin 11 rfl) rfl (fun hc => ?_) (fun hc => ?_)
      · have h := iteT hc h
        refine SW.iload_n (pc := 43) g (dt dt_X8_fieldsWithin 24 rfl) rfl ?_
        exact SW.ireturn (pc := 44) g (leafI h ho) rfl (Nat.le_of_ble_eq_true rfl) (Nat.le_of_ble_eq_true rfl) (dt dt_X8_fieldsWithin 25 rfl)
      · have h := iteF hc h
        refine SW.aload_n (pc := 20) g (dt dt_X8_fieldsWithin 12 rfl) rfl ?_
        refine SW.iload_n (pc := 21) g (dt dt_X8_fieldsWithin 13 rfl) rfl ?_
        refine SW.aload_n (pc := 22) g (dt dt_X8_fieldsWithin 14 rfl) rfl ?_
        refine SW.getR (pc := 23) g (dt dt_X8_fieldsWithin 15 rfl) fl_X8_15 cell_49 rfl ?_
        refine SW.getI (pc := 26) g (dt dt_X8_fieldsWithin 16 rfl) fl_X8_49 cell_35 rfl ?_
        refine SW.iload (pc := 29) g (dt dt_X8_fieldsWithin 17 rfl) rfl ?_
        refine SW.iadd (pc := 31) g (dt dt_X8_fieldsWithin 18 rfl) ?_
        refine SW.iconst (pc := 32) (v := 0) g (dt dt_X8_fieldsWithin 19 rfl) ki_0 ?_
        obtain ⟨r1, h2, h⟩ := bindI h
        refine SW.callVi (pc := 33) g (dt dt_X8_fieldsWithin 20 rfl) (mt_f_ways_spread _ _ _ _ ad ν   N μ x3 ((μ 35 2) + x4) 0 r1 h2) me_X8_spread mv_X8_spread ml_X8_52 cell_49 rfl rfl (Nat.le_of_ble_eq_true rfl) (Nat.le_of_ble_eq_true rfl) (Nat.le_of_ble_eq_true rfl) (Nat.le_of_ble_eq_true rfl) rfl ?_
        refine SW.istore_n (pc := 36) g (dt dt_X8_fieldsWithin 21 rfl) (sw_ltm hm (Nat.le_of_ble_eq_true rfl)) rfl ?_
        refine SW.iinc (pc := 37) (v := x4 + 1) g (dt dt_X8_fieldsWithin 22 rfl) rfl (kn_1 _) (sw_ltm hm (Nat.le_of_ble_eq_true rfl)) rfl ?_
        refine SW.goto (pc := 40) (t := 7) g (dt dt_X8_fieldsWithin 23 rfl) rfl ?_
        refine SW.msk [true, false, true, true, true] ?_
        exact ih  x2 r1 (x4 + 1) h
set_option maxRecDepth 100000 in
set_option maxHeartbeats 4000000 in
theorem ok_f_ways_fieldsWithin {G : sw_G} {ad : Nat → Nat} {ν : sw_N}   {N : Nat} {o : Int32} (g : sw_ok G cX8_fieldsWithin "DeadWires$Ways" (some .int) 3 0 0 ad) (hm : G.2.2.1.2.1.maxLocals = 5)  (μ : sw_M) (ho : sw_out G 0 0 (fun a => a = ad) (.inl (some (.int o))) lay0 μ ν) (a1 : Int32) (a2 : Int32) (h : f_ways_fieldsWithin N  μ a1 a2 = some o) : SW G ad lay0 ν 0 0 0 [some (.ref 49), some (.int a1), some (.int a2), none, none] [] μ := by
  unfold f_ways_fieldsWithin at h
  refine SW.iconst (pc := 0) (v := 1) g (dt dt_X8_fieldsWithin 0 rfl) ki_1 ?_
  refine SW.iload_n (pc := 1) g (dt dt_X8_fieldsWithin 1 rfl) rfl ?_
  refine SW.ishl (pc := 2) g (dt dt_X8_fieldsWithin 2 rfl) ?_
  refine SW.istore_n (pc := 3) g (dt dt_X8_fieldsWithin 3 rfl) (sw_ltm hm (Nat.le_of_ble_eq_true rfl)) rfl ?_
  refine SW.genL h (fun y1 h => ?_)
  refine SW.iconst (pc := 4) (v := 0) g (dt dt_X8_fieldsWithin 4 rfl) ki_0 ?_
  refine SW.istore (pc := 5) g (dt dt_X8_fieldsWithin 5 rfl) (sw_ltm hm (Nat.le_of_ble_eq_true rfl)) rfl ?_
  refine SW.msk [true, false, true, true, true] ?_
  exact ok_f_ways_fieldsWithin_7  g hm  μ ho   N a2 y1 0 h
set_option maxRecDepth 100000 in
set_option maxHeartbeats 4000000 in
theorem mt_f_ways_fieldsWithin (l : Launch) (D : va_G) (cI cL : ClassId) (ad : Nat → Nat) (ν : sw_N)    (N : Nat) (μ : sw_M) (a1 : Int32) (a2 : Int32) (o : Int32) (h : f_ways_fieldsWithin N  μ a1 a2 = some o) : MetR l D cI cL yX8_fieldsWithin cX8_fieldsWithin 5 (some .int) 3 0 0 (fun a => a = ad) ad [.ref 49, .int a1, .int a2] lay0 μ ν (some (.int o)) lay0 μ ν :=
  MetR.of (n := 2) rfl (Nat.le_of_ble_eq_true rfl) (fun G g ho hm _ _ => ok_f_ways_fieldsWithin  g hm  μ ho a1 a2 h)
def f_guess_lost (N : Nat)  (μ : sw_M) (a1 : Int32) (a2 : Int32) (a3 : Int32) : Option (Int32) :=
  Option.bind (f_sx_at N 36 12 μ a1) (fun r1 =>
    ib ((μ 35 2) + a3) (fun y3 =>
      if y3 < r1 then
        some 0
      else
        if (r1 + a2) ≤ y3 then
          some 0
        else
          some 1))
set_option maxRecDepth 100000 in
set_option maxHeartbeats 4000000 in
theorem ok_f_guess_lost {G : sw_G} {ad : Nat → Nat} {ν : sw_N}   {N : Nat} {o : Int32} (g : sw_ok G cX3_lost "DeadWires$Guess" (some .int) 2 0 0 ad) (hm : G.2.2.1.2.1.maxLocals = 6)  (μ : sw_M) (ho : sw_out G 0 0 (fun a => a = ad) (.inl (some (.int o))) lay0 μ ν) (a1 : Int32) (a2 : Int32) (a3 : Int32) (h : f_guess_lost N  μ a1 a2 a3 = some o) : SW G ad lay0 ν 0 0 0 [some (.ref 51), some (.int a1), some (.int a2), some (.int a3), none, none] [] μ := by
  unfold f_guess_lost at h
  refine SW.aload_n (pc := 0) g (dt dt_X3_lost 0 rfl) rfl ?_
  refine SW.getR (pc := 1) g (dt dt_X3_lost 1 rfl) fl_X3_21 cell_51 rfl ?_
  refine SW.getR (pc := 4) g (dt dt_X3_lost 2 rfl) fl_X3_76 cell_35 rfl ?_
  refine SW.iload_n (pc := 7) g (dt dt_X3_lost 3 rfl) rfl ?_
  obtain ⟨r1, h2, h⟩ := bindI h
  refine SW.callSNi (pc := 8) g (dt dt_X3_lost 4 rfl) (mt_f_sx_at _ _ _ _ ad ν lay0 36 12 cell_36 N μ a1 r1 h2) me_X10_at ms_X10_at mn_X3_79 rfl (Nat.le_of_ble_eq_true rfl) (Nat.le_of_ble_eq_true rfl) (Nat.le_of_ble_eq_true rfl) (Nat.le_of_ble_eq_true rfl) rfl ?_
  refine SW.istore (pc := 11) g (dt dt_X3_lost 5 rfl) (sw_ltm hm (Nat.le_of_ble_eq_true rfl)) rfl ?_
  refine SW.aload_n (pc := 13) g (dt dt_X3_lost 6 rfl) rfl ?_
  refine SW.getR (pc := 14) g (dt dt_X3_lost 7 rfl) fl_X3_21 cell_51 rfl ?_
  refine SW.getI (pc := 17) g (dt dt_X3_lost 8 rfl) fl_X3_83 cell_35 rfl ?_
  refine SW.iload_n (pc := 20) g (dt dt_X3_lost 9 rfl) rfl ?_
  refine SW.iadd (pc := 21) g (dt dt_X3_lost 10 rfl) ?_
  refine SW.istore (pc := 22) g (dt dt_X3_lost 11 rfl) (sw_ltm hm (Nat.le_of_ble_eq_true rfl)) rfl ?_
  refine SW.genL h (fun y3 h => ?_)
  refine SW.iload (pc := 24) g (dt dt_X3_lost 12 rfl) rfl ?_
  refine SW.iload (pc := 26) g (dt dt_X3_lost 13 rfl) rfl ?_
  refine SW.icmp_lt (pc := 28) (t := 44) g (dt dt_X3_lost 14 rfl) rfl (fun hc => ?_) (fun hc => ?_)
  · have h := iteT hc h
    refine SW.iconst (pc := 44) (v := 0) g (dt dt_X3_lost 22 rfl) ki_0 ?_
    exact SW.ireturn (pc := 45) g (leafI h ho) rfl (Nat.le_of_ble_eq_true rfl) (Nat.le_of_ble_eq_true rfl) (dt dt_X3_lost 23 rfl)
  · have h := iteF hc h
    refine SW.iload (pc := 31) g (dt dt_X3_lost 15 rfl) rfl ?_
    refine SW.iload (pc := 33) g (dt dt_X3_lost 16 rfl) rfl ?_
    refine SW.iload_n (pc := 35) g (dt dt_X3_lost 17 rfl) rfl ?_
    refine SW.iadd (pc := 36) g (dt dt_X3_lost 18 rfl) ?_
    refine SW.icmp_ge (pc := 37) (t := 44) g (dt dt_X3_lost 19 rfl) rfl (fun hc => ?_) (fun hc => ?_)
    · have h := iteT hc h
      refine SW.iconst (pc := 44) (v := 0) g (dt dt_X3_lost 22 rfl) ki_0 ?_
      exact SW.ireturn (pc := 45) g (leafI h ho) rfl (Nat.le_of_ble_eq_true rfl) (Nat.le_of_ble_eq_true rfl) (dt dt_X3_lost 23 rfl)
    · have h := iteF hc h
      refine SW.iconst (pc := 40) (v := 1) g (dt dt_X3_lost 20 rfl) ki_1 ?_
      refine SW.goto (pc := 41) (t := 45) g (dt dt_X3_lost 21 rfl) rfl ?_
      exact SW.ireturn (pc := 45) g (leafI h ho) rfl (Nat.le_of_ble_eq_true rfl) (Nat.le_of_ble_eq_true rfl) (dt dt_X3_lost 23 rfl)
set_option maxRecDepth 100000 in
set_option maxHeartbeats 4000000 in
theorem mt_f_guess_lost (l : Launch) (D : va_G) (cI cL : ClassId) (ad : Nat → Nat) (ν : sw_N)    (N : Nat) (μ : sw_M) (a1 : Int32) (a2 : Int32) (a3 : Int32) (o : Int32) (h : f_guess_lost N  μ a1 a2 a3 = some o) : MetR l D cI cL yX3_lost cX3_lost 6 (some .int) 2 0 0 (fun a => a = ad) ad [.ref 51, .int a1, .int a2, .int a3] lay0 μ ν (some (.int o)) lay0 μ ν :=
  MetR.of (n := 2) rfl (Nat.le_of_ble_eq_true rfl) (fun G g ho hm _ _ => ok_f_guess_lost  g hm  μ ho a1 a2 a3 h)
def f_guess_agrees_2 (N : Nat)  (μ : sw_M)  : Nat → Int32 → Int32 → Int32 → Option (Int32)
  | 0, _, _, _ => none
  | n + 1, x1, x2, x3 =>
    if (μ 29 0) ≤ x3 then
      some 1
    else
      inb x3 8 (
        Option.bind (f_guess_lost N  μ x1 x2 (μ 30 x3.toNatClampNeg)) (fun r2 =>
          inb x3 8 (
            if r2 = (μ 54 x3.toNatClampNeg) then
              f_guess_agrees_2 N  μ  n x1 x2 (x3 + 1)
            else
              some 0)))
def f_guess_agrees (N : Nat)  (μ : sw_M) (a1 : Int32) (a2 : Int32) : Option (Int32) :=
  f_guess_agrees_2 N  μ  N a1 a2 0
set_option maxRecDepth 100000 in
set_option maxHeartbeats 4000000 in
theorem ok_f_guess_agrees_2 {G : sw_G} {ad : Nat → Nat} {ν : sw_N}   {N : Nat} {o : Int32} (g : sw_ok G cX3_agrees "DeadWires$Guess" (some .boolean) 3 0 0 ad) (hm : G.2.2.1.2.1.maxLocals = 4)  (μ : sw_M) (ho : sw_out G 0 0 (fun a => a = ad) (.inl (some (.int o))) lay0 μ ν)  : ∀ (n : Nat) (x1 : Int32) (x2 : Int32) (x3 : Int32) (h : f_guess_agrees_2 N  μ  n x1 x2 x3 = some o), SW G ad lay0 ν 0 0 2 [some (.ref 51), some (.int x1), some (.int x2), some (.int x3)] [] μ := by
  intro n
  induction n with
  | zero => intro x1 x2 x3 h; simp only [f_guess_agrees_2] at h; cases h
  | succ n ih =>
    intro x1 x2 x3 h
    unfold f_guess_agrees_2 at h
    refine SW.iload_n (pc := 2) g (dt dt_X3_agrees 2 rfl) rfl ?_
    refine SW.aload_n (pc := 3) g (dt dt_X3_agrees 3 rfl) rfl ?_
    refine SW.getR (pc := 4) g (dt dt_X3_agrees 4 rfl) fl_X3_25 cell_51 rfl ?_
    refine SW.getI (pc := 7) g (dt dt_X3_agrees 5 rfl) fl_X3_33 cell_29 rfl ?_
    refine SW.icmp_ge (pc := 10) (t := 45) g (dt dt_X3_agrees 6 rfl) rfl (fun hc => ?_) (fun hc => ?_)
    · have h := iteT hc h
      refine SW.iconst (pc := 45) (v := 1) g (dt dt_X3_agrees 25 rfl) ki_1 ?_
      exact SW.zreturn (pc := 46) g (leafI h ho) rfl (Nat.le_of_ble_eq_true rfl) (Nat.le_of_ble_eq_true rfl) (by decide) (dt dt_X3_agrees 26 rfl)
    · have h := iteF hc h
      refine SW.aload_n (pc := 13) g (dt dt_X3_agrees 7 rfl) rfl ?_
      refine SW.iload_n (pc := 14) g (dt dt_X3_agrees 8 rfl) rfl ?_
      refine SW.iload_n (pc := 15) g (dt dt_X3_agrees 9 rfl) rfl ?_
      refine SW.aload_n (pc := 16) g (dt dt_X3_agrees 10 rfl) rfl ?_
      refine SW.getR (pc := 17) g (dt dt_X3_agrees 11 rfl) fl_X3_25 cell_51 rfl ?_
      refine SW.getR (pc := 20) g (dt dt_X3_agrees 12 rfl) fl_X3_38 cell_29 rfl ?_
      refine SW.iload_n (pc := 23) g (dt dt_X3_agrees 13 rfl) rfl ?_
      obtain ⟨hb1, h⟩ := inbI h
      refine SW.iaload (pc := 24) g (dt dt_X3_agrees 14 rfl) cell_30 hb1 ?_
      obtain ⟨r2, h3, h⟩ := bindI h
      refine SW.callVi (pc := 25) g (dt dt_X3_agrees 15 rfl) (mt_f_guess_lost _ _ _ _ ad ν   N μ x1 x2 (μ 30 x3.toNatClampNeg) r2 h3) me_X3_lost mv_X3_lost ml_X3_72 cell_51 rfl rfl (Nat.le_of_ble_eq_true rfl) (Nat.le_of_ble_eq_true rfl) (Nat.le_of_ble_eq_true rfl) (Nat.le_of_ble_eq_true rfl) rfl ?_
      refine SW.aload_n (pc := 28) g (dt dt_X3_agrees 16 rfl) rfl ?_
      refine SW.getR (pc := 29) g (dt dt_X3_agrees 17 rfl) fl_X3_18 cell_51 rfl ?_
      refine SW.iload_n (pc := 32) g (dt dt_X3_agrees 18 rfl) rfl ?_
      obtain ⟨hb4, h⟩ := inbI h
      refine SW.iaload (pc := 33) g (dt dt_X3_agrees 19 rfl) cell_54 hb4 ?_
      refine SW.icmp_eq (pc := 34) (t := 39) g (dt dt_X3_agrees 20 rfl) rfl (fun hc => ?_) (fun hc => ?_)
      · have h := iteT hc h
        refine SW.iinc (pc := 39) (v := x3 + 1) g (dt dt_X3_agrees 23 rfl) rfl (kn_1 _) (sw_ltm hm (Nat.le_of_ble_eq_true rfl)) rfl ?_
        refine SW.goto (pc := 42) (t := 2) g (dt dt_X3_agrees 24 rfl) rfl ?_
        refine SW.msk [true, true, true, true] ?_
        exact ih  x1 x2 (x3 + 1) h
      · have h := iteF hc h
        refine SW.iconst (pc := 37) (v := 0) g (dt dt_X3_agrees 21 rfl) ki_0 ?_
        exact SW.zreturn (pc := 38) g (leafI h ho) rfl (Nat.le_of_ble_eq_true rfl) (Nat.le_of_ble_eq_true rfl) (by decide) (dt dt_X3_agrees 22 rfl)
set_option maxRecDepth 100000 in
set_option maxHeartbeats 4000000 in
theorem ok_f_guess_agrees {G : sw_G} {ad : Nat → Nat} {ν : sw_N}   {N : Nat} {o : Int32} (g : sw_ok G cX3_agrees "DeadWires$Guess" (some .boolean) 3 0 0 ad) (hm : G.2.2.1.2.1.maxLocals = 4)  (μ : sw_M) (ho : sw_out G 0 0 (fun a => a = ad) (.inl (some (.int o))) lay0 μ ν) (a1 : Int32) (a2 : Int32) (h : f_guess_agrees N  μ a1 a2 = some o) : SW G ad lay0 ν 0 0 0 [some (.ref 51), some (.int a1), some (.int a2), none] [] μ := by
  unfold f_guess_agrees at h
  refine SW.iconst (pc := 0) (v := 0) g (dt dt_X3_agrees 0 rfl) ki_0 ?_
  refine SW.istore_n (pc := 1) g (dt dt_X3_agrees 1 rfl) (sw_ltm hm (Nat.le_of_ble_eq_true rfl)) rfl ?_
  refine SW.msk [true, true, true, true] ?_
  exact ok_f_guess_agrees_2  g hm  μ ho   N a1 a2 0 h
set_option maxRecDepth 100000 in
set_option maxHeartbeats 4000000 in
theorem mt_f_guess_agrees (l : Launch) (D : va_G) (cI cL : ClassId) (ad : Nat → Nat) (ν : sw_N)    (N : Nat) (μ : sw_M) (a1 : Int32) (a2 : Int32) (o : Int32) (h : f_guess_agrees N  μ a1 a2 = some o) : MetR l D cI cL yX3_agrees cX3_agrees 4 (some .boolean) 3 0 0 (fun a => a = ad) ad [.ref 51, .int a1, .int a2] lay0 μ ν (some (.int o)) lay0 μ ν :=
  MetR.of (n := 1) rfl (Nat.le_of_ble_eq_true rfl) (fun G g ho hm _ _ => ok_f_guess_agrees  g hm  μ ho a1 a2 h)
def f_guess_collect_77 (N : Nat)  (k_61 : sw_M → Int32 → Option (sw_M)) : Nat → sw_M → Int32 → Int32 → Option (sw_M)
  | 0, _, _, _ => none
  | n + 1, μ, x1, x2 =>
    if 20 < x2 then
      k_61 μ (x1 + 1)
    else
      Option.bind (f_days_isCut N  μ x1) (fun r1 =>
        if r1 = 0 then
          Option.bind (f_guess_agrees N  μ x1 x2) (fun r3 =>
            if r3 = 0 then
              f_guess_collect_77 N  k_61 n μ x1 (x2 + 1)
            else
              if 240 ≤ (μ 51 5) then
                f_guess_collect_77 N  k_61 n μ x1 (x2 + 1)
              else
                inb (μ 51 5) 240 (wb (wr μ 52 (μ 51 5).toNatClampNeg x1) (fun μ6 =>
                  inb (μ6 51 5) 240 (wb (wr μ6 53 (μ6 51 5).toNatClampNeg x2) (fun μ8 =>
                    wb (wr μ8 51 5 ((μ8 51 5) + 1)) (fun μ9 =>
                      f_guess_collect_77 N  k_61 n μ9 x1 (x2 + 1)))))))
        else
          f_guess_collect_77 N  k_61 n μ x1 (x2 + 1))
def f_guess_collect_61 (N : Nat)   : Nat → sw_M → Int32 → Option (sw_M)
  | 0, _, _ => none
  | n + 1, μ, x1 =>
    if (μ 3 1) ≤ x1 then
      some μ
    else
      f_guess_collect_77 N  (f_guess_collect_61 N   n) N μ x1 1
def f_guess_collect_7 (N : Nat)   : Nat → sw_M → Int32 → Option (sw_M)
  | 0, _, _ => none
  | n + 1, μ, x1 =>
    if (μ 29 0) ≤ x1 then
      f_guess_collect_61 N   N μ 0
    else
      inb x1 8 (
        Option.bind (f_days_liveBits N  μ (μ 30 x1.toNatClampNeg)) (fun r2 =>
          Option.bind (f_jd_bitCount N  μ r2) (fun r4 =>
            inb x1 8 (
              inb x1 8 (wb (wr μ 54 x1.toNatClampNeg (r4 - (μ 31 x1.toNatClampNeg))) (fun μ8 =>
                f_guess_collect_7 N   n μ8 (x1 + 1)))))))
def f_guess_collect (N : Nat)  (μ : sw_M)  : Option (sw_M) :=
  wb (wr μ 51 5 0) (fun μ1 =>
    f_guess_collect_7 N   N μ1 0)
set_option maxRecDepth 100000 in
set_option maxHeartbeats 4000000 in
theorem ok_f_guess_collect_77 {G : sw_G} {ad : Nat → Nat} {ν : sw_N}   {N : Nat} {o : sw_M} (g : sw_ok G cX3_collect "DeadWires$Guess" none 4 0 0 ad) (hm : G.2.2.1.2.1.maxLocals = 3)  (ho : sw_out G 0 0 (fun a => a = ad) (.inl none) lay0 o ν) (k_61 : sw_M → Int32 → Option (sw_M)) (hk_61 : ∀ (μ : sw_M) (x1 : Int32), k_61 μ x1 = some o → SW G ad lay0 ν 0 0 61 [some (.ref 51), some (.int x1), none] [] μ) : ∀ (n : Nat) (μ : sw_M) (x1 : Int32) (x2 : Int32) (h : f_guess_collect_77 N  k_61 n μ x1 x2 = some o), SW G ad lay0 ν 0 0 77 [some (.ref 51), some (.int x1), some (.int x2)] [] μ := by
  intro n
  induction n with
  | zero => intro μ x1 x2 h; simp only [f_guess_collect_77] at h; cases h
  | succ n ih =>
    intro μ x1 x2 h
    unfold f_guess_collect_77 at h
    refine SW.iload_n (pc := 77) g (dt dt_X3_collect 41 rfl) rfl ?_
    refine SW.bipush (pc := 78) (v := 20) g (dt dt_X3_collect 42 rfl) kb_20 ?_
    refine SW.icmp_gt (pc := 80) (t := 149) g (dt dt_X3_collect 43 rfl) rfl (fun hc => ?_) (fun hc => ?_)
    · have h := iteT hc h
      refine SW.iinc (pc := 149) (v := x1 + 1) g (dt dt_X3_collect 78 rfl) rfl (kn_1 _) (sw_ltm hm (Nat.le_of_ble_eq_true rfl)) rfl ?_
      refine SW.goto (pc := 152) (t := 61) g (dt dt_X3_collect 79 rfl) rfl ?_
      refine SW.msk [true, true, false] ?_
      exact hk_61 μ (x1 + 1) h
    · have h := iteF hc h
      refine SW.aload_n (pc := 83) g (dt dt_X3_collect 44 rfl) rfl ?_
      refine SW.getR (pc := 84) g (dt dt_X3_collect 45 rfl) fl_X3_21 cell_51 rfl ?_
      refine SW.iload_n (pc := 87) g (dt dt_X3_collect 46 rfl) rfl ?_
      obtain ⟨r1, h2, h⟩ := bindI h
      refine SW.callVi (pc := 88) g (dt dt_X3_collect 47 rfl) (mt_f_days_isCut _ _ _ _ ad ν   N μ x1 r1 h2) me_X2_isCut mv_X2_isCut ml_X3_64 cell_35 rfl rfl (Nat.le_of_ble_eq_true rfl) (Nat.le_of_ble_eq_true rfl) (Nat.le_of_ble_eq_true rfl) (Nat.le_of_ble_eq_true rfl) rfl ?_
      refine SW.if_ne (pc := 91) (t := 143) g (dt dt_X3_collect 48 rfl) rfl (fun hc => ?_) (fun hc => ?_)
      · have h := iteF hc h
        refine SW.iinc (pc := 143) (v := x2 + 1) g (dt dt_X3_collect 76 rfl) rfl (kn_1 _) (sw_ltm hm (Nat.le_of_ble_eq_true rfl)) rfl ?_
        refine SW.goto (pc := 146) (t := 77) g (dt dt_X3_collect 77 rfl) rfl ?_
        refine SW.msk [true, true, true] ?_
        exact ih μ x1 (x2 + 1) h
      · have h := iteT hc h
        refine SW.aload_n (pc := 94) g (dt dt_X3_collect 49 rfl) rfl ?_
        refine SW.iload_n (pc := 95) g (dt dt_X3_collect 50 rfl) rfl ?_
        refine SW.iload_n (pc := 96) g (dt dt_X3_collect 51 rfl) rfl ?_
        obtain ⟨r3, h4, h⟩ := bindI h
        refine SW.callVi (pc := 97) g (dt dt_X3_collect 52 rfl) (mt_f_guess_agrees _ _ _ _ ad ν   N μ x1 x2 r3 h4) me_X3_agrees mv_X3_agrees ml_X3_68 cell_51 rfl rfl (Nat.le_of_ble_eq_true rfl) (Nat.le_of_ble_eq_true rfl) (Nat.le_of_ble_eq_true rfl) (Nat.le_of_ble_eq_true rfl) rfl ?_
        refine SW.if_eq (pc := 100) (t := 143) g (dt dt_X3_collect 53 rfl) rfl (fun hc => ?_) (fun hc => ?_)
        · have h := iteT hc h
          refine SW.iinc (pc := 143) (v := x2 + 1) g (dt dt_X3_collect 76 rfl) rfl (kn_1 _) (sw_ltm hm (Nat.le_of_ble_eq_true rfl)) rfl ?_
          refine SW.goto (pc := 146) (t := 77) g (dt dt_X3_collect 77 rfl) rfl ?_
          refine SW.msk [true, true, true] ?_
          exact ih μ x1 (x2 + 1) h
        · have h := iteF hc h
          refine SW.aload_n (pc := 103) g (dt dt_X3_collect 54 rfl) rfl ?_
          refine SW.getI (pc := 104) g (dt dt_X3_collect 55 rfl) fl_X3_29 cell_51 rfl ?_
          refine SW.sipush (pc := 107) (v := 240) g (dt dt_X3_collect 56 rfl) ks_240 ?_
          refine SW.icmp_ge (pc := 110) (t := 143) g (dt dt_X3_collect 57 rfl) rfl (fun hc => ?_) (fun hc => ?_)
          · have h := iteT hc h
            refine SW.iinc (pc := 143) (v := x2 + 1) g (dt dt_X3_collect 76 rfl) rfl (kn_1 _) (sw_ltm hm (Nat.le_of_ble_eq_true rfl)) rfl ?_
            refine SW.goto (pc := 146) (t := 77) g (dt dt_X3_collect 77 rfl) rfl ?_
            refine SW.msk [true, true, true] ?_
            exact ih μ x1 (x2 + 1) h
          · have h := iteF hc h
            refine SW.aload_n (pc := 113) g (dt dt_X3_collect 58 rfl) rfl ?_
            refine SW.getR (pc := 114) g (dt dt_X3_collect 59 rfl) fl_X3_11 cell_51 rfl ?_
            refine SW.aload_n (pc := 117) g (dt dt_X3_collect 60 rfl) rfl ?_
            refine SW.getI (pc := 118) g (dt dt_X3_collect 61 rfl) fl_X3_29 cell_51 rfl ?_
            refine SW.iload_n (pc := 121) g (dt dt_X3_collect 62 rfl) rfl ?_
            obtain ⟨hb5, h⟩ := inbI h
            refine SW.iastore (pc := 122) g (dt dt_X3_collect 63 rfl) cell_52 hb5 ?_
            refine SW.genM h (fun μ6 h => ?_)
            refine SW.aload_n (pc := 123) g (dt dt_X3_collect 64 rfl) rfl ?_
            refine SW.getR (pc := 124) g (dt dt_X3_collect 65 rfl) fl_X3_15 cell_51 rfl ?_
            refine SW.aload_n (pc := 127) g (dt dt_X3_collect 66 rfl) rfl ?_
            refine SW.getI (pc := 128) g (dt dt_X3_collect 67 rfl) fl_X3_29 cell_51 rfl ?_
            refine SW.iload_n (pc := 131) g (dt dt_X3_collect 68 rfl) rfl ?_
            obtain ⟨hb7, h⟩ := inbI h
            refine SW.iastore (pc := 132) g (dt dt_X3_collect 69 rfl) cell_53 hb7 ?_
            refine SW.genM h (fun μ8 h => ?_)
            refine SW.aload_n (pc := 133) g (dt dt_X3_collect 70 rfl) rfl ?_
            refine SW.dup (pc := 134) g (dt dt_X3_collect 71 rfl) rfl ?_
            refine SW.getI (pc := 135) g (dt dt_X3_collect 72 rfl) fl_X3_29 cell_51 rfl ?_
            refine SW.iconst (pc := 138) (v := 1) g (dt dt_X3_collect 73 rfl) ki_1 ?_
            refine SW.iadd (pc := 139) g (dt dt_X3_collect 74 rfl) ?_
            refine SW.putI (pc := 140) g (dt dt_X3_collect 75 rfl) fl_X3_29 cell_51 rfl ?_
            refine SW.genM h (fun μ9 h => ?_)
            refine SW.iinc (pc := 143) (v := x2 + 1) g (dt dt_X3_collect 76 rfl) rfl (kn_1 _) (sw_ltm hm (Nat.le_of_ble_eq_true rfl)) rfl ?_
            refine SW.goto (pc := 146) (t := 77) g (dt dt_X3_collect 77 rfl) rfl ?_
            refine SW.msk [true, true, true] ?_
            exact ih μ9 x1 (x2 + 1) h
set_option maxRecDepth 100000 in
set_option maxHeartbeats 4000000 in
theorem ok_f_guess_collect_61 {G : sw_G} {ad : Nat → Nat} {ν : sw_N}   {N : Nat} {o : sw_M} (g : sw_ok G cX3_collect "DeadWires$Guess" none 4 0 0 ad) (hm : G.2.2.1.2.1.maxLocals = 3)  (ho : sw_out G 0 0 (fun a => a = ad) (.inl none) lay0 o ν)  : ∀ (n : Nat) (μ : sw_M) (x1 : Int32) (h : f_guess_collect_61 N   n μ x1 = some o), SW G ad lay0 ν 0 0 61 [some (.ref 51), some (.int x1), none] [] μ := by
  intro n
  induction n with
  | zero => intro μ x1 h; simp only [f_guess_collect_61] at h; cases h
  | succ n ih =>
    intro μ x1 h
    unfold f_guess_collect_61 at h
    refine SW.iload_n (pc := 61) g (dt dt_X3_collect 33 rfl) rfl ?_
    refine SW.aload_n (pc := 62) g (dt dt_X3_collect 34 rfl) rfl ?_
    refine SW.getR (pc := 63) g (dt dt_X3_collect 35 rfl) fl_X3_21 cell_51 rfl ?_
    refine SW.getR (pc := 66) g (dt dt_X3_collect 36 rfl) fl_X3_55 cell_35 rfl ?_
    refine SW.getI (pc := 69) g (dt dt_X3_collect 37 rfl) fl_X3_59 cell_3 rfl ?_
    refine SW.icmp_ge (pc := 72) (t := 155) g (dt dt_X3_collect 38 rfl) rfl (fun hc => ?_) (fun hc => ?_)
    · have h := iteT hc h
      exact SW.vreturn (pc := 155) g (leafV h ho) rfl (Nat.le_of_ble_eq_true rfl) (Nat.le_of_ble_eq_true rfl) (dt dt_X3_collect 80 rfl)
    · have h := iteF hc h
      refine SW.iconst (pc := 75) (v := 1) g (dt dt_X3_collect 39 rfl) ki_1 ?_
      refine SW.istore_n (pc := 76) g (dt dt_X3_collect 40 rfl) (sw_ltm hm (Nat.le_of_ble_eq_true rfl)) rfl ?_
      refine SW.msk [true, true, true] ?_
      exact ok_f_guess_collect_77  g hm  ho (f_guess_collect_61 N   n) ih N μ x1 1 h
set_option maxRecDepth 100000 in
set_option maxHeartbeats 4000000 in
theorem ok_f_guess_collect_7 {G : sw_G} {ad : Nat → Nat} {ν : sw_N}   {N : Nat} {o : sw_M} (g : sw_ok G cX3_collect "DeadWires$Guess" none 4 0 0 ad) (hm : G.2.2.1.2.1.maxLocals = 3)  (ho : sw_out G 0 0 (fun a => a = ad) (.inl none) lay0 o ν)  : ∀ (n : Nat) (μ : sw_M) (x1 : Int32) (h : f_guess_collect_7 N   n μ x1 = some o), SW G ad lay0 ν 0 0 7 [some (.ref 51), some (.int x1), none] [] μ := by
  intro n
  induction n with
  | zero => intro μ x1 h; simp only [f_guess_collect_7] at h; cases h
  | succ n ih =>
    intro μ x1 h
    unfold f_guess_collect_7 at h
    refine SW.iload_n (pc := 7) g (dt dt_X3_collect 5 rfl) rfl ?_
    refine SW.aload_n (pc := 8) g (dt dt_X3_collect 6 rfl) rfl ?_
    refine SW.getR (pc := 9) g (dt dt_X3_collect 7 rfl) fl_X3_25 cell_51 rfl ?_
    refine SW.getI (pc := 12) g (dt dt_X3_collect 8 rfl) fl_X3_33 cell_29 rfl ?_
    refine SW.icmp_ge (pc := 15) (t := 59) g (dt dt_X3_collect 9 rfl) rfl (fun hc => ?_) (fun hc => ?_)
    · have h := iteT hc h
      refine SW.iconst (pc := 59) (v := 0) g (dt dt_X3_collect 31 rfl) ki_0 ?_
      refine SW.istore_n (pc := 60) g (dt dt_X3_collect 32 rfl) (sw_ltm hm (Nat.le_of_ble_eq_true rfl)) rfl ?_
      refine SW.msk [true, true, false] ?_
      exact ok_f_guess_collect_61  g hm  ho   N μ 0 h
    · have h := iteF hc h
      refine SW.aload_n (pc := 18) g (dt dt_X3_collect 10 rfl) rfl ?_
      refine SW.getR (pc := 19) g (dt dt_X3_collect 11 rfl) fl_X3_18 cell_51 rfl ?_
      refine SW.iload_n (pc := 22) g (dt dt_X3_collect 12 rfl) rfl ?_
      refine SW.aload_n (pc := 23) g (dt dt_X3_collect 13 rfl) rfl ?_
      refine SW.getR (pc := 24) g (dt dt_X3_collect 14 rfl) fl_X3_21 cell_51 rfl ?_
      refine SW.aload_n (pc := 27) g (dt dt_X3_collect 15 rfl) rfl ?_
      refine SW.getR (pc := 28) g (dt dt_X3_collect 16 rfl) fl_X3_25 cell_51 rfl ?_
      refine SW.getR (pc := 31) g (dt dt_X3_collect 17 rfl) fl_X3_38 cell_29 rfl ?_
      refine SW.iload_n (pc := 34) g (dt dt_X3_collect 18 rfl) rfl ?_
      obtain ⟨hb1, h⟩ := inbI h
      refine SW.iaload (pc := 35) g (dt dt_X3_collect 19 rfl) cell_30 hb1 ?_
      obtain ⟨r2, h3, h⟩ := bindI h
      refine SW.callVi (pc := 36) g (dt dt_X3_collect 20 rfl) (mt_f_days_liveBits _ _ _ _ ad ν   N μ (μ 30 x1.toNatClampNeg) r2 h3) me_X2_liveBits mv_X2_liveBits ml_X3_41 cell_35 rfl rfl (Nat.le_of_ble_eq_true rfl) (Nat.le_of_ble_eq_true rfl) (Nat.le_of_ble_eq_true rfl) (Nat.le_of_ble_eq_true rfl) rfl ?_
      obtain ⟨r4, h5, h⟩ := bindI h
      refine SW.callSi (pc := 39) g (dt dt_X3_collect 21 rfl) (mt_f_jd_bitCount _ _ _ _ ad ν lay0   N μ r2 r4 h5) me_J6_bitCount_0f7a4 ms_J6_bitCount_0f7a4 ml_X3_47 rfl (Nat.le_of_ble_eq_true rfl) (Nat.le_of_ble_eq_true rfl) (Nat.le_of_ble_eq_true rfl) (Nat.le_of_ble_eq_true rfl) rfl ?_
      refine SW.aload_n (pc := 42) g (dt dt_X3_collect 22 rfl) rfl ?_
      refine SW.getR (pc := 43) g (dt dt_X3_collect 23 rfl) fl_X3_25 cell_51 rfl ?_
      refine SW.getR (pc := 46) g (dt dt_X3_collect 24 rfl) fl_X3_52 cell_29 rfl ?_
      refine SW.iload_n (pc := 49) g (dt dt_X3_collect 25 rfl) rfl ?_
      obtain ⟨hb6, h⟩ := inbI h
      refine SW.iaload (pc := 50) g (dt dt_X3_collect 26 rfl) cell_31 hb6 ?_
      refine SW.isub (pc := 51) g (dt dt_X3_collect 27 rfl) ?_
      obtain ⟨hb7, h⟩ := inbI h
      refine SW.iastore (pc := 52) g (dt dt_X3_collect 28 rfl) cell_54 hb7 ?_
      refine SW.genM h (fun μ8 h => ?_)
      refine SW.iinc (pc := 53) (v := x1 + 1) g (dt dt_X3_collect 29 rfl) rfl (kn_1 _) (sw_ltm hm (Nat.le_of_ble_eq_true rfl)) rfl ?_
      refine SW.goto (pc := 56) (t := 7) g (dt dt_X3_collect 30 rfl) rfl ?_
      refine SW.msk [true, true, false] ?_
      exact ih μ8 (x1 + 1) h
set_option maxRecDepth 100000 in
set_option maxHeartbeats 4000000 in
theorem ok_f_guess_collect {G : sw_G} {ad : Nat → Nat} {ν : sw_N}   {N : Nat} {o : sw_M} (g : sw_ok G cX3_collect "DeadWires$Guess" none 4 0 0 ad) (hm : G.2.2.1.2.1.maxLocals = 3)  (μ : sw_M) (ho : sw_out G 0 0 (fun a => a = ad) (.inl none) lay0 o ν)  (h : f_guess_collect N  μ  = some o) : SW G ad lay0 ν 0 0 0 [some (.ref 51), none, none] [] μ := by
  unfold f_guess_collect at h
  refine SW.aload_n (pc := 0) g (dt dt_X3_collect 0 rfl) rfl ?_
  refine SW.iconst (pc := 1) (v := 0) g (dt dt_X3_collect 1 rfl) ki_0 ?_
  refine SW.putI (pc := 2) g (dt dt_X3_collect 2 rfl) fl_X3_29 cell_51 rfl ?_
  refine SW.genM h (fun μ1 h => ?_)
  refine SW.iconst (pc := 5) (v := 0) g (dt dt_X3_collect 3 rfl) ki_0 ?_
  refine SW.istore_n (pc := 6) g (dt dt_X3_collect 4 rfl) (sw_ltm hm (Nat.le_of_ble_eq_true rfl)) rfl ?_
  refine SW.msk [true, true, false] ?_
  exact ok_f_guess_collect_7  g hm  ho   N μ1 0 h
set_option maxRecDepth 100000 in
set_option maxHeartbeats 4000000 in
theorem mt_f_guess_collect (l : Launch) (D : va_G) (cI cL : ClassId) (ad : Nat → Nat) (ν : sw_N)    (N : Nat) (μ : sw_M)  (o : sw_M) (h : f_guess_collect N  μ  = some o) : MetR l D cI cL yX3_collect cX3_collect 3 none 4 0 0 (fun a => a = ad) ad [.ref 51] lay0 μ ν none lay0 o ν :=
  MetR.of (n := 2) rfl (Nat.le_of_ble_eq_true rfl) (fun G g ho hm _ _ => ok_f_guess_collect  g hm  μ ho  h)
def f_guess_firstPair (N : Nat)  (μ : sw_M)  : Option (Int32) :=
  if (μ 51 5) = 0 then
    some (-1)
  else
    inb 0 240 (
      inb 0 240 (
        some (((100 : Int32) * (μ 52 (0 : Int32).toNatClampNeg)) + (μ 53 (0 : Int32).toNatClampNeg))))
set_option maxRecDepth 100000 in
set_option maxHeartbeats 4000000 in
theorem ok_f_guess_firstPair {G : sw_G} {ad : Nat → Nat} {ν : sw_N}   {N : Nat} {o : Int32} (g : sw_ok G cX3_firstPair "DeadWires$Guess" (some .int) 1 0 0 ad) (hm : G.2.2.1.2.1.maxLocals = 1)  (μ : sw_M) (ho : sw_out G 0 0 (fun a => a = ad) (.inl (some (.int o))) lay0 μ ν)  (h : f_guess_firstPair N  μ  = some o) : SW G ad lay0 ν 0 0 0 [some (.ref 51)] [] μ := by
  unfold f_guess_firstPair at h
  refine SW.aload_n (pc := 0) g (dt dt_X3_firstPair 0 rfl) rfl ?_
  refine SW.getI (pc := 1) g (dt dt_X3_firstPair 1 rfl) fl_X3_29 cell_51 rfl ?_
  refine SW.if_ne (pc := 4) (t := 11) g (dt dt_X3_firstPair 2 rfl) rfl (fun hc => ?_) (fun hc => ?_)
  · have h := iteF hc h
    refine SW.bipush (pc := 11) (v := 100) g (dt dt_X3_firstPair 5 rfl) kb_100 ?_
    refine SW.aload_n (pc := 13) g (dt dt_X3_firstPair 6 rfl) rfl ?_
    refine SW.getR (pc := 14) g (dt dt_X3_firstPair 7 rfl) fl_X3_11 cell_51 rfl ?_
    refine SW.iconst (pc := 17) (v := 0) g (dt dt_X3_firstPair 8 rfl) ki_0 ?_
    obtain ⟨hb1, h⟩ := inbI h
    refine SW.iaload (pc := 18) g (dt dt_X3_firstPair 9 rfl) cell_52 hb1 ?_
    refine SW.imul (pc := 19) g (dt dt_X3_firstPair 10 rfl) ?_
    refine SW.aload_n (pc := 20) g (dt dt_X3_firstPair 11 rfl) rfl ?_
    refine SW.getR (pc := 21) g (dt dt_X3_firstPair 12 rfl) fl_X3_15 cell_51 rfl ?_
    refine SW.iconst (pc := 24) (v := 0) g (dt dt_X3_firstPair 13 rfl) ki_0 ?_
    obtain ⟨hb2, h⟩ := inbI h
    refine SW.iaload (pc := 25) g (dt dt_X3_firstPair 14 rfl) cell_53 hb2 ?_
    refine SW.iadd (pc := 26) g (dt dt_X3_firstPair 15 rfl) ?_
    exact SW.ireturn (pc := 27) g (leafI h ho) rfl (Nat.le_of_ble_eq_true rfl) (Nat.le_of_ble_eq_true rfl) (dt dt_X3_firstPair 16 rfl)
  · have h := iteT hc h
    refine SW.iconst (pc := 7) (v := (-1)) g (dt dt_X3_firstPair 3 rfl) ki_m1 ?_
    refine SW.goto (pc := 8) (t := 27) g (dt dt_X3_firstPair 4 rfl) rfl ?_
    exact SW.ireturn (pc := 27) g (leafI h ho) rfl (Nat.le_of_ble_eq_true rfl) (Nat.le_of_ble_eq_true rfl) (dt dt_X3_firstPair 16 rfl)
set_option maxRecDepth 100000 in
set_option maxHeartbeats 4000000 in
theorem mt_f_guess_firstPair (l : Launch) (D : va_G) (cI cL : ClassId) (ad : Nat → Nat) (ν : sw_N)    (N : Nat) (μ : sw_M)  (o : Int32) (h : f_guess_firstPair N  μ  = some o) : MetR l D cI cL yX3_firstPair cX3_firstPair 1 (some .int) 1 0 0 (fun a => a = ad) ad [.ref 51] lay0 μ ν (some (.int o)) lay0 μ ν :=
  MetR.of (n := 0) rfl (Nat.le_of_ble_eq_true rfl) (fun G g ho hm _ _ => ok_f_guess_firstPair  g hm  μ ho  h)
def f_book_tells_2 (N : Nat)  (μ : sw_M)  : Nat → Int32 → Int32 → Option (Int32)
  | 0, _, _ => none
  | n + 1, x1, x2 =>
    if (μ 29 0) ≤ x2 then
      some 0
    else
      inb x2 8 (
        if (μ 30 x2.toNatClampNeg) = x1 then
          some 1
        else
          f_book_tells_2 N  μ  n x1 (x2 + 1))
def f_book_tells (N : Nat)  (μ : sw_M) (a1 : Int32) : Option (Int32) :=
  f_book_tells_2 N  μ  N a1 0
set_option maxRecDepth 100000 in
set_option maxHeartbeats 4000000 in
theorem ok_f_book_tells_2 {G : sw_G} {ad : Nat → Nat} {ν : sw_N}   {N : Nat} {o : Int32} (g : sw_ok G cX1_tells "DeadWires$Book" (some .boolean) 1 0 0 ad) (hm : G.2.2.1.2.1.maxLocals = 3)  (μ : sw_M) (ho : sw_out G 0 0 (fun a => a = ad) (.inl (some (.int o))) lay0 μ ν)  : ∀ (n : Nat) (x1 : Int32) (x2 : Int32) (h : f_book_tells_2 N  μ  n x1 x2 = some o), SW G ad lay0 ν 0 0 2 [some (.ref 29), some (.int x1), some (.int x2)] [] μ := by
  intro n
  induction n with
  | zero => intro x1 x2 h; simp only [f_book_tells_2] at h; cases h
  | succ n ih =>
    intro x1 x2 h
    unfold f_book_tells_2 at h
    refine SW.iload_n (pc := 2) g (dt dt_X1_tells 2 rfl) rfl ?_
    refine SW.aload_n (pc := 3) g (dt dt_X1_tells 3 rfl) rfl ?_
    refine SW.getI (pc := 4) g (dt dt_X1_tells 4 rfl) fl_X1_18 cell_29 rfl ?_
    refine SW.icmp_ge (pc := 7) (t := 28) g (dt dt_X1_tells 5 rfl) rfl (fun hc => ?_) (fun hc => ?_)
    · have h := iteT hc h
      refine SW.iconst (pc := 28) (v := 0) g (dt dt_X1_tells 16 rfl) ki_0 ?_
      exact SW.zreturn (pc := 29) g (leafI h ho) rfl (Nat.le_of_ble_eq_true rfl) (Nat.le_of_ble_eq_true rfl) (by decide) (dt dt_X1_tells 17 rfl)
    · have h := iteF hc h
      refine SW.aload_n (pc := 10) g (dt dt_X1_tells 6 rfl) rfl ?_
      refine SW.getR (pc := 11) g (dt dt_X1_tells 7 rfl) fl_X1_9 cell_29 rfl ?_
      refine SW.iload_n (pc := 14) g (dt dt_X1_tells 8 rfl) rfl ?_
      obtain ⟨hb1, h⟩ := inbI h
      refine SW.iaload (pc := 15) g (dt dt_X1_tells 9 rfl) cell_30 hb1 ?_
      refine SW.iload_n (pc := 16) g (dt dt_X1_tells 10 rfl) rfl ?_
      refine SW.icmp_ne (pc := 17) (t := 22) g (dt dt_X1_tells 11 rfl) rfl (fun hc => ?_) (fun hc => ?_)
      · have h := iteF hc h
        refine SW.iinc (pc := 22) (v := x2 + 1) g (dt dt_X1_tells 14 rfl) rfl (kn_1 _) (sw_ltm hm (Nat.le_of_ble_eq_true rfl)) rfl ?_
        refine SW.goto (pc := 25) (t := 2) g (dt dt_X1_tells 15 rfl) rfl ?_
        refine SW.msk [true, true, true] ?_
        exact ih  x1 (x2 + 1) h
      · have h := iteT hc h
        refine SW.iconst (pc := 20) (v := 1) g (dt dt_X1_tells 12 rfl) ki_1 ?_
        exact SW.zreturn (pc := 21) g (leafI h ho) rfl (Nat.le_of_ble_eq_true rfl) (Nat.le_of_ble_eq_true rfl) (by decide) (dt dt_X1_tells 13 rfl)
set_option maxRecDepth 100000 in
set_option maxHeartbeats 4000000 in
theorem ok_f_book_tells {G : sw_G} {ad : Nat → Nat} {ν : sw_N}   {N : Nat} {o : Int32} (g : sw_ok G cX1_tells "DeadWires$Book" (some .boolean) 1 0 0 ad) (hm : G.2.2.1.2.1.maxLocals = 3)  (μ : sw_M) (ho : sw_out G 0 0 (fun a => a = ad) (.inl (some (.int o))) lay0 μ ν) (a1 : Int32) (h : f_book_tells N  μ a1 = some o) : SW G ad lay0 ν 0 0 0 [some (.ref 29), some (.int a1), none] [] μ := by
  unfold f_book_tells at h
  refine SW.iconst (pc := 0) (v := 0) g (dt dt_X1_tells 0 rfl) ki_0 ?_
  refine SW.istore_n (pc := 1) g (dt dt_X1_tells 1 rfl) (sw_ltm hm (Nat.le_of_ble_eq_true rfl)) rfl ?_
  refine SW.msk [true, true, true] ?_
  exact ok_f_book_tells_2  g hm  μ ho   N a1 0 h
set_option maxRecDepth 100000 in
set_option maxHeartbeats 4000000 in
theorem mt_f_book_tells (l : Launch) (D : va_G) (cI cL : ClassId) (ad : Nat → Nat) (ν : sw_N)    (N : Nat) (μ : sw_M) (a1 : Int32) (o : Int32) (h : f_book_tells N  μ a1 = some o) : MetR l D cI cL yX1_tells cX1_tells 3 (some .boolean) 1 0 0 (fun a => a = ad) ad [.ref 29, .int a1] lay0 μ ν (some (.int o)) lay0 μ ν :=
  MetR.of (n := 1) rfl (Nat.le_of_ble_eq_true rfl) (fun G g ho hm _ _ => ok_f_book_tells  g hm  μ ho a1 h)
def f_guess_worstAt_4 (N : Nat)  (μ : sw_M)  : Nat → Int32 → Int32 → Int32 → Option (Int32)
  | 0, _, _, _ => none
  | n + 1, x1, x2, x3 =>
    if (μ 51 5) ≤ x3 then
      some (if x2 < ((μ 51 5) - x2) then ((μ 51 5) - x2) else x2)
    else
      inb x3 240 (
        inb x3 240 (
          Option.bind (f_guess_lost N  μ (μ 52 x3.toNatClampNeg) (μ 53 x3.toNatClampNeg) x1) (fun r3 =>
            ib (x2 + r3) (fun y5 =>
              f_guess_worstAt_4 N  μ  n x1 y5 (x3 + 1)))))
def f_guess_worstAt (N : Nat)  (μ : sw_M) (a1 : Int32) : Option (Int32) :=
  f_guess_worstAt_4 N  μ  N a1 0 0
set_option maxRecDepth 100000 in
set_option maxHeartbeats 4000000 in
theorem ok_f_guess_worstAt_4 {G : sw_G} {ad : Nat → Nat} {ν : sw_N}   {N : Nat} {o : Int32} (g : sw_ok G cX3_worstAt "DeadWires$Guess" (some .int) 3 0 0 ad) (hm : G.2.2.1.2.1.maxLocals = 4)  (μ : sw_M) (ho : sw_out G 0 0 (fun a => a = ad) (.inl (some (.int o))) lay0 μ ν)  : ∀ (n : Nat) (x1 : Int32) (x2 : Int32) (x3 : Int32) (h : f_guess_worstAt_4 N  μ  n x1 x2 x3 = some o), SW G ad lay0 ν 0 0 4 [some (.ref 51), some (.int x1), some (.int x2), some (.int x3)] [] μ := by
  intro n
  induction n with
  | zero => intro x1 x2 x3 h; simp only [f_guess_worstAt_4] at h; cases h
  | succ n ih =>
    intro x1 x2 x3 h
    unfold f_guess_worstAt_4 at h
    refine SW.iload_n (pc := 4) g (dt dt_X3_worstAt 4 rfl) rfl ?_
    refine SW.aload_n (pc := 5) g (dt dt_X3_worstAt 5 rfl) rfl ?_
    refine SW.getI (pc := 6) g (dt dt_X3_worstAt 6 rfl) fl_X3_29 cell_51 rfl ?_
    refine SW.icmp_ge (pc := 9) (t := 38) g (dt dt_X3_worstAt 7 rfl) rfl (fun hc => ?_) (fun hc => ?_)
    · have h := iteT hc h
      refine SW.iload_n (pc := 38) g (dt dt_X3_worstAt 24 rfl) rfl ?_
      refine SW.aload_n (pc := 39) g (dt dt_X3_worstAt 25 rfl) rfl ?_
      refine SW.getI (pc := 40) g (dt dt_X3_worstAt 26 rfl) fl_X3_29 cell_51 rfl ?_
      refine SW.iload_n (pc := 43) g (dt dt_X3_worstAt 27 rfl) rfl ?_
      refine SW.isub (pc := 44) g (dt dt_X3_worstAt 28 rfl) ?_
      refine SW.mmax (pc := 45) g (dt dt_X3_worstAt 29 rfl) ml_X3_98 ms_J9_max_7cf53 mt_init me_J9_max_7cf53.1 (Nat.le_of_ble_eq_true rfl) (Nat.le_of_ble_eq_true rfl) (Nat.le_of_ble_eq_true rfl) (Nat.le_of_ble_eq_true rfl) ?_
      exact SW.ireturn (pc := 48) g (leafI h ho) rfl (Nat.le_of_ble_eq_true rfl) (Nat.le_of_ble_eq_true rfl) (dt dt_X3_worstAt 30 rfl)
    · have h := iteF hc h
      refine SW.iload_n (pc := 12) g (dt dt_X3_worstAt 8 rfl) rfl ?_
      refine SW.aload_n (pc := 13) g (dt dt_X3_worstAt 9 rfl) rfl ?_
      refine SW.aload_n (pc := 14) g (dt dt_X3_worstAt 10 rfl) rfl ?_
      refine SW.getR (pc := 15) g (dt dt_X3_worstAt 11 rfl) fl_X3_11 cell_51 rfl ?_
      refine SW.iload_n (pc := 18) g (dt dt_X3_worstAt 12 rfl) rfl ?_
      obtain ⟨hb1, h⟩ := inbI h
      refine SW.iaload (pc := 19) g (dt dt_X3_worstAt 13 rfl) cell_52 hb1 ?_
      refine SW.aload_n (pc := 20) g (dt dt_X3_worstAt 14 rfl) rfl ?_
      refine SW.getR (pc := 21) g (dt dt_X3_worstAt 15 rfl) fl_X3_15 cell_51 rfl ?_
      refine SW.iload_n (pc := 24) g (dt dt_X3_worstAt 16 rfl) rfl ?_
      obtain ⟨hb2, h⟩ := inbI h
      refine SW.iaload (pc := 25) g (dt dt_X3_worstAt 17 rfl) cell_53 hb2 ?_
      refine SW.iload_n (pc := 26) g (dt dt_X3_worstAt 18 rfl) rfl ?_
      obtain ⟨r3, h4, h⟩ := bindI h
      refine SW.callVi (pc := 27) g (dt dt_X3_worstAt 19 rfl) (mt_f_guess_lost _ _ _ _ ad ν   N μ (μ 52 x3.toNatClampNeg) (μ 53 x3.toNatClampNeg) x1 r3 h4) me_X3_lost mv_X3_lost ml_X3_72 cell_51 rfl rfl (Nat.le_of_ble_eq_true rfl) (Nat.le_of_ble_eq_true rfl) (Nat.le_of_ble_eq_true rfl) (Nat.le_of_ble_eq_true rfl) rfl ?_
      refine SW.iadd (pc := 30) g (dt dt_X3_worstAt 20 rfl) ?_
      refine SW.istore_n (pc := 31) g (dt dt_X3_worstAt 21 rfl) (sw_ltm hm (Nat.le_of_ble_eq_true rfl)) rfl ?_
      refine SW.genL h (fun y5 h => ?_)
      refine SW.iinc (pc := 32) (v := x3 + 1) g (dt dt_X3_worstAt 22 rfl) rfl (kn_1 _) (sw_ltm hm (Nat.le_of_ble_eq_true rfl)) rfl ?_
      refine SW.goto (pc := 35) (t := 4) g (dt dt_X3_worstAt 23 rfl) rfl ?_
      refine SW.msk [true, true, true, true] ?_
      exact ih  x1 y5 (x3 + 1) h
set_option maxRecDepth 100000 in
set_option maxHeartbeats 4000000 in
theorem ok_f_guess_worstAt {G : sw_G} {ad : Nat → Nat} {ν : sw_N}   {N : Nat} {o : Int32} (g : sw_ok G cX3_worstAt "DeadWires$Guess" (some .int) 3 0 0 ad) (hm : G.2.2.1.2.1.maxLocals = 4)  (μ : sw_M) (ho : sw_out G 0 0 (fun a => a = ad) (.inl (some (.int o))) lay0 μ ν) (a1 : Int32) (h : f_guess_worstAt N  μ a1 = some o) : SW G ad lay0 ν 0 0 0 [some (.ref 51), some (.int a1), none, none] [] μ := by
  unfold f_guess_worstAt at h
  refine SW.iconst (pc := 0) (v := 0) g (dt dt_X3_worstAt 0 rfl) ki_0 ?_
  refine SW.istore_n (pc := 1) g (dt dt_X3_worstAt 1 rfl) (sw_ltm hm (Nat.le_of_ble_eq_true rfl)) rfl ?_
  refine SW.iconst (pc := 2) (v := 0) g (dt dt_X3_worstAt 2 rfl) ki_0 ?_
  refine SW.istore_n (pc := 3) g (dt dt_X3_worstAt 3 rfl) (sw_ltm hm (Nat.le_of_ble_eq_true rfl)) rfl ?_
  refine SW.msk [true, true, true, true] ?_
  exact ok_f_guess_worstAt_4  g hm  μ ho   N a1 0 0 h
set_option maxRecDepth 100000 in
set_option maxHeartbeats 4000000 in
theorem mt_f_guess_worstAt (l : Launch) (D : va_G) (cI cL : ClassId) (ad : Nat → Nat) (ν : sw_N)    (N : Nat) (μ : sw_M) (a1 : Int32) (o : Int32) (h : f_guess_worstAt N  μ a1 = some o) : MetR l D cI cL yX3_worstAt cX3_worstAt 4 (some .int) 3 0 0 (fun a => a = ad) ad [.ref 51, .int a1] lay0 μ ν (some (.int o)) lay0 μ ν :=
  MetR.of (n := 2) rfl (Nat.le_of_ble_eq_true rfl) (fun G g ho hm _ _ => ok_f_guess_worstAt  g hm  μ ho a1 h)
def f_guess_chooseLook_51 (N : Nat)  (k_12 : sw_M → Int32 → Option (sw_M)) (μ : sw_M) (x1 : Int32) (x2 : Int32) : Option (sw_M) :=
  wb (wr μ 51 6 x1) (fun μ1 =>
    wb (wr μ1 51 7 x2) (fun μ2 =>
      k_12 μ2 (x1 + 1)))
def f_guess_chooseLook_12 (N : Nat)   : Nat → sw_M → Int32 → Option (sw_M)
  | 0, _, _ => none
  | n + 1, μ, x1 =>
    if 40 < x1 then
      some μ
    else
      Option.bind (f_book_tells N  μ x1) (fun r1 =>
        if r1 = 0 then
          Option.bind (f_guess_worstAt N  μ x1) (fun r3 =>
            if (μ 51 6) = (-1) then
              f_guess_chooseLook_51 N  (f_guess_chooseLook_12 N   n)  μ x1 r3
            else
              if (μ 51 7) ≤ r3 then
                f_guess_chooseLook_12 N   n μ (x1 + 1)
              else
                f_guess_chooseLook_51 N  (f_guess_chooseLook_12 N   n)  μ x1 r3)
        else
          f_guess_chooseLook_12 N   n μ (x1 + 1))
def f_guess_chooseLook (N : Nat)  (μ : sw_M)  : Option (sw_M) :=
  wb (wr μ 51 6 (-1)) (fun μ1 =>
    wb (wr μ1 51 7 (-1)) (fun μ2 =>
      f_guess_chooseLook_12 N   N μ2 0))
set_option maxRecDepth 100000 in
set_option maxHeartbeats 4000000 in
theorem ok_f_guess_chooseLook_51 {G : sw_G} {ad : Nat → Nat} {ν : sw_N}   {N : Nat} {o : sw_M} (g : sw_ok G cX3_chooseLook "DeadWires$Guess" none 4 0 0 ad) (hm : G.2.2.1.2.1.maxLocals = 3)  (ho : sw_out G 0 0 (fun a => a = ad) (.inl none) lay0 o ν) (k_12 : sw_M → Int32 → Option (sw_M)) (hk_12 : ∀ (μ : sw_M) (x1 : Int32), k_12 μ x1 = some o → SW G ad lay0 ν 0 0 12 [some (.ref 51), some (.int x1), none] [] μ) (μ : sw_M) (x1 : Int32) (x2 : Int32) (h : f_guess_chooseLook_51 N  k_12  μ x1 x2 = some o) : SW G ad lay0 ν 0 0 51 [some (.ref 51), some (.int x1), some (.int x2)] [] μ := by
  unfold f_guess_chooseLook_51 at h
  refine SW.aload_n (pc := 51) g (dt dt_X3_chooseLook 28 rfl) rfl ?_
  refine SW.iload_n (pc := 52) g (dt dt_X3_chooseLook 29 rfl) rfl ?_
  refine SW.putI (pc := 53) g (dt dt_X3_chooseLook 30 rfl) fl_X3_86 cell_51 rfl ?_
  refine SW.genM h (fun μ1 h => ?_)
  refine SW.aload_n (pc := 56) g (dt dt_X3_chooseLook 31 rfl) rfl ?_
  refine SW.iload_n (pc := 57) g (dt dt_X3_chooseLook 32 rfl) rfl ?_
  refine SW.putI (pc := 58) g (dt dt_X3_chooseLook 33 rfl) fl_X3_89 cell_51 rfl ?_
  refine SW.genM h (fun μ2 h => ?_)
  refine SW.iinc (pc := 61) (v := x1 + 1) g (dt dt_X3_chooseLook 34 rfl) rfl (kn_1 _) (sw_ltm hm (Nat.le_of_ble_eq_true rfl)) rfl ?_
  refine SW.goto (pc := 64) (t := 12) g (dt dt_X3_chooseLook 35 rfl) rfl ?_
  refine SW.msk [true, true, false] ?_
  exact hk_12 μ2 (x1 + 1) h
set_option maxRecDepth 100000 in
set_option maxHeartbeats 4000000 in
theorem ok_f_guess_chooseLook_12 {G : sw_G} {ad : Nat → Nat} {ν : sw_N}   {N : Nat} {o : sw_M} (g : sw_ok G cX3_chooseLook "DeadWires$Guess" none 4 0 0 ad) (hm : G.2.2.1.2.1.maxLocals = 3)  (ho : sw_out G 0 0 (fun a => a = ad) (.inl none) lay0 o ν)  : ∀ (n : Nat) (μ : sw_M) (x1 : Int32) (h : f_guess_chooseLook_12 N   n μ x1 = some o), SW G ad lay0 ν 0 0 12 [some (.ref 51), some (.int x1), none] [] μ := by
  intro n
  induction n with
  | zero => intro μ x1 h; simp only [f_guess_chooseLook_12] at h; cases h
  | succ n ih =>
    intro μ x1 h
    unfold f_guess_chooseLook_12 at h
    refine SW.iload_n (pc := 12) g (dt dt_X3_chooseLook 8 rfl) rfl ?_
    refine SW.bipush (pc := 13) (v := 40) g (dt dt_X3_chooseLook 9 rfl) kb_40 ?_
    refine SW.icmp_gt (pc := 15) (t := 67) g (dt dt_X3_chooseLook 10 rfl) rfl (fun hc => ?_) (fun hc => ?_)
    · have h := iteT hc h
      exact SW.vreturn (pc := 67) g (leafV h ho) rfl (Nat.le_of_ble_eq_true rfl) (Nat.le_of_ble_eq_true rfl) (dt dt_X3_chooseLook 36 rfl)
    · have h := iteF hc h
      refine SW.aload_n (pc := 18) g (dt dt_X3_chooseLook 11 rfl) rfl ?_
      refine SW.getR (pc := 19) g (dt dt_X3_chooseLook 12 rfl) fl_X3_25 cell_51 rfl ?_
      refine SW.iload_n (pc := 22) g (dt dt_X3_chooseLook 13 rfl) rfl ?_
      obtain ⟨r1, h2, h⟩ := bindI h
      refine SW.callVi (pc := 23) g (dt dt_X3_chooseLook 14 rfl) (mt_f_book_tells _ _ _ _ ad ν   N μ x1 r1 h2) me_X1_tells mv_X1_tells ml_X3_92 cell_29 rfl rfl (Nat.le_of_ble_eq_true rfl) (Nat.le_of_ble_eq_true rfl) (Nat.le_of_ble_eq_true rfl) (Nat.le_of_ble_eq_true rfl) rfl ?_
      refine SW.if_ne (pc := 26) (t := 61) g (dt dt_X3_chooseLook 15 rfl) rfl (fun hc => ?_) (fun hc => ?_)
      · have h := iteF hc h
        refine SW.iinc (pc := 61) (v := x1 + 1) g (dt dt_X3_chooseLook 34 rfl) rfl (kn_1 _) (sw_ltm hm (Nat.le_of_ble_eq_true rfl)) rfl ?_
        refine SW.goto (pc := 64) (t := 12) g (dt dt_X3_chooseLook 35 rfl) rfl ?_
        refine SW.msk [true, true, false] ?_
        exact ih μ (x1 + 1) h
      · have h := iteT hc h
        refine SW.aload_n (pc := 29) g (dt dt_X3_chooseLook 16 rfl) rfl ?_
        refine SW.iload_n (pc := 30) g (dt dt_X3_chooseLook 17 rfl) rfl ?_
        obtain ⟨r3, h4, h⟩ := bindI h
        refine SW.callVi (pc := 31) g (dt dt_X3_chooseLook 18 rfl) (mt_f_guess_worstAt _ _ _ _ ad ν   N μ x1 r3 h4) me_X3_worstAt mv_X3_worstAt ml_X3_95 cell_51 rfl rfl (Nat.le_of_ble_eq_true rfl) (Nat.le_of_ble_eq_true rfl) (Nat.le_of_ble_eq_true rfl) (Nat.le_of_ble_eq_true rfl) rfl ?_
        refine SW.istore_n (pc := 34) g (dt dt_X3_chooseLook 19 rfl) (sw_ltm hm (Nat.le_of_ble_eq_true rfl)) rfl ?_
        refine SW.aload_n (pc := 35) g (dt dt_X3_chooseLook 20 rfl) rfl ?_
        refine SW.getI (pc := 36) g (dt dt_X3_chooseLook 21 rfl) fl_X3_86 cell_51 rfl ?_
        refine SW.iconst (pc := 39) (v := (-1)) g (dt dt_X3_chooseLook 22 rfl) ki_m1 ?_
        refine SW.icmp_eq (pc := 40) (t := 51) g (dt dt_X3_chooseLook 23 rfl) rfl (fun hc => ?_) (fun hc => ?_)
        · have h := iteT hc h
          refine SW.msk [true, true, true] ?_
          exact ok_f_guess_chooseLook_51  g hm  ho (f_guess_chooseLook_12 N   n) ih  μ x1 r3 h
        · have h := iteF hc h
          refine SW.iload_n (pc := 43) g (dt dt_X3_chooseLook 24 rfl) rfl ?_
          refine SW.aload_n (pc := 44) g (dt dt_X3_chooseLook 25 rfl) rfl ?_
          refine SW.getI (pc := 45) g (dt dt_X3_chooseLook 26 rfl) fl_X3_89 cell_51 rfl ?_
          refine SW.icmp_ge (pc := 48) (t := 61) g (dt dt_X3_chooseLook 27 rfl) rfl (fun hc => ?_) (fun hc => ?_)
          · have h := iteT hc h
            refine SW.iinc (pc := 61) (v := x1 + 1) g (dt dt_X3_chooseLook 34 rfl) rfl (kn_1 _) (sw_ltm hm (Nat.le_of_ble_eq_true rfl)) rfl ?_
            refine SW.goto (pc := 64) (t := 12) g (dt dt_X3_chooseLook 35 rfl) rfl ?_
            refine SW.msk [true, true, false] ?_
            exact ih μ (x1 + 1) h
          · have h := iteF hc h
            refine SW.msk [true, true, true] ?_
            exact ok_f_guess_chooseLook_51  g hm  ho (f_guess_chooseLook_12 N   n) ih  μ x1 r3 h
set_option maxRecDepth 100000 in
set_option maxHeartbeats 4000000 in
theorem ok_f_guess_chooseLook {G : sw_G} {ad : Nat → Nat} {ν : sw_N}   {N : Nat} {o : sw_M} (g : sw_ok G cX3_chooseLook "DeadWires$Guess" none 4 0 0 ad) (hm : G.2.2.1.2.1.maxLocals = 3)  (μ : sw_M) (ho : sw_out G 0 0 (fun a => a = ad) (.inl none) lay0 o ν)  (h : f_guess_chooseLook N  μ  = some o) : SW G ad lay0 ν 0 0 0 [some (.ref 51), none, none] [] μ := by
  unfold f_guess_chooseLook at h
  refine SW.aload_n (pc := 0) g (dt dt_X3_chooseLook 0 rfl) rfl ?_
  refine SW.iconst (pc := 1) (v := (-1)) g (dt dt_X3_chooseLook 1 rfl) ki_m1 ?_
  refine SW.putI (pc := 2) g (dt dt_X3_chooseLook 2 rfl) fl_X3_86 cell_51 rfl ?_
  refine SW.genM h (fun μ1 h => ?_)
  refine SW.aload_n (pc := 5) g (dt dt_X3_chooseLook 3 rfl) rfl ?_
  refine SW.iconst (pc := 6) (v := (-1)) g (dt dt_X3_chooseLook 4 rfl) ki_m1 ?_
  refine SW.putI (pc := 7) g (dt dt_X3_chooseLook 5 rfl) fl_X3_89 cell_51 rfl ?_
  refine SW.genM h (fun μ2 h => ?_)
  refine SW.iconst (pc := 10) (v := 0) g (dt dt_X3_chooseLook 6 rfl) ki_0 ?_
  refine SW.istore_n (pc := 11) g (dt dt_X3_chooseLook 7 rfl) (sw_ltm hm (Nat.le_of_ble_eq_true rfl)) rfl ?_
  refine SW.msk [true, true, false] ?_
  exact ok_f_guess_chooseLook_12  g hm  ho   N μ2 0 h
set_option maxRecDepth 100000 in
set_option maxHeartbeats 4000000 in
theorem mt_f_guess_chooseLook (l : Launch) (D : va_G) (cI cL : ClassId) (ad : Nat → Nat) (ν : sw_N)    (N : Nat) (μ : sw_M)  (o : sw_M) (h : f_guess_chooseLook N  μ  = some o) : MetR l D cI cL yX3_chooseLook cX3_chooseLook 3 none 4 0 0 (fun a => a = ad) ad [.ref 51] lay0 μ ν none lay0 o ν :=
  MetR.of (n := 2) rfl (Nat.le_of_ble_eq_true rfl) (fun G g ho hm _ _ => ok_f_guess_chooseLook  g hm  μ ho  h)
def f_dream_load (N : Nat) (k0 n0 : Nat) (μ : sw_M) (a2 : Int32) : Option (sw_M) :=
  ib (a2 * 38) (fun y1 =>
    Option.bind (f_sx_within N  μ y1 0 ((Int32.ofNat n0) - 38)) (fun r2 =>
      if r2 = 0 then
        some μ
      else
        inb y1 n0 (
          wb (wr μ 57 2 (μ k0 y1.toNatClampNeg)) (fun μ5 =>
            inb (y1 + 1) n0 (
              wb (wr μ5 57 3 (μ5 k0 (y1 + 1).toNatClampNeg)) (fun μ7 =>
                inb (y1 + 2) n0 (
                  wb (wr μ7 57 4 (μ7 k0 (y1 + 2).toNatClampNeg)) (fun μ9 =>
                    inb (y1 + 3) n0 (
                      wb (wr μ9 57 5 (μ9 k0 (y1 + 3).toNatClampNeg)) (fun μ11 =>
                        ib (y1 + 4) (fun y12 =>
                          cpc y12 0 12 n0 12 (wb (wrR μ11 58 (va_cpy (μ11 k0) (μ11 58) y12.toNatClampNeg (0 : Int32).toNatClampNeg (12 : Int32).toNatClampNeg)) (fun μ14 =>
                            ib (y12 + 12) (fun y15 =>
                              cpc y15 0 6 n0 6 (wb (wrR μ14 59 (va_cpy (μ14 k0) (μ14 59) y15.toNatClampNeg (0 : Int32).toNatClampNeg (6 : Int32).toNatClampNeg)) (fun μ17 =>
                                ib (y15 + 6) (fun y18 =>
                                  cpc y18 0 6 n0 6 (wb (wrR μ17 60 (va_cpy (μ17 k0) (μ17 60) y18.toNatClampNeg (0 : Int32).toNatClampNeg (6 : Int32).toNatClampNeg)) (fun μ20 =>
                                    ib (y18 + 6) (fun y21 =>
                                      cpc y21 0 5 n0 5 (wb (wrR μ20 61 (va_cpy (μ20 k0) (μ20 61) y21.toNatClampNeg (0 : Int32).toNatClampNeg (5 : Int32).toNatClampNeg)) (fun μ23 =>
                                        ib (y21 + 5) (fun y24 =>
                                          cpc y24 0 5 n0 5 (wb (wrR μ23 62 (va_cpy (μ23 k0) (μ23 62) y24.toNatClampNeg (0 : Int32).toNatClampNeg (5 : Int32).toNatClampNeg)) (fun μ26 =>
                                            some μ26)))))))))))))))))))))))))
set_option maxRecDepth 100000 in
set_option maxHeartbeats 4000000 in
theorem ok_f_dream_load {G : sw_G} {ad : Nat → Nat} {ν : sw_N}  (k0 n0 : Nat) {N : Nat} {o : sw_M} (g : sw_ok G cX2_load "DeadWires$Days" none 2 0 0 ad) (hm : G.2.2.1.2.1.maxLocals = 5) (hk0 : lay0[k0]? = some (.inl (false, n0))) (μ : sw_M) (ho : sw_out G 0 0 (fun a => a = ad) (.inl none) lay0 o ν) (a2 : Int32) (h : f_dream_load N k0 n0 μ a2 = some o) : SW G ad lay0 ν 0 0 0 [some (.ref 57), some (.ref k0), some (.int a2), none, none] [] μ := by
  unfold f_dream_load at h
  refine SW.iload_n (pc := 0) g (dt dt_X2_load 0 rfl) rfl ?_
  refine SW.bipush (pc := 1) (v := 38) g (dt dt_X2_load 1 rfl) kb_38 ?_
  refine SW.imul (pc := 3) g (dt dt_X2_load 2 rfl) ?_
  refine SW.istore_n (pc := 4) g (dt dt_X2_load 3 rfl) (sw_ltm hm (Nat.le_of_ble_eq_true rfl)) rfl ?_
  refine SW.genL h (fun y1 h => ?_)
  refine SW.iload_n (pc := 5) g (dt dt_X2_load 4 rfl) rfl ?_
  refine SW.iconst (pc := 6) (v := 0) g (dt dt_X2_load 5 rfl) ki_0 ?_
  refine SW.aload_n (pc := 7) g (dt dt_X2_load 6 rfl) rfl ?_
  refine SW.alen (pc := 8) g (dt dt_X2_load 7 rfl) hk0 ?_
  refine SW.bipush (pc := 9) (v := 38) g (dt dt_X2_load 8 rfl) kb_38 ?_
  refine SW.isub (pc := 11) g (dt dt_X2_load 9 rfl) ?_
  obtain ⟨r2, h3, h⟩ := bindI h
  refine SW.callSNi (pc := 12) g (dt dt_X2_load 10 rfl) (mt_f_sx_within _ _ _ _ ad ν lay0   N μ y1 0 ((Int32.ofNat n0) - 38) r2 h3) me_X10_within ms_X10_within mn_X2_71 rfl (Nat.le_of_ble_eq_true rfl) (Nat.le_of_ble_eq_true rfl) (Nat.le_of_ble_eq_true rfl) (Nat.le_of_ble_eq_true rfl) rfl ?_
  refine SW.if_ne (pc := 15) (t := 19) g (dt dt_X2_load 11 rfl) rfl (fun hc => ?_) (fun hc => ?_)
  · have h := iteF hc h
    refine SW.aload_n (pc := 19) g (dt dt_X2_load 13 rfl) rfl ?_
    refine SW.aload_n (pc := 20) g (dt dt_X2_load 14 rfl) rfl ?_
    refine SW.iload_n (pc := 21) g (dt dt_X2_load 15 rfl) rfl ?_
    obtain ⟨hb4, h⟩ := inbI h
    refine SW.iaload (pc := 22) g (dt dt_X2_load 16 rfl) hk0 hb4 ?_
    refine SW.putI (pc := 23) g (dt dt_X2_load 17 rfl) fl_X2_38 cell_57 rfl ?_
    refine SW.genM h (fun μ5 h => ?_)
    refine SW.aload_n (pc := 26) g (dt dt_X2_load 18 rfl) rfl ?_
    refine SW.aload_n (pc := 27) g (dt dt_X2_load 19 rfl) rfl ?_
    refine SW.iload_n (pc := 28) g (dt dt_X2_load 20 rfl) rfl ?_
    refine SW.iconst (pc := 29) (v := 1) g (dt dt_X2_load 21 rfl) ki_1 ?_
    refine SW.iadd (pc := 30) g (dt dt_X2_load 22 rfl) ?_
    obtain ⟨hb6, h⟩ := inbI h
    refine SW.iaload (pc := 31) g (dt dt_X2_load 23 rfl) hk0 hb6 ?_
    refine SW.putI (pc := 32) g (dt dt_X2_load 24 rfl) fl_X2_47 cell_57 rfl ?_
    refine SW.genM h (fun μ7 h => ?_)
    refine SW.aload_n (pc := 35) g (dt dt_X2_load 25 rfl) rfl ?_
    refine SW.aload_n (pc := 36) g (dt dt_X2_load 26 rfl) rfl ?_
    refine SW.iload_n (pc := 37) g (dt dt_X2_load 27 rfl) rfl ?_
    refine SW.iconst (pc := 38) (v := 2) g (dt dt_X2_load 28 rfl) ki_2 ?_
    refine SW.iadd (pc := 39) g (dt dt_X2_load 29 rfl) ?_
    obtain ⟨hb8, h⟩ := inbI h
    refine SW.iaload (pc := 40) g (dt dt_X2_load 30 rfl) hk0 hb8 ?_
    refine SW.putI (pc := 41) g (dt dt_X2_load 31 rfl) fl_X2_50 cell_57 rfl ?_
    refine SW.genM h (fun μ9 h => ?_)
    refine SW.aload_n (pc := 44) g (dt dt_X2_load 32 rfl) rfl ?_
    refine SW.aload_n (pc := 45) g (dt dt_X2_load 33 rfl) rfl ?_
    refine SW.iload_n (pc := 46) g (dt dt_X2_load 34 rfl) rfl ?_
    refine SW.iconst (pc := 47) (v := 3) g (dt dt_X2_load 35 rfl) ki_3 ?_
    refine SW.iadd (pc := 48) g (dt dt_X2_load 36 rfl) ?_
    obtain ⟨hb10, h⟩ := inbI h
    refine SW.iaload (pc := 49) g (dt dt_X2_load 37 rfl) hk0 hb10 ?_
    refine SW.putI (pc := 50) g (dt dt_X2_load 38 rfl) fl_X2_53 cell_57 rfl ?_
    refine SW.genM h (fun μ11 h => ?_)
    refine SW.iload_n (pc := 53) g (dt dt_X2_load 39 rfl) rfl ?_
    refine SW.iconst (pc := 54) (v := 4) g (dt dt_X2_load 40 rfl) ki_4 ?_
    refine SW.iadd (pc := 55) g (dt dt_X2_load 41 rfl) ?_
    refine SW.istore (pc := 56) g (dt dt_X2_load 42 rfl) (sw_ltm hm (Nat.le_of_ble_eq_true rfl)) rfl ?_
    refine SW.genL h (fun y12 h => ?_)
    refine SW.aload_n (pc := 58) g (dt dt_X2_load 43 rfl) rfl ?_
    refine SW.iload (pc := 59) g (dt dt_X2_load 44 rfl) rfl ?_
    refine SW.aload_n (pc := 61) g (dt dt_X2_load 45 rfl) rfl ?_
    refine SW.getR (pc := 62) g (dt dt_X2_load 46 rfl) fl_X2_9 cell_57 rfl ?_
    refine SW.iconst (pc := 65) (v := 0) g (dt dt_X2_load 47 rfl) ki_0 ?_
    refine SW.bipush (pc := 66) (v := 12) g (dt dt_X2_load 48 rfl) kb_12 ?_
    obtain ⟨hq13, h⟩ := cpcI h
    refine SW.acopy (pc := 68) g (dt dt_X2_load 49 rfl) ml_X2_59 ac_n ac_s ac_i hk0 cell_58 hq13.1 hq13.2.1 hq13.2.2.1 hq13.2.2.2.1 hq13.2.2.2.2 (Nat.le_of_ble_eq_true rfl) (Nat.le_of_ble_eq_true rfl) ?_
    refine SW.genM h (fun μ14 h => ?_)
    refine SW.iinc (pc := 71) (v := y12 + 12) g (dt dt_X2_load 50 rfl) rfl (kn_12 _) (sw_ltm hm (Nat.le_of_ble_eq_true rfl)) rfl ?_
    refine SW.genL h (fun y15 h => ?_)
    refine SW.aload_n (pc := 74) g (dt dt_X2_load 51 rfl) rfl ?_
    refine SW.iload (pc := 75) g (dt dt_X2_load 52 rfl) rfl ?_
    refine SW.aload_n (pc := 77) g (dt dt_X2_load 53 rfl) rfl ?_
    refine SW.getR (pc := 78) g (dt dt_X2_load 54 rfl) fl_X2_15 cell_57 rfl ?_
    refine SW.iconst (pc := 81) (v := 0) g (dt dt_X2_load 55 rfl) ki_0 ?_
    refine SW.bipush (pc := 82) (v := 6) g (dt dt_X2_load 56 rfl) kb_6 ?_
    obtain ⟨hq16, h⟩ := cpcI h
    refine SW.acopy (pc := 84) g (dt dt_X2_load 57 rfl) ml_X2_59 ac_n ac_s ac_i hk0 cell_59 hq16.1 hq16.2.1 hq16.2.2.1 hq16.2.2.2.1 hq16.2.2.2.2 (Nat.le_of_ble_eq_true rfl) (Nat.le_of_ble_eq_true rfl) ?_
    refine SW.genM h (fun μ17 h => ?_)
    refine SW.iinc (pc := 87) (v := y15 + 6) g (dt dt_X2_load 58 rfl) rfl (kn_6 _) (sw_ltm hm (Nat.le_of_ble_eq_true rfl)) rfl ?_
    refine SW.genL h (fun y18 h => ?_)
    refine SW.aload_n (pc := 90) g (dt dt_X2_load 59 rfl) rfl ?_
    refine SW.iload (pc := 91) g (dt dt_X2_load 60 rfl) rfl ?_
    refine SW.aload_n (pc := 93) g (dt dt_X2_load 61 rfl) rfl ?_
    refine SW.getR (pc := 94) g (dt dt_X2_load 62 rfl) fl_X2_18 cell_57 rfl ?_
    refine SW.iconst (pc := 97) (v := 0) g (dt dt_X2_load 63 rfl) ki_0 ?_
    refine SW.bipush (pc := 98) (v := 6) g (dt dt_X2_load 64 rfl) kb_6 ?_
    obtain ⟨hq19, h⟩ := cpcI h
    refine SW.acopy (pc := 100) g (dt dt_X2_load 65 rfl) ml_X2_59 ac_n ac_s ac_i hk0 cell_60 hq19.1 hq19.2.1 hq19.2.2.1 hq19.2.2.2.1 hq19.2.2.2.2 (Nat.le_of_ble_eq_true rfl) (Nat.le_of_ble_eq_true rfl) ?_
    refine SW.genM h (fun μ20 h => ?_)
    refine SW.iinc (pc := 103) (v := y18 + 6) g (dt dt_X2_load 66 rfl) rfl (kn_6 _) (sw_ltm hm (Nat.le_of_ble_eq_true rfl)) rfl ?_
    refine SW.genL h (fun y21 h => ?_)
    refine SW.aload_n (pc := 106) g (dt dt_X2_load 67 rfl) rfl ?_
    refine SW.iload (pc := 107) g (dt dt_X2_load 68 rfl) rfl ?_
    refine SW.aload_n (pc := 109) g (dt dt_X2_load 69 rfl) rfl ?_
    refine SW.getR (pc := 110) g (dt dt_X2_load 70 rfl) fl_X2_21 cell_57 rfl ?_
    refine SW.iconst (pc := 113) (v := 0) g (dt dt_X2_load 71 rfl) ki_0 ?_
    refine SW.iconst (pc := 114) (v := 5) g (dt dt_X2_load 72 rfl) ki_5 ?_
    obtain ⟨hq22, h⟩ := cpcI h
    refine SW.acopy (pc := 115) g (dt dt_X2_load 73 rfl) ml_X2_59 ac_n ac_s ac_i hk0 cell_61 hq22.1 hq22.2.1 hq22.2.2.1 hq22.2.2.2.1 hq22.2.2.2.2 (Nat.le_of_ble_eq_true rfl) (Nat.le_of_ble_eq_true rfl) ?_
    refine SW.genM h (fun μ23 h => ?_)
    refine SW.iinc (pc := 118) (v := y21 + 5) g (dt dt_X2_load 74 rfl) rfl (kn_5 _) (sw_ltm hm (Nat.le_of_ble_eq_true rfl)) rfl ?_
    refine SW.genL h (fun y24 h => ?_)
    refine SW.aload_n (pc := 121) g (dt dt_X2_load 75 rfl) rfl ?_
    refine SW.iload (pc := 122) g (dt dt_X2_load 76 rfl) rfl ?_
    refine SW.aload_n (pc := 124) g (dt dt_X2_load 77 rfl) rfl ?_
    refine SW.getR (pc := 125) g (dt dt_X2_load 78 rfl) fl_X2_24 cell_57 rfl ?_
    refine SW.iconst (pc := 128) (v := 0) g (dt dt_X2_load 79 rfl) ki_0 ?_
    refine SW.iconst (pc := 129) (v := 5) g (dt dt_X2_load 80 rfl) ki_5 ?_
    obtain ⟨hq25, h⟩ := cpcI h
    refine SW.acopy (pc := 130) g (dt dt_X2_load 81 rfl) ml_X2_59 ac_n ac_s ac_i hk0 cell_62 hq25.1 hq25.2.1 hq25.2.2.1 hq25.2.2.2.1 hq25.2.2.2.2 (Nat.le_of_ble_eq_true rfl) (Nat.le_of_ble_eq_true rfl) ?_
    refine SW.genM h (fun μ26 h => ?_)
    exact SW.vreturn (pc := 133) g (leafV h ho) rfl (Nat.le_of_ble_eq_true rfl) (Nat.le_of_ble_eq_true rfl) (dt dt_X2_load 82 rfl)
  · have h := iteT hc h
    exact SW.vreturn (pc := 18) g (leafV h ho) rfl (Nat.le_of_ble_eq_true rfl) (Nat.le_of_ble_eq_true rfl) (dt dt_X2_load 12 rfl)
set_option maxRecDepth 100000 in
set_option maxHeartbeats 4000000 in
theorem mt_f_dream_load (l : Launch) (D : va_G) (cI cL : ClassId) (ad : Nat → Nat) (ν : sw_N)  (k0 n0 : Nat) (hk0 : lay0[k0]? = some (.inl (false, n0))) (N : Nat) (μ : sw_M) (a2 : Int32) (o : sw_M) (h : f_dream_load N k0 n0 μ a2 = some o) : MetR l D cI cL yX2_load cX2_load 5 none 2 0 0 (fun a => a = ad) ad [.ref 57, .ref k0, .int a2] lay0 μ ν none lay0 o ν :=
  MetR.of (n := 2) rfl (Nat.le_of_ble_eq_true rfl) (fun G g ho hm _ _ => ok_f_dream_load k0 n0 g hm hk0 μ ho a2 h)
def f_autm_draw (N : Nat)  (μ : sw_M) (a1 : Int32) : Option (Int32 × sw_M) :=
  wb (wr μ 55 3 (((μ 55 3) * 1103515245) + 12345)) (fun μ1 =>
    ib ((((μ1 55 3).toUInt32 >>> ((16 : Int32).toUInt32 &&& Int32.toUInt32 31)).toInt32) &&& 32767) (fun y2 =>
      if 0 < a1 then
        nz a1
          (some (y2 - y2 / a1 * a1, μ1))
      else
        some (0, μ1)))
set_option maxRecDepth 100000 in
set_option maxHeartbeats 4000000 in
theorem ok_f_autm_draw {G : sw_G} {ad : Nat → Nat} {ν : sw_N}   {N : Nat} {o : Int32 × sw_M} (g : sw_ok G cX0_draw "DeadWires$Autumns" (some .int) 1 0 0 ad) (hm : G.2.2.1.2.1.maxLocals = 3)  (μ : sw_M) (ho : sw_out G 0 0 (fun a => a = ad) (.inl (some (.int o.1))) lay0 o.2 ν) (a1 : Int32) (h : f_autm_draw N  μ a1 = some o) : SW G ad lay0 ν 0 0 0 [some (.ref 55), some (.int a1), none] [] μ := by
  unfold f_autm_draw at h
  refine SW.aload_n (pc := 0) g (dt dt_X0_draw 0 rfl) rfl ?_
  refine SW.aload_n (pc := 1) g (dt dt_X0_draw 1 rfl) rfl ?_
  refine SW.getI (pc := 2) g (dt dt_X0_draw 2 rfl) fl_X0_40 cell_55 rfl ?_
  refine SW.ldc (pc := 5) g (dt dt_X0_draw 3 rfl) ko_X0_76 ?_
  refine SW.imul (pc := 7) g (dt dt_X0_draw 4 rfl) ?_
  refine SW.sipush (pc := 8) (v := 12345) g (dt dt_X0_draw 5 rfl) ks_12345 ?_
  refine SW.iadd (pc := 11) g (dt dt_X0_draw 6 rfl) ?_
  refine SW.putI (pc := 12) g (dt dt_X0_draw 7 rfl) fl_X0_40 cell_55 rfl ?_
  refine SW.genM h (fun μ1 h => ?_)
  refine SW.aload_n (pc := 15) g (dt dt_X0_draw 8 rfl) rfl ?_
  refine SW.getI (pc := 16) g (dt dt_X0_draw 9 rfl) fl_X0_40 cell_55 rfl ?_
  refine SW.bipush (pc := 19) (v := 16) g (dt dt_X0_draw 10 rfl) kb_16 ?_
  refine SW.iushr (pc := 21) g (dt dt_X0_draw 11 rfl) ?_
  refine SW.sipush (pc := 22) (v := 32767) g (dt dt_X0_draw 12 rfl) ks_32767 ?_
  refine SW.iand (pc := 25) g (dt dt_X0_draw 13 rfl) ?_
  refine SW.istore_n (pc := 26) g (dt dt_X0_draw 14 rfl) (sw_ltm hm (Nat.le_of_ble_eq_true rfl)) rfl ?_
  refine SW.genL h (fun y2 h => ?_)
  refine SW.iload_n (pc := 27) g (dt dt_X0_draw 15 rfl) rfl ?_
  refine SW.if_gt (pc := 28) (t := 35) g (dt dt_X0_draw 16 rfl) rfl (fun hc => ?_) (fun hc => ?_)
  · have h := iteT hc h
    refine SW.iload_n (pc := 35) g (dt dt_X0_draw 19 rfl) rfl ?_
    refine SW.iload_n (pc := 36) g (dt dt_X0_draw 20 rfl) rfl ?_
    obtain ⟨hz3, h⟩ := nzI h
    refine SW.irem (pc := 37) g (dt dt_X0_draw 21 rfl) hz3 ?_
    exact SW.ireturn (pc := 38) g (leafW h ho) rfl (Nat.le_of_ble_eq_true rfl) (Nat.le_of_ble_eq_true rfl) (dt dt_X0_draw 22 rfl)
  · have h := iteF hc h
    refine SW.iconst (pc := 31) (v := 0) g (dt dt_X0_draw 17 rfl) ki_0 ?_
    refine SW.goto (pc := 32) (t := 38) g (dt dt_X0_draw 18 rfl) rfl ?_
    exact SW.ireturn (pc := 38) g (leafW h ho) rfl (Nat.le_of_ble_eq_true rfl) (Nat.le_of_ble_eq_true rfl) (dt dt_X0_draw 22 rfl)
set_option maxRecDepth 100000 in
set_option maxHeartbeats 4000000 in
theorem mt_f_autm_draw (l : Launch) (D : va_G) (cI cL : ClassId) (ad : Nat → Nat) (ν : sw_N)    (N : Nat) (μ : sw_M) (a1 : Int32) (o : Int32 × sw_M) (h : f_autm_draw N  μ a1 = some o) : MetR l D cI cL yX0_draw cX0_draw 3 (some .int) 1 0 0 (fun a => a = ad) ad [.ref 55, .int a1] lay0 μ ν (some (.int o.1)) lay0 o.2 ν :=
  MetR.of (n := 1) rfl (Nat.le_of_ble_eq_true rfl) (fun G g ho hm _ _ => ok_f_autm_draw  g hm  μ ho a1 h)
def f_dream_isCut (N : Nat)  (μ : sw_M) (a1 : Int32) : Option (Int32) :=
  if (((μ 57 4) >>> (a1 &&& 31)) &&& 1) = 0 then
    some 0
  else
    some 1
set_option maxRecDepth 100000 in
set_option maxHeartbeats 4000000 in
theorem ok_f_dream_isCut {G : sw_G} {ad : Nat → Nat} {ν : sw_N}   {N : Nat} {o : Int32} (g : sw_ok G cX2_isCut "DeadWires$Days" (some .boolean) 1 0 0 ad) (hm : G.2.2.1.2.1.maxLocals = 2)  (μ : sw_M) (ho : sw_out G 0 0 (fun a => a = ad) (.inl (some (.int o))) lay0 μ ν) (a1 : Int32) (h : f_dream_isCut N  μ a1 = some o) : SW G ad lay0 ν 0 0 0 [some (.ref 57), some (.int a1)] [] μ := by
  unfold f_dream_isCut at h
  refine SW.aload_n (pc := 0) g (dt dt_X2_isCut 0 rfl) rfl ?_
  refine SW.getI (pc := 1) g (dt dt_X2_isCut 1 rfl) fl_X2_50 cell_57 rfl ?_
  refine SW.iload_n (pc := 4) g (dt dt_X2_isCut 2 rfl) rfl ?_
  refine SW.ishr (pc := 5) g (dt dt_X2_isCut 3 rfl) ?_
  refine SW.iconst (pc := 6) (v := 1) g (dt dt_X2_isCut 4 rfl) ki_1 ?_
  refine SW.iand (pc := 7) g (dt dt_X2_isCut 5 rfl) ?_
  refine SW.if_eq (pc := 8) (t := 15) g (dt dt_X2_isCut 6 rfl) rfl (fun hc => ?_) (fun hc => ?_)
  · have h := iteT hc h
    refine SW.iconst (pc := 15) (v := 0) g (dt dt_X2_isCut 9 rfl) ki_0 ?_
    exact SW.zreturn (pc := 16) g (leafI h ho) rfl (Nat.le_of_ble_eq_true rfl) (Nat.le_of_ble_eq_true rfl) (by decide) (dt dt_X2_isCut 10 rfl)
  · have h := iteF hc h
    refine SW.iconst (pc := 11) (v := 1) g (dt dt_X2_isCut 7 rfl) ki_1 ?_
    refine SW.goto (pc := 12) (t := 16) g (dt dt_X2_isCut 8 rfl) rfl ?_
    exact SW.zreturn (pc := 16) g (leafI h ho) rfl (Nat.le_of_ble_eq_true rfl) (Nat.le_of_ble_eq_true rfl) (by decide) (dt dt_X2_isCut 10 rfl)
set_option maxRecDepth 100000 in
set_option maxHeartbeats 4000000 in
theorem mt_f_dream_isCut (l : Launch) (D : va_G) (cI cL : ClassId) (ad : Nat → Nat) (ν : sw_N)    (N : Nat) (μ : sw_M) (a1 : Int32) (o : Int32) (h : f_dream_isCut N  μ a1 = some o) : MetR l D cI cL yX2_isCut cX2_isCut 2 (some .boolean) 1 0 0 (fun a => a = ad) ad [.ref 57, .int a1] lay0 μ ν (some (.int o)) lay0 μ ν :=
  MetR.of (n := 0) rfl (Nat.le_of_ble_eq_true rfl) (fun G g ho hm _ _ => ok_f_dream_isCut  g hm  μ ho a1 h)
def f_dream_isLive (N : Nat)  (μ : sw_M) (a1 : Int32) (a2 : Int32) : Option (Int32) :=
  Option.bind (f_dream_isCut N  μ a1) (fun r1 =>
    if r1 = 0 then
      Option.bind (f_sx_at N 58 12 μ a1) (fun r3 =>
        if ((μ 57 2) + a2) < r3 then
          some 0
        else
          some 1)
    else
      some 0)
set_option maxRecDepth 100000 in
set_option maxHeartbeats 4000000 in
theorem ok_f_dream_isLive {G : sw_G} {ad : Nat → Nat} {ν : sw_N}   {N : Nat} {o : Int32} (g : sw_ok G cX2_isLive "DeadWires$Days" (some .boolean) 2 0 0 ad) (hm : G.2.2.1.2.1.maxLocals = 3)  (μ : sw_M) (ho : sw_out G 0 0 (fun a => a = ad) (.inl (some (.int o))) lay0 μ ν) (a1 : Int32) (a2 : Int32) (h : f_dream_isLive N  μ a1 a2 = some o) : SW G ad lay0 ν 0 0 0 [some (.ref 57), some (.int a1), some (.int a2)] [] μ := by
  unfold f_dream_isLive at h
  refine SW.aload_n (pc := 0) g (dt dt_X2_isLive 0 rfl) rfl ?_
  refine SW.iload_n (pc := 1) g (dt dt_X2_isLive 1 rfl) rfl ?_
  obtain ⟨r1, h2, h⟩ := bindI h
  refine SW.callVi (pc := 2) g (dt dt_X2_isLive 2 rfl) (mt_f_dream_isCut _ _ _ _ ad ν   N μ a1 r1 h2) me_X2_isCut mv_X2_isCut ml_X2_75 cell_57 rfl rfl (Nat.le_of_ble_eq_true rfl) (Nat.le_of_ble_eq_true rfl) (Nat.le_of_ble_eq_true rfl) (Nat.le_of_ble_eq_true rfl) rfl ?_
  refine SW.if_ne (pc := 5) (t := 29) g (dt dt_X2_isLive 3 rfl) rfl (fun hc => ?_) (fun hc => ?_)
  · have h := iteF hc h
    refine SW.iconst (pc := 29) (v := 0) g (dt dt_X2_isLive 15 rfl) ki_0 ?_
    exact SW.zreturn (pc := 30) g (leafI h ho) rfl (Nat.le_of_ble_eq_true rfl) (Nat.le_of_ble_eq_true rfl) (by decide) (dt dt_X2_isLive 16 rfl)
  · have h := iteT hc h
    refine SW.aload_n (pc := 8) g (dt dt_X2_isLive 4 rfl) rfl ?_
    refine SW.getI (pc := 9) g (dt dt_X2_isLive 5 rfl) fl_X2_38 cell_57 rfl ?_
    refine SW.iload_n (pc := 12) g (dt dt_X2_isLive 6 rfl) rfl ?_
    refine SW.iadd (pc := 13) g (dt dt_X2_isLive 7 rfl) ?_
    refine SW.aload_n (pc := 14) g (dt dt_X2_isLive 8 rfl) rfl ?_
    refine SW.getR (pc := 15) g (dt dt_X2_isLive 9 rfl) fl_X2_9 cell_57 rfl ?_
    refine SW.iload_n (pc := 18) g (dt dt_X2_isLive 10 rfl) rfl ?_
    obtain ⟨r3, h4, h⟩ := bindI h
    refine SW.callSNi (pc := 19) g (dt dt_X2_isLive 11 rfl) (mt_f_sx_at _ _ _ _ ad ν lay0 58 12 cell_58 N μ a1 r3 h4) me_X10_at ms_X10_at mn_X2_79 rfl (Nat.le_of_ble_eq_true rfl) (Nat.le_of_ble_eq_true rfl) (Nat.le_of_ble_eq_true rfl) (Nat.le_of_ble_eq_true rfl) rfl ?_
    refine SW.icmp_lt (pc := 22) (t := 29) g (dt dt_X2_isLive 12 rfl) rfl (fun hc => ?_) (fun hc => ?_)
    · have h := iteT hc h
      refine SW.iconst (pc := 29) (v := 0) g (dt dt_X2_isLive 15 rfl) ki_0 ?_
      exact SW.zreturn (pc := 30) g (leafI h ho) rfl (Nat.le_of_ble_eq_true rfl) (Nat.le_of_ble_eq_true rfl) (by decide) (dt dt_X2_isLive 16 rfl)
    · have h := iteF hc h
      refine SW.iconst (pc := 25) (v := 1) g (dt dt_X2_isLive 13 rfl) ki_1 ?_
      refine SW.goto (pc := 26) (t := 30) g (dt dt_X2_isLive 14 rfl) rfl ?_
      exact SW.zreturn (pc := 30) g (leafI h ho) rfl (Nat.le_of_ble_eq_true rfl) (Nat.le_of_ble_eq_true rfl) (by decide) (dt dt_X2_isLive 16 rfl)
set_option maxRecDepth 100000 in
set_option maxHeartbeats 4000000 in
theorem mt_f_dream_isLive (l : Launch) (D : va_G) (cI cL : ClassId) (ad : Nat → Nat) (ν : sw_N)    (N : Nat) (μ : sw_M) (a1 : Int32) (a2 : Int32) (o : Int32) (h : f_dream_isLive N  μ a1 a2 = some o) : MetR l D cI cL yX2_isLive cX2_isLive 3 (some .boolean) 2 0 0 (fun a => a = ad) ad [.ref 57, .int a1, .int a2] lay0 μ ν (some (.int o)) lay0 μ ν :=
  MetR.of (n := 0) rfl (Nat.le_of_ble_eq_true rfl) (fun G g ho hm _ _ => ok_f_dream_isLive  g hm  μ ho a1 a2 h)
def f_dream_isOpenTo (N : Nat)  (μ : sw_M) (a1 : Int32) (a2 : Int32) : Option (Int32) :=
  Option.bind (f_dream_isLive N  μ a2 0) (fun r1 =>
    if r1 = 0 then
      Option.bind (f_sx_at N 61 5 μ a1) (fun r3 =>
        Option.bind (f_land_across N  μ a2 r3) (fun r5 =>
          if r5 = (-1) then
            some 0
          else
            some 1))
    else
      some 0)
set_option maxRecDepth 100000 in
set_option maxHeartbeats 4000000 in
theorem ok_f_dream_isOpenTo {G : sw_G} {ad : Nat → Nat} {ν : sw_N}   {N : Nat} {o : Int32} (g : sw_ok G cX2_isOpenTo "DeadWires$Days" (some .boolean) 3 0 0 ad) (hm : G.2.2.1.2.1.maxLocals = 3)  (μ : sw_M) (ho : sw_out G 0 0 (fun a => a = ad) (.inl (some (.int o))) lay0 μ ν) (a1 : Int32) (a2 : Int32) (h : f_dream_isOpenTo N  μ a1 a2 = some o) : SW G ad lay0 ν 0 0 0 [some (.ref 57), some (.int a1), some (.int a2)] [] μ := by
  unfold f_dream_isOpenTo at h
  refine SW.aload_n (pc := 0) g (dt dt_X2_isOpenTo 0 rfl) rfl ?_
  refine SW.iload_n (pc := 1) g (dt dt_X2_isOpenTo 1 rfl) rfl ?_
  refine SW.iconst (pc := 2) (v := 0) g (dt dt_X2_isOpenTo 2 rfl) ki_0 ?_
  obtain ⟨r1, h2, h⟩ := bindI h
  refine SW.callVi (pc := 3) g (dt dt_X2_isOpenTo 3 rfl) (mt_f_dream_isLive _ _ _ _ ad ν   N μ a2 0 r1 h2) me_X2_isLive mv_X2_isLive ml_X2_86 cell_57 rfl rfl (Nat.le_of_ble_eq_true rfl) (Nat.le_of_ble_eq_true rfl) (Nat.le_of_ble_eq_true rfl) (Nat.le_of_ble_eq_true rfl) rfl ?_
  refine SW.if_ne (pc := 6) (t := 33) g (dt dt_X2_isOpenTo 4 rfl) rfl (fun hc => ?_) (fun hc => ?_)
  · have h := iteF hc h
    refine SW.iconst (pc := 33) (v := 0) g (dt dt_X2_isOpenTo 17 rfl) ki_0 ?_
    exact SW.zreturn (pc := 34) g (leafI h ho) rfl (Nat.le_of_ble_eq_true rfl) (Nat.le_of_ble_eq_true rfl) (by decide) (dt dt_X2_isOpenTo 18 rfl)
  · have h := iteT hc h
    refine SW.aload_n (pc := 9) g (dt dt_X2_isOpenTo 5 rfl) rfl ?_
    refine SW.getR (pc := 10) g (dt dt_X2_isOpenTo 6 rfl) fl_X2_27 cell_57 rfl ?_
    refine SW.iload_n (pc := 13) g (dt dt_X2_isOpenTo 7 rfl) rfl ?_
    refine SW.aload_n (pc := 14) g (dt dt_X2_isOpenTo 8 rfl) rfl ?_
    refine SW.getR (pc := 15) g (dt dt_X2_isOpenTo 9 rfl) fl_X2_21 cell_57 rfl ?_
    refine SW.iload_n (pc := 18) g (dt dt_X2_isOpenTo 10 rfl) rfl ?_
    obtain ⟨r3, h4, h⟩ := bindI h
    refine SW.callSNi (pc := 19) g (dt dt_X2_isOpenTo 11 rfl) (mt_f_sx_at _ _ _ _ ad ν lay0 61 5 cell_61 N μ a1 r3 h4) me_X10_at ms_X10_at mn_X2_79 rfl (Nat.le_of_ble_eq_true rfl) (Nat.le_of_ble_eq_true rfl) (Nat.le_of_ble_eq_true rfl) (Nat.le_of_ble_eq_true rfl) rfl ?_
    obtain ⟨r5, h6, h⟩ := bindI h
    refine SW.callVi (pc := 22) g (dt dt_X2_isOpenTo 12 rfl) (mt_f_land_across _ _ _ _ ad ν   N μ a2 r3 r5 h6) me_X4_across mv_X4_across ml_X2_150 cell_3 rfl rfl (Nat.le_of_ble_eq_true rfl) (Nat.le_of_ble_eq_true rfl) (Nat.le_of_ble_eq_true rfl) (Nat.le_of_ble_eq_true rfl) rfl ?_
    refine SW.iconst (pc := 25) (v := (-1)) g (dt dt_X2_isOpenTo 13 rfl) ki_m1 ?_
    refine SW.icmp_eq (pc := 26) (t := 33) g (dt dt_X2_isOpenTo 14 rfl) rfl (fun hc => ?_) (fun hc => ?_)
    · have h := iteT hc h
      refine SW.iconst (pc := 33) (v := 0) g (dt dt_X2_isOpenTo 17 rfl) ki_0 ?_
      exact SW.zreturn (pc := 34) g (leafI h ho) rfl (Nat.le_of_ble_eq_true rfl) (Nat.le_of_ble_eq_true rfl) (by decide) (dt dt_X2_isOpenTo 18 rfl)
    · have h := iteF hc h
      refine SW.iconst (pc := 29) (v := 1) g (dt dt_X2_isOpenTo 15 rfl) ki_1 ?_
      refine SW.goto (pc := 30) (t := 34) g (dt dt_X2_isOpenTo 16 rfl) rfl ?_
      exact SW.zreturn (pc := 34) g (leafI h ho) rfl (Nat.le_of_ble_eq_true rfl) (Nat.le_of_ble_eq_true rfl) (by decide) (dt dt_X2_isOpenTo 18 rfl)
set_option maxRecDepth 100000 in
set_option maxHeartbeats 4000000 in
theorem mt_f_dream_isOpenTo (l : Launch) (D : va_G) (cI cL : ClassId) (ad : Nat → Nat) (ν : sw_N)    (N : Nat) (μ : sw_M) (a1 : Int32) (a2 : Int32) (o : Int32) (h : f_dream_isOpenTo N  μ a1 a2 = some o) : MetR l D cI cL yX2_isOpenTo cX2_isOpenTo 3 (some .boolean) 3 0 0 (fun a => a = ad) ad [.ref 57, .int a1, .int a2] lay0 μ ν (some (.int o)) lay0 μ ν :=
  MetR.of (n := 0) rfl (Nat.le_of_ble_eq_true rfl) (fun G g ho hm _ _ => ok_f_dream_isOpenTo  g hm  μ ho a1 a2 h)
def f_dream_loadOf_4 (N : Nat)  (μ : sw_M)  : Nat → Int32 → Int32 → Int32 → Option (Int32)
  | 0, _, _, _ => none
  | n + 1, x1, x2, x3 =>
    if (μ 3 2) ≤ x3 then
      some x2
    else
      inb x3 6 (
        if (μ 60 x3.toNatClampNeg) = x1 then
          inb x3 6 (
            ib (x2 + (μ 8 x3.toNatClampNeg)) (fun y3 =>
              f_dream_loadOf_4 N  μ  n x1 y3 (x3 + 1)))
        else
          f_dream_loadOf_4 N  μ  n x1 x2 (x3 + 1))
def f_dream_loadOf (N : Nat)  (μ : sw_M) (a1 : Int32) : Option (Int32) :=
  f_dream_loadOf_4 N  μ  N a1 0 0
set_option maxRecDepth 100000 in
set_option maxHeartbeats 4000000 in
theorem ok_f_dream_loadOf_4 {G : sw_G} {ad : Nat → Nat} {ν : sw_N}   {N : Nat} {o : Int32} (g : sw_ok G cX2_loadOf "DeadWires$Days" (some .int) 1 0 0 ad) (hm : G.2.2.1.2.1.maxLocals = 4)  (μ : sw_M) (ho : sw_out G 0 0 (fun a => a = ad) (.inl (some (.int o))) lay0 μ ν)  : ∀ (n : Nat) (x1 : Int32) (x2 : Int32) (x3 : Int32) (h : f_dream_loadOf_4 N  μ  n x1 x2 x3 = some o), SW G ad lay0 ν 0 0 4 [some (.ref 57), some (.int x1), some (.int x2), some (.int x3)] [] μ := by
  intro n
  induction n with
  | zero => intro x1 x2 x3 h; simp only [f_dream_loadOf_4] at h; cases h
  | succ n ih =>
    intro x1 x2 x3 h
    unfold f_dream_loadOf_4 at h
    refine SW.iload_n (pc := 4) g (dt dt_X2_loadOf 4 rfl) rfl ?_
    refine SW.aload_n (pc := 5) g (dt dt_X2_loadOf 5 rfl) rfl ?_
    refine SW.getR (pc := 6) g (dt dt_X2_loadOf 6 rfl) fl_X2_27 cell_57 rfl ?_
    refine SW.getI (pc := 9) g (dt dt_X2_loadOf 7 rfl) fl_X2_110 cell_3 rfl ?_
    refine SW.icmp_ge (pc := 12) (t := 43) g (dt dt_X2_loadOf 8 rfl) rfl (fun hc => ?_) (fun hc => ?_)
    · have h := iteT hc h
      refine SW.iload_n (pc := 43) g (dt dt_X2_loadOf 25 rfl) rfl ?_
      exact SW.ireturn (pc := 44) g (leafI h ho) rfl (Nat.le_of_ble_eq_true rfl) (Nat.le_of_ble_eq_true rfl) (dt dt_X2_loadOf 26 rfl)
    · have h := iteF hc h
      refine SW.aload_n (pc := 15) g (dt dt_X2_loadOf 9 rfl) rfl ?_
      refine SW.getR (pc := 16) g (dt dt_X2_loadOf 10 rfl) fl_X2_18 cell_57 rfl ?_
      refine SW.iload_n (pc := 19) g (dt dt_X2_loadOf 11 rfl) rfl ?_
      obtain ⟨hb1, h⟩ := inbI h
      refine SW.iaload (pc := 20) g (dt dt_X2_loadOf 12 rfl) cell_60 hb1 ?_
      refine SW.iload_n (pc := 21) g (dt dt_X2_loadOf 13 rfl) rfl ?_
      refine SW.icmp_ne (pc := 22) (t := 37) g (dt dt_X2_loadOf 14 rfl) rfl (fun hc => ?_) (fun hc => ?_)
      · have h := iteF hc h
        refine SW.iinc (pc := 37) (v := x3 + 1) g (dt dt_X2_loadOf 23 rfl) rfl (kn_1 _) (sw_ltm hm (Nat.le_of_ble_eq_true rfl)) rfl ?_
        refine SW.goto (pc := 40) (t := 4) g (dt dt_X2_loadOf 24 rfl) rfl ?_
        refine SW.msk [true, true, true, true] ?_
        exact ih  x1 x2 (x3 + 1) h
      · have h := iteT hc h
        refine SW.iload_n (pc := 25) g (dt dt_X2_loadOf 15 rfl) rfl ?_
        refine SW.aload_n (pc := 26) g (dt dt_X2_loadOf 16 rfl) rfl ?_
        refine SW.getR (pc := 27) g (dt dt_X2_loadOf 17 rfl) fl_X2_27 cell_57 rfl ?_
        refine SW.getR (pc := 30) g (dt dt_X2_loadOf 18 rfl) fl_X2_116 cell_3 rfl ?_
        refine SW.iload_n (pc := 33) g (dt dt_X2_loadOf 19 rfl) rfl ?_
        obtain ⟨hb2, h⟩ := inbI h
        refine SW.iaload (pc := 34) g (dt dt_X2_loadOf 20 rfl) cell_8 hb2 ?_
        refine SW.iadd (pc := 35) g (dt dt_X2_loadOf 21 rfl) ?_
        refine SW.istore_n (pc := 36) g (dt dt_X2_loadOf 22 rfl) (sw_ltm hm (Nat.le_of_ble_eq_true rfl)) rfl ?_
        refine SW.genL h (fun y3 h => ?_)
        refine SW.iinc (pc := 37) (v := x3 + 1) g (dt dt_X2_loadOf 23 rfl) rfl (kn_1 _) (sw_ltm hm (Nat.le_of_ble_eq_true rfl)) rfl ?_
        refine SW.goto (pc := 40) (t := 4) g (dt dt_X2_loadOf 24 rfl) rfl ?_
        refine SW.msk [true, true, true, true] ?_
        exact ih  x1 y3 (x3 + 1) h
set_option maxRecDepth 100000 in
set_option maxHeartbeats 4000000 in
theorem ok_f_dream_loadOf {G : sw_G} {ad : Nat → Nat} {ν : sw_N}   {N : Nat} {o : Int32} (g : sw_ok G cX2_loadOf "DeadWires$Days" (some .int) 1 0 0 ad) (hm : G.2.2.1.2.1.maxLocals = 4)  (μ : sw_M) (ho : sw_out G 0 0 (fun a => a = ad) (.inl (some (.int o))) lay0 μ ν) (a1 : Int32) (h : f_dream_loadOf N  μ a1 = some o) : SW G ad lay0 ν 0 0 0 [some (.ref 57), some (.int a1), none, none] [] μ := by
  unfold f_dream_loadOf at h
  refine SW.iconst (pc := 0) (v := 0) g (dt dt_X2_loadOf 0 rfl) ki_0 ?_
  refine SW.istore_n (pc := 1) g (dt dt_X2_loadOf 1 rfl) (sw_ltm hm (Nat.le_of_ble_eq_true rfl)) rfl ?_
  refine SW.iconst (pc := 2) (v := 0) g (dt dt_X2_loadOf 2 rfl) ki_0 ?_
  refine SW.istore_n (pc := 3) g (dt dt_X2_loadOf 3 rfl) (sw_ltm hm (Nat.le_of_ble_eq_true rfl)) rfl ?_
  refine SW.msk [true, true, true, true] ?_
  exact ok_f_dream_loadOf_4  g hm  μ ho   N a1 0 0 h
set_option maxRecDepth 100000 in
set_option maxHeartbeats 4000000 in
theorem mt_f_dream_loadOf (l : Launch) (D : va_G) (cI cL : ClassId) (ad : Nat → Nat) (ν : sw_N)    (N : Nat) (μ : sw_M) (a1 : Int32) (o : Int32) (h : f_dream_loadOf N  μ a1 = some o) : MetR l D cI cL yX2_loadOf cX2_loadOf 4 (some .int) 1 0 0 (fun a => a = ad) ad [.ref 57, .int a1] lay0 μ ν (some (.int o)) lay0 μ ν :=
  MetR.of (n := 2) rfl (Nat.le_of_ble_eq_true rfl) (fun G g ho hm _ _ => ok_f_dream_loadOf  g hm  μ ho a1 h)
