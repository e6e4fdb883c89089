/-! ===== by program (wip/whole/all.py): functions over the memory, and that the machine does just that ===== -/
def f_land_wiresAt (N : Nat)  (μ : sw_M) (a1 : Int32) : Option (Int32) :=
  Option.bind (f_land_wireBitsAt N  μ a1) (fun r1 =>
    Option.bind (f_jd_bitCount N  μ r1) (fun r3 =>
      some r3))
set_option maxRecDepth 100000 in
set_option maxHeartbeats 4000000 in
theorem ok_f_land_wiresAt {G : sw_G} {ad : Nat → Nat} {ν : sw_N}   {N : Nat} {o : Int32} (g : sw_ok G cX4_wiresAt "DeadWires$Land" (some .int) 2 0 0 ad) (hm : G.2.2.1.2.1.maxLocals = 2)  (μ : sw_M) (ho : sw_out G 0 0 (fun a => a = ad) (.inl (some (.int o))) lay0 μ ν) (a1 : Int32) (h : f_land_wiresAt N  μ a1 = some o) : SW G ad lay0 ν 0 0 0 [some (.ref 3), some (.int a1)] [] μ := by
  unfold f_land_wiresAt at h
  refine SW.aload_n (pc := 0) g (dt dt_X4_wiresAt 0 rfl) rfl ?_
  refine SW.iload_n (pc := 1) g (dt dt_X4_wiresAt 1 rfl) rfl ?_
  obtain ⟨r1, h2, h⟩ := bindI h
  refine SW.callVi (pc := 2) g (dt dt_X4_wiresAt 2 rfl) (mt_f_land_wireBitsAt _ _ _ _ ad ν   N μ a1 r1 h2) me_X4_wireBitsAt mv_X4_wireBitsAt ml_X4_55 cell_3 rfl rfl (Nat.le_of_ble_eq_true rfl) (Nat.le_of_ble_eq_true rfl) (Nat.le_of_ble_eq_true rfl) (Nat.le_of_ble_eq_true rfl) rfl ?_
  obtain ⟨r3, h4, h⟩ := bindI h
  refine SW.callSi (pc := 5) g (dt dt_X4_wiresAt 3 rfl) (mt_f_jd_bitCount _ _ _ _ ad ν lay0   N μ r1 r3 h4) me_J6_bitCount_0f7a4 ms_J6_bitCount_0f7a4 ml_X4_59 rfl (Nat.le_of_ble_eq_true rfl) (Nat.le_of_ble_eq_true rfl) (Nat.le_of_ble_eq_true rfl) (Nat.le_of_ble_eq_true rfl) rfl ?_
  exact SW.ireturn (pc := 8) g (leafI h ho) rfl (Nat.le_of_ble_eq_true rfl) (Nat.le_of_ble_eq_true rfl) (dt dt_X4_wiresAt 4 rfl)
set_option maxRecDepth 100000 in
set_option maxHeartbeats 4000000 in
theorem mt_f_land_wiresAt (l : Launch) (D : va_G) (cI cL : ClassId) (ad : Nat → Nat) (ν : sw_N)    (N : Nat) (μ : sw_M) (a1 : Int32) (o : Int32) (h : f_land_wiresAt N  μ a1 = some o) : MetR l D cI cL yX4_wiresAt cX4_wiresAt 2 (some .int) 2 0 0 (fun a => a = ad) ad [.ref 3, .int a1] lay0 μ ν (some (.int o)) lay0 μ ν :=
  MetR.of (n := 0) rfl (Nat.le_of_ble_eq_true rfl) (fun G g ho hm _ _ => ok_f_land_wiresAt  g hm  μ ho a1 h)
def f_sx_has (N : Nat)  (μ : sw_M) (a0 : Int32) (a1 : Int32) : Option (Int32) :=
  if ((a0 >>> (a1 &&& 31)) &&& 1) = 0 then
    some 0
  else
    some 1
set_option maxRecDepth 100000 in
set_option maxHeartbeats 4000000 in
theorem ok_f_sx_has {G : sw_G} {ad : Nat → Nat} {ν : sw_N} {L : sw_L}  {N : Nat} {o : Int32} (g : sw_ok G cX10_has "DeadWires" (some .boolean) 1 0 0 ad) (hm : G.2.2.1.2.1.maxLocals = 2)  (μ : sw_M) (ho : sw_out G 0 0 (fun a => a = ad) (.inl (some (.int o))) L μ ν) (a0 : Int32) (a1 : Int32) (h : f_sx_has N  μ a0 a1 = some o) : SW G ad L ν 0 0 0 [some (.int a0), some (.int a1)] [] μ := by
  unfold f_sx_has at h
  refine SW.iload_n (pc := 0) g (dt dt_X10_has 0 rfl) rfl ?_
  refine SW.iload_n (pc := 1) g (dt dt_X10_has 1 rfl) rfl ?_
  refine SW.ishr (pc := 2) g (dt dt_X10_has 2 rfl) ?_
  refine SW.iconst (pc := 3) (v := 1) g (dt dt_X10_has 3 rfl) ki_1 ?_
  refine SW.iand (pc := 4) g (dt dt_X10_has 4 rfl) ?_
  refine SW.if_eq (pc := 5) (t := 12) g (dt dt_X10_has 5 rfl) rfl (fun hc => ?_) (fun hc => ?_)
  · have h := iteT hc h
    refine SW.iconst (pc := 12) (v := 0) g (dt dt_X10_has 8 rfl) ki_0 ?_
    exact SW.zreturn (pc := 13) g (leafI h ho) rfl (Nat.le_of_ble_eq_true rfl) (Nat.le_of_ble_eq_true rfl) (by decide) (dt dt_X10_has 9 rfl)
  · have h := iteF hc h
    refine SW.iconst (pc := 8) (v := 1) g (dt dt_X10_has 6 rfl) ki_1 ?_
    refine SW.goto (pc := 9) (t := 13) g (dt dt_X10_has 7 rfl) rfl ?_
    exact SW.zreturn (pc := 13) g (leafI h ho) rfl (Nat.le_of_ble_eq_true rfl) (Nat.le_of_ble_eq_true rfl) (by decide) (dt dt_X10_has 9 rfl)
set_option maxRecDepth 100000 in
set_option maxHeartbeats 4000000 in
theorem mt_f_sx_has (l : Launch) (D : va_G) (cI cL : ClassId) (ad : Nat → Nat) (ν : sw_N) (L : sw_L)   (N : Nat) (μ : sw_M) (a0 : Int32) (a1 : Int32) (o : Int32) (h : f_sx_has N  μ a0 a1 = some o) : MetR l D cI cL yX10_has cX10_has 2 (some .boolean) 1 0 0 (fun a => a = ad) ad [.int a0, .int a1] L μ ν (some (.int o)) L μ ν :=
  MetR.of (n := 0) rfl (Nat.le_of_ble_eq_true rfl) (fun G g ho hm _ _ => ok_f_sx_has  g hm  μ ho a0 a1 h)
def f_land_weightOf_4 (N : Nat)  (μ : sw_M)  : Nat → Int32 → Int32 → Int32 → Option (Int32)
  | 0, _, _, _ => none
  | n + 1, x1, x2, x3 =>
    if (μ 3 2) ≤ x3 then
      some x2
    else
      Option.bind (f_sx_has N  μ x1 x3) (fun r1 =>
        if r1 = 0 then
          f_land_weightOf_4 N  μ  n x1 x2 (x3 + 1)
        else
          inb x3 6 (
            ib (x2 + (μ 8 x3.toNatClampNeg)) (fun y4 =>
              f_land_weightOf_4 N  μ  n x1 y4 (x3 + 1))))
def f_land_weightOf (N : Nat)  (μ : sw_M) (a1 : Int32) : Option (Int32) :=
  f_land_weightOf_4 N  μ  N a1 0 0
set_option maxRecDepth 100000 in
set_option maxHeartbeats 4000000 in
theorem ok_f_land_weightOf_4 {G : sw_G} {ad : Nat → Nat} {ν : sw_N}   {N : Nat} {o : Int32} (g : sw_ok G cX4_weightOf "DeadWires$Land" (some .int) 2 0 0 ad) (hm : G.2.2.1.2.1.maxLocals = 4)  (μ : sw_M) (ho : sw_out G 0 0 (fun a => a = ad) (.inl (some (.int o))) lay0 μ ν)  : ∀ (n : Nat) (x1 : Int32) (x2 : Int32) (x3 : Int32) (h : f_land_weightOf_4 N  μ  n x1 x2 x3 = some o), SW G ad lay0 ν 0 0 4 [some (.ref 3), some (.int x1), some (.int x2), some (.int x3)] [] μ := by
  intro n
  induction n with
  | zero => intro x1 x2 x3 h; simp only [f_land_weightOf_4] at h; cases h
  | succ n ih =>
    intro x1 x2 x3 h
    unfold f_land_weightOf_4 at h
    refine SW.iload_n (pc := 4) g (dt dt_X4_weightOf 4 rfl) rfl ?_
    refine SW.aload_n (pc := 5) g (dt dt_X4_weightOf 5 rfl) rfl ?_
    refine SW.getI (pc := 6) g (dt dt_X4_weightOf 6 rfl) fl_X4_43 cell_3 rfl ?_
    refine SW.icmp_ge (pc := 9) (t := 35) g (dt dt_X4_weightOf 7 rfl) rfl (fun hc => ?_) (fun hc => ?_)
    · have h := iteT hc h
      refine SW.iload_n (pc := 35) g (dt dt_X4_weightOf 21 rfl) rfl ?_
      exact SW.ireturn (pc := 36) g (leafI h ho) rfl (Nat.le_of_ble_eq_true rfl) (Nat.le_of_ble_eq_true rfl) (dt dt_X4_weightOf 22 rfl)
    · have h := iteF hc h
      refine SW.iload_n (pc := 12) g (dt dt_X4_weightOf 8 rfl) rfl ?_
      refine SW.iload_n (pc := 13) g (dt dt_X4_weightOf 9 rfl) rfl ?_
      obtain ⟨r1, h2, h⟩ := bindI h
      refine SW.callSNi (pc := 14) g (dt dt_X4_weightOf 10 rfl) (mt_f_sx_has _ _ _ _ ad ν lay0   N μ x1 x3 r1 h2) me_X10_has ms_X10_has mn_X4_68 rfl (Nat.le_of_ble_eq_true rfl) (Nat.le_of_ble_eq_true rfl) (Nat.le_of_ble_eq_true rfl) (Nat.le_of_ble_eq_true rfl) rfl ?_
      refine SW.if_eq (pc := 17) (t := 29) g (dt dt_X4_weightOf 11 rfl) rfl (fun hc => ?_) (fun hc => ?_)
      · have h := iteT hc h
        refine SW.iinc (pc := 29) (v := x3 + 1) g (dt dt_X4_weightOf 19 rfl) rfl (kn_1 _) (sw_ltm hm (Nat.le_of_ble_eq_true rfl)) rfl ?_
        refine SW.goto (pc := 32) (t := 4) g (dt dt_X4_weightOf 20 rfl) rfl ?_
        refine SW.msk [true, true, true, true] ?_
        exact ih  x1 x2 (x3 + 1) h
      · have h := iteF hc h
        refine SW.iload_n (pc := 20) g (dt dt_X4_weightOf 12 rfl) rfl ?_
        refine SW.aload_n (pc := 21) g (dt dt_X4_weightOf 13 rfl) rfl ?_
        refine SW.getR (pc := 22) g (dt dt_X4_weightOf 14 rfl) fl_X4_28 cell_3 rfl ?_
        refine SW.iload_n (pc := 25) g (dt dt_X4_weightOf 15 rfl) rfl ?_
        obtain ⟨hb3, h⟩ := inbI h
        refine SW.iaload (pc := 26) g (dt dt_X4_weightOf 16 rfl) cell_8 hb3 ?_
        refine SW.iadd (pc := 27) g (dt dt_X4_weightOf 17 rfl) ?_
        refine SW.istore_n (pc := 28) g (dt dt_X4_weightOf 18 rfl) (sw_ltm hm (Nat.le_of_ble_eq_true rfl)) rfl ?_
        refine SW.genL h (fun y4 h => ?_)
        refine SW.iinc (pc := 29) (v := x3 + 1) g (dt dt_X4_weightOf 19 rfl) rfl (kn_1 _) (sw_ltm hm (Nat.le_of_ble_eq_true rfl)) rfl ?_
        refine SW.goto (pc := 32) (t := 4) g (dt dt_X4_weightOf 20 rfl) rfl ?_
        refine SW.msk [true, true, true, true] ?_
        exact ih  x1 y4 (x3 + 1) h
set_option maxRecDepth 100000 in
set_option maxHeartbeats 4000000 in
theorem ok_f_land_weightOf {G : sw_G} {ad : Nat → Nat} {ν : sw_N}   {N : Nat} {o : Int32} (g : sw_ok G cX4_weightOf "DeadWires$Land" (some .int) 2 0 0 ad) (hm : G.2.2.1.2.1.maxLocals = 4)  (μ : sw_M) (ho : sw_out G 0 0 (fun a => a = ad) (.inl (some (.int o))) lay0 μ ν) (a1 : Int32) (h : f_land_weightOf N  μ a1 = some o) : SW G ad lay0 ν 0 0 0 [some (.ref 3), some (.int a1), none, none] [] μ := by
  unfold f_land_weightOf at h
  refine SW.iconst (pc := 0) (v := 0) g (dt dt_X4_weightOf 0 rfl) ki_0 ?_
  refine SW.istore_n (pc := 1) g (dt dt_X4_weightOf 1 rfl) (sw_ltm hm (Nat.le_of_ble_eq_true rfl)) rfl ?_
  refine SW.iconst (pc := 2) (v := 0) g (dt dt_X4_weightOf 2 rfl) ki_0 ?_
  refine SW.istore_n (pc := 3) g (dt dt_X4_weightOf 3 rfl) (sw_ltm hm (Nat.le_of_ble_eq_true rfl)) rfl ?_
  refine SW.msk [true, true, true, true] ?_
  exact ok_f_land_weightOf_4  g hm  μ ho   N a1 0 0 h
set_option maxRecDepth 100000 in
set_option maxHeartbeats 4000000 in
theorem mt_f_land_weightOf (l : Launch) (D : va_G) (cI cL : ClassId) (ad : Nat → Nat) (ν : sw_N)    (N : Nat) (μ : sw_M) (a1 : Int32) (o : Int32) (h : f_land_weightOf N  μ a1 = some o) : MetR l D cI cL yX4_weightOf cX4_weightOf 4 (some .int) 2 0 0 (fun a => a = ad) ad [.ref 3, .int a1] lay0 μ ν (some (.int o)) lay0 μ ν :=
  MetR.of (n := 2) rfl (Nat.le_of_ble_eq_true rfl) (fun G g ho hm _ _ => ok_f_land_weightOf  g hm  μ ho a1 h)
def f_lawR_add (N : Nat)  (μ : sw_M) (a1 : Int32) (a2 : Int32) : Option (Int32 × sw_M) :=
  Option.bind (f_sx_put N 25 150 μ (μ 24 4) a1) (fun r1 =>
    Option.bind (f_sx_put N 26 150 r1 (r1 24 4) a2) (fun r3 =>
      wb (wr r3 24 4 (if 150 < ((r3 24 4) + 1) then 150 else ((r3 24 4) + 1))) (fun μ5 =>
        some (1, μ5))))
set_option maxRecDepth 100000 in
set_option maxHeartbeats 4000000 in
theorem ok_f_lawR_add {G : sw_G} {ad : Nat → Nat} {ν : sw_N}   {N : Nat} {o : Int32 × sw_M} (g : sw_ok G cX5_add "DeadWires$Law" (some .boolean) 2 0 0 ad) (hm : G.2.2.1.2.1.maxLocals = 3)  (μ : sw_M) (ho : sw_out G 0 0 (fun a => a = ad) (.inl (some (.int o.1))) lay0 o.2 ν) (a1 : Int32) (a2 : Int32) (h : f_lawR_add N  μ a1 a2 = some o) : SW G ad lay0 ν 0 0 0 [some (.ref 24), some (.int a1), some (.int a2)] [] μ := by
  unfold f_lawR_add at h
  refine SW.aload_n (pc := 0) g (dt dt_X5_add 0 rfl) rfl ?_
  refine SW.getR (pc := 1) g (dt dt_X5_add 1 rfl) fl_X5_9 cell_24 rfl ?_
  refine SW.aload_n (pc := 4) g (dt dt_X5_add 2 rfl) rfl ?_
  refine SW.getI (pc := 5) g (dt dt_X5_add 3 rfl) fl_X5_27 cell_24 rfl ?_
  refine SW.iload_n (pc := 8) g (dt dt_X5_add 4 rfl) rfl ?_
  obtain ⟨r1, h2, h⟩ := bindI h
  refine SW.callSNv (pc := 9) g (dt dt_X5_add 5 rfl) (mt_f_sx_put _ _ _ _ ad ν lay0 25 150 cell_25 N μ (μ 24 4) a1 r1 h2) me_X10_put ms_X10_put mn_X5_41 rfl (Nat.le_of_ble_eq_true rfl) (Nat.le_of_ble_eq_true rfl) (Nat.le_of_ble_eq_true rfl) (Nat.le_of_ble_eq_true rfl) rfl ?_
  refine SW.aload_n (pc := 12) g (dt dt_X5_add 6 rfl) rfl ?_
  refine SW.getR (pc := 13) g (dt dt_X5_add 7 rfl) fl_X5_15 cell_24 rfl ?_
  refine SW.aload_n (pc := 16) g (dt dt_X5_add 8 rfl) rfl ?_
  refine SW.getI (pc := 17) g (dt dt_X5_add 9 rfl) fl_X5_27 cell_24 rfl ?_
  refine SW.iload_n (pc := 20) g (dt dt_X5_add 10 rfl) rfl ?_
  obtain ⟨r3, h4, h⟩ := bindI h
  refine SW.callSNv (pc := 21) g (dt dt_X5_add 11 rfl) (mt_f_sx_put _ _ _ _ ad ν lay0 26 150 cell_26 N r1 (r1 24 4) a2 r3 h4) me_X10_put ms_X10_put mn_X5_41 rfl (Nat.le_of_ble_eq_true rfl) (Nat.le_of_ble_eq_true rfl) (Nat.le_of_ble_eq_true rfl) (Nat.le_of_ble_eq_true rfl) rfl ?_
  refine SW.aload_n (pc := 24) g (dt dt_X5_add 12 rfl) rfl ?_
  refine SW.aload_n (pc := 25) g (dt dt_X5_add 13 rfl) rfl ?_
  refine SW.getI (pc := 26) g (dt dt_X5_add 14 rfl) fl_X5_27 cell_24 rfl ?_
  refine SW.iconst (pc := 29) (v := 1) g (dt dt_X5_add 15 rfl) ki_1 ?_
  refine SW.iadd (pc := 30) g (dt dt_X5_add 16 rfl) ?_
  refine SW.sipush (pc := 31) (v := 150) g (dt dt_X5_add 17 rfl) ks_150 ?_
  refine SW.mmin (pc := 34) g (dt dt_X5_add 18 rfl) ml_X5_45 ms_J9_min_7cf53 mt_init me_J9_min_7cf53.1 (Nat.le_of_ble_eq_true rfl) (Nat.le_of_ble_eq_true rfl) (Nat.le_of_ble_eq_true rfl) (Nat.le_of_ble_eq_true rfl) ?_
  refine SW.putI (pc := 37) g (dt dt_X5_add 19 rfl) fl_X5_27 cell_24 rfl ?_
  refine SW.genM h (fun μ5 h => ?_)
  refine SW.iconst (pc := 40) (v := 1) g (dt dt_X5_add 20 rfl) ki_1 ?_
  exact SW.zreturn (pc := 41) g (leafW h ho) rfl (Nat.le_of_ble_eq_true rfl) (Nat.le_of_ble_eq_true rfl) (by decide) (dt dt_X5_add 21 rfl)
set_option maxRecDepth 100000 in
set_option maxHeartbeats 4000000 in
theorem mt_f_lawR_add (l : Launch) (D : va_G) (cI cL : ClassId) (ad : Nat → Nat) (ν : sw_N)    (N : Nat) (μ : sw_M) (a1 : Int32) (a2 : Int32) (o : Int32 × sw_M) (h : f_lawR_add N  μ a1 a2 = some o) : MetR l D cI cL yX5_add cX5_add 3 (some .boolean) 2 0 0 (fun a => a = ad) ad [.ref 24, .int a1, .int a2] lay0 μ ν (some (.int o.1)) lay0 o.2 ν :=
  MetR.of (n := 0) rfl (Nat.le_of_ble_eq_true rfl) (fun G g ho hm _ _ => ok_f_lawR_add  g hm  μ ho a1 a2 h)
def f_sl_nameHere (N : Nat)  (μ : sw_M)  : Option (Int32) :=
  Option.bind (f_tape_isWord N 8 μ ) (fun r1 =>
    if r1 = 0 then
      Option.bind (f_tape_isWord N 14 μ ) (fun r3 =>
        if r3 = 0 then
          Option.bind (f_tape_isWord N 16 μ ) (fun r5 =>
            if r5 = 0 then
              Option.bind (f_tape_isWord N 6 μ ) (fun r7 =>
                if r7 = 0 then
                  Option.bind (f_tape_isWord N 4 μ ) (fun r9 =>
                    if r9 = 0 then
                      Option.bind (f_tape_isWord N 18 μ ) (fun r11 =>
                        if r11 = 0 then
                          Option.bind (f_tape_isWord N 11 μ ) (fun r13 =>
                            if r13 = 0 then
                              some (-1)
                            else
                              some 6)
                        else
                          some 5)
                    else
                      some 4)
                else
                  some 3)
            else
              some 2)
        else
          some 1)
    else
      some 0)
set_option maxRecDepth 100000 in
set_option maxHeartbeats 4000000 in
theorem ok_f_sl_nameHere {G : sw_G} {ad : Nat → Nat} {ν : sw_N}   {N : Nat} {o : Int32} (g : sw_ok G cX5_nameHere "DeadWires$Law" (some .int) 6 0 0 ad) (hm : G.2.2.1.2.1.maxLocals = 1)  (μ : sw_M) (ho : sw_out G 0 0 (fun a => a = ad) (.inl (some (.int o))) lay0 μ ν)  (h : f_sl_nameHere N  μ  = some o) : SW G ad lay0 ν 0 0 0 [some (.ref 1)] [] μ := by
  unfold f_sl_nameHere at h
  refine SW.aload_n (pc := 0) g (dt dt_X5_nameHere 0 rfl) rfl ?_
  refine SW.ldcS (pc := 1) (j := 8) g (dt dt_X5_nameHere 1 rfl) sr_X5_98 rfl ?_
  obtain ⟨r1, h2, h⟩ := bindI h
  refine SW.callVi (pc := 3) g (dt dt_X5_nameHere 2 rfl) (mt_f_tape_isWord _ _ _ _ ad ν 8 (by decide) N μ  r1 h2) me_X7_isWord mv_X7_isWord ml_X5_85 cell_1 rfl rfl (Nat.le_of_ble_eq_true rfl) (Nat.le_of_ble_eq_true rfl) (Nat.le_of_ble_eq_true rfl) (Nat.le_of_ble_eq_true rfl) rfl ?_
  refine SW.if_eq (pc := 6) (t := 11) g (dt dt_X5_nameHere 3 rfl) rfl (fun hc => ?_) (fun hc => ?_)
  · have h := iteT hc h
    refine SW.aload_n (pc := 11) g (dt dt_X5_nameHere 6 rfl) rfl ?_
    refine SW.ldcS (pc := 12) (j := 14) g (dt dt_X5_nameHere 7 rfl) sr_X5_100 rfl ?_
    obtain ⟨r3, h4, h⟩ := bindI h
    refine SW.callVi (pc := 14) g (dt dt_X5_nameHere 8 rfl) (mt_f_tape_isWord _ _ _ _ ad ν 14 (by decide) N μ  r3 h4) me_X7_isWord mv_X7_isWord ml_X5_85 cell_1 rfl rfl (Nat.le_of_ble_eq_true rfl) (Nat.le_of_ble_eq_true rfl) (Nat.le_of_ble_eq_true rfl) (Nat.le_of_ble_eq_true rfl) rfl ?_
    refine SW.if_eq (pc := 17) (t := 22) g (dt dt_X5_nameHere 9 rfl) rfl (fun hc => ?_) (fun hc => ?_)
    · have h := iteT hc h
      refine SW.aload_n (pc := 22) g (dt dt_X5_nameHere 12 rfl) rfl ?_
      refine SW.ldcS (pc := 23) (j := 16) g (dt dt_X5_nameHere 13 rfl) sr_X5_102 rfl ?_
      obtain ⟨r5, h6, h⟩ := bindI h
      refine SW.callVi (pc := 25) g (dt dt_X5_nameHere 14 rfl) (mt_f_tape_isWord _ _ _ _ ad ν 16 (by decide) N μ  r5 h6) me_X7_isWord mv_X7_isWord ml_X5_85 cell_1 rfl rfl (Nat.le_of_ble_eq_true rfl) (Nat.le_of_ble_eq_true rfl) (Nat.le_of_ble_eq_true rfl) (Nat.le_of_ble_eq_true rfl) rfl ?_
      refine SW.if_eq (pc := 28) (t := 33) g (dt dt_X5_nameHere 15 rfl) rfl (fun hc => ?_) (fun hc => ?_)
      · have h := iteT hc h
        refine SW.aload_n (pc := 33) g (dt dt_X5_nameHere 18 rfl) rfl ?_
        refine SW.ldcS (pc := 34) (j := 6) g (dt dt_X5_nameHere 19 rfl) sr_X5_104 rfl ?_
        obtain ⟨r7, h8, h⟩ := bindI h
        refine SW.callVi (pc := 36) g (dt dt_X5_nameHere 20 rfl) (mt_f_tape_isWord _ _ _ _ ad ν 6 (by decide) N μ  r7 h8) me_X7_isWord mv_X7_isWord ml_X5_85 cell_1 rfl rfl (Nat.le_of_ble_eq_true rfl) (Nat.le_of_ble_eq_true rfl) (Nat.le_of_ble_eq_true rfl) (Nat.le_of_ble_eq_true rfl) rfl ?_
        refine SW.if_eq (pc := 39) (t := 44) g (dt dt_X5_nameHere 21 rfl) rfl (fun hc => ?_) (fun hc => ?_)
        · have h := iteT hc h
          refine SW.aload_n (pc := 44) g (dt dt_X5_nameHere 24 rfl) rfl ?_
          refine SW.ldcS (pc := 45) (j := 4) g (dt dt_X5_nameHere 25 rfl) sr_X5_106 rfl ?_
          obtain ⟨r9, h10, h⟩ := bindI h
          refine SW.callVi (pc := 47) g (dt dt_X5_nameHere 26 rfl) (mt_f_tape_isWord _ _ _ _ ad ν 4 (by decide) N μ  r9 h10) me_X7_isWord mv_X7_isWord ml_X5_85 cell_1 rfl rfl (Nat.le_of_ble_eq_true rfl) (Nat.le_of_ble_eq_true rfl) (Nat.le_of_ble_eq_true rfl) (Nat.le_of_ble_eq_true rfl) rfl ?_
          refine SW.if_eq (pc := 50) (t := 55) g (dt dt_X5_nameHere 27 rfl) rfl (fun hc => ?_) (fun hc => ?_)
          · have h := iteT hc h
            refine SW.aload_n (pc := 55) g (dt dt_X5_nameHere 30 rfl) rfl ?_
            refine SW.ldcS (pc := 56) (j := 18) g (dt dt_X5_nameHere 31 rfl) sr_X5_108 rfl ?_
            obtain ⟨r11, h12, h⟩ := bindI h
            refine SW.callVi (pc := 58) g (dt dt_X5_nameHere 32 rfl) (mt_f_tape_isWord _ _ _ _ ad ν 18 (by decide) N μ  r11 h12) me_X7_isWord mv_X7_isWord ml_X5_85 cell_1 rfl rfl (Nat.le_of_ble_eq_true rfl) (Nat.le_of_ble_eq_true rfl) (Nat.le_of_ble_eq_true rfl) (Nat.le_of_ble_eq_true rfl) rfl ?_
            refine SW.if_eq (pc := 61) (t := 66) g (dt dt_X5_nameHere 33 rfl) rfl (fun hc => ?_) (fun hc => ?_)
            · have h := iteT hc h
              refine SW.aload_n (pc := 66) g (dt dt_X5_nameHere 36 rfl) rfl ?_
              refine SW.ldcS (pc := 67) (j := 11) g (dt dt_X5_nameHere 37 rfl) sr_X5_110 rfl ?_
              obtain ⟨r13, h14, h⟩ := bindI h
              refine SW.callVi (pc := 69) g (dt dt_X5_nameHere 38 rfl) (mt_f_tape_isWord _ _ _ _ ad ν 11 (by decide) N μ  r13 h14) me_X7_isWord mv_X7_isWord ml_X5_85 cell_1 rfl rfl (Nat.le_of_ble_eq_true rfl) (Nat.le_of_ble_eq_true rfl) (Nat.le_of_ble_eq_true rfl) (Nat.le_of_ble_eq_true rfl) rfl ?_
              refine SW.if_eq (pc := 72) (t := 80) g (dt dt_X5_nameHere 39 rfl) rfl (fun hc => ?_) (fun hc => ?_)
              · have h := iteT hc h
                refine SW.iconst (pc := 80) (v := (-1)) g (dt dt_X5_nameHere 42 rfl) ki_m1 ?_
                exact SW.ireturn (pc := 81) g (leafI h ho) rfl (Nat.le_of_ble_eq_true rfl) (Nat.le_of_ble_eq_true rfl) (dt dt_X5_nameHere 43 rfl)
              · have h := iteF hc h
                refine SW.bipush (pc := 75) (v := 6) g (dt dt_X5_nameHere 40 rfl) kb_6 ?_
                refine SW.goto (pc := 77) (t := 81) g (dt dt_X5_nameHere 41 rfl) rfl ?_
                exact SW.ireturn (pc := 81) g (leafI h ho) rfl (Nat.le_of_ble_eq_true rfl) (Nat.le_of_ble_eq_true rfl) (dt dt_X5_nameHere 43 rfl)
            · have h := iteF hc h
              refine SW.iconst (pc := 64) (v := 5) g (dt dt_X5_nameHere 34 rfl) ki_5 ?_
              exact SW.ireturn (pc := 65) g (leafI h ho) rfl (Nat.le_of_ble_eq_true rfl) (Nat.le_of_ble_eq_true rfl) (dt dt_X5_nameHere 35 rfl)
          · have h := iteF hc h
            refine SW.iconst (pc := 53) (v := 4) g (dt dt_X5_nameHere 28 rfl) ki_4 ?_
            exact SW.ireturn (pc := 54) g (leafI h ho) rfl (Nat.le_of_ble_eq_true rfl) (Nat.le_of_ble_eq_true rfl) (dt dt_X5_nameHere 29 rfl)
        · have h := iteF hc h
          refine SW.iconst (pc := 42) (v := 3) g (dt dt_X5_nameHere 22 rfl) ki_3 ?_
          exact SW.ireturn (pc := 43) g (leafI h ho) rfl (Nat.le_of_ble_eq_true rfl) (Nat.le_of_ble_eq_true rfl) (dt dt_X5_nameHere 23 rfl)
      · have h := iteF hc h
        refine SW.iconst (pc := 31) (v := 2) g (dt dt_X5_nameHere 16 rfl) ki_2 ?_
        exact SW.ireturn (pc := 32) g (leafI h ho) rfl (Nat.le_of_ble_eq_true rfl) (Nat.le_of_ble_eq_true rfl) (dt dt_X5_nameHere 17 rfl)
    · have h := iteF hc h
      refine SW.iconst (pc := 20) (v := 1) g (dt dt_X5_nameHere 10 rfl) ki_1 ?_
      exact SW.ireturn (pc := 21) g (leafI h ho) rfl (Nat.le_of_ble_eq_true rfl) (Nat.le_of_ble_eq_true rfl) (dt dt_X5_nameHere 11 rfl)
  · have h := iteF hc h
    refine SW.iconst (pc := 9) (v := 0) g (dt dt_X5_nameHere 4 rfl) ki_0 ?_
    exact SW.ireturn (pc := 10) g (leafI h ho) rfl (Nat.le_of_ble_eq_true rfl) (Nat.le_of_ble_eq_true rfl) (dt dt_X5_nameHere 5 rfl)
set_option maxRecDepth 100000 in
set_option maxHeartbeats 4000000 in
theorem mt_f_sl_nameHere (l : Launch) (D : va_G) (cI cL : ClassId) (ad : Nat → Nat) (ν : sw_N)    (N : Nat) (μ : sw_M)  (o : Int32) (h : f_sl_nameHere N  μ  = some o) : MetR l D cI cL yX5_nameHere cX5_nameHere 1 (some .int) 6 0 0 (fun a => a = ad) ad [.ref 1] lay0 μ ν (some (.int o)) lay0 μ ν :=
  MetR.of (n := 0) rfl (Nat.le_of_ble_eq_true rfl) (fun G g ho hm _ _ => ok_f_sl_nameHere  g hm  μ ho  h)
def f_lawR_readChoice_12 (N : Nat) (q_f_lawR_readSum : sw_M → Int32 → Option (Int32 × sw_M)) (q_f_lawR_readProduct : sw_M → Int32 → Option (Int32 × sw_M)) (q_f_lawR_readUnit : sw_M → Int32 → Option (Int32 × sw_M)) (q_f_lawR_readChoice : sw_M → Int32 → Option (Int32 × sw_M))  (μ : sw_M) (x2 : Int32) (s0 : Int32) : Option (Int32 × sw_M) :=
  Option.bind (f_tape_takeUnless N  μ s0) (fun r1 =>
    if r1.1 = 0 then
      some (0, r1.2)
    else
      Option.bind (f_tape_takeSign N  r1.2 91) (fun r3 =>
        if r3.1 = 0 then
          some (0, r3.2)
        else
          Option.bind (q_f_lawR_readSum r3.2 (x2 + 1)) (fun r5 =>
            if r5.1 = 0 then
              some (0, r5.2)
            else
              Option.bind (f_tape_takeSign N  r5.2 44) (fun r7 =>
                if r7.1 = 0 then
                  some (0, r7.2)
                else
                  Option.bind (q_f_lawR_readSum r7.2 (x2 + 1)) (fun r9 =>
                    if r9.1 = 0 then
                      some (0, r9.2)
                    else
                      Option.bind (f_tape_takeSign N  r9.2 93) (fun r11 =>
                        if r11.1 = 0 then
                          some (0, r11.2)
                        else
                          some (1, r11.2)))))))
def f_lawR_readChoice_b (N : Nat) (q_f_lawR_readSum : sw_M → Int32 → Option (Int32 × sw_M)) (q_f_lawR_readProduct : sw_M → Int32 → Option (Int32 × sw_M)) (q_f_lawR_readUnit : sw_M → Int32 → Option (Int32 × sw_M)) (q_f_lawR_readChoice : sw_M → Int32 → Option (Int32 × sw_M)) (μ : sw_M) (a2 : Int32) : Option (Int32 × sw_M) :=
  if a2 < 6 then
    f_lawR_readChoice_12 N  q_f_lawR_readSum q_f_lawR_readProduct q_f_lawR_readUnit q_f_lawR_readChoice   μ a2 0
  else
    f_lawR_readChoice_12 N  q_f_lawR_readSum q_f_lawR_readProduct q_f_lawR_readUnit q_f_lawR_readChoice   μ a2 1
set_option maxRecDepth 100000 in
set_option maxHeartbeats 4000000 in
theorem ok_f_lawR_readChoice_12 {G : sw_G} {ad : Nat → Nat} {ν : sw_N}   {d : Nat} (q_f_lawR_readSum : sw_M → Int32 → Option (Int32 × sw_M)) (q_f_lawR_readProduct : sw_M → Int32 → Option (Int32 × sw_M)) (q_f_lawR_readUnit : sw_M → Int32 → Option (Int32 × sw_M)) (q_f_lawR_readChoice : sw_M → Int32 → Option (Int32 × sw_M)) {N : Nat} {o : Int32 × sw_M} (g : sw_ok G cX5_readChoice "DeadWires$Law" (some .boolean) (7 + (d + 1)) 0 0 ad) (hm : G.2.2.1.2.1.maxLocals = 3) (hq_f_lawR_readSum : ∀ (l : Launch) (D : va_G) (cI cL : ClassId) (ad : Nat → Nat) (ν : sw_N) (μ : sw_M) (a2 : Int32) (o : Int32 × sw_M), q_f_lawR_readSum μ a2 = some o → MetR l D cI cL yX5_readSum cX5_readSum 5 (some .boolean) (7 + d) 0 0 (fun a => a = ad) ad [.ref 24, .ref 1, .int a2] lay0 μ ν (some (.int o.1)) lay0 o.2 ν) (hq_f_lawR_readProduct : ∀ (l : Launch) (D : va_G) (cI cL : ClassId) (ad : Nat → Nat) (ν : sw_N) (μ : sw_M) (a2 : Int32) (o : Int32 × sw_M), q_f_lawR_readProduct μ a2 = some o → MetR l D cI cL yX5_readProduct cX5_readProduct 5 (some .boolean) (7 + d) 0 0 (fun a => a = ad) ad [.ref 24, .ref 1, .int a2] lay0 μ ν (some (.int o.1)) lay0 o.2 ν) (hq_f_lawR_readUnit : ∀ (l : Launch) (D : va_G) (cI cL : ClassId) (ad : Nat → Nat) (ν : sw_N) (μ : sw_M) (a2 : Int32) (o : Int32 × sw_M), q_f_lawR_readUnit μ a2 = some o → MetR l D cI cL yX5_readUnit cX5_readUnit 4 (some .boolean) (7 + d) 0 0 (fun a => a = ad) ad [.ref 24, .ref 1, .int a2] lay0 μ ν (some (.int o.1)) lay0 o.2 ν) (hq_f_lawR_readChoice : ∀ (l : Launch) (D : va_G) (cI cL : ClassId) (ad : Nat → Nat) (ν : sw_N) (μ : sw_M) (a2 : Int32) (o : Int32 × sw_M), q_f_lawR_readChoice μ a2 = some o → MetR l D cI cL yX5_readChoice cX5_readChoice 3 (some .boolean) (7 + d) 0 0 (fun a => a = ad) ad [.ref 24, .ref 1, .int a2] lay0 μ ν (some (.int o.1)) lay0 o.2 ν) (ho : sw_out G 0 0 (fun a => a = ad) (.inl (some (.int o.1))) lay0 o.2 ν)  (μ : sw_M) (x2 : Int32) (s0 : Int32) (h : f_lawR_readChoice_12 N  q_f_lawR_readSum q_f_lawR_readProduct q_f_lawR_readUnit q_f_lawR_readChoice   μ x2 s0 = some o) : SW G ad lay0 ν 0 0 12 [some (.ref 24), some (.ref 1), some (.int x2)] [.int s0, .ref 1] μ := by
  unfold f_lawR_readChoice_12 at h
  obtain ⟨r1, h2, h⟩ := bindI h
  refine SW.callVi (pc := 12) g (dt dt_X5_readChoice 7 rfl) (mt_f_tape_takeUnless _ _ _ _ ad ν   N μ s0 r1 h2) me_X7_takeUnless mv_X7_takeUnless ml_X5_76 cell_1 rfl rfl (Nat.le_of_ble_eq_true rfl) (by omega) (Nat.le_of_ble_eq_true rfl) (Nat.le_of_ble_eq_true rfl) rfl ?_
  refine SW.if_eq (pc := 15) (t := 71) g (dt dt_X5_readChoice 8 rfl) rfl (fun hc => ?_) (fun hc => ?_)
  · have h := iteT hc h
    refine SW.iconst (pc := 71) (v := 0) g (dt dt_X5_readChoice 37 rfl) ki_0 ?_
    exact SW.zreturn (pc := 72) g (leafW h ho) rfl (Nat.le_of_ble_eq_true rfl) (Nat.le_of_ble_eq_true rfl) (by decide) (dt dt_X5_readChoice 38 rfl)
  · have h := iteF hc h
    refine SW.aload_n (pc := 18) g (dt dt_X5_readChoice 9 rfl) rfl ?_
    refine SW.bipush (pc := 19) (v := 91) g (dt dt_X5_readChoice 10 rfl) kb_91 ?_
    obtain ⟨r3, h4, h⟩ := bindI h
    refine SW.callVi (pc := 21) g (dt dt_X5_readChoice 11 rfl) (mt_f_tape_takeSign _ _ _ _ ad ν   N r1.2 91 r3 h4) me_X7_takeSign mv_X7_takeSign ml_X5_80 cell_1 rfl rfl (Nat.le_of_ble_eq_true rfl) (by omega) (Nat.le_of_ble_eq_true rfl) (Nat.le_of_ble_eq_true rfl) rfl ?_
    refine SW.if_eq (pc := 24) (t := 71) g (dt dt_X5_readChoice 12 rfl) rfl (fun hc => ?_) (fun hc => ?_)
    · have h := iteT hc h
      refine SW.iconst (pc := 71) (v := 0) g (dt dt_X5_readChoice 37 rfl) ki_0 ?_
      exact SW.zreturn (pc := 72) g (leafW h ho) rfl (Nat.le_of_ble_eq_true rfl) (Nat.le_of_ble_eq_true rfl) (by decide) (dt dt_X5_readChoice 38 rfl)
    · have h := iteF hc h
      refine SW.aload_n (pc := 27) g (dt dt_X5_readChoice 13 rfl) rfl ?_
      refine SW.aload_n (pc := 28) g (dt dt_X5_readChoice 14 rfl) rfl ?_
      refine SW.iload_n (pc := 29) g (dt dt_X5_readChoice 15 rfl) rfl ?_
      refine SW.iconst (pc := 30) (v := 1) g (dt dt_X5_readChoice 16 rfl) ki_1 ?_
      refine SW.iadd (pc := 31) g (dt dt_X5_readChoice 17 rfl) ?_
      obtain ⟨r5, h6, h⟩ := bindI h
      refine SW.callVi (pc := 32) g (dt dt_X5_readChoice 18 rfl) (hq_f_lawR_readSum _ _ _ _ ad ν r3.2 (x2 + 1) r5 h6) me_X5_readSum mv_X5_readSum ml_X5_51 cell_24 rfl rfl (Nat.le_of_ble_eq_true rfl) (by omega) (Nat.le_of_ble_eq_true rfl) (Nat.le_of_ble_eq_true rfl) rfl ?_
      refine SW.if_eq (pc := 35) (t := 71) g (dt dt_X5_readChoice 19 rfl) rfl (fun hc => ?_) (fun hc => ?_)
      · have h := iteT hc h
        refine SW.iconst (pc := 71) (v := 0) g (dt dt_X5_readChoice 37 rfl) ki_0 ?_
        exact SW.zreturn (pc := 72) g (leafW h ho) rfl (Nat.le_of_ble_eq_true rfl) (Nat.le_of_ble_eq_true rfl) (by decide) (dt dt_X5_readChoice 38 rfl)
      · have h := iteF hc h
        refine SW.aload_n (pc := 38) g (dt dt_X5_readChoice 20 rfl) rfl ?_
        refine SW.bipush (pc := 39) (v := 44) g (dt dt_X5_readChoice 21 rfl) kb_44 ?_
        obtain ⟨r7, h8, h⟩ := bindI h
        refine SW.callVi (pc := 41) g (dt dt_X5_readChoice 22 rfl) (mt_f_tape_takeSign _ _ _ _ ad ν   N r5.2 44 r7 h8) me_X7_takeSign mv_X7_takeSign ml_X5_80 cell_1 rfl rfl (Nat.le_of_ble_eq_true rfl) (by omega) (Nat.le_of_ble_eq_true rfl) (Nat.le_of_ble_eq_true rfl) rfl ?_
        refine SW.if_eq (pc := 44) (t := 71) g (dt dt_X5_readChoice 23 rfl) rfl (fun hc => ?_) (fun hc => ?_)
        · have h := iteT hc h
          refine SW.iconst (pc := 71) (v := 0) g (dt dt_X5_readChoice 37 rfl) ki_0 ?_
          exact SW.zreturn (pc := 72) g (leafW h ho) rfl (Nat.le_of_ble_eq_true rfl) (Nat.le_of_ble_eq_true rfl) (by decide) (dt dt_X5_readChoice 38 rfl)
        · have h := iteF hc h
          refine SW.aload_n (pc := 47) g (dt dt_X5_readChoice 24 rfl) rfl ?_
          refine SW.aload_n (pc := 48) g (dt dt_X5_readChoice 25 rfl) rfl ?_
          refine SW.iload_n (pc := 49) g (dt dt_X5_readChoice 26 rfl) rfl ?_
          refine SW.iconst (pc := 50) (v := 1) g (dt dt_X5_readChoice 27 rfl) ki_1 ?_
          refine SW.iadd (pc := 51) g (dt dt_X5_readChoice 28 rfl) ?_
          obtain ⟨r9, h10, h⟩ := bindI h
          refine SW.callVi (pc := 52) g (dt dt_X5_readChoice 29 rfl) (hq_f_lawR_readSum _ _ _ _ ad ν r7.2 (x2 + 1) r9 h10) me_X5_readSum mv_X5_readSum ml_X5_51 cell_24 rfl rfl (Nat.le_of_ble_eq_true rfl) (by omega) (Nat.le_of_ble_eq_true rfl) (Nat.le_of_ble_eq_true rfl) rfl ?_
          refine SW.if_eq (pc := 55) (t := 71) g (dt dt_X5_readChoice 30 rfl) rfl (fun hc => ?_) (fun hc => ?_)
          · have h := iteT hc h
            refine SW.iconst (pc := 71) (v := 0) g (dt dt_X5_readChoice 37 rfl) ki_0 ?_
            exact SW.zreturn (pc := 72) g (leafW h ho) rfl (Nat.le_of_ble_eq_true rfl) (Nat.le_of_ble_eq_true rfl) (by decide) (dt dt_X5_readChoice 38 rfl)
          · have h := iteF hc h
            refine SW.aload_n (pc := 58) g (dt dt_X5_readChoice 31 rfl) rfl ?_
            refine SW.bipush (pc := 59) (v := 93) g (dt dt_X5_readChoice 32 rfl) kb_93 ?_
            obtain ⟨r11, h12, h⟩ := bindI h
            refine SW.callVi (pc := 61) g (dt dt_X5_readChoice 33 rfl) (mt_f_tape_takeSign _ _ _ _ ad ν   N r9.2 93 r11 h12) me_X7_takeSign mv_X7_takeSign ml_X5_80 cell_1 rfl rfl (Nat.le_of_ble_eq_true rfl) (by omega) (Nat.le_of_ble_eq_true rfl) (Nat.le_of_ble_eq_true rfl) rfl ?_
            refine SW.if_eq (pc := 64) (t := 71) g (dt dt_X5_readChoice 34 rfl) rfl (fun hc => ?_) (fun hc => ?_)
            · have h := iteT hc h
              refine SW.iconst (pc := 71) (v := 0) g (dt dt_X5_readChoice 37 rfl) ki_0 ?_
              exact SW.zreturn (pc := 72) g (leafW h ho) rfl (Nat.le_of_ble_eq_true rfl) (Nat.le_of_ble_eq_true rfl) (by decide) (dt dt_X5_readChoice 38 rfl)
            · have h := iteF hc h
              refine SW.iconst (pc := 67) (v := 1) g (dt dt_X5_readChoice 35 rfl) ki_1 ?_
              refine SW.goto (pc := 68) (t := 72) g (dt dt_X5_readChoice 36 rfl) rfl ?_
              exact SW.zreturn (pc := 72) g (leafW h ho) rfl (Nat.le_of_ble_eq_true rfl) (Nat.le_of_ble_eq_true rfl) (by decide) (dt dt_X5_readChoice 38 rfl)
set_option maxRecDepth 100000 in
set_option maxHeartbeats 4000000 in
theorem ok_f_lawR_readChoice_b {G : sw_G} {ad : Nat → Nat} {ν : sw_N}   {d : Nat} (q_f_lawR_readSum : sw_M → Int32 → Option (Int32 × sw_M)) (q_f_lawR_readProduct : sw_M → Int32 → Option (Int32 × sw_M)) (q_f_lawR_readUnit : sw_M → Int32 → Option (Int32 × sw_M)) (q_f_lawR_readChoice : sw_M → Int32 → Option (Int32 × sw_M)) {N : Nat} {o : Int32 × sw_M} (g : sw_ok G cX5_readChoice "DeadWires$Law" (some .boolean) (7 + (d + 1)) 0 0 ad) (hm : G.2.2.1.2.1.maxLocals = 3) (hq_f_lawR_readSum : ∀ (l : Launch) (D : va_G) (cI cL : ClassId) (ad : Nat → Nat) (ν : sw_N) (μ : sw_M) (a2 : Int32) (o : Int32 × sw_M), q_f_lawR_readSum μ a2 = some o → MetR l D cI cL yX5_readSum cX5_readSum 5 (some .boolean) (7 + d) 0 0 (fun a => a = ad) ad [.ref 24, .ref 1, .int a2] lay0 μ ν (some (.int o.1)) lay0 o.2 ν) (hq_f_lawR_readProduct : ∀ (l : Launch) (D : va_G) (cI cL : ClassId) (ad : Nat → Nat) (ν : sw_N) (μ : sw_M) (a2 : Int32) (o : Int32 × sw_M), q_f_lawR_readProduct μ a2 = some o → MetR l D cI cL yX5_readProduct cX5_readProduct 5 (some .boolean) (7 + d) 0 0 (fun a => a = ad) ad [.ref 24, .ref 1, .int a2] lay0 μ ν (some (.int o.1)) lay0 o.2 ν) (hq_f_lawR_readUnit : ∀ (l : Launch) (D : va_G) (cI cL : ClassId) (ad : Nat → Nat) (ν : sw_N) (μ : sw_M) (a2 : Int32) (o : Int32 × sw_M), q_f_lawR_readUnit μ a2 = some o → MetR l D cI cL yX5_readUnit cX5_readUnit 4 (some .boolean) (7 + d) 0 0 (fun a => a = ad) ad [.ref 24, .ref 1, .int a2] lay0 μ ν (some (.int o.1)) lay0 o.2 ν) (hq_f_lawR_readChoice : ∀ (l : Launch) (D : va_G) (cI cL : ClassId) (ad : Nat → Nat) (ν : sw_N) (μ : sw_M) (a2 : Int32) (o : Int32 × sw_M), q_f_lawR_readChoice μ a2 = some o → MetR l D cI cL yX5_readChoice cX5_readChoice 3 (some .boolean) (7 + d) 0 0 (fun a => a = ad) ad [.ref 24, .ref 1, .int a2] lay0 μ ν (some (.int o.1)) lay0 o.2 ν) (μ : sw_M) (ho : sw_out G 0 0 (fun a => a = ad) (.inl (some (.int o.1))) lay0 o.2 ν) (a2 : Int32) (h : f_lawR_readChoice_b N  q_f_lawR_readSum q_f_lawR_readProduct q_f_lawR_readUnit q_f_lawR_readChoice μ a2 = some o) : SW G ad lay0 ν 0 0 0 [some (.ref 24), some (.ref 1), some (.int a2)] [] μ := by
  unfold f_lawR_readChoice_b at h
  refine SW.aload_n (pc := 0) g (dt dt_X5_readChoice 0 rfl) rfl ?_
  refine SW.iload_n (pc := 1) g (dt dt_X5_readChoice 1 rfl) rfl ?_
  refine SW.bipush (pc := 2) (v := 6) g (dt dt_X5_readChoice 2 rfl) kb_6 ?_
  refine SW.icmp_lt (pc := 4) (t := 11) g (dt dt_X5_readChoice 3 rfl) rfl (fun hc => ?_) (fun hc => ?_)
  · have h := iteT hc h
    refine SW.iconst (pc := 11) (v := 0) g (dt dt_X5_readChoice 6 rfl) ki_0 ?_
    refine SW.msk [true, true, true] ?_
    exact ok_f_lawR_readChoice_12  q_f_lawR_readSum q_f_lawR_readProduct q_f_lawR_readUnit q_f_lawR_readChoice g hm  hq_f_lawR_readSum hq_f_lawR_readProduct hq_f_lawR_readUnit hq_f_lawR_readChoice ho    μ a2 0 h
  · have h := iteF hc h
    refine SW.iconst (pc := 7) (v := 1) g (dt dt_X5_readChoice 4 rfl) ki_1 ?_
    refine SW.goto (pc := 8) (t := 12) g (dt dt_X5_readChoice 5 rfl) rfl ?_
    refine SW.msk [true, true, true] ?_
    exact ok_f_lawR_readChoice_12  q_f_lawR_readSum q_f_lawR_readProduct q_f_lawR_readUnit q_f_lawR_readChoice g hm  hq_f_lawR_readSum hq_f_lawR_readProduct hq_f_lawR_readUnit hq_f_lawR_readChoice ho    μ a2 1 h
set_option maxRecDepth 100000 in
set_option maxHeartbeats 4000000 in
theorem mtb_f_lawR_readChoice (l : Launch) (D : va_G) (cI cL : ClassId) (ad : Nat → Nat) (ν : sw_N)   {d : Nat} (q_f_lawR_readSum : sw_M → Int32 → Option (Int32 × sw_M)) (q_f_lawR_readProduct : sw_M → Int32 → Option (Int32 × sw_M)) (q_f_lawR_readUnit : sw_M → Int32 → Option (Int32 × sw_M)) (q_f_lawR_readChoice : sw_M → Int32 → Option (Int32 × sw_M)) (hq_f_lawR_readSum : ∀ (l : Launch) (D : va_G) (cI cL : ClassId) (ad : Nat → Nat) (ν : sw_N) (μ : sw_M) (a2 : Int32) (o : Int32 × sw_M), q_f_lawR_readSum μ a2 = some o → MetR l D cI cL yX5_readSum cX5_readSum 5 (some .boolean) (7 + d) 0 0 (fun a => a = ad) ad [.ref 24, .ref 1, .int a2] lay0 μ ν (some (.int o.1)) lay0 o.2 ν) (hq_f_lawR_readProduct : ∀ (l : Launch) (D : va_G) (cI cL : ClassId) (ad : Nat → Nat) (ν : sw_N) (μ : sw_M) (a2 : Int32) (o : Int32 × sw_M), q_f_lawR_readProduct μ a2 = some o → MetR l D cI cL yX5_readProduct cX5_readProduct 5 (some .boolean) (7 + d) 0 0 (fun a => a = ad) ad [.ref 24, .ref 1, .int a2] lay0 μ ν (some (.int o.1)) lay0 o.2 ν) (hq_f_lawR_readUnit : ∀ (l : Launch) (D : va_G) (cI cL : ClassId) (ad : Nat → Nat) (ν : sw_N) (μ : sw_M) (a2 : Int32) (o : Int32 × sw_M), q_f_lawR_readUnit μ a2 = some o → MetR l D cI cL yX5_readUnit cX5_readUnit 4 (some .boolean) (7 + d) 0 0 (fun a => a = ad) ad [.ref 24, .ref 1, .int a2] lay0 μ ν (some (.int o.1)) lay0 o.2 ν) (hq_f_lawR_readChoice : ∀ (l : Launch) (D : va_G) (cI cL : ClassId) (ad : Nat → Nat) (ν : sw_N) (μ : sw_M) (a2 : Int32) (o : Int32 × sw_M), q_f_lawR_readChoice μ a2 = some o → MetR l D cI cL yX5_readChoice cX5_readChoice 3 (some .boolean) (7 + d) 0 0 (fun a => a = ad) ad [.ref 24, .ref 1, .int a2] lay0 μ ν (some (.int o.1)) lay0 o.2 ν) (N : Nat) (μ : sw_M) (a2 : Int32) (o : Int32 × sw_M) (h : f_lawR_readChoice_b N  q_f_lawR_readSum q_f_lawR_readProduct q_f_lawR_readUnit q_f_lawR_readChoice μ a2 = some o) : MetR l D cI cL yX5_readChoice cX5_readChoice 3 (some .boolean) (7 + (d + 1)) 0 0 (fun a => a = ad) ad [.ref 24, .ref 1, .int a2] lay0 μ ν (some (.int o.1)) lay0 o.2 ν :=
  MetR.of (n := 0) rfl (Nat.le_of_ble_eq_true rfl) (fun G g ho hm _ _ => ok_f_lawR_readChoice_b  q_f_lawR_readSum q_f_lawR_readProduct q_f_lawR_readUnit q_f_lawR_readChoice g hm  hq_f_lawR_readSum hq_f_lawR_readProduct hq_f_lawR_readUnit hq_f_lawR_readChoice μ ho a2 h)
def f_lawR_readUnit_60 (N : Nat) (q_f_lawR_readSum : sw_M → Int32 → Option (Int32 × sw_M)) (q_f_lawR_readProduct : sw_M → Int32 → Option (Int32 × sw_M)) (q_f_lawR_readUnit : sw_M → Int32 → Option (Int32 × sw_M)) (q_f_lawR_readChoice : sw_M → Int32 → Option (Int32 × sw_M))  (μ : sw_M) (x2 : Int32) (s0 : Int32) : Option (Int32 × sw_M) :=
  Option.bind (f_tape_takeUnless N  μ s0) (fun r1 =>
    if r1.1 = 0 then
      some (0, r1.2)
    else
      Option.bind (q_f_lawR_readSum r1.2 (x2 + 1)) (fun r3 =>
        if r3.1 = 0 then
          some (0, r3.2)
        else
          Option.bind (f_tape_takeSign N  r3.2 41) (fun r5 =>
            if r5.1 = 0 then
              some (0, r5.2)
            else
              some (1, r5.2))))
def f_lawR_readUnit_b (N : Nat) (q_f_lawR_readSum : sw_M → Int32 → Option (Int32 × sw_M)) (q_f_lawR_readProduct : sw_M → Int32 → Option (Int32 × sw_M)) (q_f_lawR_readUnit : sw_M → Int32 → Option (Int32 × sw_M)) (q_f_lawR_readChoice : sw_M → Int32 → Option (Int32 × sw_M)) (μ : sw_M) (a2 : Int32) : Option (Int32 × sw_M) :=
  if (μ 1 4) = 257 then
    Option.bind (f_tape_takeNumber N  μ 0 999) (fun r21 =>
      if r21.1 = (-1) then
        some (0, r21.2)
      else
        Option.bind (f_lawR_add N  r21.2 1 r21.1) (fun r23 =>
          if r23.1 = 0 then
            some (0, r23.2)
          else
            some (1, r23.2)))
  else
    if (μ 1 4) = 40 then
      if a2 < 6 then
        f_lawR_readUnit_60 N  q_f_lawR_readSum q_f_lawR_readProduct q_f_lawR_readUnit q_f_lawR_readChoice   μ a2 0
      else
        f_lawR_readUnit_60 N  q_f_lawR_readSum q_f_lawR_readProduct q_f_lawR_readUnit q_f_lawR_readChoice   μ a2 1
    else
      Option.bind (f_tape_isWord N 5 μ ) (fun r1 =>
        if r1 = 0 then
          Option.bind (f_tape_isWord N 9 μ ) (fun r3 =>
            if r3 = 0 then
              Option.bind (f_sl_nameHere N  μ ) (fun r5 =>
                if r5 = (-1) then
                  Option.bind (f_tape_fail N  μ 1) (fun r11 =>
                    bl r11.1 (some (r11.1, r11.2)))
                else
                  Option.bind (f_tape_advance N  μ ) (fun r7 =>
                    Option.bind (f_lawR_add N  r7 2 r5) (fun r9 =>
                      bl r9.1 (some (r9.1, r9.2)))))
            else
              Option.bind (q_f_lawR_readChoice μ a2) (fun r13 =>
                if r13.1 = 0 then
                  some (0, r13.2)
                else
                  Option.bind (f_lawR_add N  r13.2 4 0) (fun r15 =>
                    if r15.1 = 0 then
                      some (0, r15.2)
                    else
                      some (1, r15.2))))
        else
          Option.bind (q_f_lawR_readChoice μ a2) (fun r17 =>
            if r17.1 = 0 then
              some (0, r17.2)
            else
              Option.bind (f_lawR_add N  r17.2 3 0) (fun r19 =>
                if r19.1 = 0 then
                  some (0, r19.2)
                else
                  some (1, r19.2))))
set_option maxRecDepth 100000 in
set_option maxHeartbeats 4000000 in
theorem ok_f_lawR_readUnit_60 {G : sw_G} {ad : Nat → Nat} {ν : sw_N}   {d : Nat} (q_f_lawR_readSum : sw_M → Int32 → Option (Int32 × sw_M)) (q_f_lawR_readProduct : sw_M → Int32 → Option (Int32 × sw_M)) (q_f_lawR_readUnit : sw_M → Int32 → Option (Int32 × sw_M)) (q_f_lawR_readChoice : sw_M → Int32 → Option (Int32 × sw_M)) {N : Nat} {o : Int32 × sw_M} (g : sw_ok G cX5_readUnit "DeadWires$Law" (some .boolean) (7 + (d + 1)) 0 0 ad) (hm : G.2.2.1.2.1.maxLocals = 4) (hq_f_lawR_readSum : ∀ (l : Launch) (D : va_G) (cI cL : ClassId) (ad : Nat → Nat) (ν : sw_N) (μ : sw_M) (a2 : Int32) (o : Int32 × sw_M), q_f_lawR_readSum μ a2 = some o → MetR l D cI cL yX5_readSum cX5_readSum 5 (some .boolean) (7 + d) 0 0 (fun a => a = ad) ad [.ref 24, .ref 1, .int a2] lay0 μ ν (some (.int o.1)) lay0 o.2 ν) (hq_f_lawR_readProduct : ∀ (l : Launch) (D : va_G) (cI cL : ClassId) (ad : Nat → Nat) (ν : sw_N) (μ : sw_M) (a2 : Int32) (o : Int32 × sw_M), q_f_lawR_readProduct μ a2 = some o → MetR l D cI cL yX5_readProduct cX5_readProduct 5 (some .boolean) (7 + d) 0 0 (fun a => a = ad) ad [.ref 24, .ref 1, .int a2] lay0 μ ν (some (.int o.1)) lay0 o.2 ν) (hq_f_lawR_readUnit : ∀ (l : Launch) (D : va_G) (cI cL : ClassId) (ad : Nat → Nat) (ν : sw_N) (μ : sw_M) (a2 : Int32) (o : Int32 × sw_M), q_f_lawR_readUnit μ a2 = some o → MetR l D cI cL yX5_readUnit cX5_readUnit 4 (some .boolean) (7 + d) 0 0 (fun a => a = ad) ad [.ref 24, .ref 1, .int a2] lay0 μ ν (some (.int o.1)) lay0 o.2 ν) (hq_f_lawR_readChoice : ∀ (l : Launch) (D : va_G) (cI cL : ClassId) (ad : Nat → Nat) (ν : sw_N) (μ : sw_M) (a2 : Int32) (o : Int32 × sw_M), q_f_lawR_readChoice μ a2 = some o → MetR l D cI cL yX5_readChoice cX5_readChoice 3 (some .boolean) (7 + d) 0 0 (fun a => a = ad) ad [.ref 24, .ref 1, .int a2] lay0 μ ν (some (.int o.1)) lay0 o.2 ν) (ho : sw_out G 0 0 (fun a => a = ad) (.inl (some (.int o.1))) lay0 o.2 ν)  (μ : sw_M) (x2 : Int32) (s0 : Int32) (h : f_lawR_readUnit_60 N  q_f_lawR_readSum q_f_lawR_readProduct q_f_lawR_readUnit q_f_lawR_readChoice   μ x2 s0 = some o) : SW G ad lay0 ν 0 0 60 [some (.ref 24), some (.ref 1), some (.int x2), none] [.int s0, .ref 1] μ := by
  unfold f_lawR_readUnit_60 at h
  obtain ⟨r1, h2, h⟩ := bindI h
  refine SW.callVi (pc := 60) g (dt dt_X5_readUnit 32 rfl) (mt_f_tape_takeUnless _ _ _ _ ad ν   N μ s0 r1 h2) me_X7_takeUnless mv_X7_takeUnless ml_X5_76 cell_1 rfl rfl (Nat.le_of_ble_eq_true rfl) (by omega) (Nat.le_of_ble_eq_true rfl) (Nat.le_of_ble_eq_true rfl) rfl ?_
  refine SW.if_eq (pc := 63) (t := 90) g (dt dt_X5_readUnit 33 rfl) rfl (fun hc => ?_) (fun hc => ?_)
  · have h := iteT hc h
    refine SW.iconst (pc := 90) (v := 0) g (dt dt_X5_readUnit 47 rfl) ki_0 ?_
    exact SW.zreturn (pc := 91) g (leafW h ho) rfl (Nat.le_of_ble_eq_true rfl) (Nat.le_of_ble_eq_true rfl) (by decide) (dt dt_X5_readUnit 48 rfl)
  · have h := iteF hc h
    refine SW.aload_n (pc := 66) g (dt dt_X5_readUnit 34 rfl) rfl ?_
    refine SW.aload_n (pc := 67) g (dt dt_X5_readUnit 35 rfl) rfl ?_
    refine SW.iload_n (pc := 68) g (dt dt_X5_readUnit 36 rfl) rfl ?_
    refine SW.iconst (pc := 69) (v := 1) g (dt dt_X5_readUnit 37 rfl) ki_1 ?_
    refine SW.iadd (pc := 70) g (dt dt_X5_readUnit 38 rfl) ?_
    obtain ⟨r3, h4, h⟩ := bindI h
    refine SW.callVi (pc := 71) g (dt dt_X5_readUnit 39 rfl) (hq_f_lawR_readSum _ _ _ _ ad ν r1.2 (x2 + 1) r3 h4) me_X5_readSum mv_X5_readSum ml_X5_51 cell_24 rfl rfl (Nat.le_of_ble_eq_true rfl) (by omega) (Nat.le_of_ble_eq_true rfl) (Nat.le_of_ble_eq_true rfl) rfl ?_
    refine SW.if_eq (pc := 74) (t := 90) g (dt dt_X5_readUnit 40 rfl) rfl (fun hc => ?_) (fun hc => ?_)
    · have h := iteT hc h
      refine SW.iconst (pc := 90) (v := 0) g (dt dt_X5_readUnit 47 rfl) ki_0 ?_
      exact SW.zreturn (pc := 91) g (leafW h ho) rfl (Nat.le_of_ble_eq_true rfl) (Nat.le_of_ble_eq_true rfl) (by decide) (dt dt_X5_readUnit 48 rfl)
    · have h := iteF hc h
      refine SW.aload_n (pc := 77) g (dt dt_X5_readUnit 41 rfl) rfl ?_
      refine SW.bipush (pc := 78) (v := 41) g (dt dt_X5_readUnit 42 rfl) kb_41 ?_
      obtain ⟨r5, h6, h⟩ := bindI h
      refine SW.callVi (pc := 80) g (dt dt_X5_readUnit 43 rfl) (mt_f_tape_takeSign _ _ _ _ ad ν   N r3.2 41 r5 h6) me_X7_takeSign mv_X7_takeSign ml_X5_80 cell_1 rfl rfl (Nat.le_of_ble_eq_true rfl) (by omega) (Nat.le_of_ble_eq_true rfl) (Nat.le_of_ble_eq_true rfl) rfl ?_
      refine SW.if_eq (pc := 83) (t := 90) g (dt dt_X5_readUnit 44 rfl) rfl (fun hc => ?_) (fun hc => ?_)
      · have h := iteT hc h
        refine SW.iconst (pc := 90) (v := 0) g (dt dt_X5_readUnit 47 rfl) ki_0 ?_
        exact SW.zreturn (pc := 91) g (leafW h ho) rfl (Nat.le_of_ble_eq_true rfl) (Nat.le_of_ble_eq_true rfl) (by decide) (dt dt_X5_readUnit 48 rfl)
      · have h := iteF hc h
        refine SW.iconst (pc := 86) (v := 1) g (dt dt_X5_readUnit 45 rfl) ki_1 ?_
        refine SW.goto (pc := 87) (t := 91) g (dt dt_X5_readUnit 46 rfl) rfl ?_
        exact SW.zreturn (pc := 91) g (leafW h ho) rfl (Nat.le_of_ble_eq_true rfl) (Nat.le_of_ble_eq_true rfl) (by decide) (dt dt_X5_readUnit 48 rfl)
set_option maxRecDepth 100000 in
set_option maxHeartbeats 4000000 in
theorem ok_f_lawR_readUnit_b {G : sw_G} {ad : Nat → Nat} {ν : sw_N}   {d : Nat} (q_f_lawR_readSum : sw_M → Int32 → Option (Int32 × sw_M)) (q_f_lawR_readProduct : sw_M → Int32 → Option (Int32 × sw_M)) (q_f_lawR_readUnit : sw_M → Int32 → Option (Int32 × sw_M)) (q_f_lawR_readChoice : sw_M → Int32 → Option (Int32 × sw_M)) {N : Nat} {o : Int32 × sw_M} (g : sw_ok G cX5_readUnit "DeadWires$Law" (some .boolean) (7 + (d + 1)) 0 0 ad) (hm : G.2.2.1.2.1.maxLocals = 4) (hq_f_lawR_readSum : ∀ (l : Launch) (D : va_G) (cI cL : ClassId) (ad : Nat → Nat) (ν : sw_N) (μ : sw_M) (a2 : Int32) (o : Int32 × sw_M), q_f_lawR_readSum μ a2 = some o → MetR l D cI cL yX5_readSum cX5_readSum 5 (some .boolean) (7 + d) 0 0 (fun a => a = ad) ad [.ref 24, .ref 1, .int a2] lay0 μ ν (some (.int o.1)) lay0 o.2 ν) (hq_f_lawR_readProduct : ∀ (l : Launch) (D : va_G) (cI cL : ClassId) (ad : Nat → Nat) (ν : sw_N) (μ : sw_M) (a2 : Int32) (o : Int32 × sw_M), q_f_lawR_readProduct μ a2 = some o → MetR l D cI cL yX5_readProduct cX5_readProduct 5 (some .boolean) (7 + d) 0 0 (fun a => a = ad) ad [.ref 24, .ref 1, .int a2] lay0 μ ν (some (.int o.1)) lay0 o.2 ν) (hq_f_lawR_readUnit : ∀ (l : Launch) (D : va_G) (cI cL : ClassId) (ad : Nat → Nat) (ν : sw_N) (μ : sw_M) (a2 : Int32) (o : Int32 × sw_M), q_f_lawR_readUnit μ a2 = some o → MetR l D cI cL yX5_readUnit cX5_readUnit 4 (some .boolean) (7 + d) 0 0 (fun a => a = ad) ad [.ref 24, .ref 1, .int a2] lay0 μ ν (some (.int o.1)) lay0 o.2 ν) (hq_f_lawR_readChoice : ∀ (l : Launch) (D : va_G) (cI cL : ClassId) (ad : Nat → Nat) (ν : sw_N) (μ : sw_M) (a2 : Int32) (o : Int32 × sw_M), q_f_lawR_readChoice μ a2 = some o → MetR l D cI cL yX5_readChoice cX5_readChoice 3 (some .boolean) (7 + d) 0 0 (fun a => a = ad) ad [.ref 24, .ref 1, .int a2] lay0 μ ν (some (.int o.1)) lay0 o.2 ν) (μ : sw_M) (ho : sw_out G 0 0 (fun a => a = ad) (.inl (some (.int o.1))) lay0 o.2 ν) (a2 : Int32) (h : f_lawR_readUnit_b N  q_f_lawR_readSum q_f_lawR_readProduct q_f_lawR_readUnit q_f_lawR_readChoice μ a2 = some o) : SW G ad lay0 ν 0 0 0 [some (.ref 24), some (.ref 1), some (.int a2), none] [] μ := by
  unfold f_lawR_readUnit_b at h
  refine SW.aload_n (pc := 0) g (dt dt_X5_readUnit 0 rfl) rfl ?_
  refine SW.getI (pc := 1) g (dt dt_X5_readUnit 1 rfl) fl_X5_55 cell_1 rfl ?_
  refine SW.sipush (pc := 4) (v := 257) g (dt dt_X5_readUnit 2 rfl) ks_257 ?_
  refine SW.icmp_ne (pc := 7) (t := 39) g (dt dt_X5_readUnit 3 rfl) rfl (fun hc => ?_) (fun hc => ?_)
  · have h := iteF hc h
    refine SW.aload_n (pc := 39) g (dt dt_X5_readUnit 21 rfl) rfl ?_
    refine SW.getI (pc := 40) g (dt dt_X5_readUnit 22 rfl) fl_X5_55 cell_1 rfl ?_
    refine SW.bipush (pc := 43) (v := 40) g (dt dt_X5_readUnit 23 rfl) kb_40 ?_
    refine SW.icmp_ne (pc := 45) (t := 92) g (dt dt_X5_readUnit 24 rfl) rfl (fun hc => ?_) (fun hc => ?_)
    · have h := iteF hc h
      refine SW.aload_n (pc := 92) g (dt dt_X5_readUnit 49 rfl) rfl ?_
      refine SW.ldcS (pc := 93) (j := 5) g (dt dt_X5_readUnit 50 rfl) sr_X5_83 rfl ?_
      obtain ⟨r1, h2, h⟩ := bindI h
      refine SW.callVi (pc := 95) g (dt dt_X5_readUnit 51 rfl) (mt_f_tape_isWord _ _ _ _ ad ν 5 (by decide) N μ  r1 h2) me_X7_isWord mv_X7_isWord ml_X5_85 cell_1 rfl rfl (Nat.le_of_ble_eq_true rfl) (by omega) (Nat.le_of_ble_eq_true rfl) (Nat.le_of_ble_eq_true rfl) rfl ?_
      refine SW.if_eq (pc := 98) (t := 125) g (dt dt_X5_readUnit 52 rfl) rfl (fun hc => ?_) (fun hc => ?_)
      · have h := iteT hc h
        refine SW.aload_n (pc := 125) g (dt dt_X5_readUnit 67 rfl) rfl ?_
        refine SW.ldcS (pc := 126) (j := 9) g (dt dt_X5_readUnit 68 rfl) sr_X5_92 rfl ?_
        obtain ⟨r3, h4, h⟩ := bindI h
        refine SW.callVi (pc := 128) g (dt dt_X5_readUnit 69 rfl) (mt_f_tape_isWord _ _ _ _ ad ν 9 (by decide) N μ  r3 h4) me_X7_isWord mv_X7_isWord ml_X5_85 cell_1 rfl rfl (Nat.le_of_ble_eq_true rfl) (by omega) (Nat.le_of_ble_eq_true rfl) (Nat.le_of_ble_eq_true rfl) rfl ?_
        refine SW.if_eq (pc := 131) (t := 158) g (dt dt_X5_readUnit 70 rfl) rfl (fun hc => ?_) (fun hc => ?_)
        · have h := iteT hc h
          refine SW.aload_n (pc := 158) g (dt dt_X5_readUnit 85 rfl) rfl ?_
          obtain ⟨r5, h6, h⟩ := bindI h
          refine SW.callSi (pc := 159) g (dt dt_X5_readUnit 86 rfl) (mt_f_sl_nameHere _ _ _ _ ad ν   N μ  r5 h6) me_X5_nameHere ms_X5_nameHere ml_X5_94 rfl (Nat.le_of_ble_eq_true rfl) (by omega) (Nat.le_of_ble_eq_true rfl) (Nat.le_of_ble_eq_true rfl) rfl ?_
          refine SW.istore_n (pc := 162) g (dt dt_X5_readUnit 87 rfl) (sw_ltm hm (Nat.le_of_ble_eq_true rfl)) rfl ?_
          refine SW.iload_n (pc := 163) g (dt dt_X5_readUnit 88 rfl) rfl ?_
          refine SW.iconst (pc := 164) (v := (-1)) g (dt dt_X5_readUnit 89 rfl) ki_m1 ?_
          refine SW.icmp_ne (pc := 165) (t := 174) g (dt dt_X5_readUnit 90 rfl) rfl (fun hc => ?_) (fun hc => ?_)
          · have h := iteF hc h
            refine SW.aload_n (pc := 174) g (dt dt_X5_readUnit 95 rfl) rfl ?_
            obtain ⟨r7, h8, h⟩ := bindI h
            refine SW.callVv (pc := 175) g (dt dt_X5_readUnit 96 rfl) (mt_f_tape_advance _ _ _ _ ad ν   N μ  r7 h8) me_X7_advance mv_X7_advance ml_X5_67 cell_1 rfl rfl (Nat.le_of_ble_eq_true rfl) (by omega) (Nat.le_of_ble_eq_true rfl) (Nat.le_of_ble_eq_true rfl) rfl ?_
            refine SW.aload_n (pc := 178) g (dt dt_X5_readUnit 97 rfl) rfl ?_
            refine SW.iconst (pc := 179) (v := 2) g (dt dt_X5_readUnit 98 rfl) ki_2 ?_
            refine SW.iload_n (pc := 180) g (dt dt_X5_readUnit 99 rfl) rfl ?_
            obtain ⟨r9, h10, h⟩ := bindI h
            refine SW.callVi (pc := 181) g (dt dt_X5_readUnit 100 rfl) (mt_f_lawR_add _ _ _ _ ad ν   N r7 2 r5 r9 h10) me_X5_add mv_X5_add ml_X5_31 cell_24 rfl rfl (Nat.le_of_ble_eq_true rfl) (by omega) (Nat.le_of_ble_eq_true rfl) (Nat.le_of_ble_eq_true rfl) rfl ?_
            obtain ⟨hn, h⟩ := blI h
            exact SW.zreturn (pc := 184) g (leafW h ho) rfl (Nat.le_of_ble_eq_true rfl) (Nat.le_of_ble_eq_true rfl) hn (dt dt_X5_readUnit 101 rfl)
          · have h := iteT hc h
            refine SW.aload_n (pc := 168) g (dt dt_X5_readUnit 91 rfl) rfl ?_
            refine SW.iconst (pc := 169) (v := 1) g (dt dt_X5_readUnit 92 rfl) ki_1 ?_
            obtain ⟨r11, h12, h⟩ := bindI h
            refine SW.callVi (pc := 170) g (dt dt_X5_readUnit 93 rfl) (mt_f_tape_fail _ _ _ _ ad ν   N μ 1 r11 h12) me_X7_fail mv_X7_fail ml_X5_60 cell_1 rfl rfl (Nat.le_of_ble_eq_true rfl) (by omega) (Nat.le_of_ble_eq_true rfl) (Nat.le_of_ble_eq_true rfl) rfl ?_
            obtain ⟨hn, h⟩ := blI h
            exact SW.zreturn (pc := 173) g (leafW h ho) rfl (Nat.le_of_ble_eq_true rfl) (Nat.le_of_ble_eq_true rfl) hn (dt dt_X5_readUnit 94 rfl)
        · have h := iteF hc h
          refine SW.aload_n (pc := 134) g (dt dt_X5_readUnit 71 rfl) rfl ?_
          refine SW.aload_n (pc := 135) g (dt dt_X5_readUnit 72 rfl) rfl ?_
          refine SW.iload_n (pc := 136) g (dt dt_X5_readUnit 73 rfl) rfl ?_
          obtain ⟨r13, h14, h⟩ := bindI h
          refine SW.callVi (pc := 137) g (dt dt_X5_readUnit 74 rfl) (hq_f_lawR_readChoice _ _ _ _ ad ν μ a2 r13 h14) me_X5_readChoice mv_X5_readChoice ml_X5_89 cell_24 rfl rfl (Nat.le_of_ble_eq_true rfl) (by omega) (Nat.le_of_ble_eq_true rfl) (Nat.le_of_ble_eq_true rfl) rfl ?_
          refine SW.if_eq (pc := 140) (t := 156) g (dt dt_X5_readUnit 75 rfl) rfl (fun hc => ?_) (fun hc => ?_)
          · have h := iteT hc h
            refine SW.iconst (pc := 156) (v := 0) g (dt dt_X5_readUnit 83 rfl) ki_0 ?_
            exact SW.zreturn (pc := 157) g (leafW h ho) rfl (Nat.le_of_ble_eq_true rfl) (Nat.le_of_ble_eq_true rfl) (by decide) (dt dt_X5_readUnit 84 rfl)
          · have h := iteF hc h
            refine SW.aload_n (pc := 143) g (dt dt_X5_readUnit 76 rfl) rfl ?_
            refine SW.iconst (pc := 144) (v := 4) g (dt dt_X5_readUnit 77 rfl) ki_4 ?_
            refine SW.iconst (pc := 145) (v := 0) g (dt dt_X5_readUnit 78 rfl) ki_0 ?_
            obtain ⟨r15, h16, h⟩ := bindI h
            refine SW.callVi (pc := 146) g (dt dt_X5_readUnit 79 rfl) (mt_f_lawR_add _ _ _ _ ad ν   N r13.2 4 0 r15 h16) me_X5_add mv_X5_add ml_X5_31 cell_24 rfl rfl (Nat.le_of_ble_eq_true rfl) (by omega) (Nat.le_of_ble_eq_true rfl) (Nat.le_of_ble_eq_true rfl) rfl ?_
            refine SW.if_eq (pc := 149) (t := 156) g (dt dt_X5_readUnit 80 rfl) rfl (fun hc => ?_) (fun hc => ?_)
            · have h := iteT hc h
              refine SW.iconst (pc := 156) (v := 0) g (dt dt_X5_readUnit 83 rfl) ki_0 ?_
              exact SW.zreturn (pc := 157) g (leafW h ho) rfl (Nat.le_of_ble_eq_true rfl) (Nat.le_of_ble_eq_true rfl) (by decide) (dt dt_X5_readUnit 84 rfl)
            · have h := iteF hc h
              refine SW.iconst (pc := 152) (v := 1) g (dt dt_X5_readUnit 81 rfl) ki_1 ?_
              refine SW.goto (pc := 153) (t := 157) g (dt dt_X5_readUnit 82 rfl) rfl ?_
              exact SW.zreturn (pc := 157) g (leafW h ho) rfl (Nat.le_of_ble_eq_true rfl) (Nat.le_of_ble_eq_true rfl) (by decide) (dt dt_X5_readUnit 84 rfl)
      · have h := iteF hc h
        refine SW.aload_n (pc := 101) g (dt dt_X5_readUnit 53 rfl) rfl ?_
        refine SW.aload_n (pc := 102) g (dt dt_X5_readUnit 54 rfl) rfl ?_
        refine SW.iload_n (pc := 103) g (dt dt_X5_readUnit 55 rfl) rfl ?_
        obtain ⟨r17, h18, h⟩ := bindI h
        refine SW.callVi (pc := 104) g (dt dt_X5_readUnit 56 rfl) (hq_f_lawR_readChoice _ _ _ _ ad ν μ a2 r17 h18) me_X5_readChoice mv_X5_readChoice ml_X5_89 cell_24 rfl rfl (Nat.le_of_ble_eq_true rfl) (by omega) (Nat.le_of_ble_eq_true rfl) (Nat.le_of_ble_eq_true rfl) rfl ?_
        refine SW.if_eq (pc := 107) (t := 123) g (dt dt_X5_readUnit 57 rfl) rfl (fun hc => ?_) (fun hc => ?_)
        · have h := iteT hc h
          refine SW.iconst (pc := 123) (v := 0) g (dt dt_X5_readUnit 65 rfl) ki_0 ?_
          exact SW.zreturn (pc := 124) g (leafW h ho) rfl (Nat.le_of_ble_eq_true rfl) (Nat.le_of_ble_eq_true rfl) (by decide) (dt dt_X5_readUnit 66 rfl)
        · have h := iteF hc h
          refine SW.aload_n (pc := 110) g (dt dt_X5_readUnit 58 rfl) rfl ?_
          refine SW.iconst (pc := 111) (v := 3) g (dt dt_X5_readUnit 59 rfl) ki_3 ?_
          refine SW.iconst (pc := 112) (v := 0) g (dt dt_X5_readUnit 60 rfl) ki_0 ?_
          obtain ⟨r19, h20, h⟩ := bindI h
          refine SW.callVi (pc := 113) g (dt dt_X5_readUnit 61 rfl) (mt_f_lawR_add _ _ _ _ ad ν   N r17.2 3 0 r19 h20) me_X5_add mv_X5_add ml_X5_31 cell_24 rfl rfl (Nat.le_of_ble_eq_true rfl) (by omega) (Nat.le_of_ble_eq_true rfl) (Nat.le_of_ble_eq_true rfl) rfl ?_
          refine SW.if_eq (pc := 116) (t := 123) g (dt dt_X5_readUnit 62 rfl) rfl (fun hc => ?_) (fun hc => ?_)
          · have h := iteT hc h
            refine SW.iconst (pc := 123) (v := 0) g (dt dt_X5_readUnit 65 rfl) ki_0 ?_
            exact SW.zreturn (pc := 124) g (leafW h ho) rfl (Nat.le_of_ble_eq_true rfl) (Nat.le_of_ble_eq_true rfl) (by decide) (dt dt_X5_readUnit 66 rfl)
          · have h := iteF hc h
            refine SW.iconst (pc := 119) (v := 1) g (dt dt_X5_readUnit 63 rfl) ki_1 ?_
            refine SW.goto (pc := 120) (t := 124) g (dt dt_X5_readUnit 64 rfl) rfl ?_
            exact SW.zreturn (pc := 124) g (leafW h ho) rfl (Nat.le_of_ble_eq_true rfl) (Nat.le_of_ble_eq_true rfl) (by decide) (dt dt_X5_readUnit 66 rfl)
    · have h := iteT hc h
      refine SW.aload_n (pc := 48) g (dt dt_X5_readUnit 25 rfl) rfl ?_
      refine SW.iload_n (pc := 49) g (dt dt_X5_readUnit 26 rfl) rfl ?_
      refine SW.bipush (pc := 50) (v := 6) g (dt dt_X5_readUnit 27 rfl) kb_6 ?_
      refine SW.icmp_lt (pc := 52) (t := 59) g (dt dt_X5_readUnit 28 rfl) rfl (fun hc => ?_) (fun hc => ?_)
      · have h := iteT hc h
        refine SW.iconst (pc := 59) (v := 0) g (dt dt_X5_readUnit 31 rfl) ki_0 ?_
        refine SW.msk [true, true, true, false] ?_
        exact ok_f_lawR_readUnit_60  q_f_lawR_readSum q_f_lawR_readProduct q_f_lawR_readUnit q_f_lawR_readChoice g hm  hq_f_lawR_readSum hq_f_lawR_readProduct hq_f_lawR_readUnit hq_f_lawR_readChoice ho    μ a2 0 h
      · have h := iteF hc h
        refine SW.iconst (pc := 55) (v := 1) g (dt dt_X5_readUnit 29 rfl) ki_1 ?_
        refine SW.goto (pc := 56) (t := 60) g (dt dt_X5_readUnit 30 rfl) rfl ?_
        refine SW.msk [true, true, true, false] ?_
        exact ok_f_lawR_readUnit_60  q_f_lawR_readSum q_f_lawR_readProduct q_f_lawR_readUnit q_f_lawR_readChoice g hm  hq_f_lawR_readSum hq_f_lawR_readProduct hq_f_lawR_readUnit hq_f_lawR_readChoice ho    μ a2 1 h
  · have h := iteT hc h
    refine SW.aload_n (pc := 10) g (dt dt_X5_readUnit 4 rfl) rfl ?_
    refine SW.iconst (pc := 11) (v := 0) g (dt dt_X5_readUnit 5 rfl) ki_0 ?_
    refine SW.sipush (pc := 12) (v := 999) g (dt dt_X5_readUnit 6 rfl) ks_999 ?_
    obtain ⟨r21, h22, h⟩ := bindI h
    refine SW.callVi (pc := 15) g (dt dt_X5_readUnit 7 rfl) (mt_f_tape_takeNumber _ _ _ _ ad ν   N μ 0 999 r21 h22) me_X7_takeNumber mv_X7_takeNumber ml_X5_73 cell_1 rfl rfl (Nat.le_of_ble_eq_true rfl) (by omega) (Nat.le_of_ble_eq_true rfl) (Nat.le_of_ble_eq_true rfl) rfl ?_
    refine SW.istore_n (pc := 18) g (dt dt_X5_readUnit 8 rfl) (sw_ltm hm (Nat.le_of_ble_eq_true rfl)) rfl ?_
    refine SW.iload_n (pc := 19) g (dt dt_X5_readUnit 9 rfl) rfl ?_
    refine SW.iconst (pc := 20) (v := (-1)) g (dt dt_X5_readUnit 10 rfl) ki_m1 ?_
    refine SW.icmp_eq (pc := 21) (t := 37) g (dt dt_X5_readUnit 11 rfl) rfl (fun hc => ?_) (fun hc => ?_)
    · have h := iteT hc h
      refine SW.iconst (pc := 37) (v := 0) g (dt dt_X5_readUnit 19 rfl) ki_0 ?_
      exact SW.zreturn (pc := 38) g (leafW h ho) rfl (Nat.le_of_ble_eq_true rfl) (Nat.le_of_ble_eq_true rfl) (by decide) (dt dt_X5_readUnit 20 rfl)
    · have h := iteF hc h
      refine SW.aload_n (pc := 24) g (dt dt_X5_readUnit 12 rfl) rfl ?_
      refine SW.iconst (pc := 25) (v := 1) g (dt dt_X5_readUnit 13 rfl) ki_1 ?_
      refine SW.iload_n (pc := 26) g (dt dt_X5_readUnit 14 rfl) rfl ?_
      obtain ⟨r23, h24, h⟩ := bindI h
      refine SW.callVi (pc := 27) g (dt dt_X5_readUnit 15 rfl) (mt_f_lawR_add _ _ _ _ ad ν   N r21.2 1 r21.1 r23 h24) me_X5_add mv_X5_add ml_X5_31 cell_24 rfl rfl (Nat.le_of_ble_eq_true rfl) (by omega) (Nat.le_of_ble_eq_true rfl) (Nat.le_of_ble_eq_true rfl) rfl ?_
      refine SW.if_eq (pc := 30) (t := 37) g (dt dt_X5_readUnit 16 rfl) rfl (fun hc => ?_) (fun hc => ?_)
      · have h := iteT hc h
        refine SW.iconst (pc := 37) (v := 0) g (dt dt_X5_readUnit 19 rfl) ki_0 ?_
        exact SW.zreturn (pc := 38) g (leafW h ho) rfl (Nat.le_of_ble_eq_true rfl) (Nat.le_of_ble_eq_true rfl) (by decide) (dt dt_X5_readUnit 20 rfl)
      · have h := iteF hc h
        refine SW.iconst (pc := 33) (v := 1) g (dt dt_X5_readUnit 17 rfl) ki_1 ?_
        refine SW.goto (pc := 34) (t := 38) g (dt dt_X5_readUnit 18 rfl) rfl ?_
        exact SW.zreturn (pc := 38) g (leafW h ho) rfl (Nat.le_of_ble_eq_true rfl) (Nat.le_of_ble_eq_true rfl) (by decide) (dt dt_X5_readUnit 20 rfl)
set_option maxRecDepth 100000 in
set_option maxHeartbeats 4000000 in
theorem mtb_f_lawR_readUnit (l : Launch) (D : va_G) (cI cL : ClassId) (ad : Nat → Nat) (ν : sw_N)   {d : Nat} (q_f_lawR_readSum : sw_M → Int32 → Option (Int32 × sw_M)) (q_f_lawR_readProduct : sw_M → Int32 → Option (Int32 × sw_M)) (q_f_lawR_readUnit : sw_M → Int32 → Option (Int32 × sw_M)) (q_f_lawR_readChoice : sw_M → Int32 → Option (Int32 × sw_M)) (hq_f_lawR_readSum : ∀ (l : Launch) (D : va_G) (cI cL : ClassId) (ad : Nat → Nat) (ν : sw_N) (μ : sw_M) (a2 : Int32) (o : Int32 × sw_M), q_f_lawR_readSum μ a2 = some o → MetR l D cI cL yX5_readSum cX5_readSum 5 (some .boolean) (7 + d) 0 0 (fun a => a = ad) ad [.ref 24, .ref 1, .int a2] lay0 μ ν (some (.int o.1)) lay0 o.2 ν) (hq_f_lawR_readProduct : ∀ (l : Launch) (D : va_G) (cI cL : ClassId) (ad : Nat → Nat) (ν : sw_N) (μ : sw_M) (a2 : Int32) (o : Int32 × sw_M), q_f_lawR_readProduct μ a2 = some o → MetR l D cI cL yX5_readProduct cX5_readProduct 5 (some .boolean) (7 + d) 0 0 (fun a => a = ad) ad [.ref 24, .ref 1, .int a2] lay0 μ ν (some (.int o.1)) lay0 o.2 ν) (hq_f_lawR_readUnit : ∀ (l : Launch) (D : va_G) (cI cL : ClassId) (ad : Nat → Nat) (ν : sw_N) (μ : sw_M) (a2 : Int32) (o : Int32 × sw_M), q_f_lawR_readUnit μ a2 = some o → MetR l D cI cL yX5_readUnit cX5_readUnit 4 (some .boolean) (7 + d) 0 0 (fun a => a = ad) ad [.ref 24, .ref 1, .int a2] lay0 μ ν (some (.int o.1)) lay0 o.2 ν) (hq_f_lawR_readChoice : ∀ (l : Launch) (D : va_G) (cI cL : ClassId) (ad : Nat → Nat) (ν : sw_N) (μ : sw_M) (a2 : Int32) (o : Int32 × sw_M), q_f_lawR_readChoice μ a2 = some o → MetR l D cI cL yX5_readChoice cX5_readChoice 3 (some .boolean) (7 + d) 0 0 (fun a => a = ad) ad [.ref 24, .ref 1, .int a2] lay0 μ ν (some (.int o.1)) lay0 o.2 ν) (N : Nat) (μ : sw_M) (a2 : Int32) (o : Int32 × sw_M) (h : f_lawR_readUnit_b N  q_f_lawR_readSum q_f_lawR_readProduct q_f_lawR_readUnit q_f_lawR_readChoice μ a2 = some o) : MetR l D cI cL yX5_readUnit cX5_readUnit 4 (some .boolean) (7 + (d + 1)) 0 0 (fun a => a = ad) ad [.ref 24, .ref 1, .int a2] lay0 μ ν (some (.int o.1)) lay0 o.2 ν :=
  MetR.of (n := 1) rfl (Nat.le_of_ble_eq_true rfl) (fun G g ho hm _ _ => ok_f_lawR_readUnit_b  q_f_lawR_readSum q_f_lawR_readProduct q_f_lawR_readUnit q_f_lawR_readChoice g hm  hq_f_lawR_readSum hq_f_lawR_readProduct hq_f_lawR_readUnit hq_f_lawR_readChoice μ ho a2 h)
def f_lawR_readProduct_49 (N : Nat) (q_f_lawR_readSum : sw_M → Int32 → Option (Int32 × sw_M)) (q_f_lawR_readProduct : sw_M → Int32 → Option (Int32 × sw_M)) (q_f_lawR_readUnit : sw_M → Int32 → Option (Int32 × sw_M)) (q_f_lawR_readChoice : sw_M → Int32 → Option (Int32 × sw_M)) (k_13 : sw_M → Int32 → Int32 → Option (Int32 × sw_M)) (μ : sw_M) (x2 : Int32) (x3 : Int32) (x4 : Int32) : Option (Int32 × sw_M) :=
  Option.bind (f_tape_advance N  μ ) (fun r1 =>
    Option.bind (q_f_lawR_readUnit r1 x2) (fun r3 =>
      if r3.1 = 0 then
        some (0, r3.2)
      else
        Option.bind (f_lawR_add N  r3.2 x4 0) (fun r5 =>
          k_13 r5.2 x2 (x3 + 1))))
def f_lawR_readProduct_13 (N : Nat) (q_f_lawR_readSum : sw_M → Int32 → Option (Int32 × sw_M)) (q_f_lawR_readProduct : sw_M → Int32 → Option (Int32 × sw_M)) (q_f_lawR_readUnit : sw_M → Int32 → Option (Int32 × sw_M)) (q_f_lawR_readChoice : sw_M → Int32 → Option (Int32 × sw_M))  : Nat → sw_M → Int32 → Int32 → Option (Int32 × sw_M)
  | 0, _, _, _ => none
  | n + 1, μ, x2, x3 =>
    if 150 ≤ x3 then
      some (1, μ)
    else
      ib (μ 1 4) (fun y1 =>
        if y1 = 42 then
          f_lawR_readProduct_49 N  q_f_lawR_readSum q_f_lawR_readProduct q_f_lawR_readUnit q_f_lawR_readChoice (f_lawR_readProduct_13 N  q_f_lawR_readSum q_f_lawR_readProduct q_f_lawR_readUnit q_f_lawR_readChoice  n)  μ x2 x3 y1
        else
          if y1 = 47 then
            f_lawR_readProduct_49 N  q_f_lawR_readSum q_f_lawR_readProduct q_f_lawR_readUnit q_f_lawR_readChoice (f_lawR_readProduct_13 N  q_f_lawR_readSum q_f_lawR_readProduct q_f_lawR_readUnit q_f_lawR_readChoice  n)  μ x2 x3 y1
          else
            if y1 = 37 then
              f_lawR_readProduct_49 N  q_f_lawR_readSum q_f_lawR_readProduct q_f_lawR_readUnit q_f_lawR_readChoice (f_lawR_readProduct_13 N  q_f_lawR_readSum q_f_lawR_readProduct q_f_lawR_readUnit q_f_lawR_readChoice  n)  μ x2 x3 y1
            else
              some (1, μ))
def f_lawR_readProduct_b (N : Nat) (q_f_lawR_readSum : sw_M → Int32 → Option (Int32 × sw_M)) (q_f_lawR_readProduct : sw_M → Int32 → Option (Int32 × sw_M)) (q_f_lawR_readUnit : sw_M → Int32 → Option (Int32 × sw_M)) (q_f_lawR_readChoice : sw_M → Int32 → Option (Int32 × sw_M)) (μ : sw_M) (a2 : Int32) : Option (Int32 × sw_M) :=
  Option.bind (q_f_lawR_readUnit μ a2) (fun r1 =>
    if r1.1 = 0 then
      some (0, r1.2)
    else
      f_lawR_readProduct_13 N  q_f_lawR_readSum q_f_lawR_readProduct q_f_lawR_readUnit q_f_lawR_readChoice  N r1.2 a2 0)
set_option maxRecDepth 100000 in
set_option maxHeartbeats 4000000 in
theorem ok_f_lawR_readProduct_49 {G : sw_G} {ad : Nat → Nat} {ν : sw_N}   {d : Nat} (q_f_lawR_readSum : sw_M → Int32 → Option (Int32 × sw_M)) (q_f_lawR_readProduct : sw_M → Int32 → Option (Int32 × sw_M)) (q_f_lawR_readUnit : sw_M → Int32 → Option (Int32 × sw_M)) (q_f_lawR_readChoice : sw_M → Int32 → Option (Int32 × sw_M)) {N : Nat} {o : Int32 × sw_M} (g : sw_ok G cX5_readProduct "DeadWires$Law" (some .boolean) (7 + (d + 1)) 0 0 ad) (hm : G.2.2.1.2.1.maxLocals = 5) (hq_f_lawR_readSum : ∀ (l : Launch) (D : va_G) (cI cL : ClassId) (ad : Nat → Nat) (ν : sw_N) (μ : sw_M) (a2 : Int32) (o : Int32 × sw_M), q_f_lawR_readSum μ a2 = some o → MetR l D cI cL yX5_readSum cX5_readSum 5 (some .boolean) (7 + d) 0 0 (fun a => a = ad) ad [.ref 24, .ref 1, .int a2] lay0 μ ν (some (.int o.1)) lay0 o.2 ν) (hq_f_lawR_readProduct : ∀ (l : Launch) (D : va_G) (cI cL : ClassId) (ad : Nat → Nat) (ν : sw_N) (μ : sw_M) (a2 : Int32) (o : Int32 × sw_M), q_f_lawR_readProduct μ a2 = some o → MetR l D cI cL yX5_readProduct cX5_readProduct 5 (some .boolean) (7 + d) 0 0 (fun a => a = ad) ad [.ref 24, .ref 1, .int a2] lay0 μ ν (some (.int o.1)) lay0 o.2 ν) (hq_f_lawR_readUnit : ∀ (l : Launch) (D : va_G) (cI cL : ClassId) (ad : Nat → Nat) (ν : sw_N) (μ : sw_M) (a2 : Int32) (o : Int32 × sw_M), q_f_lawR_readUnit μ a2 = some o → MetR l D cI cL yX5_readUnit cX5_readUnit 4 (some .boolean) (7 + d) 0 0 (fun a => a = ad) ad [.ref 24, .ref 1, .int a2] lay0 μ ν (some (.int o.1)) lay0 o.2 ν) (hq_f_lawR_readChoice : ∀ (l : Launch) (D : va_G) (cI cL : ClassId) (ad : Nat → Nat) (ν : sw_N) (μ : sw_M) (a2 : Int32) (o : Int32 × sw_M), q_f_lawR_readChoice μ a2 = some o → MetR l D cI cL yX5_readChoice cX5_readChoice 3 (some .boolean) (7 + d) 0 0 (fun a => a = ad) ad [.ref 24, .ref 1, .int a2] lay0 μ ν (some (.int o.1)) lay0 o.2 ν) (ho : sw_out G 0 0 (fun a => a = ad) (.inl (some (.int o.1))) lay0 o.2 ν) (k_13 : sw_M → Int32 → Int32 → Option (Int32 × sw_M)) (hk_13 : ∀ (μ : sw_M) (x2 : Int32) (x3 : Int32), k_13 μ x2 x3 = some o → SW G ad lay0 ν 0 0 13 [some (.ref 24), some (.ref 1), some (.int x2), some (.int x3), none] [] μ) (μ : sw_M) (x2 : Int32) (x3 : Int32) (x4 : Int32) (h : f_lawR_readProduct_49 N  q_f_lawR_readSum q_f_lawR_readProduct q_f_lawR_readUnit q_f_lawR_readChoice k_13  μ x2 x3 x4 = some o) : SW G ad lay0 ν 0 0 49 [some (.ref 24), some (.ref 1), some (.int x2), some (.int x3), some (.int x4)] [] μ := by
  unfold f_lawR_readProduct_49 at h
  refine SW.aload_n (pc := 49) g (dt dt_X5_readProduct 26 rfl) rfl ?_
  obtain ⟨r1, h2, h⟩ := bindI h
  refine SW.callVv (pc := 50) g (dt dt_X5_readProduct 27 rfl) (mt_f_tape_advance _ _ _ _ ad ν   N μ  r1 h2) me_X7_advance mv_X7_advance ml_X5_67 cell_1 rfl rfl (Nat.le_of_ble_eq_true rfl) (by omega) (Nat.le_of_ble_eq_true rfl) (Nat.le_of_ble_eq_true rfl) rfl ?_
  refine SW.aload_n (pc := 53) g (dt dt_X5_readProduct 28 rfl) rfl ?_
  refine SW.aload_n (pc := 54) g (dt dt_X5_readProduct 29 rfl) rfl ?_
  refine SW.iload_n (pc := 55) g (dt dt_X5_readProduct 30 rfl) rfl ?_
  obtain ⟨r3, h4, h⟩ := bindI h
  refine SW.callVi (pc := 56) g (dt dt_X5_readProduct 31 rfl) (hq_f_lawR_readUnit _ _ _ _ ad ν r1 x2 r3 h4) me_X5_readUnit mv_X5_readUnit ml_X5_70 cell_24 rfl rfl (Nat.le_of_ble_eq_true rfl) (by omega) (Nat.le_of_ble_eq_true rfl) (Nat.le_of_ble_eq_true rfl) rfl ?_
  refine SW.if_ne (pc := 59) (t := 64) g (dt dt_X5_readProduct 32 rfl) rfl (fun hc => ?_) (fun hc => ?_)
  · have h := iteF hc h
    refine SW.aload_n (pc := 64) g (dt dt_X5_readProduct 35 rfl) rfl ?_
    refine SW.iload (pc := 65) g (dt dt_X5_readProduct 36 rfl) rfl ?_
    refine SW.iconst (pc := 67) (v := 0) g (dt dt_X5_readProduct 37 rfl) ki_0 ?_
    obtain ⟨r5, h6, h⟩ := bindI h
    refine SW.callVi (pc := 68) g (dt dt_X5_readProduct 38 rfl) (mt_f_lawR_add _ _ _ _ ad ν   N r3.2 x4 0 r5 h6) me_X5_add mv_X5_add ml_X5_31 cell_24 rfl rfl (Nat.le_of_ble_eq_true rfl) (by omega) (Nat.le_of_ble_eq_true rfl) (Nat.le_of_ble_eq_true rfl) rfl ?_
    refine SW.pop (pc := 71) g (dt dt_X5_readProduct 39 rfl) rfl ?_
    refine SW.iinc (pc := 72) (v := x3 + 1) g (dt dt_X5_readProduct 40 rfl) rfl (kn_1 _) (sw_ltm hm (Nat.le_of_ble_eq_true rfl)) rfl ?_
    refine SW.goto (pc := 75) (t := 13) g (dt dt_X5_readProduct 41 rfl) rfl ?_
    refine SW.msk [true, true, true, true, false] ?_
    exact hk_13 r5.2 x2 (x3 + 1) h
  · have h := iteT hc h
    refine SW.iconst (pc := 62) (v := 0) g (dt dt_X5_readProduct 33 rfl) ki_0 ?_
    exact SW.zreturn (pc := 63) g (leafW h ho) rfl (Nat.le_of_ble_eq_true rfl) (Nat.le_of_ble_eq_true rfl) (by decide) (dt dt_X5_readProduct 34 rfl)
set_option maxRecDepth 100000 in
set_option maxHeartbeats 4000000 in
theorem ok_f_lawR_readProduct_13 {G : sw_G} {ad : Nat → Nat} {ν : sw_N}   {d : Nat} (q_f_lawR_readSum : sw_M → Int32 → Option (Int32 × sw_M)) (q_f_lawR_readProduct : sw_M → Int32 → Option (Int32 × sw_M)) (q_f_lawR_readUnit : sw_M → Int32 → Option (Int32 × sw_M)) (q_f_lawR_readChoice : sw_M → Int32 → Option (Int32 × sw_M)) {N : Nat} {o : Int32 × sw_M} (g : sw_ok G cX5_readProduct "DeadWires$Law" (some .boolean) (7 + (d + 1)) 0 0 ad) (hm : G.2.2.1.2.1.maxLocals = 5) (hq_f_lawR_readSum : ∀ (l : Launch) (D : va_G) (cI cL : ClassId) (ad : Nat → Nat) (ν : sw_N) (μ : sw_M) (a2 : Int32) (o : Int32 × sw_M), q_f_lawR_readSum μ a2 = some o → MetR l D cI cL yX5_readSum cX5_readSum 5 (some .boolean) (7 + d) 0 0 (fun a => a = ad) ad [.ref 24, .ref 1, .int a2] lay0 μ ν (some (.int o.1)) lay0 o.2 ν) (hq_f_lawR_readProduct : ∀ (l : Launch) (D : va_G) (cI cL : ClassId) (ad : Nat → Nat) (ν : sw_N) (μ : sw_M) (a2 : Int32) (o : Int32 × sw_M), q_f_lawR_readProduct μ a2 = some o → MetR l D cI cL yX5_readProduct cX5_readProduct 5 (some .boolean) (7 + d) 0 0 (fun a => a = ad) ad [.ref 24, .ref 1, .int a2] lay0 μ ν (some (.int o.1)) lay0 o.2 ν) (hq_f_lawR_readUnit : ∀ (l : Launch) (D : va_G) (cI cL : ClassId) (ad : Nat → Nat) (ν : sw_N) (μ : sw_M) (a2 : Int32) (o : Int32 × sw_M), q_f_lawR_readUnit μ a2 = some o → MetR l D cI cL yX5_readUnit cX5_readUnit 4 (some .boolean) (7 + d) 0 0 (fun a => a = ad) ad [.ref 24, .ref 1, .int a2] lay0 μ ν (some (.int o.1)) lay0 o.2 ν) (hq_f_lawR_readChoice : ∀ (l : Launch) (D : va_G) (cI cL : ClassId) (ad : Nat → Nat) (ν : sw_N) (μ : sw_M) (a2 : Int32) (o : Int32 × sw_M), q_f_lawR_readChoice μ a2 = some o → MetR l D cI cL yX5_readChoice cX5_readChoice 3 (some .boolean) (7 + d) 0 0 (fun a => a = ad) ad [.ref 24, .ref 1, .int a2] lay0 μ ν (some (.int o.1)) lay0 o.2 ν) (ho : sw_out G 0 0 (fun a => a = ad) (.inl (some (.int o.1))) lay0 o.2 ν)  : ∀ (n : Nat) (μ : sw_M) (x2 : Int32) (x3 : Int32) (h : f_lawR_readProduct_13 N  q_f_lawR_readSum q_f_lawR_readProduct q_f_lawR_readUnit q_f_lawR_readChoice  n μ x2 x3 = some o), SW G ad lay0 ν 0 0 13 [some (.ref 24), some (.ref 1), some (.int x2), some (.int x3), none] [] μ := by
  intro n
  induction n with
  | zero => intro μ x2 x3 h; simp only [f_lawR_readProduct_13] at h; cases h
  | succ n ih =>
    intro μ x2 x3 h
    unfold f_lawR_readProduct_13 at h
    refine SW.iload_n (pc := 13) g (dt dt_X5_readProduct 9 rfl) rfl ?_
    refine SW.sipush (pc := 14) (v := 150) g (dt dt_X5_readProduct 10 rfl) ks_150 ?_
    refine SW.icmp_ge (pc := 17) (t := 78) g (dt dt_X5_readProduct 11 rfl) rfl (fun hc => ?_) (fun hc => ?_)
    · have h := iteT hc h
      refine SW.iconst (pc := 78) (v := 1) g (dt dt_X5_readProduct 42 rfl) ki_1 ?_
      exact SW.zreturn (pc := 79) g (leafW h ho) rfl (Nat.le_of_ble_eq_true rfl) (Nat.le_of_ble_eq_true rfl) (by decide) (dt dt_X5_readProduct 43 rfl)
    · have h := iteF hc h
      refine SW.aload_n (pc := 20) g (dt dt_X5_readProduct 12 rfl) rfl ?_
      refine SW.getI (pc := 21) g (dt dt_X5_readProduct 13 rfl) fl_X5_55 cell_1 rfl ?_
      refine SW.istore (pc := 24) g (dt dt_X5_readProduct 14 rfl) (sw_ltm hm (Nat.le_of_ble_eq_true rfl)) rfl ?_
      refine SW.genL h (fun y1 h => ?_)
      refine SW.iload (pc := 26) g (dt dt_X5_readProduct 15 rfl) rfl ?_
      refine SW.bipush (pc := 28) (v := 42) g (dt dt_X5_readProduct 16 rfl) kb_42 ?_
      refine SW.icmp_eq (pc := 30) (t := 49) g (dt dt_X5_readProduct 17 rfl) rfl (fun hc => ?_) (fun hc => ?_)
      · have h := iteT hc h
        refine SW.msk [true, true, true, true, true] ?_
        exact ok_f_lawR_readProduct_49  q_f_lawR_readSum q_f_lawR_readProduct q_f_lawR_readUnit q_f_lawR_readChoice g hm  hq_f_lawR_readSum hq_f_lawR_readProduct hq_f_lawR_readUnit hq_f_lawR_readChoice ho (f_lawR_readProduct_13 N  q_f_lawR_readSum q_f_lawR_readProduct q_f_lawR_readUnit q_f_lawR_readChoice  n) ih  μ x2 x3 y1 h
      · have h := iteF hc h
        refine SW.iload (pc := 33) g (dt dt_X5_readProduct 18 rfl) rfl ?_
        refine SW.bipush (pc := 35) (v := 47) g (dt dt_X5_readProduct 19 rfl) kb_47 ?_
        refine SW.icmp_eq (pc := 37) (t := 49) g (dt dt_X5_readProduct 20 rfl) rfl (fun hc => ?_) (fun hc => ?_)
        · have h := iteT hc h
          refine SW.msk [true, true, true, true, true] ?_
          exact ok_f_lawR_readProduct_49  q_f_lawR_readSum q_f_lawR_readProduct q_f_lawR_readUnit q_f_lawR_readChoice g hm  hq_f_lawR_readSum hq_f_lawR_readProduct hq_f_lawR_readUnit hq_f_lawR_readChoice ho (f_lawR_readProduct_13 N  q_f_lawR_readSum q_f_lawR_readProduct q_f_lawR_readUnit q_f_lawR_readChoice  n) ih  μ x2 x3 y1 h
        · have h := iteF hc h
          refine SW.iload (pc := 40) g (dt dt_X5_readProduct 21 rfl) rfl ?_
          refine SW.bipush (pc := 42) (v := 37) g (dt dt_X5_readProduct 22 rfl) kb_37 ?_
          refine SW.icmp_eq (pc := 44) (t := 49) g (dt dt_X5_readProduct 23 rfl) rfl (fun hc => ?_) (fun hc => ?_)
          · have h := iteT hc h
            refine SW.msk [true, true, true, true, true] ?_
            exact ok_f_lawR_readProduct_49  q_f_lawR_readSum q_f_lawR_readProduct q_f_lawR_readUnit q_f_lawR_readChoice g hm  hq_f_lawR_readSum hq_f_lawR_readProduct hq_f_lawR_readUnit hq_f_lawR_readChoice ho (f_lawR_readProduct_13 N  q_f_lawR_readSum q_f_lawR_readProduct q_f_lawR_readUnit q_f_lawR_readChoice  n) ih  μ x2 x3 y1 h
          · have h := iteF hc h
            refine SW.iconst (pc := 47) (v := 1) g (dt dt_X5_readProduct 24 rfl) ki_1 ?_
            exact SW.zreturn (pc := 48) g (leafW h ho) rfl (Nat.le_of_ble_eq_true rfl) (Nat.le_of_ble_eq_true rfl) (by decide) (dt dt_X5_readProduct 25 rfl)
set_option maxRecDepth 100000 in
set_option maxHeartbeats 4000000 in
theorem ok_f_lawR_readProduct_b {G : sw_G} {ad : Nat → Nat} {ν : sw_N}   {d : Nat} (q_f_lawR_readSum : sw_M → Int32 → Option (Int32 × sw_M)) (q_f_lawR_readProduct : sw_M → Int32 → Option (Int32 × sw_M)) (q_f_lawR_readUnit : sw_M → Int32 → Option (Int32 × sw_M)) (q_f_lawR_readChoice : sw_M → Int32 → Option (Int32 × sw_M)) {N : Nat} {o : Int32 × sw_M} (g : sw_ok G cX5_readProduct "DeadWires$Law" (some .boolean) (7 + (d + 1)) 0 0 ad) (hm : G.2.2.1.2.1.maxLocals = 5) (hq_f_lawR_readSum : ∀ (l : Launch) (D : va_G) (cI cL : ClassId) (ad : Nat → Nat) (ν : sw_N) (μ : sw_M) (a2 : Int32) (o : Int32 × sw_M), q_f_lawR_readSum μ a2 = some o → MetR l D cI cL yX5_readSum cX5_readSum 5 (some .boolean) (7 + d) 0 0 (fun a => a = ad) ad [.ref 24, .ref 1, .int a2] lay0 μ ν (some (.int o.1)) lay0 o.2 ν) (hq_f_lawR_readProduct : ∀ (l : Launch) (D : va_G) (cI cL : ClassId) (ad : Nat → Nat) (ν : sw_N) (μ : sw_M) (a2 : Int32) (o : Int32 × sw_M), q_f_lawR_readProduct μ a2 = some o → MetR l D cI cL yX5_readProduct cX5_readProduct 5 (some .boolean) (7 + d) 0 0 (fun a => a = ad) ad [.ref 24, .ref 1, .int a2] lay0 μ ν (some (.int o.1)) lay0 o.2 ν) (hq_f_lawR_readUnit : ∀ (l : Launch) (D : va_G) (cI cL : ClassId) (ad : Nat → Nat) (ν : sw_N) (μ : sw_M) (a2 : Int32) (o : Int32 × sw_M), q_f_lawR_readUnit μ a2 = some o → MetR l D cI cL yX5_readUnit cX5_readUnit 4 (some .boolean) (7 + d) 0 0 (fun a => a = ad) ad [.ref 24, .ref 1, .int a2] lay0 μ ν (some (.int o.1)) lay0 o.2 ν) (hq_f_lawR_readChoice : ∀ (l : Launch) (D : va_G) (cI cL : ClassId) (ad : Nat → Nat) (ν : sw_N) (μ : sw_M) (a2 : Int32) (o : Int32 × sw_M), q_f_lawR_readChoice μ a2 = some o → MetR l D cI cL yX5_readChoice cX5_readChoice 3 (some .boolean) (7 + d) 0 0 (fun a => a = ad) ad [.ref 24, .ref 1, .int a2] lay0 μ ν (some (.int o.1)) lay0 o.2 ν) (μ : sw_M) (ho : sw_out G 0 0 (fun a => a = ad) (.inl (some (.int o.1))) lay0 o.2 ν) (a2 : Int32) (h : f_lawR_readProduct_b N  q_f_lawR_readSum q_f_lawR_readProduct q_f_lawR_readUnit q_f_lawR_readChoice μ a2 = some o) : SW G ad lay0 ν 0 0 0 [some (.ref 24), some (.ref 1), some (.int a2), none, none] [] μ := by
  unfold f_lawR_readProduct_b at h
  refine SW.aload_n (pc := 0) g (dt dt_X5_readProduct 0 rfl) rfl ?_
  refine SW.aload_n (pc := 1) g (dt dt_X5_readProduct 1 rfl) rfl ?_
  refine SW.iload_n (pc := 2) g (dt dt_X5_readProduct 2 rfl) rfl ?_
  obtain ⟨r1, h2, h⟩ := bindI h
  refine SW.callVi (pc := 3) g (dt dt_X5_readProduct 3 rfl) (hq_f_lawR_readUnit _ _ _ _ ad ν μ a2 r1 h2) me_X5_readUnit mv_X5_readUnit ml_X5_70 cell_24 rfl rfl (Nat.le_of_ble_eq_true rfl) (by omega) (Nat.le_of_ble_eq_true rfl) (Nat.le_of_ble_eq_true rfl) rfl ?_
  refine SW.if_ne (pc := 6) (t := 11) g (dt dt_X5_readProduct 4 rfl) rfl (fun hc => ?_) (fun hc => ?_)
  · have h := iteF hc h
    refine SW.iconst (pc := 11) (v := 0) g (dt dt_X5_readProduct 7 rfl) ki_0 ?_
    refine SW.istore_n (pc := 12) g (dt dt_X5_readProduct 8 rfl) (sw_ltm hm (Nat.le_of_ble_eq_true rfl)) rfl ?_
    refine SW.msk [true, true, true, true, false] ?_
    exact ok_f_lawR_readProduct_13  q_f_lawR_readSum q_f_lawR_readProduct q_f_lawR_readUnit q_f_lawR_readChoice g hm  hq_f_lawR_readSum hq_f_lawR_readProduct hq_f_lawR_readUnit hq_f_lawR_readChoice ho   N r1.2 a2 0 h
  · have h := iteT hc h
    refine SW.iconst (pc := 9) (v := 0) g (dt dt_X5_readProduct 5 rfl) ki_0 ?_
    exact SW.zreturn (pc := 10) g (leafW h ho) rfl (Nat.le_of_ble_eq_true rfl) (Nat.le_of_ble_eq_true rfl) (by decide) (dt dt_X5_readProduct 6 rfl)
set_option maxRecDepth 100000 in
set_option maxHeartbeats 4000000 in
theorem mtb_f_lawR_readProduct (l : Launch) (D : va_G) (cI cL : ClassId) (ad : Nat → Nat) (ν : sw_N)   {d : Nat} (q_f_lawR_readSum : sw_M → Int32 → Option (Int32 × sw_M)) (q_f_lawR_readProduct : sw_M → Int32 → Option (Int32 × sw_M)) (q_f_lawR_readUnit : sw_M → Int32 → Option (Int32 × sw_M)) (q_f_lawR_readChoice : sw_M → Int32 → Option (Int32 × sw_M)) (hq_f_lawR_readSum : ∀ (l : Launch) (D : va_G) (cI cL : ClassId) (ad : Nat → Nat) (ν : sw_N) (μ : sw_M) (a2 : Int32) (o : Int32 × sw_M), q_f_lawR_readSum μ a2 = some o → MetR l D cI cL yX5_readSum cX5_readSum 5 (some .boolean) (7 + d) 0 0 (fun a => a = ad) ad [.ref 24, .ref 1, .int a2] lay0 μ ν (some (.int o.1)) lay0 o.2 ν) (hq_f_lawR_readProduct : ∀ (l : Launch) (D : va_G) (cI cL : ClassId) (ad : Nat → Nat) (ν : sw_N) (μ : sw_M) (a2 : Int32) (o : Int32 × sw_M), q_f_lawR_readProduct μ a2 = some o → MetR l D cI cL yX5_readProduct cX5_readProduct 5 (some .boolean) (7 + d) 0 0 (fun a => a = ad) ad [.ref 24, .ref 1, .int a2] lay0 μ ν (some (.int o.1)) lay0 o.2 ν) (hq_f_lawR_readUnit : ∀ (l : Launch) (D : va_G) (cI cL : ClassId) (ad : Nat → Nat) (ν : sw_N) (μ : sw_M) (a2 : Int32) (o : Int32 × sw_M), q_f_lawR_readUnit μ a2 = some o → MetR l D cI cL yX5_readUnit cX5_readUnit 4 (some .boolean) (7 + d) 0 0 (fun a => a = ad) ad [.ref 24, .ref 1, .int a2] lay0 μ ν (some (.int o.1)) lay0 o.2 ν) (hq_f_lawR_readChoice : ∀ (l : Launch) (D : va_G) (cI cL : ClassId) (ad : Nat → Nat) (ν : sw_N) (μ : sw_M) (a2 : Int32) (o : Int32 × sw_M), q_f_lawR_readChoice μ a2 = some o → MetR l D cI cL yX5_readChoice cX5_readChoice 3 (some .boolean) (7 + d) 0 0 (fun a => a = ad) ad [.ref 24, .ref 1, .int a2] lay0 μ ν (some (.int o.1)) lay0 o.2 ν) (N : Nat) (μ : sw_M) (a2 : Int32) (o : Int32 × sw_M) (h : f_lawR_readProduct_b N  q_f_lawR_readSum q_f_lawR_readProduct q_f_lawR_readUnit q_f_lawR_readChoice μ a2 = some o) : MetR l D cI cL yX5_readProduct cX5_readProduct 5 (some .boolean) (7 + (d + 1)) 0 0 (fun a => a = ad) ad [.ref 24, .ref 1, .int a2] lay0 μ ν (some (.int o.1)) lay0 o.2 ν :=
  MetR.of (n := 2) rfl (Nat.le_of_ble_eq_true rfl) (fun G g ho hm _ _ => ok_f_lawR_readProduct_b  q_f_lawR_readSum q_f_lawR_readProduct q_f_lawR_readUnit q_f_lawR_readChoice g hm  hq_f_lawR_readSum hq_f_lawR_readProduct hq_f_lawR_readUnit hq_f_lawR_readChoice μ ho a2 h)
def f_lawR_readSum_42 (N : Nat) (q_f_lawR_readSum : sw_M → Int32 → Option (Int32 × sw_M)) (q_f_lawR_readProduct : sw_M → Int32 → Option (Int32 × sw_M)) (q_f_lawR_readUnit : sw_M → Int32 → Option (Int32 × sw_M)) (q_f_lawR_readChoice : sw_M → Int32 → Option (Int32 × sw_M)) (k_13 : sw_M → Int32 → Int32 → Option (Int32 × sw_M)) (μ : sw_M) (x2 : Int32) (x3 : Int32) (x4 : Int32) : Option (Int32 × sw_M) :=
  Option.bind (f_tape_advance N  μ ) (fun r1 =>
    Option.bind (q_f_lawR_readProduct r1 x2) (fun r3 =>
      if r3.1 = 0 then
        some (0, r3.2)
      else
        Option.bind (f_lawR_add N  r3.2 x4 0) (fun r5 =>
          k_13 r5.2 x2 (x3 + 1))))
def f_lawR_readSum_13 (N : Nat) (q_f_lawR_readSum : sw_M → Int32 → Option (Int32 × sw_M)) (q_f_lawR_readProduct : sw_M → Int32 → Option (Int32 × sw_M)) (q_f_lawR_readUnit : sw_M → Int32 → Option (Int32 × sw_M)) (q_f_lawR_readChoice : sw_M → Int32 → Option (Int32 × sw_M))  : Nat → sw_M → Int32 → Int32 → Option (Int32 × sw_M)
  | 0, _, _, _ => none
  | n + 1, μ, x2, x3 =>
    if 150 ≤ x3 then
      some (1, μ)
    else
      ib (μ 1 4) (fun y1 =>
        if y1 = 43 then
          f_lawR_readSum_42 N  q_f_lawR_readSum q_f_lawR_readProduct q_f_lawR_readUnit q_f_lawR_readChoice (f_lawR_readSum_13 N  q_f_lawR_readSum q_f_lawR_readProduct q_f_lawR_readUnit q_f_lawR_readChoice  n)  μ x2 x3 y1
        else
          if y1 = 45 then
            f_lawR_readSum_42 N  q_f_lawR_readSum q_f_lawR_readProduct q_f_lawR_readUnit q_f_lawR_readChoice (f_lawR_readSum_13 N  q_f_lawR_readSum q_f_lawR_readProduct q_f_lawR_readUnit q_f_lawR_readChoice  n)  μ x2 x3 y1
          else
            some (1, μ))
def f_lawR_readSum_b (N : Nat) (q_f_lawR_readSum : sw_M → Int32 → Option (Int32 × sw_M)) (q_f_lawR_readProduct : sw_M → Int32 → Option (Int32 × sw_M)) (q_f_lawR_readUnit : sw_M → Int32 → Option (Int32 × sw_M)) (q_f_lawR_readChoice : sw_M → Int32 → Option (Int32 × sw_M)) (μ : sw_M) (a2 : Int32) : Option (Int32 × sw_M) :=
  Option.bind (q_f_lawR_readProduct μ a2) (fun r1 =>
    if r1.1 = 0 then
      some (0, r1.2)
    else
      f_lawR_readSum_13 N  q_f_lawR_readSum q_f_lawR_readProduct q_f_lawR_readUnit q_f_lawR_readChoice  N r1.2 a2 0)
set_option maxRecDepth 100000 in
set_option maxHeartbeats 4000000 in
theorem ok_f_lawR_readSum_42 {G : sw_G} {ad : Nat → Nat} {ν : sw_N}   {d : Nat} (q_f_lawR_readSum : sw_M → Int32 → Option (Int32 × sw_M)) (q_f_lawR_readProduct : sw_M → Int32 → Option (Int32 × sw_M)) (q_f_lawR_readUnit : sw_M → Int32 → Option (Int32 × sw_M)) (q_f_lawR_readChoice : sw_M → Int32 → Option (Int32 × sw_M)) {N : Nat} {o : Int32 × sw_M} (g : sw_ok G cX5_readSum "DeadWires$Law" (some .boolean) (7 + (d + 1)) 0 0 ad) (hm : G.2.2.1.2.1.maxLocals = 5) (hq_f_lawR_readSum : ∀ (l : Launch) (D : va_G) (cI cL : ClassId) (ad : Nat → Nat) (ν : sw_N) (μ : sw_M) (a2 : Int32) (o : Int32 × sw_M), q_f_lawR_readSum μ a2 = some o → MetR l D cI cL yX5_readSum cX5_readSum 5 (some .boolean) (7 + d) 0 0 (fun a => a = ad) ad [.ref 24, .ref 1, .int a2] lay0 μ ν (some (.int o.1)) lay0 o.2 ν) (hq_f_lawR_readProduct : ∀ (l : Launch) (D : va_G) (cI cL : ClassId) (ad : Nat → Nat) (ν : sw_N) (μ : sw_M) (a2 : Int32) (o : Int32 × sw_M), q_f_lawR_readProduct μ a2 = some o → MetR l D cI cL yX5_readProduct cX5_readProduct 5 (some .boolean) (7 + d) 0 0 (fun a => a = ad) ad [.ref 24, .ref 1, .int a2] lay0 μ ν (some (.int o.1)) lay0 o.2 ν) (hq_f_lawR_readUnit : ∀ (l : Launch) (D : va_G) (cI cL : ClassId) (ad : Nat → Nat) (ν : sw_N) (μ : sw_M) (a2 : Int32) (o : Int32 × sw_M), q_f_lawR_readUnit μ a2 = some o → MetR l D cI cL yX5_readUnit cX5_readUnit 4 (some .boolean) (7 + d) 0 0 (fun a => a = ad) ad [.ref 24, .ref 1, .int a2] lay0 μ ν (some (.int o.1)) lay0 o.2 ν) (hq_f_lawR_readChoice : ∀ (l : Launch) (D : va_G) (cI cL : ClassId) (ad : Nat → Nat) (ν : sw_N) (μ : sw_M) (a2 : Int32) (o : Int32 × sw_M), q_f_lawR_readChoice μ a2 = some o → MetR l D cI cL yX5_readChoice cX5_readChoice 3 (some .boolean) (7 + d) 0 0 (fun a => a = ad) ad [.ref 24, .ref 1, .int a2] lay0 μ ν (some (.int o.1)) lay0 o.2 ν) (ho : sw_out G 0 0 (fun a => a = ad) (.inl (some (.int o.1))) lay0 o.2 ν) (k_13 : sw_M → Int32 → Int32 → Option (Int32 × sw_M)) (hk_13 : ∀ (μ : sw_M) (x2 : Int32) (x3 : Int32), k_13 μ x2 x3 = some o → SW G ad lay0 ν 0 0 13 [some (.ref 24), some (.ref 1), some (.int x2), some (.int x3), none] [] μ) (μ : sw_M) (x2 : Int32) (x3 : Int32) (x4 : Int32) (h : f_lawR_readSum_42 N  q_f_lawR_readSum q_f_lawR_readProduct q_f_lawR_readUnit q_f_lawR_readChoice k_13  μ x2 x3 x4 = some o) : SW G ad lay0 ν 0 0 42 [some (.ref 24), some (.ref 1), some (.int x2), some (.int x3), some (.int x4)] [] μ := by
  unfold f_lawR_readSum_42 at h
  refine SW.aload_n (pc := 42) g (dt dt_X5_readSum 23 rfl) rfl ?_
  obtain ⟨r1, h2, h⟩ := bindI h
  refine SW.callVv (pc := 43) g (dt dt_X5_readSum 24 rfl) (mt_f_tape_advance _ _ _ _ ad ν   N μ  r1 h2) me_X7_advance mv_X7_advance ml_X5_67 cell_1 rfl rfl (Nat.le_of_ble_eq_true rfl) (by omega) (Nat.le_of_ble_eq_true rfl) (Nat.le_of_ble_eq_true rfl) rfl ?_
  refine SW.aload_n (pc := 46) g (dt dt_X5_readSum 25 rfl) rfl ?_
  refine SW.aload_n (pc := 47) g (dt dt_X5_readSum 26 rfl) rfl ?_
  refine SW.iload_n (pc := 48) g (dt dt_X5_readSum 27 rfl) rfl ?_
  obtain ⟨r3, h4, h⟩ := bindI h
  refine SW.callVi (pc := 49) g (dt dt_X5_readSum 28 rfl) (hq_f_lawR_readProduct _ _ _ _ ad ν r1 x2 r3 h4) me_X5_readProduct mv_X5_readProduct ml_X5_64 cell_24 rfl rfl (Nat.le_of_ble_eq_true rfl) (by omega) (Nat.le_of_ble_eq_true rfl) (Nat.le_of_ble_eq_true rfl) rfl ?_
  refine SW.if_ne (pc := 52) (t := 57) g (dt dt_X5_readSum 29 rfl) rfl (fun hc => ?_) (fun hc => ?_)
  · have h := iteF hc h
    refine SW.aload_n (pc := 57) g (dt dt_X5_readSum 32 rfl) rfl ?_
    refine SW.iload (pc := 58) g (dt dt_X5_readSum 33 rfl) rfl ?_
    refine SW.iconst (pc := 60) (v := 0) g (dt dt_X5_readSum 34 rfl) ki_0 ?_
    obtain ⟨r5, h6, h⟩ := bindI h
    refine SW.callVi (pc := 61) g (dt dt_X5_readSum 35 rfl) (mt_f_lawR_add _ _ _ _ ad ν   N r3.2 x4 0 r5 h6) me_X5_add mv_X5_add ml_X5_31 cell_24 rfl rfl (Nat.le_of_ble_eq_true rfl) (by omega) (Nat.le_of_ble_eq_true rfl) (Nat.le_of_ble_eq_true rfl) rfl ?_
    refine SW.pop (pc := 64) g (dt dt_X5_readSum 36 rfl) rfl ?_
    refine SW.iinc (pc := 65) (v := x3 + 1) g (dt dt_X5_readSum 37 rfl) rfl (kn_1 _) (sw_ltm hm (Nat.le_of_ble_eq_true rfl)) rfl ?_
    refine SW.goto (pc := 68) (t := 13) g (dt dt_X5_readSum 38 rfl) rfl ?_
    refine SW.msk [true, true, true, true, false] ?_
    exact hk_13 r5.2 x2 (x3 + 1) h
  · have h := iteT hc h
    refine SW.iconst (pc := 55) (v := 0) g (dt dt_X5_readSum 30 rfl) ki_0 ?_
    exact SW.zreturn (pc := 56) g (leafW h ho) rfl (Nat.le_of_ble_eq_true rfl) (Nat.le_of_ble_eq_true rfl) (by decide) (dt dt_X5_readSum 31 rfl)
set_option maxRecDepth 100000 in
set_option maxHeartbeats 4000000 in
theorem ok_f_lawR_readSum_13 {G : sw_G} {ad : Nat → Nat} {ν : sw_N}   {d : Nat} (q_f_lawR_readSum : sw_M → Int32 → Option (Int32 × sw_M)) (q_f_lawR_readProduct : sw_M → Int32 → Option (Int32 × sw_M)) (q_f_lawR_readUnit : sw_M → Int32 → Option (Int32 × sw_M)) (q_f_lawR_readChoice : sw_M → Int32 → Option (Int32 × sw_M)) {N : Nat} {o : Int32 × sw_M} (g : sw_ok G cX5_readSum "DeadWires$Law" (some .boolean) (7 + (d + 1)) 0 0 ad) (hm : G.2.2.1.2.1.maxLocals = 5) (hq_f_lawR_readSum : ∀ (l : Launch) (D : va_G) (cI cL : ClassId) (ad : Nat → Nat) (ν : sw_N) (μ : sw_M) (a2 : Int32) (o : Int32 × sw_M), q_f_lawR_readSum μ a2 = some o → MetR l D cI cL yX5_readSum cX5_readSum 5 (some .boolean) (7 + d) 0 0 (fun a => a = ad) ad [.ref 24, .ref 1, .int a2] lay0 μ ν (some (.int o.1)) lay0 o.2 ν) (hq_f_lawR_readProduct : ∀ (l : Launch) (D : va_G) (cI cL : ClassId) (ad : Nat → Nat) (ν : sw_N) (μ : sw_M) (a2 : Int32) (o : Int32 × sw_M), q_f_lawR_readProduct μ a2 = some o → MetR l D cI cL yX5_readProduct cX5_readProduct 5 (some .boolean) (7 + d) 0 0 (fun a => a = ad) ad [.ref 24, .ref 1, .int a2] lay0 μ ν (some (.int o.1)) lay0 o.2 ν) (hq_f_lawR_readUnit : ∀ (l : Launch) (D : va_G) (cI cL : ClassId) (ad : Nat → Nat) (ν : sw_N) (μ : sw_M) (a2 : Int32) (o : Int32 × sw_M), q_f_lawR_readUnit μ a2 = some o → MetR l D cI cL yX5_readUnit cX5_readUnit 4 (some .boolean) (7 + d) 0 0 (fun a => a = ad) ad [.ref 24, .ref 1, .int a2] lay0 μ ν (some (.int o.1)) lay0 o.2 ν) (hq_f_lawR_readChoice : ∀ (l : Launch) (D : va_G) (cI cL : ClassId) (ad : Nat → Nat) (ν : sw_N) (μ : sw_M) (a2 : Int32) (o : Int32 × sw_M), q_f_lawR_readChoice μ a2 = some o → MetR l D cI cL yX5_readChoice cX5_readChoice 3 (some .boolean) (7 + d) 0 0 (fun a => a = ad) ad [.ref 24, .ref 1, .int a2] lay0 μ ν (some (.int o.1)) lay0 o.2 ν) (ho : sw_out G 0 0 (fun a => a = ad) (.inl (some (.int o.1))) lay0 o.2 ν)  : ∀ (n : Nat) (μ : sw_M) (x2 : Int32) (x3 : Int32) (h : f_lawR_readSum_13 N  q_f_lawR_readSum q_f_lawR_readProduct q_f_lawR_readUnit q_f_lawR_readChoice  n μ x2 x3 = some o), SW G ad lay0 ν 0 0 13 [some (.ref 24), some (.ref 1), some (.int x2), some (.int x3), none] [] μ := by
  intro n
  induction n with
  | zero => intro μ x2 x3 h; simp only [f_lawR_readSum_13] at h; cases h
  | succ n ih =>
    intro μ x2 x3 h
    unfold f_lawR_readSum_13 at h
    refine SW.iload_n (pc := 13) g (dt dt_X5_readSum 9 rfl) rfl ?_
    refine SW.sipush (pc := 14) (v := 150) g (dt dt_X5_readSum 10 rfl) ks_150 ?_
    refine SW.icmp_ge (pc := 17) (t := 71) g (dt dt_X5_readSum 11 rfl) rfl (fun hc => ?_) (fun hc => ?_)
    · have h := iteT hc h
      refine SW.iconst (pc := 71) (v := 1) g (dt dt_X5_readSum 39 rfl) ki_1 ?_
      exact SW.zreturn (pc := 72) g (leafW h ho) rfl (Nat.le_of_ble_eq_true rfl) (Nat.le_of_ble_eq_true rfl) (by decide) (dt dt_X5_readSum 40 rfl)
    · have h := iteF hc h
      refine SW.aload_n (pc := 20) g (dt dt_X5_readSum 12 rfl) rfl ?_
      refine SW.getI (pc := 21) g (dt dt_X5_readSum 13 rfl) fl_X5_55 cell_1 rfl ?_
      refine SW.istore (pc := 24) g (dt dt_X5_readSum 14 rfl) (sw_ltm hm (Nat.le_of_ble_eq_true rfl)) rfl ?_
      refine SW.genL h (fun y1 h => ?_)
      refine SW.iload (pc := 26) g (dt dt_X5_readSum 15 rfl) rfl ?_
      refine SW.bipush (pc := 28) (v := 43) g (dt dt_X5_readSum 16 rfl) kb_43 ?_
      refine SW.icmp_eq (pc := 30) (t := 42) g (dt dt_X5_readSum 17 rfl) rfl (fun hc => ?_) (fun hc => ?_)
      · have h := iteT hc h
        refine SW.msk [true, true, true, true, true] ?_
        exact ok_f_lawR_readSum_42  q_f_lawR_readSum q_f_lawR_readProduct q_f_lawR_readUnit q_f_lawR_readChoice g hm  hq_f_lawR_readSum hq_f_lawR_readProduct hq_f_lawR_readUnit hq_f_lawR_readChoice ho (f_lawR_readSum_13 N  q_f_lawR_readSum q_f_lawR_readProduct q_f_lawR_readUnit q_f_lawR_readChoice  n) ih  μ x2 x3 y1 h
      · have h := iteF hc h
        refine SW.iload (pc := 33) g (dt dt_X5_readSum 18 rfl) rfl ?_
        refine SW.bipush (pc := 35) (v := 45) g (dt dt_X5_readSum 19 rfl) kb_45 ?_
        refine SW.icmp_eq (pc := 37) (t := 42) g (dt dt_X5_readSum 20 rfl) rfl (fun hc => ?_) (fun hc => ?_)
        · have h := iteT hc h
          refine SW.msk [true, true, true, true, true] ?_
          exact ok_f_lawR_readSum_42  q_f_lawR_readSum q_f_lawR_readProduct q_f_lawR_readUnit q_f_lawR_readChoice g hm  hq_f_lawR_readSum hq_f_lawR_readProduct hq_f_lawR_readUnit hq_f_lawR_readChoice ho (f_lawR_readSum_13 N  q_f_lawR_readSum q_f_lawR_readProduct q_f_lawR_readUnit q_f_lawR_readChoice  n) ih  μ x2 x3 y1 h
        · have h := iteF hc h
          refine SW.iconst (pc := 40) (v := 1) g (dt dt_X5_readSum 21 rfl) ki_1 ?_
          exact SW.zreturn (pc := 41) g (leafW h ho) rfl (Nat.le_of_ble_eq_true rfl) (Nat.le_of_ble_eq_true rfl) (by decide) (dt dt_X5_readSum 22 rfl)
set_option maxRecDepth 100000 in
set_option maxHeartbeats 4000000 in
theorem ok_f_lawR_readSum_b {G : sw_G} {ad : Nat → Nat} {ν : sw_N}   {d : Nat} (q_f_lawR_readSum : sw_M → Int32 → Option (Int32 × sw_M)) (q_f_lawR_readProduct : sw_M → Int32 → Option (Int32 × sw_M)) (q_f_lawR_readUnit : sw_M → Int32 → Option (Int32 × sw_M)) (q_f_lawR_readChoice : sw_M → Int32 → Option (Int32 × sw_M)) {N : Nat} {o : Int32 × sw_M} (g : sw_ok G cX5_readSum "DeadWires$Law" (some .boolean) (7 + (d + 1)) 0 0 ad) (hm : G.2.2.1.2.1.maxLocals = 5) (hq_f_lawR_readSum : ∀ (l : Launch) (D : va_G) (cI cL : ClassId) (ad : Nat → Nat) (ν : sw_N) (μ : sw_M) (a2 : Int32) (o : Int32 × sw_M), q_f_lawR_readSum μ a2 = some o → MetR l D cI cL yX5_readSum cX5_readSum 5 (some .boolean) (7 + d) 0 0 (fun a => a = ad) ad [.ref 24, .ref 1, .int a2] lay0 μ ν (some (.int o.1)) lay0 o.2 ν) (hq_f_lawR_readProduct : ∀ (l : Launch) (D : va_G) (cI cL : ClassId) (ad : Nat → Nat) (ν : sw_N) (μ : sw_M) (a2 : Int32) (o : Int32 × sw_M), q_f_lawR_readProduct μ a2 = some o → MetR l D cI cL yX5_readProduct cX5_readProduct 5 (some .boolean) (7 + d) 0 0 (fun a => a = ad) ad [.ref 24, .ref 1, .int a2] lay0 μ ν (some (.int o.1)) lay0 o.2 ν) (hq_f_lawR_readUnit : ∀ (l : Launch) (D : va_G) (cI cL : ClassId) (ad : Nat → Nat) (ν : sw_N) (μ : sw_M) (a2 : Int32) (o : Int32 × sw_M), q_f_lawR_readUnit μ a2 = some o → MetR l D cI cL yX5_readUnit cX5_readUnit 4 (some .boolean) (7 + d) 0 0 (fun a => a = ad) ad [.ref 24, .ref 1, .int a2] lay0 μ ν (some (.int o.1)) lay0 o.2 ν) (hq_f_lawR_readChoice : ∀ (l : Launch) (D : va_G) (cI cL : ClassId) (ad : Nat → Nat) (ν : sw_N) (μ : sw_M) (a2 : Int32) (o : Int32 × sw_M), q_f_lawR_readChoice μ a2 = some o → MetR l D cI cL yX5_readChoice cX5_readChoice 3 (some .boolean) (7 + d) 0 0 (fun a => a = ad) ad [.ref 24, .ref 1, .int a2] lay0 μ ν (some (.int o.1)) lay0 o.2 ν) (μ : sw_M) (ho : sw_out G 0 0 (fun a => a = ad) (.inl (some (.int o.1))) lay0 o.2 ν) (a2 : Int32) (h : f_lawR_readSum_b N  q_f_lawR_readSum q_f_lawR_readProduct q_f_lawR_readUnit q_f_lawR_readChoice μ a2 = some o) : SW G ad lay0 ν 0 0 0 [some (.ref 24), some (.ref 1), some (.int a2), none, none] [] μ := by
  unfold f_lawR_readSum_b at h
  refine SW.aload_n (pc := 0) g (dt dt_X5_readSum 0 rfl) rfl ?_
  refine SW.aload_n (pc := 1) g (dt dt_X5_readSum 1 rfl) rfl ?_
  refine SW.iload_n (pc := 2) g (dt dt_X5_readSum 2 rfl) rfl ?_
  obtain ⟨r1, h2, h⟩ := bindI h
  refine SW.callVi (pc := 3) g (dt dt_X5_readSum 3 rfl) (hq_f_lawR_readProduct _ _ _ _ ad ν μ a2 r1 h2) me_X5_readProduct mv_X5_readProduct ml_X5_64 cell_24 rfl rfl (Nat.le_of_ble_eq_true rfl) (by omega) (Nat.le_of_ble_eq_true rfl) (Nat.le_of_ble_eq_true rfl) rfl ?_
  refine SW.if_ne (pc := 6) (t := 11) g (dt dt_X5_readSum 4 rfl) rfl (fun hc => ?_) (fun hc => ?_)
  · have h := iteF hc h
    refine SW.iconst (pc := 11) (v := 0) g (dt dt_X5_readSum 7 rfl) ki_0 ?_
    refine SW.istore_n (pc := 12) g (dt dt_X5_readSum 8 rfl) (sw_ltm hm (Nat.le_of_ble_eq_true rfl)) rfl ?_
    refine SW.msk [true, true, true, true, false] ?_
    exact ok_f_lawR_readSum_13  q_f_lawR_readSum q_f_lawR_readProduct q_f_lawR_readUnit q_f_lawR_readChoice g hm  hq_f_lawR_readSum hq_f_lawR_readProduct hq_f_lawR_readUnit hq_f_lawR_readChoice ho   N r1.2 a2 0 h
  · have h := iteT hc h
    refine SW.iconst (pc := 9) (v := 0) g (dt dt_X5_readSum 5 rfl) ki_0 ?_
    exact SW.zreturn (pc := 10) g (leafW h ho) rfl (Nat.le_of_ble_eq_true rfl) (Nat.le_of_ble_eq_true rfl) (by decide) (dt dt_X5_readSum 6 rfl)
set_option maxRecDepth 100000 in
set_option maxHeartbeats 4000000 in
theorem mtb_f_lawR_readSum (l : Launch) (D : va_G) (cI cL : ClassId) (ad : Nat → Nat) (ν : sw_N)   {d : Nat} (q_f_lawR_readSum : sw_M → Int32 → Option (Int32 × sw_M)) (q_f_lawR_readProduct : sw_M → Int32 → Option (Int32 × sw_M)) (q_f_lawR_readUnit : sw_M → Int32 → Option (Int32 × sw_M)) (q_f_lawR_readChoice : sw_M → Int32 → Option (Int32 × sw_M)) (hq_f_lawR_readSum : ∀ (l : Launch) (D : va_G) (cI cL : ClassId) (ad : Nat → Nat) (ν : sw_N) (μ : sw_M) (a2 : Int32) (o : Int32 × sw_M), q_f_lawR_readSum μ a2 = some o → MetR l D cI cL yX5_readSum cX5_readSum 5 (some .boolean) (7 + d) 0 0 (fun a => a = ad) ad [.ref 24, .ref 1, .int a2] lay0 μ ν (some (.int o.1)) lay0 o.2 ν) (hq_f_lawR_readProduct : ∀ (l : Launch) (D : va_G) (cI cL : ClassId) (ad : Nat → Nat) (ν : sw_N) (μ : sw_M) (a2 : Int32) (o : Int32 × sw_M), q_f_lawR_readProduct μ a2 = some o → MetR l D cI cL yX5_readProduct cX5_readProduct 5 (some .boolean) (7 + d) 0 0 (fun a => a = ad) ad [.ref 24, .ref 1, .int a2] lay0 μ ν (some (.int o.1)) lay0 o.2 ν) (hq_f_lawR_readUnit : ∀ (l : Launch) (D : va_G) (cI cL : ClassId) (ad : Nat → Nat) (ν : sw_N) (μ : sw_M) (a2 : Int32) (o : Int32 × sw_M), q_f_lawR_readUnit μ a2 = some o → MetR l D cI cL yX5_readUnit cX5_readUnit 4 (some .boolean) (7 + d) 0 0 (fun a => a = ad) ad [.ref 24, .ref 1, .int a2] lay0 μ ν (some (.int o.1)) lay0 o.2 ν) (hq_f_lawR_readChoice : ∀ (l : Launch) (D : va_G) (cI cL : ClassId) (ad : Nat → Nat) (ν : sw_N) (μ : sw_M) (a2 : Int32) (o : Int32 × sw_M), q_f_lawR_readChoice μ a2 = some o → MetR l D cI cL yX5_readChoice cX5_readChoice 3 (some .boolean) (7 + d) 0 0 (fun a => a = ad) ad [.ref 24, .ref 1, .int a2] lay0 μ ν (some (.int o.1)) lay0 o.2 ν) (N : Nat) (μ : sw_M) (a2 : Int32) (o : Int32 × sw_M) (h : f_lawR_readSum_b N  q_f_lawR_readSum q_f_lawR_readProduct q_f_lawR_readUnit q_f_lawR_readChoice μ a2 = some o) : MetR l D cI cL yX5_readSum cX5_readSum 5 (some .boolean) (7 + (d + 1)) 0 0 (fun a => a = ad) ad [.ref 24, .ref 1, .int a2] lay0 μ ν (some (.int o.1)) lay0 o.2 ν :=
  MetR.of (n := 2) rfl (Nat.le_of_ble_eq_true rfl) (fun G g ho hm _ _ => ok_f_lawR_readSum_b  q_f_lawR_readSum q_f_lawR_readProduct q_f_lawR_readUnit q_f_lawR_readChoice g hm  hq_f_lawR_readSum hq_f_lawR_readProduct hq_f_lawR_readUnit hq_f_lawR_readChoice μ ho a2 h)
def grp_lawR_readSum (N : Nat) : Nat → (sw_M → Int32 → Option (Int32 × sw_M)) × (sw_M → Int32 → Option (Int32 × sw_M)) × (sw_M → Int32 → Option (Int32 × sw_M)) × (sw_M → Int32 → Option (Int32 × sw_M))
  | 0 => (fun _ _ => none, fun _ _ => none, fun _ _ => none, fun _ _ => none)
  | d + 1 => (f_lawR_readSum_b N ((grp_lawR_readSum N d).1) ((grp_lawR_readSum N d).2.1) ((grp_lawR_readSum N d).2.2.1) ((grp_lawR_readSum N d).2.2.2), f_lawR_readProduct_b N ((grp_lawR_readSum N d).1) ((grp_lawR_readSum N d).2.1) ((grp_lawR_readSum N d).2.2.1) ((grp_lawR_readSum N d).2.2.2), f_lawR_readUnit_b N ((grp_lawR_readSum N d).1) ((grp_lawR_readSum N d).2.1) ((grp_lawR_readSum N d).2.2.1) ((grp_lawR_readSum N d).2.2.2), f_lawR_readChoice_b N ((grp_lawR_readSum N d).1) ((grp_lawR_readSum N d).2.1) ((grp_lawR_readSum N d).2.2.1) ((grp_lawR_readSum N d).2.2.2))
def f_lawR_readSum (N : Nat) (μ : sw_M) (a2 : Int32) : Option (Int32 × sw_M) := (grp_lawR_readSum N 40).1 μ a2
def f_lawR_readProduct (N : Nat) (μ : sw_M) (a2 : Int32) : Option (Int32 × sw_M) := (grp_lawR_readSum N 40).2.1 μ a2
def f_lawR_readUnit (N : Nat) (μ : sw_M) (a2 : Int32) : Option (Int32 × sw_M) := (grp_lawR_readSum N 40).2.2.1 μ a2
def f_lawR_readChoice (N : Nat) (μ : sw_M) (a2 : Int32) : Option (Int32 × sw_M) := (grp_lawR_readSum N 40).2.2.2 μ a2
set_option maxRecDepth 100000 in
set_option maxHeartbeats 4000000 in
theorem ok_grp_lawR_readSum (N : Nat) : ∀ d : Nat, (∀ (l : Launch) (D : va_G) (cI cL : ClassId) (ad : Nat → Nat) (ν : sw_N) (μ : sw_M) (a2 : Int32) (o : Int32 × sw_M), (grp_lawR_readSum N d).1 μ a2 = some o → MetR l D cI cL yX5_readSum cX5_readSum 5 (some .boolean) (7 + d) 0 0 (fun a => a = ad) ad [.ref 24, .ref 1, .int a2] lay0 μ ν (some (.int o.1)) lay0 o.2 ν) ∧ (∀ (l : Launch) (D : va_G) (cI cL : ClassId) (ad : Nat → Nat) (ν : sw_N) (μ : sw_M) (a2 : Int32) (o : Int32 × sw_M), (grp_lawR_readSum N d).2.1 μ a2 = some o → MetR l D cI cL yX5_readProduct cX5_readProduct 5 (some .boolean) (7 + d) 0 0 (fun a => a = ad) ad [.ref 24, .ref 1, .int a2] lay0 μ ν (some (.int o.1)) lay0 o.2 ν) ∧ (∀ (l : Launch) (D : va_G) (cI cL : ClassId) (ad : Nat → Nat) (ν : sw_N) (μ : sw_M) (a2 : Int32) (o : Int32 × sw_M), (grp_lawR_readSum N d).2.2.1 μ a2 = some o → MetR l D cI cL yX5_readUnit cX5_readUnit 4 (some .boolean) (7 + d) 0 0 (fun a => a = ad) ad [.ref 24, .ref 1, .int a2] lay0 μ ν (some (.int o.1)) lay0 o.2 ν) ∧ (∀ (l : Launch) (D : va_G) (cI cL : ClassId) (ad : Nat → Nat) (ν : sw_N) (μ : sw_M) (a2 : Int32) (o : Int32 × sw_M), (grp_lawR_readSum N d).2.2.2 μ a2 = some o → MetR l D cI cL yX5_readChoice cX5_readChoice 3 (some .boolean) (7 + d) 0 0 (fun a => a = ad) ad [.ref 24, .ref 1, .int a2] lay0 μ ν (some (.int o.1)) lay0 o.2 ν) := by
  intro d
  induction d with
  | zero => exact ⟨(fun l D cI cL ad ν μ a2 o h => nomatch h), (fun l D cI cL ad ν μ a2 o h => nomatch h), (fun l D cI cL ad ν μ a2 o h => nomatch h), (fun l D cI cL ad ν μ a2 o h => nomatch h)⟩
  | succ d ih => exact ⟨fun l D cI cL ad ν μ a2 o h => mtb_f_lawR_readSum l D cI cL ad ν ((grp_lawR_readSum N d).1) ((grp_lawR_readSum N d).2.1) ((grp_lawR_readSum N d).2.2.1) ((grp_lawR_readSum N d).2.2.2) (ih.1) (ih.2.1) (ih.2.2.1) (ih.2.2.2) N μ a2 o h, fun l D cI cL ad ν μ a2 o h => mtb_f_lawR_readProduct l D cI cL ad ν ((grp_lawR_readSum N d).1) ((grp_lawR_readSum N d).2.1) ((grp_lawR_readSum N d).2.2.1) ((grp_lawR_readSum N d).2.2.2) (ih.1) (ih.2.1) (ih.2.2.1) (ih.2.2.2) N μ a2 o h, fun l D cI cL ad ν μ a2 o h => mtb_f_lawR_readUnit l D cI cL ad ν ((grp_lawR_readSum N d).1) ((grp_lawR_readSum N d).2.1) ((grp_lawR_readSum N d).2.2.1) ((grp_lawR_readSum N d).2.2.2) (ih.1) (ih.2.1) (ih.2.2.1) (ih.2.2.2) N μ a2 o h, fun l D cI cL ad ν μ a2 o h => mtb_f_lawR_readChoice l D cI cL ad ν ((grp_lawR_readSum N d).1) ((grp_lawR_readSum N d).2.1) ((grp_lawR_readSum N d).2.2.1) ((grp_lawR_readSum N d).2.2.2) (ih.1) (ih.2.1) (ih.2.2.1) (ih.2.2.2) N μ a2 o h⟩
set_option maxRecDepth 100000 in
set_option maxHeartbeats 4000000 in
theorem mt_f_lawR_readSum (l : Launch) (D : va_G) (cI cL : ClassId) (ad : Nat → Nat) (ν : sw_N) (N : Nat) (μ : sw_M) (a2 : Int32) (o : Int32 × sw_M) (h : f_lawR_readSum N μ a2 = some o) : MetR l D cI cL yX5_readSum cX5_readSum 5 (some .boolean) 47 0 0 (fun a => a = ad) ad [.ref 24, .ref 1, .int a2] lay0 μ ν (some (.int o.1)) lay0 o.2 ν := (ok_grp_lawR_readSum N 40).1 l D cI cL ad ν μ a2 o h
set_option maxRecDepth 100000 in
set_option maxHeartbeats 4000000 in
theorem mt_f_lawR_readProduct (l : Launch) (D : va_G) (cI cL : ClassId) (ad : Nat → Nat) (ν : sw_N) (N : Nat) (μ : sw_M) (a2 : Int32) (o : Int32 × sw_M) (h : f_lawR_readProduct N μ a2 = some o) : MetR l D cI cL yX5_readProduct cX5_readProduct 5 (some .boolean) 47 0 0 (fun a => a = ad) ad [.ref 24, .ref 1, .int a2] lay0 μ ν (some (.int o.1)) lay0 o.2 ν := (ok_grp_lawR_readSum N 40).2.1 l D cI cL ad ν μ a2 o h
set_option maxRecDepth 100000 in
set_option maxHeartbeats 4000000 in
theorem mt_f_lawR_readUnit (l : Launch) (D : va_G) (cI cL : ClassId) (ad : Nat → Nat) (ν : sw_N) (N : Nat) (μ : sw_M) (a2 : Int32) (o : Int32 × sw_M) (h : f_lawR_readUnit N μ a2 = some o) : MetR l D cI cL yX5_readUnit cX5_readUnit 4 (some .boolean) 47 0 0 (fun a => a = ad) ad [.ref 24, .ref 1, .int a2] lay0 μ ν (some (.int o.1)) lay0 o.2 ν := (ok_grp_lawR_readSum N 40).2.2.1 l D cI cL ad ν μ a2 o h
set_option maxRecDepth 100000 in
set_option maxHeartbeats 4000000 in
theorem mt_f_lawR_readChoice (l : Launch) (D : va_G) (cI cL : ClassId) (ad : Nat → Nat) (ν : sw_N) (N : Nat) (μ : sw_M) (a2 : Int32) (o : Int32 × sw_M) (h : f_lawR_readChoice N μ a2 = some o) : MetR l D cI cL yX5_readChoice cX5_readChoice 3 (some .boolean) 47 0 0 (fun a => a = ad) ad [.ref 24, .ref 1, .int a2] lay0 μ ν (some (.int o.1)) lay0 o.2 ν := (ok_grp_lawR_readSum N 40).2.2.2 l D cI cL ad ν μ a2 o h
def f_lawR_read (N : Nat)  (μ : sw_M)  : Option (Int32 × sw_M) :=
  wb (wr μ 24 4 0) (fun μ1 =>
    Option.bind (f_lawR_readSum N  μ1 0) (fun r2 =>
      if r2.1 = 0 then
        some (0, r2.2)
      else
        if (r2.2 1 4) = 256 then
          some (1, r2.2)
        else
          Option.bind (f_tape_fail N  r2.2 1) (fun r4 =>
            if r4.1 = 0 then
              some (0, r4.2)
            else
              some (1, r4.2))))
set_option maxRecDepth 100000 in
set_option maxHeartbeats 4000000 in
theorem ok_f_lawR_read {G : sw_G} {ad : Nat → Nat} {ν : sw_N}   {N : Nat} {o : Int32 × sw_M} (g : sw_ok G cX5_read "DeadWires$Law" (some .boolean) 48 0 0 ad) (hm : G.2.2.1.2.1.maxLocals = 2)  (μ : sw_M) (ho : sw_out G 0 0 (fun a => a = ad) (.inl (some (.int o.1))) lay0 o.2 ν)  (h : f_lawR_read N  μ  = some o) : SW G ad lay0 ν 0 0 0 [some (.ref 24), some (.ref 1)] [] μ := by
  unfold f_lawR_read at h
  refine SW.aload_n (pc := 0) g (dt dt_X5_read 0 rfl) rfl ?_
  refine SW.iconst (pc := 1) (v := 0) g (dt dt_X5_read 1 rfl) ki_0 ?_
  refine SW.putI (pc := 2) g (dt dt_X5_read 2 rfl) fl_X5_27 cell_24 rfl ?_
  refine SW.genM h (fun μ1 h => ?_)
  refine SW.aload_n (pc := 5) g (dt dt_X5_read 3 rfl) rfl ?_
  refine SW.aload_n (pc := 6) g (dt dt_X5_read 4 rfl) rfl ?_
  refine SW.iconst (pc := 7) (v := 0) g (dt dt_X5_read 5 rfl) ki_0 ?_
  obtain ⟨r2, h3, h⟩ := bindI h
  refine SW.callVi (pc := 8) g (dt dt_X5_read 6 rfl) (mt_f_lawR_readSum _ _ _ _ ad ν   N μ1 0 r2 h3) me_X5_readSum mv_X5_readSum ml_X5_51 cell_24 rfl rfl (Nat.le_of_ble_eq_true rfl) (Nat.le_of_ble_eq_true rfl) (Nat.le_of_ble_eq_true rfl) (Nat.le_of_ble_eq_true rfl) rfl ?_
  refine SW.if_eq (pc := 11) (t := 36) g (dt dt_X5_read 7 rfl) rfl (fun hc => ?_) (fun hc => ?_)
  · have h := iteT hc h
    refine SW.iconst (pc := 36) (v := 0) g (dt dt_X5_read 18 rfl) ki_0 ?_
    exact SW.zreturn (pc := 37) g (leafW h ho) rfl (Nat.le_of_ble_eq_true rfl) (Nat.le_of_ble_eq_true rfl) (by decide) (dt dt_X5_read 19 rfl)
  · have h := iteF hc h
    refine SW.aload_n (pc := 14) g (dt dt_X5_read 8 rfl) rfl ?_
    refine SW.getI (pc := 15) g (dt dt_X5_read 9 rfl) fl_X5_55 cell_1 rfl ?_
    refine SW.sipush (pc := 18) (v := 256) g (dt dt_X5_read 10 rfl) ks_256 ?_
    refine SW.icmp_eq (pc := 21) (t := 32) g (dt dt_X5_read 11 rfl) rfl (fun hc => ?_) (fun hc => ?_)
    · have h := iteT hc h
      refine SW.iconst (pc := 32) (v := 1) g (dt dt_X5_read 16 rfl) ki_1 ?_
      refine SW.goto (pc := 33) (t := 37) g (dt dt_X5_read 17 rfl) rfl ?_
      exact SW.zreturn (pc := 37) g (leafW h ho) rfl (Nat.le_of_ble_eq_true rfl) (Nat.le_of_ble_eq_true rfl) (by decide) (dt dt_X5_read 19 rfl)
    · have h := iteF hc h
      refine SW.aload_n (pc := 24) g (dt dt_X5_read 12 rfl) rfl ?_
      refine SW.iconst (pc := 25) (v := 1) g (dt dt_X5_read 13 rfl) ki_1 ?_
      obtain ⟨r4, h5, h⟩ := bindI h
      refine SW.callVi (pc := 26) g (dt dt_X5_read 14 rfl) (mt_f_tape_fail _ _ _ _ ad ν   N r2.2 1 r4 h5) me_X7_fail mv_X7_fail ml_X5_60 cell_1 rfl rfl (Nat.le_of_ble_eq_true rfl) (Nat.le_of_ble_eq_true rfl) (Nat.le_of_ble_eq_true rfl) (Nat.le_of_ble_eq_true rfl) rfl ?_
      refine SW.if_eq (pc := 29) (t := 36) g (dt dt_X5_read 15 rfl) rfl (fun hc => ?_) (fun hc => ?_)
      · have h := iteT hc h
        refine SW.iconst (pc := 36) (v := 0) g (dt dt_X5_read 18 rfl) ki_0 ?_
        exact SW.zreturn (pc := 37) g (leafW h ho) rfl (Nat.le_of_ble_eq_true rfl) (Nat.le_of_ble_eq_true rfl) (by decide) (dt dt_X5_read 19 rfl)
      · have h := iteF hc h
        refine SW.iconst (pc := 32) (v := 1) g (dt dt_X5_read 16 rfl) ki_1 ?_
        refine SW.goto (pc := 33) (t := 37) g (dt dt_X5_read 17 rfl) rfl ?_
        exact SW.zreturn (pc := 37) g (leafW h ho) rfl (Nat.le_of_ble_eq_true rfl) (Nat.le_of_ble_eq_true rfl) (by decide) (dt dt_X5_read 19 rfl)
set_option maxRecDepth 100000 in
set_option maxHeartbeats 4000000 in
theorem mt_f_lawR_read (l : Launch) (D : va_G) (cI cL : ClassId) (ad : Nat → Nat) (ν : sw_N)    (N : Nat) (μ : sw_M)  (o : Int32 × sw_M) (h : f_lawR_read N  μ  = some o) : MetR l D cI cL yX5_read cX5_read 2 (some .boolean) 48 0 0 (fun a => a = ad) ad [.ref 24, .ref 1] lay0 μ ν (some (.int o.1)) lay0 o.2 ν :=
  MetR.of (n := 0) rfl (Nat.le_of_ble_eq_true rfl) (fun G g ho hm _ _ => ok_f_lawR_read  g hm  μ ho  h)
def f_law_add (N : Nat)  (μ : sw_M) (a1 : Int32) (a2 : Int32) : Option (Int32 × sw_M) :=
  Option.bind (f_sx_put N 20 150 μ (μ 19 4) a1) (fun r1 =>
    Option.bind (f_sx_put N 21 150 r1 (r1 19 4) a2) (fun r3 =>
      wb (wr r3 19 4 (if 150 < ((r3 19 4) + 1) then 150 else ((r3 19 4) + 1))) (fun μ5 =>
        some (1, μ5))))
set_option maxRecDepth 100000 in
set_option maxHeartbeats 4000000 in
theorem ok_f_law_add {G : sw_G} {ad : Nat → Nat} {ν : sw_N}   {N : Nat} {o : Int32 × sw_M} (g : sw_ok G cX5_add "DeadWires$Law" (some .boolean) 2 0 0 ad) (hm : G.2.2.1.2.1.maxLocals = 3)  (μ : sw_M) (ho : sw_out G 0 0 (fun a => a = ad) (.inl (some (.int o.1))) lay0 o.2 ν) (a1 : Int32) (a2 : Int32) (h : f_law_add N  μ a1 a2 = some o) : SW G ad lay0 ν 0 0 0 [some (.ref 19), some (.int a1), some (.int a2)] [] μ := by
  unfold f_law_add at h
  refine SW.aload_n (pc := 0) g (dt dt_X5_add 0 rfl) rfl ?_
  refine SW.getR (pc := 1) g (dt dt_X5_add 1 rfl) fl_X5_9 cell_19 rfl ?_
  refine SW.aload_n (pc := 4) g (dt dt_X5_add 2 rfl) rfl ?_
  refine SW.getI (pc := 5) g (dt dt_X5_add 3 rfl) fl_X5_27 cell_19 rfl ?_
  refine SW.iload_n (pc := 8) g (dt dt_X5_add 4 rfl) rfl ?_
  obtain ⟨r1, h2, h⟩ := bindI h
  refine SW.callSNv (pc := 9) g (dt dt_X5_add 5 rfl) (mt_f_sx_put _ _ _ _ ad ν lay0 20 150 cell_20 N μ (μ 19 4) a1 r1 h2) me_X10_put ms_X10_put mn_X5_41 rfl (Nat.le_of_ble_eq_true rfl) (Nat.le_of_ble_eq_true rfl) (Nat.le_of_ble_eq_true rfl) (Nat.le_of_ble_eq_true rfl) rfl ?_
  refine SW.aload_n (pc := 12) g (dt dt_X5_add 6 rfl) rfl ?_
  refine SW.getR (pc := 13) g (dt dt_X5_add 7 rfl) fl_X5_15 cell_19 rfl ?_
  refine SW.aload_n (pc := 16) g (dt dt_X5_add 8 rfl) rfl ?_
  refine SW.getI (pc := 17) g (dt dt_X5_add 9 rfl) fl_X5_27 cell_19 rfl ?_
  refine SW.iload_n (pc := 20) g (dt dt_X5_add 10 rfl) rfl ?_
  obtain ⟨r3, h4, h⟩ := bindI h
  refine SW.callSNv (pc := 21) g (dt dt_X5_add 11 rfl) (mt_f_sx_put _ _ _ _ ad ν lay0 21 150 cell_21 N r1 (r1 19 4) a2 r3 h4) me_X10_put ms_X10_put mn_X5_41 rfl (Nat.le_of_ble_eq_true rfl) (Nat.le_of_ble_eq_true rfl) (Nat.le_of_ble_eq_true rfl) (Nat.le_of_ble_eq_true rfl) rfl ?_
  refine SW.aload_n (pc := 24) g (dt dt_X5_add 12 rfl) rfl ?_
  refine SW.aload_n (pc := 25) g (dt dt_X5_add 13 rfl) rfl ?_
  refine SW.getI (pc := 26) g (dt dt_X5_add 14 rfl) fl_X5_27 cell_19 rfl ?_
  refine SW.iconst (pc := 29) (v := 1) g (dt dt_X5_add 15 rfl) ki_1 ?_
  refine SW.iadd (pc := 30) g (dt dt_X5_add 16 rfl) ?_
  refine SW.sipush (pc := 31) (v := 150) g (dt dt_X5_add 17 rfl) ks_150 ?_
  refine SW.mmin (pc := 34) g (dt dt_X5_add 18 rfl) ml_X5_45 ms_J9_min_7cf53 mt_init me_J9_min_7cf53.1 (Nat.le_of_ble_eq_true rfl) (Nat.le_of_ble_eq_true rfl) (Nat.le_of_ble_eq_true rfl) (Nat.le_of_ble_eq_true rfl) ?_
  refine SW.putI (pc := 37) g (dt dt_X5_add 19 rfl) fl_X5_27 cell_19 rfl ?_
  refine SW.genM h (fun μ5 h => ?_)
  refine SW.iconst (pc := 40) (v := 1) g (dt dt_X5_add 20 rfl) ki_1 ?_
  exact SW.zreturn (pc := 41) g (leafW h ho) rfl (Nat.le_of_ble_eq_true rfl) (Nat.le_of_ble_eq_true rfl) (by decide) (dt dt_X5_add 21 rfl)
set_option maxRecDepth 100000 in
set_option maxHeartbeats 4000000 in
theorem mt_f_law_add (l : Launch) (D : va_G) (cI cL : ClassId) (ad : Nat → Nat) (ν : sw_N)    (N : Nat) (μ : sw_M) (a1 : Int32) (a2 : Int32) (o : Int32 × sw_M) (h : f_law_add N  μ a1 a2 = some o) : MetR l D cI cL yX5_add cX5_add 3 (some .boolean) 2 0 0 (fun a => a = ad) ad [.ref 19, .int a1, .int a2] lay0 μ ν (some (.int o.1)) lay0 o.2 ν :=
  MetR.of (n := 0) rfl (Nat.le_of_ble_eq_true rfl) (fun G g ho hm _ _ => ok_f_law_add  g hm  μ ho a1 a2 h)
def f_law_clear (N : Nat)  (μ : sw_M)  : Option (sw_M) :=
  wb (wr μ 19 4 0) (fun μ1 =>
    Option.bind (f_law_add N  μ1 1 1) (fun r2 =>
      Option.bind (f_law_add N  r2.2 2 0) (fun r4 =>
        Option.bind (f_law_add N  r4.2 1 4) (fun r6 =>
          Option.bind (f_law_add N  r6.2 47 0) (fun r8 =>
            Option.bind (f_law_add N  r8.2 43 0) (fun r10 =>
              some r10.2))))))
set_option maxRecDepth 100000 in
set_option maxHeartbeats 4000000 in
theorem ok_f_law_clear {G : sw_G} {ad : Nat → Nat} {ν : sw_N}   {N : Nat} {o : sw_M} (g : sw_ok G cX5_clear "DeadWires$Law" none 3 0 0 ad) (hm : G.2.2.1.2.1.maxLocals = 1)  (μ : sw_M) (ho : sw_out G 0 0 (fun a => a = ad) (.inl none) lay0 o ν)  (h : f_law_clear N  μ  = some o) : SW G ad lay0 ν 0 0 0 [some (.ref 19)] [] μ := by
  unfold f_law_clear at h
  refine SW.aload_n (pc := 0) g (dt dt_X5_clear 0 rfl) rfl ?_
  refine SW.iconst (pc := 1) (v := 0) g (dt dt_X5_clear 1 rfl) ki_0 ?_
  refine SW.putI (pc := 2) g (dt dt_X5_clear 2 rfl) fl_X5_27 cell_19 rfl ?_
  refine SW.genM h (fun μ1 h => ?_)
  refine SW.aload_n (pc := 5) g (dt dt_X5_clear 3 rfl) rfl ?_
  refine SW.iconst (pc := 6) (v := 1) g (dt dt_X5_clear 4 rfl) ki_1 ?_
  refine SW.iconst (pc := 7) (v := 1) g (dt dt_X5_clear 5 rfl) ki_1 ?_
  obtain ⟨r2, h3, h⟩ := bindI h
  refine SW.callVi (pc := 8) g (dt dt_X5_clear 6 rfl) (mt_f_law_add _ _ _ _ ad ν   N μ1 1 1 r2 h3) me_X5_add mv_X5_add ml_X5_31 cell_19 rfl rfl (Nat.le_of_ble_eq_true rfl) (Nat.le_of_ble_eq_true rfl) (Nat.le_of_ble_eq_true rfl) (Nat.le_of_ble_eq_true rfl) rfl ?_
  refine SW.pop (pc := 11) g (dt dt_X5_clear 7 rfl) rfl ?_
  refine SW.aload_n (pc := 12) g (dt dt_X5_clear 8 rfl) rfl ?_
  refine SW.iconst (pc := 13) (v := 2) g (dt dt_X5_clear 9 rfl) ki_2 ?_
  refine SW.iconst (pc := 14) (v := 0) g (dt dt_X5_clear 10 rfl) ki_0 ?_
  obtain ⟨r4, h5, h⟩ := bindI h
  refine SW.callVi (pc := 15) g (dt dt_X5_clear 11 rfl) (mt_f_law_add _ _ _ _ ad ν   N r2.2 2 0 r4 h5) me_X5_add mv_X5_add ml_X5_31 cell_19 rfl rfl (Nat.le_of_ble_eq_true rfl) (Nat.le_of_ble_eq_true rfl) (Nat.le_of_ble_eq_true rfl) (Nat.le_of_ble_eq_true rfl) rfl ?_
  refine SW.pop (pc := 18) g (dt dt_X5_clear 12 rfl) rfl ?_
  refine SW.aload_n (pc := 19) g (dt dt_X5_clear 13 rfl) rfl ?_
  refine SW.iconst (pc := 20) (v := 1) g (dt dt_X5_clear 14 rfl) ki_1 ?_
  refine SW.iconst (pc := 21) (v := 4) g (dt dt_X5_clear 15 rfl) ki_4 ?_
  obtain ⟨r6, h7, h⟩ := bindI h
  refine SW.callVi (pc := 22) g (dt dt_X5_clear 16 rfl) (mt_f_law_add _ _ _ _ ad ν   N r4.2 1 4 r6 h7) me_X5_add mv_X5_add ml_X5_31 cell_19 rfl rfl (Nat.le_of_ble_eq_true rfl) (Nat.le_of_ble_eq_true rfl) (Nat.le_of_ble_eq_true rfl) (Nat.le_of_ble_eq_true rfl) rfl ?_
  refine SW.pop (pc := 25) g (dt dt_X5_clear 17 rfl) rfl ?_
  refine SW.aload_n (pc := 26) g (dt dt_X5_clear 18 rfl) rfl ?_
  refine SW.bipush (pc := 27) (v := 47) g (dt dt_X5_clear 19 rfl) kb_47 ?_
  refine SW.iconst (pc := 29) (v := 0) g (dt dt_X5_clear 20 rfl) ki_0 ?_
  obtain ⟨r8, h9, h⟩ := bindI h
  refine SW.callVi (pc := 30) g (dt dt_X5_clear 21 rfl) (mt_f_law_add _ _ _ _ ad ν   N r6.2 47 0 r8 h9) me_X5_add mv_X5_add ml_X5_31 cell_19 rfl rfl (Nat.le_of_ble_eq_true rfl) (Nat.le_of_ble_eq_true rfl) (Nat.le_of_ble_eq_true rfl) (Nat.le_of_ble_eq_true rfl) rfl ?_
  refine SW.pop (pc := 33) g (dt dt_X5_clear 22 rfl) rfl ?_
  refine SW.aload_n (pc := 34) g (dt dt_X5_clear 23 rfl) rfl ?_
  refine SW.bipush (pc := 35) (v := 43) g (dt dt_X5_clear 24 rfl) kb_43 ?_
  refine SW.iconst (pc := 37) (v := 0) g (dt dt_X5_clear 25 rfl) ki_0 ?_
  obtain ⟨r10, h11, h⟩ := bindI h
  refine SW.callVi (pc := 38) g (dt dt_X5_clear 26 rfl) (mt_f_law_add _ _ _ _ ad ν   N r8.2 43 0 r10 h11) me_X5_add mv_X5_add ml_X5_31 cell_19 rfl rfl (Nat.le_of_ble_eq_true rfl) (Nat.le_of_ble_eq_true rfl) (Nat.le_of_ble_eq_true rfl) (Nat.le_of_ble_eq_true rfl) rfl ?_
  refine SW.pop (pc := 41) g (dt dt_X5_clear 27 rfl) rfl ?_
  exact SW.vreturn (pc := 42) g (leafV h ho) rfl (Nat.le_of_ble_eq_true rfl) (Nat.le_of_ble_eq_true rfl) (dt dt_X5_clear 28 rfl)
set_option maxRecDepth 100000 in
set_option maxHeartbeats 4000000 in
theorem mt_f_law_clear (l : Launch) (D : va_G) (cI cL : ClassId) (ad : Nat → Nat) (ν : sw_N)    (N : Nat) (μ : sw_M)  (o : sw_M) (h : f_law_clear N  μ  = some o) : MetR l D cI cL yX5_clear cX5_clear 1 none 3 0 0 (fun a => a = ad) ad [.ref 19] lay0 μ ν none lay0 o ν :=
  MetR.of (n := 0) rfl (Nat.le_of_ble_eq_true rfl) (fun G g ho hm _ _ => ok_f_law_clear  g hm  μ ho  h)
def f_law_copy (N : Nat)  (μ : sw_M)  : Option (sw_M) :=
  wb (wr μ 19 4 (μ 24 4)) (fun μ1 =>
    cpc 0 0 150 150 150 (wb (wrR μ1 20 (va_cpy (μ1 25) (μ1 20) (0 : Int32).toNatClampNeg (0 : Int32).toNatClampNeg (150 : Int32).toNatClampNeg)) (fun μ3 =>
      cpc 0 0 150 150 150 (wb (wrR μ3 21 (va_cpy (μ3 26) (μ3 21) (0 : Int32).toNatClampNeg (0 : Int32).toNatClampNeg (150 : Int32).toNatClampNeg)) (fun μ5 =>
        some μ5)))))
set_option maxRecDepth 100000 in
set_option maxHeartbeats 4000000 in
theorem ok_f_law_copy {G : sw_G} {ad : Nat → Nat} {ν : sw_N}   {N : Nat} {o : sw_M} (g : sw_ok G cX5_copy "DeadWires$Law" none 1 0 0 ad) (hm : G.2.2.1.2.1.maxLocals = 2)  (μ : sw_M) (ho : sw_out G 0 0 (fun a => a = ad) (.inl none) lay0 o ν)  (h : f_law_copy N  μ  = some o) : SW G ad lay0 ν 0 0 0 [some (.ref 19), some (.ref 24)] [] μ := by
  unfold f_law_copy at h
  refine SW.aload_n (pc := 0) g (dt dt_X5_copy 0 rfl) rfl ?_
  refine SW.aload_n (pc := 1) g (dt dt_X5_copy 1 rfl) rfl ?_
  refine SW.getI (pc := 2) g (dt dt_X5_copy 2 rfl) fl_X5_27 cell_24 rfl ?_
  refine SW.putI (pc := 5) g (dt dt_X5_copy 3 rfl) fl_X5_27 cell_19 rfl ?_
  refine SW.genM h (fun μ1 h => ?_)
  refine SW.aload_n (pc := 8) g (dt dt_X5_copy 4 rfl) rfl ?_
  refine SW.getR (pc := 9) g (dt dt_X5_copy 5 rfl) fl_X5_9 cell_24 rfl ?_
  refine SW.iconst (pc := 12) (v := 0) g (dt dt_X5_copy 6 rfl) ki_0 ?_
  refine SW.aload_n (pc := 13) g (dt dt_X5_copy 7 rfl) rfl ?_
  refine SW.getR (pc := 14) g (dt dt_X5_copy 8 rfl) fl_X5_9 cell_19 rfl ?_
  refine SW.iconst (pc := 17) (v := 0) g (dt dt_X5_copy 9 rfl) ki_0 ?_
  refine SW.sipush (pc := 18) (v := 150) g (dt dt_X5_copy 10 rfl) ks_150 ?_
  obtain ⟨hq2, h⟩ := cpcI h
  refine SW.acopy (pc := 21) g (dt dt_X5_copy 11 rfl) ml_X5_35 ac_n ac_s ac_i cell_25 cell_20 hq2.1 hq2.2.1 hq2.2.2.1 hq2.2.2.2.1 hq2.2.2.2.2 (Nat.le_of_ble_eq_true rfl) (Nat.le_of_ble_eq_true rfl) ?_
  refine SW.genM h (fun μ3 h => ?_)
  refine SW.aload_n (pc := 24) g (dt dt_X5_copy 12 rfl) rfl ?_
  refine SW.getR (pc := 25) g (dt dt_X5_copy 13 rfl) fl_X5_15 cell_24 rfl ?_
  refine SW.iconst (pc := 28) (v := 0) g (dt dt_X5_copy 14 rfl) ki_0 ?_
  refine SW.aload_n (pc := 29) g (dt dt_X5_copy 15 rfl) rfl ?_
  refine SW.getR (pc := 30) g (dt dt_X5_copy 16 rfl) fl_X5_15 cell_19 rfl ?_
  refine SW.iconst (pc := 33) (v := 0) g (dt dt_X5_copy 17 rfl) ki_0 ?_
  refine SW.sipush (pc := 34) (v := 150) g (dt dt_X5_copy 18 rfl) ks_150 ?_
  obtain ⟨hq4, h⟩ := cpcI h
  refine SW.acopy (pc := 37) g (dt dt_X5_copy 19 rfl) ml_X5_35 ac_n ac_s ac_i cell_26 cell_21 hq4.1 hq4.2.1 hq4.2.2.1 hq4.2.2.2.1 hq4.2.2.2.2 (Nat.le_of_ble_eq_true rfl) (Nat.le_of_ble_eq_true rfl) ?_
  refine SW.genM h (fun μ5 h => ?_)
  exact SW.vreturn (pc := 40) g (leafV h ho) rfl (Nat.le_of_ble_eq_true rfl) (Nat.le_of_ble_eq_true rfl) (dt dt_X5_copy 20 rfl)
set_option maxRecDepth 100000 in
set_option maxHeartbeats 4000000 in
theorem mt_f_law_copy (l : Launch) (D : va_G) (cI cL : ClassId) (ad : Nat → Nat) (ν : sw_N)    (N : Nat) (μ : sw_M)  (o : sw_M) (h : f_law_copy N  μ  = some o) : MetR l D cI cL yX5_copy cX5_copy 2 none 1 0 0 (fun a => a = ad) ad [.ref 19, .ref 24] lay0 μ ν none lay0 o ν :=
  MetR.of (n := 0) rfl (Nat.le_of_ble_eq_true rfl) (fun G g ho hm _ _ => ok_f_law_copy  g hm  μ ho  h)
def f_law_setValues (N : Nat)  (μ : sw_M) (a1 : Int32) (a2 : Int32) (a3 : Int32) (a4 : Int32) (a5 : Int32) (a6 : Int32) (a7 : Int32) : Option (sw_M) :=
  inb 0 7 (wb (wr μ 22 (0 : Int32).toNatClampNeg a1) (fun μ2 =>
    inb 1 7 (wb (wr μ2 22 (1 : Int32).toNatClampNeg a2) (fun μ4 =>
      inb 2 7 (wb (wr μ4 22 (2 : Int32).toNatClampNeg a3) (fun μ6 =>
        inb 3 7 (wb (wr μ6 22 (3 : Int32).toNatClampNeg a4) (fun μ8 =>
          inb 4 7 (wb (wr μ8 22 (4 : Int32).toNatClampNeg a5) (fun μ10 =>
            inb 5 7 (wb (wr μ10 22 (5 : Int32).toNatClampNeg a6) (fun μ12 =>
              inb 6 7 (wb (wr μ12 22 (6 : Int32).toNatClampNeg a7) (fun μ14 =>
                some μ14))))))))))))))
set_option maxRecDepth 100000 in
set_option maxHeartbeats 4000000 in
theorem ok_f_law_setValues {G : sw_G} {ad : Nat → Nat} {ν : sw_N}   {N : Nat} {o : sw_M} (g : sw_ok G cX5_setValues "DeadWires$Law" none 1 0 0 ad) (hm : G.2.2.1.2.1.maxLocals = 8)  (μ : sw_M) (ho : sw_out G 0 0 (fun a => a = ad) (.inl none) lay0 o ν) (a1 : Int32) (a2 : Int32) (a3 : Int32) (a4 : Int32) (a5 : Int32) (a6 : Int32) (a7 : Int32) (h : f_law_setValues N  μ a1 a2 a3 a4 a5 a6 a7 = some o) : SW G ad lay0 ν 0 0 0 [some (.ref 19), some (.int a1), some (.int a2), some (.int a3), some (.int a4), some (.int a5), some (.int a6), some (.int a7)] [] μ := by
  unfold f_law_setValues at h
  refine SW.aload_n (pc := 0) g (dt dt_X5_setValues 0 rfl) rfl ?_
  refine SW.getR (pc := 1) g (dt dt_X5_setValues 1 rfl) fl_X5_18 cell_19 rfl ?_
  refine SW.iconst (pc := 4) (v := 0) g (dt dt_X5_setValues 2 rfl) ki_0 ?_
  refine SW.iload_n (pc := 5) g (dt dt_X5_setValues 3 rfl) rfl ?_
  obtain ⟨hb1, h⟩ := inbI h
  refine SW.iastore (pc := 6) g (dt dt_X5_setValues 4 rfl) cell_22 hb1 ?_
  refine SW.genM h (fun μ2 h => ?_)
  refine SW.aload_n (pc := 7) g (dt dt_X5_setValues 5 rfl) rfl ?_
  refine SW.getR (pc := 8) g (dt dt_X5_setValues 6 rfl) fl_X5_18 cell_19 rfl ?_
  refine SW.iconst (pc := 11) (v := 1) g (dt dt_X5_setValues 7 rfl) ki_1 ?_
  refine SW.iload_n (pc := 12) g (dt dt_X5_setValues 8 rfl) rfl ?_
  obtain ⟨hb3, h⟩ := inbI h
  refine SW.iastore (pc := 13) g (dt dt_X5_setValues 9 rfl) cell_22 hb3 ?_
  refine SW.genM h (fun μ4 h => ?_)
  refine SW.aload_n (pc := 14) g (dt dt_X5_setValues 10 rfl) rfl ?_
  refine SW.getR (pc := 15) g (dt dt_X5_setValues 11 rfl) fl_X5_18 cell_19 rfl ?_
  refine SW.iconst (pc := 18) (v := 2) g (dt dt_X5_setValues 12 rfl) ki_2 ?_
  refine SW.iload_n (pc := 19) g (dt dt_X5_setValues 13 rfl) rfl ?_
  obtain ⟨hb5, h⟩ := inbI h
  refine SW.iastore (pc := 20) g (dt dt_X5_setValues 14 rfl) cell_22 hb5 ?_
  refine SW.genM h (fun μ6 h => ?_)
  refine SW.aload_n (pc := 21) g (dt dt_X5_setValues 15 rfl) rfl ?_
  refine SW.getR (pc := 22) g (dt dt_X5_setValues 16 rfl) fl_X5_18 cell_19 rfl ?_
  refine SW.iconst (pc := 25) (v := 3) g (dt dt_X5_setValues 17 rfl) ki_3 ?_
  refine SW.iload (pc := 26) g (dt dt_X5_setValues 18 rfl) rfl ?_
  obtain ⟨hb7, h⟩ := inbI h
  refine SW.iastore (pc := 28) g (dt dt_X5_setValues 19 rfl) cell_22 hb7 ?_
  refine SW.genM h (fun μ8 h => ?_)
  refine SW.aload_n (pc := 29) g (dt dt_X5_setValues 20 rfl) rfl ?_
  refine SW.getR (pc := 30) g (dt dt_X5_setValues 21 rfl) fl_X5_18 cell_19 rfl ?_
  refine SW.iconst (pc := 33) (v := 4) g (dt dt_X5_setValues 22 rfl) ki_4 ?_
  refine SW.iload (pc := 34) g (dt dt_X5_setValues 23 rfl) rfl ?_
  obtain ⟨hb9, h⟩ := inbI h
  refine SW.iastore (pc := 36) g (dt dt_X5_setValues 24 rfl) cell_22 hb9 ?_
  refine SW.genM h (fun μ10 h => ?_)
  refine SW.aload_n (pc := 37) g (dt dt_X5_setValues 25 rfl) rfl ?_
  refine SW.getR (pc := 38) g (dt dt_X5_setValues 26 rfl) fl_X5_18 cell_19 rfl ?_
  refine SW.iconst (pc := 41) (v := 5) g (dt dt_X5_setValues 27 rfl) ki_5 ?_
  refine SW.iload (pc := 42) g (dt dt_X5_setValues 28 rfl) rfl ?_
  obtain ⟨hb11, h⟩ := inbI h
  refine SW.iastore (pc := 44) g (dt dt_X5_setValues 29 rfl) cell_22 hb11 ?_
  refine SW.genM h (fun μ12 h => ?_)
  refine SW.aload_n (pc := 45) g (dt dt_X5_setValues 30 rfl) rfl ?_
  refine SW.getR (pc := 46) g (dt dt_X5_setValues 31 rfl) fl_X5_18 cell_19 rfl ?_
  refine SW.bipush (pc := 49) (v := 6) g (dt dt_X5_setValues 32 rfl) kb_6 ?_
  refine SW.iload (pc := 51) g (dt dt_X5_setValues 33 rfl) rfl ?_
  obtain ⟨hb13, h⟩ := inbI h
  refine SW.iastore (pc := 53) g (dt dt_X5_setValues 34 rfl) cell_22 hb13 ?_
  refine SW.genM h (fun μ14 h => ?_)
  exact SW.vreturn (pc := 54) g (leafV h ho) rfl (Nat.le_of_ble_eq_true rfl) (Nat.le_of_ble_eq_true rfl) (dt dt_X5_setValues 35 rfl)
set_option maxRecDepth 100000 in
set_option maxHeartbeats 4000000 in
theorem mt_f_law_setValues (l : Launch) (D : va_G) (cI cL : ClassId) (ad : Nat → Nat) (ν : sw_N)    (N : Nat) (μ : sw_M) (a1 : Int32) (a2 : Int32) (a3 : Int32) (a4 : Int32) (a5 : Int32) (a6 : Int32) (a7 : Int32) (o : sw_M) (h : f_law_setValues N  μ a1 a2 a3 a4 a5 a6 a7 = some o) : MetR l D cI cL yX5_setValues cX5_setValues 8 none 1 0 0 (fun a => a = ad) ad [.ref 19, .int a1, .int a2, .int a3, .int a4, .int a5, .int a6, .int a7] lay0 μ ν none lay0 o ν :=
  MetR.of (n := 0) rfl (Nat.le_of_ble_eq_true rfl) (fun G g ho hm _ _ => ok_f_law_setValues  g hm  μ ho a1 a2 a3 a4 a5 a6 a7 h)
def f_law_pop (N : Nat)  (μ : sw_M)  : Option (Int32 × sw_M) :=
  if 0 < (μ 19 5) then
    wb (wr μ 19 5 ((μ 19 5) - 1)) (fun μ1 =>
      inb (μ1 19 5) 150 (
        some (μ1 23 (μ1 19 5).toNatClampNeg, μ1)))
  else
    some (0, μ)
set_option maxRecDepth 100000 in
set_option maxHeartbeats 4000000 in
theorem ok_f_law_pop {G : sw_G} {ad : Nat → Nat} {ν : sw_N}   {N : Nat} {o : Int32 × sw_M} (g : sw_ok G cX5_pop "DeadWires$Law" (some .int) 1 0 0 ad) (hm : G.2.2.1.2.1.maxLocals = 1)  (μ : sw_M) (ho : sw_out G 0 0 (fun a => a = ad) (.inl (some (.int o.1))) lay0 o.2 ν)  (h : f_law_pop N  μ  = some o) : SW G ad lay0 ν 0 0 0 [some (.ref 19)] [] μ := by
  unfold f_law_pop at h
  refine SW.aload_n (pc := 0) g (dt dt_X5_pop 0 rfl) rfl ?_
  refine SW.getI (pc := 1) g (dt dt_X5_pop 1 rfl) fl_X5_112 cell_19 rfl ?_
  refine SW.if_gt (pc := 4) (t := 9) g (dt dt_X5_pop 2 rfl) rfl (fun hc => ?_) (fun hc => ?_)
  · have h := iteT hc h
    refine SW.aload_n (pc := 9) g (dt dt_X5_pop 5 rfl) rfl ?_
    refine SW.dup (pc := 10) g (dt dt_X5_pop 6 rfl) rfl ?_
    refine SW.getI (pc := 11) g (dt dt_X5_pop 7 rfl) fl_X5_112 cell_19 rfl ?_
    refine SW.iconst (pc := 14) (v := 1) g (dt dt_X5_pop 8 rfl) ki_1 ?_
    refine SW.isub (pc := 15) g (dt dt_X5_pop 9 rfl) ?_
    refine SW.putI (pc := 16) g (dt dt_X5_pop 10 rfl) fl_X5_112 cell_19 rfl ?_
    refine SW.genM h (fun μ1 h => ?_)
    refine SW.aload_n (pc := 19) g (dt dt_X5_pop 11 rfl) rfl ?_
    refine SW.getR (pc := 20) g (dt dt_X5_pop 12 rfl) fl_X5_21 cell_19 rfl ?_
    refine SW.aload_n (pc := 23) g (dt dt_X5_pop 13 rfl) rfl ?_
    refine SW.getI (pc := 24) g (dt dt_X5_pop 14 rfl) fl_X5_112 cell_19 rfl ?_
    obtain ⟨hb2, h⟩ := inbI h
    refine SW.iaload (pc := 27) g (dt dt_X5_pop 15 rfl) cell_23 hb2 ?_
    exact SW.ireturn (pc := 28) g (leafW h ho) rfl (Nat.le_of_ble_eq_true rfl) (Nat.le_of_ble_eq_true rfl) (dt dt_X5_pop 16 rfl)
  · have h := iteF hc h
    refine SW.iconst (pc := 7) (v := 0) g (dt dt_X5_pop 3 rfl) ki_0 ?_
    exact SW.ireturn (pc := 8) g (leafW h ho) rfl (Nat.le_of_ble_eq_true rfl) (Nat.le_of_ble_eq_true rfl) (dt dt_X5_pop 4 rfl)
set_option maxRecDepth 100000 in
set_option maxHeartbeats 4000000 in
theorem mt_f_law_pop (l : Launch) (D : va_G) (cI cL : ClassId) (ad : Nat → Nat) (ν : sw_N)    (N : Nat) (μ : sw_M)  (o : Int32 × sw_M) (h : f_law_pop N  μ  = some o) : MetR l D cI cL yX5_pop cX5_pop 1 (some .int) 1 0 0 (fun a => a = ad) ad [.ref 19] lay0 μ ν (some (.int o.1)) lay0 o.2 ν :=
  MetR.of (n := 0) rfl (Nat.le_of_ble_eq_true rfl) (fun G g ho hm _ _ => ok_f_law_pop  g hm  μ ho  h)
def f_sl_join (N : Nat)  (μ : sw_M) (a0 : Int32) (a1 : Int32) (a2 : Int32) : Option (Int32) :=
  if a0 = 3 then
    if a2 < a1 then
      some a2
    else
      some a1
  else if a0 = 37 then
    if a2 = 0 then
      some 0
    else
      nz a2
        (some (a1 - a1 / a2 * a2))
  else if a0 = 42 then
    some (a1 * a2)
  else if a0 = 43 then
    some (a1 + a2)
  else if a0 = 45 then
    some (a1 - a2)
  else if a0 = 47 then
    if a2 = 0 then
      some 0
    else
      nz a2
        (some (a1 / a2))
  else 
    if a1 < a2 then
      some a2
    else
      some a1
set_option maxRecDepth 100000 in
set_option maxHeartbeats 4000000 in
theorem ok_f_sl_join {G : sw_G} {ad : Nat → Nat} {ν : sw_N} {L : sw_L}  {N : Nat} {o : Int32} (g : sw_ok G cX5_join "DeadWires$Law" (some .int) 1 0 0 ad) (hm : G.2.2.1.2.1.maxLocals = 3)  (μ : sw_M) (ho : sw_out G 0 0 (fun a => a = ad) (.inl (some (.int o))) L μ ν) (a0 : Int32) (a1 : Int32) (a2 : Int32) (h : f_sl_join N  μ a0 a1 a2 = some o) : SW G ad L ν 0 0 0 [some (.int a0), some (.int a1), some (.int a2)] [] μ := by
  unfold f_sl_join at h
  refine SW.iload_n (pc := 0) g (dt dt_X5_join 0 rfl) rfl ?_
  refine SW.lsw (pc := 1) (dn := 107) (tb := [(3, 96), (37, 84), (42, 68), (43, 60), (45, 64), (47, 72)]) g (dt dt_X5_join 1 rfl) (by decide) (by decide) (by decide) (sw_lsn _ (by decide) (by decide)) ?_
  refine sw_cons (fun hc => ?_) (fun hc => ?_)
  · have h := iteT hc h
    refine SW.iload_n (pc := 96) g (dt dt_X5_join 30 rfl) rfl ?_
    refine SW.iload_n (pc := 97) g (dt dt_X5_join 31 rfl) rfl ?_
    refine SW.icmp_gt (pc := 98) (t := 105) g (dt dt_X5_join 32 rfl) rfl (fun hc => ?_) (fun hc => ?_)
    · have h := iteT hc h
      refine SW.iload_n (pc := 105) g (dt dt_X5_join 35 rfl) rfl ?_
      exact SW.ireturn (pc := 106) g (leafI h ho) rfl (Nat.le_of_ble_eq_true rfl) (Nat.le_of_ble_eq_true rfl) (dt dt_X5_join 36 rfl)
    · have h := iteF hc h
      refine SW.iload_n (pc := 101) g (dt dt_X5_join 33 rfl) rfl ?_
      refine SW.goto (pc := 102) (t := 106) g (dt dt_X5_join 34 rfl) rfl ?_
      exact SW.ireturn (pc := 106) g (leafI h ho) rfl (Nat.le_of_ble_eq_true rfl) (Nat.le_of_ble_eq_true rfl) (dt dt_X5_join 36 rfl)
  · have h := iteF hc h
    refine sw_cons (fun hc => ?_) (fun hc => ?_)
    · have h := iteT hc h
      refine SW.iload_n (pc := 84) g (dt dt_X5_join 22 rfl) rfl ?_
      refine SW.if_ne (pc := 85) (t := 92) g (dt dt_X5_join 23 rfl) rfl (fun hc => ?_) (fun hc => ?_)
      · have h := iteF hc h
        refine SW.iload_n (pc := 92) g (dt dt_X5_join 26 rfl) rfl ?_
        refine SW.iload_n (pc := 93) g (dt dt_X5_join 27 rfl) rfl ?_
        obtain ⟨hz1, h⟩ := nzI h
        refine SW.irem (pc := 94) g (dt dt_X5_join 28 rfl) hz1 ?_
        exact SW.ireturn (pc := 95) g (leafI h ho) rfl (Nat.le_of_ble_eq_true rfl) (Nat.le_of_ble_eq_true rfl) (dt dt_X5_join 29 rfl)
      · have h := iteT hc h
        refine SW.iconst (pc := 88) (v := 0) g (dt dt_X5_join 24 rfl) ki_0 ?_
        refine SW.goto (pc := 89) (t := 95) g (dt dt_X5_join 25 rfl) rfl ?_
        exact SW.ireturn (pc := 95) g (leafI h ho) rfl (Nat.le_of_ble_eq_true rfl) (Nat.le_of_ble_eq_true rfl) (dt dt_X5_join 29 rfl)
    · have h := iteF hc h
      refine sw_cons (fun hc => ?_) (fun hc => ?_)
      · have h := iteT hc h
        refine SW.iload_n (pc := 68) g (dt dt_X5_join 10 rfl) rfl ?_
        refine SW.iload_n (pc := 69) g (dt dt_X5_join 11 rfl) rfl ?_
        refine SW.imul (pc := 70) g (dt dt_X5_join 12 rfl) ?_
        exact SW.ireturn (pc := 71) g (leafI h ho) rfl (Nat.le_of_ble_eq_true rfl) (Nat.le_of_ble_eq_true rfl) (dt dt_X5_join 13 rfl)
      · have h := iteF hc h
        refine sw_cons (fun hc => ?_) (fun hc => ?_)
        · have h := iteT hc h
          refine SW.iload_n (pc := 60) g (dt dt_X5_join 2 rfl) rfl ?_
          refine SW.iload_n (pc := 61) g (dt dt_X5_join 3 rfl) rfl ?_
          refine SW.iadd (pc := 62) g (dt dt_X5_join 4 rfl) ?_
          exact SW.ireturn (pc := 63) g (leafI h ho) rfl (Nat.le_of_ble_eq_true rfl) (Nat.le_of_ble_eq_true rfl) (dt dt_X5_join 5 rfl)
        · have h := iteF hc h
          refine sw_cons (fun hc => ?_) (fun hc => ?_)
          · have h := iteT hc h
            refine SW.iload_n (pc := 64) g (dt dt_X5_join 6 rfl) rfl ?_
            refine SW.iload_n (pc := 65) g (dt dt_X5_join 7 rfl) rfl ?_
            refine SW.isub (pc := 66) g (dt dt_X5_join 8 rfl) ?_
            exact SW.ireturn (pc := 67) g (leafI h ho) rfl (Nat.le_of_ble_eq_true rfl) (Nat.le_of_ble_eq_true rfl) (dt dt_X5_join 9 rfl)
          · have h := iteF hc h
            refine sw_cons (fun hc => ?_) (fun hc => ?_)
            · have h := iteT hc h
              refine SW.iload_n (pc := 72) g (dt dt_X5_join 14 rfl) rfl ?_
              refine SW.if_ne (pc := 73) (t := 80) g (dt dt_X5_join 15 rfl) rfl (fun hc => ?_) (fun hc => ?_)
              · have h := iteF hc h
                refine SW.iload_n (pc := 80) g (dt dt_X5_join 18 rfl) rfl ?_
                refine SW.iload_n (pc := 81) g (dt dt_X5_join 19 rfl) rfl ?_
                obtain ⟨hz2, h⟩ := nzI h
                refine SW.idiv (pc := 82) g (dt dt_X5_join 20 rfl) hz2 ?_
                exact SW.ireturn (pc := 83) g (leafI h ho) rfl (Nat.le_of_ble_eq_true rfl) (Nat.le_of_ble_eq_true rfl) (dt dt_X5_join 21 rfl)
              · have h := iteT hc h
                refine SW.iconst (pc := 76) (v := 0) g (dt dt_X5_join 16 rfl) ki_0 ?_
                refine SW.goto (pc := 77) (t := 83) g (dt dt_X5_join 17 rfl) rfl ?_
                exact SW.ireturn (pc := 83) g (leafI h ho) rfl (Nat.le_of_ble_eq_true rfl) (Nat.le_of_ble_eq_true rfl) (dt dt_X5_join 21 rfl)
            · have h := iteF hc h
              change SW _ _ _ _ _ _ 107 _ _ _
              refine SW.iload_n (pc := 107) g (dt dt_X5_join 37 rfl) rfl ?_
              refine SW.iload_n (pc := 108) g (dt dt_X5_join 38 rfl) rfl ?_
              refine SW.icmp_lt (pc := 109) (t := 116) g (dt dt_X5_join 39 rfl) rfl (fun hc => ?_) (fun hc => ?_)
              · have h := iteT hc h
                refine SW.iload_n (pc := 116) g (dt dt_X5_join 42 rfl) rfl ?_
                exact SW.ireturn (pc := 117) g (leafI h ho) rfl (Nat.le_of_ble_eq_true rfl) (Nat.le_of_ble_eq_true rfl) (dt dt_X5_join 43 rfl)
              · have h := iteF hc h
                refine SW.iload_n (pc := 112) g (dt dt_X5_join 40 rfl) rfl ?_
                refine SW.goto (pc := 113) (t := 117) g (dt dt_X5_join 41 rfl) rfl ?_
                exact SW.ireturn (pc := 117) g (leafI h ho) rfl (Nat.le_of_ble_eq_true rfl) (Nat.le_of_ble_eq_true rfl) (dt dt_X5_join 43 rfl)
set_option maxRecDepth 100000 in
set_option maxHeartbeats 4000000 in
theorem mt_f_sl_join (l : Launch) (D : va_G) (cI cL : ClassId) (ad : Nat → Nat) (ν : sw_N) (L : sw_L)   (N : Nat) (μ : sw_M) (a0 : Int32) (a1 : Int32) (a2 : Int32) (o : Int32) (h : f_sl_join N  μ a0 a1 a2 = some o) : MetR l D cI cL yX5_join cX5_join 3 (some .int) 1 0 0 (fun a => a = ad) ad [.int a0, .int a1, .int a2] L μ ν (some (.int o)) L μ ν :=
  MetR.of (n := 0) rfl (Nat.le_of_ble_eq_true rfl) (fun G g ho hm _ _ => ok_f_sl_join  g hm  μ ho a0 a1 a2 h)
def f_law_push (N : Nat)  (μ : sw_M) (a1 : Int32) : Option (sw_M) :=
  if (Int32.ofNat 150) ≤ (μ 19 5) then
    some μ
  else
    inb (μ 19 5) 150 (wb (wr μ 23 (μ 19 5).toNatClampNeg a1) (fun μ2 =>
      wb (wr μ2 19 5 ((μ2 19 5) + 1)) (fun μ3 =>
        some μ3)))
set_option maxRecDepth 100000 in
set_option maxHeartbeats 4000000 in
theorem ok_f_law_push {G : sw_G} {ad : Nat → Nat} {ν : sw_N}   {N : Nat} {o : sw_M} (g : sw_ok G cX5_push "DeadWires$Law" none 1 0 0 ad) (hm : G.2.2.1.2.1.maxLocals = 2)  (μ : sw_M) (ho : sw_out G 0 0 (fun a => a = ad) (.inl none) lay0 o ν) (a1 : Int32) (h : f_law_push N  μ a1 = some o) : SW G ad lay0 ν 0 0 0 [some (.ref 19), some (.int a1)] [] μ := by
  unfold f_law_push at h
  refine SW.aload_n (pc := 0) g (dt dt_X5_push 0 rfl) rfl ?_
  refine SW.getI (pc := 1) g (dt dt_X5_push 1 rfl) fl_X5_112 cell_19 rfl ?_
  refine SW.aload_n (pc := 4) g (dt dt_X5_push 2 rfl) rfl ?_
  refine SW.getR (pc := 5) g (dt dt_X5_push 3 rfl) fl_X5_21 cell_19 rfl ?_
  refine SW.alen (pc := 8) g (dt dt_X5_push 4 rfl) cell_23 ?_
  refine SW.icmp_ge (pc := 9) (t := 32) g (dt dt_X5_push 5 rfl) rfl (fun hc => ?_) (fun hc => ?_)
  · have h := iteT hc h
    exact SW.vreturn (pc := 32) g (leafV h ho) rfl (Nat.le_of_ble_eq_true rfl) (Nat.le_of_ble_eq_true rfl) (dt dt_X5_push 18 rfl)
  · have h := iteF hc h
    refine SW.aload_n (pc := 12) g (dt dt_X5_push 6 rfl) rfl ?_
    refine SW.getR (pc := 13) g (dt dt_X5_push 7 rfl) fl_X5_21 cell_19 rfl ?_
    refine SW.aload_n (pc := 16) g (dt dt_X5_push 8 rfl) rfl ?_
    refine SW.getI (pc := 17) g (dt dt_X5_push 9 rfl) fl_X5_112 cell_19 rfl ?_
    refine SW.iload_n (pc := 20) g (dt dt_X5_push 10 rfl) rfl ?_
    obtain ⟨hb1, h⟩ := inbI h
    refine SW.iastore (pc := 21) g (dt dt_X5_push 11 rfl) cell_23 hb1 ?_
    refine SW.genM h (fun μ2 h => ?_)
    refine SW.aload_n (pc := 22) g (dt dt_X5_push 12 rfl) rfl ?_
    refine SW.dup (pc := 23) g (dt dt_X5_push 13 rfl) rfl ?_
    refine SW.getI (pc := 24) g (dt dt_X5_push 14 rfl) fl_X5_112 cell_19 rfl ?_
    refine SW.iconst (pc := 27) (v := 1) g (dt dt_X5_push 15 rfl) ki_1 ?_
    refine SW.iadd (pc := 28) g (dt dt_X5_push 16 rfl) ?_
    refine SW.putI (pc := 29) g (dt dt_X5_push 17 rfl) fl_X5_112 cell_19 rfl ?_
    refine SW.genM h (fun μ3 h => ?_)
    exact SW.vreturn (pc := 32) g (leafV h ho) rfl (Nat.le_of_ble_eq_true rfl) (Nat.le_of_ble_eq_true rfl) (dt dt_X5_push 18 rfl)
set_option maxRecDepth 100000 in
set_option maxHeartbeats 4000000 in
theorem mt_f_law_push (l : Launch) (D : va_G) (cI cL : ClassId) (ad : Nat → Nat) (ν : sw_N)    (N : Nat) (μ : sw_M) (a1 : Int32) (o : sw_M) (h : f_law_push N  μ a1 = some o) : MetR l D cI cL yX5_push cX5_push 2 none 1 0 0 (fun a => a = ad) ad [.ref 19, .int a1] lay0 μ ν none lay0 o ν :=
  MetR.of (n := 0) rfl (Nat.le_of_ble_eq_true rfl) (fun G g ho hm _ _ => ok_f_law_push  g hm  μ ho a1 h)
def f_law_reckon_7 (N : Nat)   : Nat → sw_M → Int32 → Option (Int32 × sw_M)
  | 0, _, _ => none
  | n + 1, μ, x1 =>
    if (μ 19 4) ≤ x1 then
      Option.bind (f_law_pop N  μ ) (fun r1 =>
        Option.bind (f_sx_clamp N  r1.2 r1.1 0 40) (fun r3 =>
          some (r3, r1.2)))
    else
      inb x1 150 (
        ib (μ 20 x1.toNatClampNeg) (fun y6 =>
          if y6 = 1 then
            inb x1 150 (
              Option.bind (f_law_push N  μ (μ 21 x1.toNatClampNeg)) (fun r21 =>
                f_law_reckon_7 N   n r21 (x1 + 1)))
          else
            if y6 = 2 then
              inb x1 150 (
                Option.bind (f_sx_at N 22 7 μ (μ 21 x1.toNatClampNeg)) (fun r16 =>
                  Option.bind (f_law_push N  μ r16) (fun r18 =>
                    f_law_reckon_7 N   n r18 (x1 + 1))))
            else
              Option.bind (f_law_pop N  μ ) (fun r7 =>
                Option.bind (f_law_pop N  r7.2 ) (fun r9 =>
                  Option.bind (f_sl_join N  r9.2 y6 r9.1 r7.1) (fun r11 =>
                    Option.bind (f_law_push N  r9.2 r11) (fun r13 =>
                      f_law_reckon_7 N   n r13 (x1 + 1)))))))
def f_law_reckon (N : Nat)  (μ : sw_M)  : Option (Int32 × sw_M) :=
  wb (wr μ 19 5 0) (fun μ1 =>
    f_law_reckon_7 N   N μ1 0)
set_option maxRecDepth 100000 in
set_option maxHeartbeats 4000000 in
theorem ok_f_law_reckon_7 {G : sw_G} {ad : Nat → Nat} {ν : sw_N}   {N : Nat} {o : Int32 × sw_M} (g : sw_ok G cX5_reckon "DeadWires$Law" (some .int) 2 0 0 ad) (hm : G.2.2.1.2.1.maxLocals = 5)  (ho : sw_out G 0 0 (fun a => a = ad) (.inl (some (.int o.1))) lay0 o.2 ν)  : ∀ (n : Nat) (μ : sw_M) (x1 : Int32) (h : f_law_reckon_7 N   n μ x1 = some o), SW G ad lay0 ν 0 0 7 [some (.ref 19), some (.int x1), none, none, none] [] μ := by
  intro n
  induction n with
  | zero => intro μ x1 h; simp only [f_law_reckon_7] at h; cases h
  | succ n ih =>
    intro μ x1 h
    unfold f_law_reckon_7 at h
    refine SW.iload_n (pc := 7) g (dt dt_X5_reckon 5 rfl) rfl ?_
    refine SW.aload_n (pc := 8) g (dt dt_X5_reckon 6 rfl) rfl ?_
    refine SW.getI (pc := 9) g (dt dt_X5_reckon 7 rfl) fl_X5_27 cell_19 rfl ?_
    refine SW.icmp_ge (pc := 12) (t := 93) g (dt dt_X5_reckon 8 rfl) rfl (fun hc => ?_) (fun hc => ?_)
    · have h := iteT hc h
      refine SW.aload_n (pc := 93) g (dt dt_X5_reckon 51 rfl) rfl ?_
      obtain ⟨r1, h2, h⟩ := bindI h
      refine SW.callVi (pc := 94) g (dt dt_X5_reckon 52 rfl) (mt_f_law_pop _ _ _ _ ad ν   N μ  r1 h2) me_X5_pop mv_X5_pop ml_X5_123 cell_19 rfl rfl (Nat.le_of_ble_eq_true rfl) (Nat.le_of_ble_eq_true rfl) (Nat.le_of_ble_eq_true rfl) (Nat.le_of_ble_eq_true rfl) rfl ?_
      refine SW.iconst (pc := 97) (v := 0) g (dt dt_X5_reckon 53 rfl) ki_0 ?_
      refine SW.bipush (pc := 98) (v := 40) g (dt dt_X5_reckon 54 rfl) kb_40 ?_
      obtain ⟨r3, h4, h⟩ := bindI h
      refine SW.callSNi (pc := 100) g (dt dt_X5_reckon 55 rfl) (mt_f_sx_clamp _ _ _ _ ad ν lay0   N r1.2 r1.1 0 40 r3 h4) me_X10_clamp ms_X10_clamp mn_X5_131 rfl (Nat.le_of_ble_eq_true rfl) (Nat.le_of_ble_eq_true rfl) (Nat.le_of_ble_eq_true rfl) (Nat.le_of_ble_eq_true rfl) rfl ?_
      exact SW.ireturn (pc := 103) g (leafW h ho) rfl (Nat.le_of_ble_eq_true rfl) (Nat.le_of_ble_eq_true rfl) (dt dt_X5_reckon 56 rfl)
    · have h := iteF hc h
      refine SW.aload_n (pc := 15) g (dt dt_X5_reckon 9 rfl) rfl ?_
      refine SW.getR (pc := 16) g (dt dt_X5_reckon 10 rfl) fl_X5_9 cell_19 rfl ?_
      refine SW.iload_n (pc := 19) g (dt dt_X5_reckon 11 rfl) rfl ?_
      obtain ⟨hb5, h⟩ := inbI h
      refine SW.iaload (pc := 20) g (dt dt_X5_reckon 12 rfl) cell_20 hb5 ?_
      refine SW.istore_n (pc := 21) g (dt dt_X5_reckon 13 rfl) (sw_ltm hm (Nat.le_of_ble_eq_true rfl)) rfl ?_
      refine SW.genL h (fun y6 h => ?_)
      refine SW.iload_n (pc := 22) g (dt dt_X5_reckon 14 rfl) rfl ?_
      refine SW.iconst (pc := 23) (v := 1) g (dt dt_X5_reckon 15 rfl) ki_1 ?_
      refine SW.icmp_ne (pc := 24) (t := 40) g (dt dt_X5_reckon 16 rfl) rfl (fun hc => ?_) (fun hc => ?_)
      · have h := iteF hc h
        refine SW.iload_n (pc := 40) g (dt dt_X5_reckon 24 rfl) rfl ?_
        refine SW.iconst (pc := 41) (v := 2) g (dt dt_X5_reckon 25 rfl) ki_2 ?_
        refine SW.icmp_ne (pc := 42) (t := 65) g (dt dt_X5_reckon 26 rfl) rfl (fun hc => ?_) (fun hc => ?_)
        · have h := iteF hc h
          refine SW.aload_n (pc := 65) g (dt dt_X5_reckon 37 rfl) rfl ?_
          obtain ⟨r7, h8, h⟩ := bindI h
          refine SW.callVi (pc := 66) g (dt dt_X5_reckon 38 rfl) (mt_f_law_pop _ _ _ _ ad ν   N μ  r7 h8) me_X5_pop mv_X5_pop ml_X5_123 cell_19 rfl rfl (Nat.le_of_ble_eq_true rfl) (Nat.le_of_ble_eq_true rfl) (Nat.le_of_ble_eq_true rfl) (Nat.le_of_ble_eq_true rfl) rfl ?_
          refine SW.istore_n (pc := 69) g (dt dt_X5_reckon 39 rfl) (sw_ltm hm (Nat.le_of_ble_eq_true rfl)) rfl ?_
          refine SW.aload_n (pc := 70) g (dt dt_X5_reckon 40 rfl) rfl ?_
          obtain ⟨r9, h10, h⟩ := bindI h
          refine SW.callVi (pc := 71) g (dt dt_X5_reckon 41 rfl) (mt_f_law_pop _ _ _ _ ad ν   N r7.2  r9 h10) me_X5_pop mv_X5_pop ml_X5_123 cell_19 rfl rfl (Nat.le_of_ble_eq_true rfl) (Nat.le_of_ble_eq_true rfl) (Nat.le_of_ble_eq_true rfl) (Nat.le_of_ble_eq_true rfl) rfl ?_
          refine SW.istore (pc := 74) g (dt dt_X5_reckon 42 rfl) (sw_ltm hm (Nat.le_of_ble_eq_true rfl)) rfl ?_
          refine SW.aload_n (pc := 76) g (dt dt_X5_reckon 43 rfl) rfl ?_
          refine SW.iload_n (pc := 77) g (dt dt_X5_reckon 44 rfl) rfl ?_
          refine SW.iload (pc := 78) g (dt dt_X5_reckon 45 rfl) rfl ?_
          refine SW.iload_n (pc := 80) g (dt dt_X5_reckon 46 rfl) rfl ?_
          obtain ⟨r11, h12, h⟩ := bindI h
          refine SW.callSi (pc := 81) g (dt dt_X5_reckon 47 rfl) (mt_f_sl_join _ _ _ _ ad ν lay0   N r9.2 y6 r9.1 r7.1 r11 h12) me_X5_join ms_X5_join ml_X5_127 rfl (Nat.le_of_ble_eq_true rfl) (Nat.le_of_ble_eq_true rfl) (Nat.le_of_ble_eq_true rfl) (Nat.le_of_ble_eq_true rfl) rfl ?_
          obtain ⟨r13, h14, h⟩ := bindI h
          refine SW.callVv (pc := 84) g (dt dt_X5_reckon 48 rfl) (mt_f_law_push _ _ _ _ ad ν   N r9.2 r11 r13 h14) me_X5_push mv_X5_push ml_X5_115 cell_19 rfl rfl (Nat.le_of_ble_eq_true rfl) (Nat.le_of_ble_eq_true rfl) (Nat.le_of_ble_eq_true rfl) (Nat.le_of_ble_eq_true rfl) rfl ?_
          refine SW.iinc (pc := 87) (v := x1 + 1) g (dt dt_X5_reckon 49 rfl) rfl (kn_1 _) (sw_ltm hm (Nat.le_of_ble_eq_true rfl)) rfl ?_
          refine SW.goto (pc := 90) (t := 7) g (dt dt_X5_reckon 50 rfl) rfl ?_
          refine SW.msk [true, true, false, false, false] ?_
          exact ih r13 (x1 + 1) h
        · have h := iteT hc h
          refine SW.aload_n (pc := 45) g (dt dt_X5_reckon 27 rfl) rfl ?_
          refine SW.aload_n (pc := 46) g (dt dt_X5_reckon 28 rfl) rfl ?_
          refine SW.getR (pc := 47) g (dt dt_X5_reckon 29 rfl) fl_X5_18 cell_19 rfl ?_
          refine SW.aload_n (pc := 50) g (dt dt_X5_reckon 30 rfl) rfl ?_
          refine SW.getR (pc := 51) g (dt dt_X5_reckon 31 rfl) fl_X5_15 cell_19 rfl ?_
          refine SW.iload_n (pc := 54) g (dt dt_X5_reckon 32 rfl) rfl ?_
          obtain ⟨hb15, h⟩ := inbI h
          refine SW.iaload (pc := 55) g (dt dt_X5_reckon 33 rfl) cell_21 hb15 ?_
          obtain ⟨r16, h17, h⟩ := bindI h
          refine SW.callSNi (pc := 56) g (dt dt_X5_reckon 34 rfl) (mt_f_sx_at _ _ _ _ ad ν lay0 22 7 cell_22 N μ (μ 21 x1.toNatClampNeg) r16 h17) me_X10_at ms_X10_at mn_X5_119 rfl (Nat.le_of_ble_eq_true rfl) (Nat.le_of_ble_eq_true rfl) (Nat.le_of_ble_eq_true rfl) (Nat.le_of_ble_eq_true rfl) rfl ?_
          obtain ⟨r18, h19, h⟩ := bindI h
          refine SW.callVv (pc := 59) g (dt dt_X5_reckon 35 rfl) (mt_f_law_push _ _ _ _ ad ν   N μ r16 r18 h19) me_X5_push mv_X5_push ml_X5_115 cell_19 rfl rfl (Nat.le_of_ble_eq_true rfl) (Nat.le_of_ble_eq_true rfl) (Nat.le_of_ble_eq_true rfl) (Nat.le_of_ble_eq_true rfl) rfl ?_
          refine SW.goto (pc := 62) (t := 87) g (dt dt_X5_reckon 36 rfl) rfl ?_
          refine SW.iinc (pc := 87) (v := x1 + 1) g (dt dt_X5_reckon 49 rfl) rfl (kn_1 _) (sw_ltm hm (Nat.le_of_ble_eq_true rfl)) rfl ?_
          refine SW.goto (pc := 90) (t := 7) g (dt dt_X5_reckon 50 rfl) rfl ?_
          refine SW.msk [true, true, false, false, false] ?_
          exact ih r18 (x1 + 1) h
      · have h := iteT hc h
        refine SW.aload_n (pc := 27) g (dt dt_X5_reckon 17 rfl) rfl ?_
        refine SW.aload_n (pc := 28) g (dt dt_X5_reckon 18 rfl) rfl ?_
        refine SW.getR (pc := 29) g (dt dt_X5_reckon 19 rfl) fl_X5_15 cell_19 rfl ?_
        refine SW.iload_n (pc := 32) g (dt dt_X5_reckon 20 rfl) rfl ?_
        obtain ⟨hb20, h⟩ := inbI h
        refine SW.iaload (pc := 33) g (dt dt_X5_reckon 21 rfl) cell_21 hb20 ?_
        obtain ⟨r21, h22, h⟩ := bindI h
        refine SW.callVv (pc := 34) g (dt dt_X5_reckon 22 rfl) (mt_f_law_push _ _ _ _ ad ν   N μ (μ 21 x1.toNatClampNeg) r21 h22) me_X5_push mv_X5_push ml_X5_115 cell_19 rfl rfl (Nat.le_of_ble_eq_true rfl) (Nat.le_of_ble_eq_true rfl) (Nat.le_of_ble_eq_true rfl) (Nat.le_of_ble_eq_true rfl) rfl ?_
        refine SW.goto (pc := 37) (t := 87) g (dt dt_X5_reckon 23 rfl) rfl ?_
        refine SW.iinc (pc := 87) (v := x1 + 1) g (dt dt_X5_reckon 49 rfl) rfl (kn_1 _) (sw_ltm hm (Nat.le_of_ble_eq_true rfl)) rfl ?_
        refine SW.goto (pc := 90) (t := 7) g (dt dt_X5_reckon 50 rfl) rfl ?_
        refine SW.msk [true, true, false, false, false] ?_
        exact ih r21 (x1 + 1) h
set_option maxRecDepth 100000 in
set_option maxHeartbeats 4000000 in
theorem ok_f_law_reckon {G : sw_G} {ad : Nat → Nat} {ν : sw_N}   {N : Nat} {o : Int32 × sw_M} (g : sw_ok G cX5_reckon "DeadWires$Law" (some .int) 2 0 0 ad) (hm : G.2.2.1.2.1.maxLocals = 5)  (μ : sw_M) (ho : sw_out G 0 0 (fun a => a = ad) (.inl (some (.int o.1))) lay0 o.2 ν)  (h : f_law_reckon N  μ  = some o) : SW G ad lay0 ν 0 0 0 [some (.ref 19), none, none, none, none] [] μ := by
  unfold f_law_reckon at h
  refine SW.aload_n (pc := 0) g (dt dt_X5_reckon 0 rfl) rfl ?_
  refine SW.iconst (pc := 1) (v := 0) g (dt dt_X5_reckon 1 rfl) ki_0 ?_
  refine SW.putI (pc := 2) g (dt dt_X5_reckon 2 rfl) fl_X5_112 cell_19 rfl ?_
  refine SW.genM h (fun μ1 h => ?_)
  refine SW.iconst (pc := 5) (v := 0) g (dt dt_X5_reckon 3 rfl) ki_0 ?_
  refine SW.istore_n (pc := 6) g (dt dt_X5_reckon 4 rfl) (sw_ltm hm (Nat.le_of_ble_eq_true rfl)) rfl ?_
  refine SW.msk [true, true, false, false, false] ?_
  exact ok_f_law_reckon_7  g hm  ho   N μ1 0 h
set_option maxRecDepth 100000 in
set_option maxHeartbeats 4000000 in
theorem mt_f_law_reckon (l : Launch) (D : va_G) (cI cL : ClassId) (ad : Nat → Nat) (ν : sw_N)    (N : Nat) (μ : sw_M)  (o : Int32 × sw_M) (h : f_law_reckon N  μ  = some o) : MetR l D cI cL yX5_reckon cX5_reckon 5 (some .int) 2 0 0 (fun a => a = ad) ad [.ref 19] lay0 μ ν (some (.int o.1)) lay0 o.2 ν :=
  MetR.of (n := 4) rfl (Nat.le_of_ble_eq_true rfl) (fun G g ho hm _ _ => ok_f_law_reckon  g hm  μ ho  h)
def f_bookR_tells_2 (N : Nat)  (μ : sw_M)  : Nat → Int32 → Int32 → Option (Int32)
  | 0, _, _ => none
  | n + 1, x1, x2 =>
    if (μ 32 0) ≤ x2 then
      some 0
    else
      inb x2 8 (
        if (μ 33 x2.toNatClampNeg) = x1 then
          some 1
        else
          f_bookR_tells_2 N  μ  n x1 (x2 + 1))
def f_bookR_tells (N : Nat)  (μ : sw_M) (a1 : Int32) : Option (Int32) :=
  f_bookR_tells_2 N  μ  N a1 0
set_option maxRecDepth 100000 in
set_option maxHeartbeats 4000000 in
theorem ok_f_bookR_tells_2 {G : sw_G} {ad : Nat → Nat} {ν : sw_N}   {N : Nat} {o : Int32} (g : sw_ok G cX1_tells "DeadWires$Book" (some .boolean) 1 0 0 ad) (hm : G.2.2.1.2.1.maxLocals = 3)  (μ : sw_M) (ho : sw_out G 0 0 (fun a => a = ad) (.inl (some (.int o))) lay0 μ ν)  : ∀ (n : Nat) (x1 : Int32) (x2 : Int32) (h : f_bookR_tells_2 N  μ  n x1 x2 = some o), SW G ad lay0 ν 0 0 2 [some (.ref 32), some (.int x1), some (.int x2)] [] μ := by
  intro n
  induction n with
  | zero => intro x1 x2 h; simp only [f_bookR_tells_2] at h; cases h
  | succ n ih =>
    intro x1 x2 h
    unfold f_bookR_tells_2 at h
    refine SW.iload_n (pc := 2) g (dt dt_X1_tells 2 rfl) rfl ?_
    refine SW.aload_n (pc := 3) g (dt dt_X1_tells 3 rfl) rfl ?_
    refine SW.getI (pc := 4) g (dt dt_X1_tells 4 rfl) fl_X1_18 cell_32 rfl ?_
    refine SW.icmp_ge (pc := 7) (t := 28) g (dt dt_X1_tells 5 rfl) rfl (fun hc => ?_) (fun hc => ?_)
    · have h := iteT hc h
      refine SW.iconst (pc := 28) (v := 0) g (dt dt_X1_tells 16 rfl) ki_0 ?_
      exact SW.zreturn (pc := 29) g (leafI h ho) rfl (Nat.le_of_ble_eq_true rfl) (Nat.le_of_ble_eq_true rfl) (by decide) (dt dt_X1_tells 17 rfl)
    · have h := iteF hc h
      refine SW.aload_n (pc := 10) g (dt dt_X1_tells 6 rfl) rfl ?_
      refine SW.getR (pc := 11) g (dt dt_X1_tells 7 rfl) fl_X1_9 cell_32 rfl ?_
      refine SW.iload_n (pc := 14) g (dt dt_X1_tells 8 rfl) rfl ?_
      obtain ⟨hb1, h⟩ := inbI h
      refine SW.iaload (pc := 15) g (dt dt_X1_tells 9 rfl) cell_33 hb1 ?_
      refine SW.iload_n (pc := 16) g (dt dt_X1_tells 10 rfl) rfl ?_
      refine SW.icmp_ne (pc := 17) (t := 22) g (dt dt_X1_tells 11 rfl) rfl (fun hc => ?_) (fun hc => ?_)
      · have h := iteF hc h
        refine SW.iinc (pc := 22) (v := x2 + 1) g (dt dt_X1_tells 14 rfl) rfl (kn_1 _) (sw_ltm hm (Nat.le_of_ble_eq_true rfl)) rfl ?_
        refine SW.goto (pc := 25) (t := 2) g (dt dt_X1_tells 15 rfl) rfl ?_
        refine SW.msk [true, true, true] ?_
        exact ih  x1 (x2 + 1) h
      · have h := iteT hc h
        refine SW.iconst (pc := 20) (v := 1) g (dt dt_X1_tells 12 rfl) ki_1 ?_
        exact SW.zreturn (pc := 21) g (leafI h ho) rfl (Nat.le_of_ble_eq_true rfl) (Nat.le_of_ble_eq_true rfl) (by decide) (dt dt_X1_tells 13 rfl)
set_option maxRecDepth 100000 in
set_option maxHeartbeats 4000000 in
theorem ok_f_bookR_tells {G : sw_G} {ad : Nat → Nat} {ν : sw_N}   {N : Nat} {o : Int32} (g : sw_ok G cX1_tells "DeadWires$Book" (some .boolean) 1 0 0 ad) (hm : G.2.2.1.2.1.maxLocals = 3)  (μ : sw_M) (ho : sw_out G 0 0 (fun a => a = ad) (.inl (some (.int o))) lay0 μ ν) (a1 : Int32) (h : f_bookR_tells N  μ a1 = some o) : SW G ad lay0 ν 0 0 0 [some (.ref 32), some (.int a1), none] [] μ := by
  unfold f_bookR_tells at h
  refine SW.iconst (pc := 0) (v := 0) g (dt dt_X1_tells 0 rfl) ki_0 ?_
  refine SW.istore_n (pc := 1) g (dt dt_X1_tells 1 rfl) (sw_ltm hm (Nat.le_of_ble_eq_true rfl)) rfl ?_
  refine SW.msk [true, true, true] ?_
  exact ok_f_bookR_tells_2  g hm  μ ho   N a1 0 h
set_option maxRecDepth 100000 in
set_option maxHeartbeats 4000000 in
theorem mt_f_bookR_tells (l : Launch) (D : va_G) (cI cL : ClassId) (ad : Nat → Nat) (ν : sw_N)    (N : Nat) (μ : sw_M) (a1 : Int32) (o : Int32) (h : f_bookR_tells N  μ a1 = some o) : MetR l D cI cL yX1_tells cX1_tells 3 (some .boolean) 1 0 0 (fun a => a = ad) ad [.ref 32, .int a1] lay0 μ ν (some (.int o)) lay0 μ ν :=
  MetR.of (n := 1) rfl (Nat.le_of_ble_eq_true rfl) (fun G g ho hm _ _ => ok_f_bookR_tells  g hm  μ ho a1 h)
def f_bookR_readLine_65 (N : Nat)   (μ : sw_M)  : Option (Int32 × sw_M) :=
  Option.bind (f_tape_takeNumber N  μ 0 40) (fun r1 =>
    if r1.1 = (-1) then
      some (0, r1.2)
    else
      Option.bind (f_tape_takeNumber N  r1.2 0 12) (fun r3 =>
        if r3.1 = (-1) then
          some (0, r3.2)
        else
          Option.bind (f_tape_takeSign N  r3.2 59) (fun r5 =>
            if r5.1 = 0 then
              some (0, r5.2)
            else
              Option.bind (f_sx_put N 33 8 r5.2 (r5.2 32 0) r1.1) (fun r7 =>
                Option.bind (f_sx_put N 34 8 r7 (r7 32 0) r3.1) (fun r9 =>
                  wb (wr r9 32 0 ((r9 32 0) + 1)) (fun μ11 =>
                    some (1, μ11)))))))
def f_bookR_readLine_37 (N : Nat)   (μ : sw_M) (x2 : Int32) : Option (Int32 × sw_M) :=
  if x2 = 0 then
    f_bookR_readLine_65 N    μ 
  else
    if 40 < (μ 1 6) then
      f_bookR_readLine_65 N    μ 
    else
      if (μ 32 0) < 8 then
        f_bookR_readLine_65 N    μ 
      else
        Option.bind (f_tape_fail N  μ 3) (fun r1 =>
          bl r1.1 (some (r1.1, r1.2)))
def f_bookR_readLine_15 (N : Nat)   (μ : sw_M) (s0 : Int32) : Option (Int32 × sw_M) :=
  if s0 = 0 then
    f_bookR_readLine_37 N    μ s0
  else
    Option.bind (f_bookR_tells N  μ (μ 1 6)) (fun r1 =>
      if r1 = 0 then
        f_bookR_readLine_37 N    μ s0
      else
        Option.bind (f_tape_fail N  μ 2) (fun r3 =>
          bl r3.1 (some (r3.1, r3.2))))
def f_bookR_readLine (N : Nat)  (μ : sw_M)  : Option (Int32 × sw_M) :=
  if (μ 1 4) = 257 then
    f_bookR_readLine_15 N    μ 1
  else
    f_bookR_readLine_15 N    μ 0
set_option maxRecDepth 100000 in
set_option maxHeartbeats 4000000 in
theorem ok_f_bookR_readLine_65 {G : sw_G} {ad : Nat → Nat} {ν : sw_N}   {N : Nat} {o : Int32 × sw_M} (g : sw_ok G cX1_readLine "DeadWires$Book" (some .boolean) 3 0 0 ad) (hm : G.2.2.1.2.1.maxLocals = 5)  (ho : sw_out G 0 0 (fun a => a = ad) (.inl (some (.int o.1))) lay0 o.2 ν)  (μ : sw_M)  (h : f_bookR_readLine_65 N    μ  = some o) : SW G ad lay0 ν 0 0 65 [some (.ref 32), some (.ref 1), none, none, none] [] μ := by
  unfold f_bookR_readLine_65 at h
  refine SW.aload_n (pc := 65) g (dt dt_X1_readLine 33 rfl) rfl ?_
  refine SW.iconst (pc := 66) (v := 0) g (dt dt_X1_readLine 34 rfl) ki_0 ?_
  refine SW.bipush (pc := 67) (v := 40) g (dt dt_X1_readLine 35 rfl) kb_40 ?_
  obtain ⟨r1, h2, h⟩ := bindI h
  refine SW.callVi (pc := 69) g (dt dt_X1_readLine 36 rfl) (mt_f_tape_takeNumber _ _ _ _ ad ν   N μ 0 40 r1 h2) me_X7_takeNumber mv_X7_takeNumber ml_X1_47 cell_1 rfl rfl (Nat.le_of_ble_eq_true rfl) (Nat.le_of_ble_eq_true rfl) (Nat.le_of_ble_eq_true rfl) (Nat.le_of_ble_eq_true rfl) rfl ?_
  refine SW.istore_n (pc := 72) g (dt dt_X1_readLine 37 rfl) (sw_ltm hm (Nat.le_of_ble_eq_true rfl)) rfl ?_
  refine SW.iload_n (pc := 73) g (dt dt_X1_readLine 38 rfl) rfl ?_
  refine SW.iconst (pc := 74) (v := (-1)) g (dt dt_X1_readLine 39 rfl) ki_m1 ?_
  refine SW.icmp_ne (pc := 75) (t := 80) g (dt dt_X1_readLine 40 rfl) rfl (fun hc => ?_) (fun hc => ?_)
  · have h := iteF hc h
    refine SW.aload_n (pc := 80) g (dt dt_X1_readLine 43 rfl) rfl ?_
    refine SW.iconst (pc := 81) (v := 0) g (dt dt_X1_readLine 44 rfl) ki_0 ?_
    refine SW.bipush (pc := 82) (v := 12) g (dt dt_X1_readLine 45 rfl) kb_12 ?_
    obtain ⟨r3, h4, h⟩ := bindI h
    refine SW.callVi (pc := 84) g (dt dt_X1_readLine 46 rfl) (mt_f_tape_takeNumber _ _ _ _ ad ν   N r1.2 0 12 r3 h4) me_X7_takeNumber mv_X7_takeNumber ml_X1_47 cell_1 rfl rfl (Nat.le_of_ble_eq_true rfl) (Nat.le_of_ble_eq_true rfl) (Nat.le_of_ble_eq_true rfl) (Nat.le_of_ble_eq_true rfl) rfl ?_
    refine SW.istore (pc := 87) g (dt dt_X1_readLine 47 rfl) (sw_ltm hm (Nat.le_of_ble_eq_true rfl)) rfl ?_
    refine SW.iload (pc := 89) g (dt dt_X1_readLine 48 rfl) rfl ?_
    refine SW.iconst (pc := 91) (v := (-1)) g (dt dt_X1_readLine 49 rfl) ki_m1 ?_
    refine SW.icmp_eq (pc := 92) (t := 104) g (dt dt_X1_readLine 50 rfl) rfl (fun hc => ?_) (fun hc => ?_)
    · have h := iteT hc h
      refine SW.iconst (pc := 104) (v := 0) g (dt dt_X1_readLine 55 rfl) ki_0 ?_
      exact SW.zreturn (pc := 105) g (leafW h ho) rfl (Nat.le_of_ble_eq_true rfl) (Nat.le_of_ble_eq_true rfl) (by decide) (dt dt_X1_readLine 56 rfl)
    · have h := iteF hc h
      refine SW.aload_n (pc := 95) g (dt dt_X1_readLine 51 rfl) rfl ?_
      refine SW.bipush (pc := 96) (v := 59) g (dt dt_X1_readLine 52 rfl) kb_59 ?_
      obtain ⟨r5, h6, h⟩ := bindI h
      refine SW.callVi (pc := 98) g (dt dt_X1_readLine 53 rfl) (mt_f_tape_takeSign _ _ _ _ ad ν   N r3.2 59 r5 h6) me_X7_takeSign mv_X7_takeSign ml_X1_51 cell_1 rfl rfl (Nat.le_of_ble_eq_true rfl) (Nat.le_of_ble_eq_true rfl) (Nat.le_of_ble_eq_true rfl) (Nat.le_of_ble_eq_true rfl) rfl ?_
      refine SW.if_ne (pc := 101) (t := 106) g (dt dt_X1_readLine 54 rfl) rfl (fun hc => ?_) (fun hc => ?_)
      · have h := iteF hc h
        refine SW.aload_n (pc := 106) g (dt dt_X1_readLine 57 rfl) rfl ?_
        refine SW.getR (pc := 107) g (dt dt_X1_readLine 58 rfl) fl_X1_9 cell_32 rfl ?_
        refine SW.aload_n (pc := 110) g (dt dt_X1_readLine 59 rfl) rfl ?_
        refine SW.getI (pc := 111) g (dt dt_X1_readLine 60 rfl) fl_X1_18 cell_32 rfl ?_
        refine SW.iload_n (pc := 114) g (dt dt_X1_readLine 61 rfl) rfl ?_
        obtain ⟨r7, h8, h⟩ := bindI h
        refine SW.callSNv (pc := 115) g (dt dt_X1_readLine 62 rfl) (mt_f_sx_put _ _ _ _ ad ν lay0 33 8 cell_33 N r5.2 (r5.2 32 0) r1.1 r7 h8) me_X10_put ms_X10_put mn_X1_54 rfl (Nat.le_of_ble_eq_true rfl) (Nat.le_of_ble_eq_true rfl) (Nat.le_of_ble_eq_true rfl) (Nat.le_of_ble_eq_true rfl) rfl ?_
        refine SW.aload_n (pc := 118) g (dt dt_X1_readLine 63 rfl) rfl ?_
        refine SW.getR (pc := 119) g (dt dt_X1_readLine 64 rfl) fl_X1_15 cell_32 rfl ?_
        refine SW.aload_n (pc := 122) g (dt dt_X1_readLine 65 rfl) rfl ?_
        refine SW.getI (pc := 123) g (dt dt_X1_readLine 66 rfl) fl_X1_18 cell_32 rfl ?_
        refine SW.iload (pc := 126) g (dt dt_X1_readLine 67 rfl) rfl ?_
        obtain ⟨r9, h10, h⟩ := bindI h
        refine SW.callSNv (pc := 128) g (dt dt_X1_readLine 68 rfl) (mt_f_sx_put _ _ _ _ ad ν lay0 34 8 cell_34 N r7 (r7 32 0) r3.1 r9 h10) me_X10_put ms_X10_put mn_X1_54 rfl (Nat.le_of_ble_eq_true rfl) (Nat.le_of_ble_eq_true rfl) (Nat.le_of_ble_eq_true rfl) (Nat.le_of_ble_eq_true rfl) rfl ?_
        refine SW.aload_n (pc := 131) g (dt dt_X1_readLine 69 rfl) rfl ?_
        refine SW.dup (pc := 132) g (dt dt_X1_readLine 70 rfl) rfl ?_
        refine SW.getI (pc := 133) g (dt dt_X1_readLine 71 rfl) fl_X1_18 cell_32 rfl ?_
        refine SW.iconst (pc := 136) (v := 1) g (dt dt_X1_readLine 72 rfl) ki_1 ?_
        refine SW.iadd (pc := 137) g (dt dt_X1_readLine 73 rfl) ?_
        refine SW.putI (pc := 138) g (dt dt_X1_readLine 74 rfl) fl_X1_18 cell_32 rfl ?_
        refine SW.genM h (fun μ11 h => ?_)
        refine SW.iconst (pc := 141) (v := 1) g (dt dt_X1_readLine 75 rfl) ki_1 ?_
        exact SW.zreturn (pc := 142) g (leafW h ho) rfl (Nat.le_of_ble_eq_true rfl) (Nat.le_of_ble_eq_true rfl) (by decide) (dt dt_X1_readLine 76 rfl)
      · have h := iteT hc h
        refine SW.iconst (pc := 104) (v := 0) g (dt dt_X1_readLine 55 rfl) ki_0 ?_
        exact SW.zreturn (pc := 105) g (leafW h ho) rfl (Nat.le_of_ble_eq_true rfl) (Nat.le_of_ble_eq_true rfl) (by decide) (dt dt_X1_readLine 56 rfl)
  · have h := iteT hc h
    refine SW.iconst (pc := 78) (v := 0) g (dt dt_X1_readLine 41 rfl) ki_0 ?_
    exact SW.zreturn (pc := 79) g (leafW h ho) rfl (Nat.le_of_ble_eq_true rfl) (Nat.le_of_ble_eq_true rfl) (by decide) (dt dt_X1_readLine 42 rfl)
set_option maxRecDepth 100000 in
set_option maxHeartbeats 4000000 in
theorem ok_f_bookR_readLine_37 {G : sw_G} {ad : Nat → Nat} {ν : sw_N}   {N : Nat} {o : Int32 × sw_M} (g : sw_ok G cX1_readLine "DeadWires$Book" (some .boolean) 3 0 0 ad) (hm : G.2.2.1.2.1.maxLocals = 5)  (ho : sw_out G 0 0 (fun a => a = ad) (.inl (some (.int o.1))) lay0 o.2 ν)  (μ : sw_M) (x2 : Int32) (h : f_bookR_readLine_37 N    μ x2 = some o) : SW G ad lay0 ν 0 0 37 [some (.ref 32), some (.ref 1), some (.int x2), none, none] [] μ := by
  unfold f_bookR_readLine_37 at h
  refine SW.iload_n (pc := 37) g (dt dt_X1_readLine 19 rfl) rfl ?_
  refine SW.if_eq (pc := 38) (t := 65) g (dt dt_X1_readLine 20 rfl) rfl (fun hc => ?_) (fun hc => ?_)
  · have h := iteT hc h
    refine SW.msk [true, true, false, false, false] ?_
    exact ok_f_bookR_readLine_65  g hm  ho    μ  h
  · have h := iteF hc h
    refine SW.aload_n (pc := 41) g (dt dt_X1_readLine 21 rfl) rfl ?_
    refine SW.getI (pc := 42) g (dt dt_X1_readLine 22 rfl) fl_X1_37 cell_1 rfl ?_
    refine SW.bipush (pc := 45) (v := 40) g (dt dt_X1_readLine 23 rfl) kb_40 ?_
    refine SW.icmp_gt (pc := 47) (t := 65) g (dt dt_X1_readLine 24 rfl) rfl (fun hc => ?_) (fun hc => ?_)
    · have h := iteT hc h
      refine SW.msk [true, true, false, false, false] ?_
      exact ok_f_bookR_readLine_65  g hm  ho    μ  h
    · have h := iteF hc h
      refine SW.aload_n (pc := 50) g (dt dt_X1_readLine 25 rfl) rfl ?_
      refine SW.getI (pc := 51) g (dt dt_X1_readLine 26 rfl) fl_X1_18 cell_32 rfl ?_
      refine SW.bipush (pc := 54) (v := 8) g (dt dt_X1_readLine 27 rfl) kb_8 ?_
      refine SW.icmp_lt (pc := 56) (t := 65) g (dt dt_X1_readLine 28 rfl) rfl (fun hc => ?_) (fun hc => ?_)
      · have h := iteT hc h
        refine SW.msk [true, true, false, false, false] ?_
        exact ok_f_bookR_readLine_65  g hm  ho    μ  h
      · have h := iteF hc h
        refine SW.aload_n (pc := 59) g (dt dt_X1_readLine 29 rfl) rfl ?_
        refine SW.iconst (pc := 60) (v := 3) g (dt dt_X1_readLine 30 rfl) ki_3 ?_
        obtain ⟨r1, h2, h⟩ := bindI h
        refine SW.callVi (pc := 61) g (dt dt_X1_readLine 31 rfl) (mt_f_tape_fail _ _ _ _ ad ν   N μ 3 r1 h2) me_X7_fail mv_X7_fail ml_X1_44 cell_1 rfl rfl (Nat.le_of_ble_eq_true rfl) (Nat.le_of_ble_eq_true rfl) (Nat.le_of_ble_eq_true rfl) (Nat.le_of_ble_eq_true rfl) rfl ?_
        obtain ⟨hn, h⟩ := blI h
        exact SW.zreturn (pc := 64) g (leafW h ho) rfl (Nat.le_of_ble_eq_true rfl) (Nat.le_of_ble_eq_true rfl) hn (dt dt_X1_readLine 32 rfl)
set_option maxRecDepth 100000 in
set_option maxHeartbeats 4000000 in
theorem ok_f_bookR_readLine_15 {G : sw_G} {ad : Nat → Nat} {ν : sw_N}   {N : Nat} {o : Int32 × sw_M} (g : sw_ok G cX1_readLine "DeadWires$Book" (some .boolean) 3 0 0 ad) (hm : G.2.2.1.2.1.maxLocals = 5)  (ho : sw_out G 0 0 (fun a => a = ad) (.inl (some (.int o.1))) lay0 o.2 ν)  (μ : sw_M) (s0 : Int32) (h : f_bookR_readLine_15 N    μ s0 = some o) : SW G ad lay0 ν 0 0 15 [some (.ref 32), some (.ref 1), none, none, none] [.int s0] μ := by
  unfold f_bookR_readLine_15 at h
  refine SW.istore_n (pc := 15) g (dt dt_X1_readLine 7 rfl) (sw_ltm hm (Nat.le_of_ble_eq_true rfl)) rfl ?_
  refine SW.iload_n (pc := 16) g (dt dt_X1_readLine 8 rfl) rfl ?_
  refine SW.if_eq (pc := 17) (t := 37) g (dt dt_X1_readLine 9 rfl) rfl (fun hc => ?_) (fun hc => ?_)
  · have h := iteT hc h
    refine SW.msk [true, true, true, false, false] ?_
    exact ok_f_bookR_readLine_37  g hm  ho    μ s0 h
  · have h := iteF hc h
    refine SW.aload_n (pc := 20) g (dt dt_X1_readLine 10 rfl) rfl ?_
    refine SW.aload_n (pc := 21) g (dt dt_X1_readLine 11 rfl) rfl ?_
    refine SW.getI (pc := 22) g (dt dt_X1_readLine 12 rfl) fl_X1_37 cell_1 rfl ?_
    obtain ⟨r1, h2, h⟩ := bindI h
    refine SW.callVi (pc := 25) g (dt dt_X1_readLine 13 rfl) (mt_f_bookR_tells _ _ _ _ ad ν   N μ (μ 1 6) r1 h2) me_X1_tells mv_X1_tells ml_X1_40 cell_32 rfl rfl (Nat.le_of_ble_eq_true rfl) (Nat.le_of_ble_eq_true rfl) (Nat.le_of_ble_eq_true rfl) (Nat.le_of_ble_eq_true rfl) rfl ?_
    refine SW.if_eq (pc := 28) (t := 37) g (dt dt_X1_readLine 14 rfl) rfl (fun hc => ?_) (fun hc => ?_)
    · have h := iteT hc h
      refine SW.msk [true, true, true, false, false] ?_
      exact ok_f_bookR_readLine_37  g hm  ho    μ s0 h
    · have h := iteF hc h
      refine SW.aload_n (pc := 31) g (dt dt_X1_readLine 15 rfl) rfl ?_
      refine SW.iconst (pc := 32) (v := 2) g (dt dt_X1_readLine 16 rfl) ki_2 ?_
      obtain ⟨r3, h4, h⟩ := bindI h
      refine SW.callVi (pc := 33) g (dt dt_X1_readLine 17 rfl) (mt_f_tape_fail _ _ _ _ ad ν   N μ 2 r3 h4) me_X7_fail mv_X7_fail ml_X1_44 cell_1 rfl rfl (Nat.le_of_ble_eq_true rfl) (Nat.le_of_ble_eq_true rfl) (Nat.le_of_ble_eq_true rfl) (Nat.le_of_ble_eq_true rfl) rfl ?_
      obtain ⟨hn, h⟩ := blI h
      exact SW.zreturn (pc := 36) g (leafW h ho) rfl (Nat.le_of_ble_eq_true rfl) (Nat.le_of_ble_eq_true rfl) hn (dt dt_X1_readLine 18 rfl)
set_option maxRecDepth 100000 in
set_option maxHeartbeats 4000000 in
theorem ok_f_bookR_readLine {G : sw_G} {ad : Nat → Nat} {ν : sw_N}   {N : Nat} {o : Int32 × sw_M} (g : sw_ok G cX1_readLine "DeadWires$Book" (some .boolean) 3 0 0 ad) (hm : G.2.2.1.2.1.maxLocals = 5)  (μ : sw_M) (ho : sw_out G 0 0 (fun a => a = ad) (.inl (some (.int o.1))) lay0 o.2 ν)  (h : f_bookR_readLine N  μ  = some o) : SW G ad lay0 ν 0 0 0 [some (.ref 32), some (.ref 1), none, none, none] [] μ := by
  unfold f_bookR_readLine at h
  refine SW.aload_n (pc := 0) g (dt dt_X1_readLine 0 rfl) rfl ?_
  refine SW.getI (pc := 1) g (dt dt_X1_readLine 1 rfl) fl_X1_28 cell_1 rfl ?_
  refine SW.sipush (pc := 4) (v := 257) g (dt dt_X1_readLine 2 rfl) ks_257 ?_
  refine SW.icmp_ne (pc := 7) (t := 14) g (dt dt_X1_readLine 3 rfl) rfl (fun hc => ?_) (fun hc => ?_)
  · have h := iteF hc h
    refine SW.iconst (pc := 14) (v := 0) g (dt dt_X1_readLine 6 rfl) ki_0 ?_
    refine SW.msk [true, true, false, false, false] ?_
    exact ok_f_bookR_readLine_15  g hm  ho    μ 0 h
  · have h := iteT hc h
    refine SW.iconst (pc := 10) (v := 1) g (dt dt_X1_readLine 4 rfl) ki_1 ?_
    refine SW.goto (pc := 11) (t := 15) g (dt dt_X1_readLine 5 rfl) rfl ?_
    refine SW.msk [true, true, false, false, false] ?_
    exact ok_f_bookR_readLine_15  g hm  ho    μ 1 h
set_option maxRecDepth 100000 in
set_option maxHeartbeats 4000000 in
theorem mt_f_bookR_readLine (l : Launch) (D : va_G) (cI cL : ClassId) (ad : Nat → Nat) (ν : sw_N)    (N : Nat) (μ : sw_M)  (o : Int32 × sw_M) (h : f_bookR_readLine N  μ  = some o) : MetR l D cI cL yX1_readLine cX1_readLine 5 (some .boolean) 3 0 0 (fun a => a = ad) ad [.ref 32, .ref 1] lay0 μ ν (some (.int o.1)) lay0 o.2 ν :=
  MetR.of (n := 3) rfl (Nat.le_of_ble_eq_true rfl) (fun G g ho hm _ _ => ok_f_bookR_readLine  g hm  μ ho  h)
def f_bookR_read_7 (N : Nat)   : Nat → sw_M → Int32 → Option (Int32 × sw_M)
  | 0, _, _ => none
  | n + 1, μ, x2 =>
    if 8 < x2 then
      some (0, μ)
    else
      if (μ 1 4) = 256 then
        some (1, μ)
      else
        Option.bind (f_bookR_readLine N  μ ) (fun r1 =>
          if r1.1 = 0 then
            some (0, r1.2)
          else
            f_bookR_read_7 N   n r1.2 (x2 + 1))
def f_bookR_read (N : Nat)  (μ : sw_M)  : Option (Int32 × sw_M) :=
  wb (wr μ 32 0 0) (fun μ1 =>
    f_bookR_read_7 N   N μ1 0)
set_option maxRecDepth 100000 in
set_option maxHeartbeats 4000000 in
theorem ok_f_bookR_read_7 {G : sw_G} {ad : Nat → Nat} {ν : sw_N}   {N : Nat} {o : Int32 × sw_M} (g : sw_ok G cX1_read "DeadWires$Book" (some .boolean) 4 0 0 ad) (hm : G.2.2.1.2.1.maxLocals = 3)  (ho : sw_out G 0 0 (fun a => a = ad) (.inl (some (.int o.1))) lay0 o.2 ν)  : ∀ (n : Nat) (μ : sw_M) (x2 : Int32) (h : f_bookR_read_7 N   n μ x2 = some o), SW G ad lay0 ν 0 0 7 [some (.ref 32), some (.ref 1), some (.int x2)] [] μ := by
  intro n
  induction n with
  | zero => intro μ x2 h; simp only [f_bookR_read_7] at h; cases h
  | succ n ih =>
    intro μ x2 h
    unfold f_bookR_read_7 at h
    refine SW.iload_n (pc := 7) g (dt dt_X1_read 5 rfl) rfl ?_
    refine SW.bipush (pc := 8) (v := 8) g (dt dt_X1_read 6 rfl) kb_8 ?_
    refine SW.icmp_gt (pc := 10) (t := 41) g (dt dt_X1_read 7 rfl) rfl (fun hc => ?_) (fun hc => ?_)
    · have h := iteT hc h
      refine SW.iconst (pc := 41) (v := 0) g (dt dt_X1_read 22 rfl) ki_0 ?_
      exact SW.zreturn (pc := 42) g (leafW h ho) rfl (Nat.le_of_ble_eq_true rfl) (Nat.le_of_ble_eq_true rfl) (by decide) (dt dt_X1_read 23 rfl)
    · have h := iteF hc h
      refine SW.aload_n (pc := 13) g (dt dt_X1_read 8 rfl) rfl ?_
      refine SW.getI (pc := 14) g (dt dt_X1_read 9 rfl) fl_X1_28 cell_1 rfl ?_
      refine SW.sipush (pc := 17) (v := 256) g (dt dt_X1_read 10 rfl) ks_256 ?_
      refine SW.icmp_ne (pc := 20) (t := 25) g (dt dt_X1_read 11 rfl) rfl (fun hc => ?_) (fun hc => ?_)
      · have h := iteF hc h
        refine SW.aload_n (pc := 25) g (dt dt_X1_read 14 rfl) rfl ?_
        refine SW.aload_n (pc := 26) g (dt dt_X1_read 15 rfl) rfl ?_
        obtain ⟨r1, h2, h⟩ := bindI h
        refine SW.callVi (pc := 27) g (dt dt_X1_read 16 rfl) (mt_f_bookR_readLine _ _ _ _ ad ν   N μ  r1 h2) me_X1_readLine mv_X1_readLine ml_X1_33 cell_32 rfl rfl (Nat.le_of_ble_eq_true rfl) (Nat.le_of_ble_eq_true rfl) (Nat.le_of_ble_eq_true rfl) (Nat.le_of_ble_eq_true rfl) rfl ?_
        refine SW.if_ne (pc := 30) (t := 35) g (dt dt_X1_read 17 rfl) rfl (fun hc => ?_) (fun hc => ?_)
        · have h := iteF hc h
          refine SW.iinc (pc := 35) (v := x2 + 1) g (dt dt_X1_read 20 rfl) rfl (kn_1 _) (sw_ltm hm (Nat.le_of_ble_eq_true rfl)) rfl ?_
          refine SW.goto (pc := 38) (t := 7) g (dt dt_X1_read 21 rfl) rfl ?_
          refine SW.msk [true, true, true] ?_
          exact ih r1.2 (x2 + 1) h
        · have h := iteT hc h
          refine SW.iconst (pc := 33) (v := 0) g (dt dt_X1_read 18 rfl) ki_0 ?_
          exact SW.zreturn (pc := 34) g (leafW h ho) rfl (Nat.le_of_ble_eq_true rfl) (Nat.le_of_ble_eq_true rfl) (by decide) (dt dt_X1_read 19 rfl)
      · have h := iteT hc h
        refine SW.iconst (pc := 23) (v := 1) g (dt dt_X1_read 12 rfl) ki_1 ?_
        exact SW.zreturn (pc := 24) g (leafW h ho) rfl (Nat.le_of_ble_eq_true rfl) (Nat.le_of_ble_eq_true rfl) (by decide) (dt dt_X1_read 13 rfl)
set_option maxRecDepth 100000 in
set_option maxHeartbeats 4000000 in
theorem ok_f_bookR_read {G : sw_G} {ad : Nat → Nat} {ν : sw_N}   {N : Nat} {o : Int32 × sw_M} (g : sw_ok G cX1_read "DeadWires$Book" (some .boolean) 4 0 0 ad) (hm : G.2.2.1.2.1.maxLocals = 3)  (μ : sw_M) (ho : sw_out G 0 0 (fun a => a = ad) (.inl (some (.int o.1))) lay0 o.2 ν)  (h : f_bookR_read N  μ  = some o) : SW G ad lay0 ν 0 0 0 [some (.ref 32), some (.ref 1), none] [] μ := by
  unfold f_bookR_read at h
  refine SW.aload_n (pc := 0) g (dt dt_X1_read 0 rfl) rfl ?_
  refine SW.iconst (pc := 1) (v := 0) g (dt dt_X1_read 1 rfl) ki_0 ?_
  refine SW.putI (pc := 2) g (dt dt_X1_read 2 rfl) fl_X1_18 cell_32 rfl ?_
  refine SW.genM h (fun μ1 h => ?_)
  refine SW.iconst (pc := 5) (v := 0) g (dt dt_X1_read 3 rfl) ki_0 ?_
  refine SW.istore_n (pc := 6) g (dt dt_X1_read 4 rfl) (sw_ltm hm (Nat.le_of_ble_eq_true rfl)) rfl ?_
  refine SW.msk [true, true, true] ?_
  exact ok_f_bookR_read_7  g hm  ho   N μ1 0 h
set_option maxRecDepth 100000 in
set_option maxHeartbeats 4000000 in
theorem mt_f_bookR_read (l : Launch) (D : va_G) (cI cL : ClassId) (ad : Nat → Nat) (ν : sw_N)    (N : Nat) (μ : sw_M)  (o : Int32 × sw_M) (h : f_bookR_read N  μ  = some o) : MetR l D cI cL yX1_read cX1_read 3 (some .boolean) 4 0 0 (fun a => a = ad) ad [.ref 32, .ref 1] lay0 μ ν (some (.int o.1)) lay0 o.2 ν :=
  MetR.of (n := 1) rfl (Nat.le_of_ble_eq_true rfl) (fun G g ho hm _ _ => ok_f_bookR_read  g hm  μ ho  h)
def f_book_clear (N : Nat)  (μ : sw_M)  : Option (sw_M) :=
  wb (wr μ 29 0 0) (fun μ1 =>
    some μ1)
set_option maxRecDepth 100000 in
set_option maxHeartbeats 4000000 in
theorem ok_f_book_clear {G : sw_G} {ad : Nat → Nat} {ν : sw_N}   {N : Nat} {o : sw_M} (g : sw_ok G cX1_clear "DeadWires$Book" none 1 0 0 ad) (hm : G.2.2.1.2.1.maxLocals = 1)  (μ : sw_M) (ho : sw_out G 0 0 (fun a => a = ad) (.inl none) lay0 o ν)  (h : f_book_clear N  μ  = some o) : SW G ad lay0 ν 0 0 0 [some (.ref 29)] [] μ := by
  unfold f_book_clear at h
  refine SW.aload_n (pc := 0) g (dt dt_X1_clear 0 rfl) rfl ?_
  refine SW.iconst (pc := 1) (v := 0) g (dt dt_X1_clear 1 rfl) ki_0 ?_
  refine SW.putI (pc := 2) g (dt dt_X1_clear 2 rfl) fl_X1_18 cell_29 rfl ?_
  refine SW.genM h (fun μ1 h => ?_)
  exact SW.vreturn (pc := 5) g (leafV h ho) rfl (Nat.le_of_ble_eq_true rfl) (Nat.le_of_ble_eq_true rfl) (dt dt_X1_clear 3 rfl)
set_option maxRecDepth 100000 in
set_option maxHeartbeats 4000000 in
theorem mt_f_book_clear (l : Launch) (D : va_G) (cI cL : ClassId) (ad : Nat → Nat) (ν : sw_N)    (N : Nat) (μ : sw_M)  (o : sw_M) (h : f_book_clear N  μ  = some o) : MetR l D cI cL yX1_clear cX1_clear 1 none 1 0 0 (fun a => a = ad) ad [.ref 29] lay0 μ ν none lay0 o ν :=
  MetR.of (n := 0) rfl (Nat.le_of_ble_eq_true rfl) (fun G g ho hm _ _ => ok_f_book_clear  g hm  μ ho  h)
def f_book_copy (N : Nat)  (μ : sw_M)  : Option (sw_M) :=
  wb (wr μ 29 0 (μ 32 0)) (fun μ1 =>
    cpc 0 0 8 8 8 (wb (wrR μ1 30 (va_cpy (μ1 33) (μ1 30) (0 : Int32).toNatClampNeg (0 : Int32).toNatClampNeg (8 : Int32).toNatClampNeg)) (fun μ3 =>
      cpc 0 0 8 8 8 (wb (wrR μ3 31 (va_cpy (μ3 34) (μ3 31) (0 : Int32).toNatClampNeg (0 : Int32).toNatClampNeg (8 : Int32).toNatClampNeg)) (fun μ5 =>
        some μ5)))))
set_option maxRecDepth 100000 in
set_option maxHeartbeats 4000000 in
theorem ok_f_book_copy {G : sw_G} {ad : Nat → Nat} {ν : sw_N}   {N : Nat} {o : sw_M} (g : sw_ok G cX1_copy "DeadWires$Book" none 1 0 0 ad) (hm : G.2.2.1.2.1.maxLocals = 2)  (μ : sw_M) (ho : sw_out G 0 0 (fun a => a = ad) (.inl none) lay0 o ν)  (h : f_book_copy N  μ  = some o) : SW G ad lay0 ν 0 0 0 [some (.ref 29), some (.ref 32)] [] μ := by
  unfold f_book_copy at h
  refine SW.aload_n (pc := 0) g (dt dt_X1_copy 0 rfl) rfl ?_
  refine SW.aload_n (pc := 1) g (dt dt_X1_copy 1 rfl) rfl ?_
  refine SW.getI (pc := 2) g (dt dt_X1_copy 2 rfl) fl_X1_18 cell_32 rfl ?_
  refine SW.putI (pc := 5) g (dt dt_X1_copy 3 rfl) fl_X1_18 cell_29 rfl ?_
  refine SW.genM h (fun μ1 h => ?_)
  refine SW.aload_n (pc := 8) g (dt dt_X1_copy 4 rfl) rfl ?_
  refine SW.getR (pc := 9) g (dt dt_X1_copy 5 rfl) fl_X1_9 cell_32 rfl ?_
  refine SW.iconst (pc := 12) (v := 0) g (dt dt_X1_copy 6 rfl) ki_0 ?_
  refine SW.aload_n (pc := 13) g (dt dt_X1_copy 7 rfl) rfl ?_
  refine SW.getR (pc := 14) g (dt dt_X1_copy 8 rfl) fl_X1_9 cell_29 rfl ?_
  refine SW.iconst (pc := 17) (v := 0) g (dt dt_X1_copy 9 rfl) ki_0 ?_
  refine SW.bipush (pc := 18) (v := 8) g (dt dt_X1_copy 10 rfl) kb_8 ?_
  obtain ⟨hq2, h⟩ := cpcI h
  refine SW.acopy (pc := 20) g (dt dt_X1_copy 11 rfl) ml_X1_22 ac_n ac_s ac_i cell_33 cell_30 hq2.1 hq2.2.1 hq2.2.2.1 hq2.2.2.2.1 hq2.2.2.2.2 (Nat.le_of_ble_eq_true rfl) (Nat.le_of_ble_eq_true rfl) ?_
  refine SW.genM h (fun μ3 h => ?_)
  refine SW.aload_n (pc := 23) g (dt dt_X1_copy 12 rfl) rfl ?_
  refine SW.getR (pc := 24) g (dt dt_X1_copy 13 rfl) fl_X1_15 cell_32 rfl ?_
  refine SW.iconst (pc := 27) (v := 0) g (dt dt_X1_copy 14 rfl) ki_0 ?_
  refine SW.aload_n (pc := 28) g (dt dt_X1_copy 15 rfl) rfl ?_
  refine SW.getR (pc := 29) g (dt dt_X1_copy 16 rfl) fl_X1_15 cell_29 rfl ?_
  refine SW.iconst (pc := 32) (v := 0) g (dt dt_X1_copy 17 rfl) ki_0 ?_
  refine SW.bipush (pc := 33) (v := 8) g (dt dt_X1_copy 18 rfl) kb_8 ?_
  obtain ⟨hq4, h⟩ := cpcI h
  refine SW.acopy (pc := 35) g (dt dt_X1_copy 19 rfl) ml_X1_22 ac_n ac_s ac_i cell_34 cell_31 hq4.1 hq4.2.1 hq4.2.2.1 hq4.2.2.2.1 hq4.2.2.2.2 (Nat.le_of_ble_eq_true rfl) (Nat.le_of_ble_eq_true rfl) ?_
  refine SW.genM h (fun μ5 h => ?_)
  exact SW.vreturn (pc := 38) g (leafV h ho) rfl (Nat.le_of_ble_eq_true rfl) (Nat.le_of_ble_eq_true rfl) (dt dt_X1_copy 20 rfl)
set_option maxRecDepth 100000 in
set_option maxHeartbeats 4000000 in
theorem mt_f_book_copy (l : Launch) (D : va_G) (cI cL : ClassId) (ad : Nat → Nat) (ν : sw_N)    (N : Nat) (μ : sw_M)  (o : sw_M) (h : f_book_copy N  μ  = some o) : MetR l D cI cL yX1_copy cX1_copy 2 none 1 0 0 (fun a => a = ad) ad [.ref 29, .ref 32] lay0 μ ν none lay0 o ν :=
  MetR.of (n := 0) rfl (Nat.le_of_ble_eq_true rfl) (fun G g ho hm _ _ => ok_f_book_copy  g hm  μ ho  h)
def f_days_begin_102 (N : Nat)   : Nat → sw_M → Int32 → Option (sw_M)
  | 0, _, _ => none
  | n + 1, μ, x1 =>
    if 5 ≤ x1 then
      some μ
    else
      inb x1 5 (wb (wr μ 40 x1.toNatClampNeg 0) (fun μ2 =>
        f_days_begin_102 N   n μ2 (x1 + 1)))
def f_days_begin_81 (N : Nat)   : Nat → sw_M → Int32 → Option (sw_M)
  | 0, _, _ => none
  | n + 1, μ, x1 =>
    if 6 ≤ x1 then
      f_days_begin_102 N   N μ 0
    else
      inb x1 6 (wb (wr μ 38 x1.toNatClampNeg (-1)) (fun μ2 =>
        f_days_begin_81 N   n μ2 (x1 + 1)))
def f_days_begin (N : Nat)  (μ : sw_M)  : Option (sw_M) :=
  wb (wr μ 35 2 0) (fun μ1 =>
    wb (wr μ1 35 3 (μ1 3 4)) (fun μ2 =>
      wb (wr μ2 35 4 0) (fun μ3 =>
        wb (wr μ3 35 5 0) (fun μ4 =>
          cpc 0 0 12 12 12 (wb (wrR μ4 36 (va_cpy (μ4 6) (μ4 36) (0 : Int32).toNatClampNeg (0 : Int32).toNatClampNeg (12 : Int32).toNatClampNeg)) (fun μ6 =>
            cpc 0 0 6 6 6 (wb (wrR μ6 37 (va_cpy (μ6 7) (μ6 37) (0 : Int32).toNatClampNeg (0 : Int32).toNatClampNeg (6 : Int32).toNatClampNeg)) (fun μ8 =>
              cpc 0 0 5 5 5 (wb (wrR μ8 39 (va_cpy (μ8 9) (μ8 39) (0 : Int32).toNatClampNeg (0 : Int32).toNatClampNeg (5 : Int32).toNatClampNeg)) (fun μ10 =>
                f_days_begin_81 N   N μ10 0))))))))))
set_option maxRecDepth 100000 in
set_option maxHeartbeats 4000000 in
theorem ok_f_days_begin_102 {G : sw_G} {ad : Nat → Nat} {ν : sw_N}   {N : Nat} {o : sw_M} (g : sw_ok G cX2_begin "DeadWires$Days" none 1 0 0 ad) (hm : G.2.2.1.2.1.maxLocals = 2)  (ho : sw_out G 0 0 (fun a => a = ad) (.inl none) lay0 o ν)  : ∀ (n : Nat) (μ : sw_M) (x1 : Int32) (h : f_days_begin_102 N   n μ x1 = some o), SW G ad lay0 ν 0 0 102 [some (.ref 35), some (.int x1)] [] μ := by
  intro n
  induction n with
  | zero => intro μ x1 h; simp only [f_days_begin_102] at h; cases h
  | succ n ih =>
    intro μ x1 h
    unfold f_days_begin_102 at h
    refine SW.iload_n (pc := 102) g (dt dt_X2_begin 55 rfl) rfl ?_
    refine SW.iconst (pc := 103) (v := 5) g (dt dt_X2_begin 56 rfl) ki_5 ?_
    refine SW.icmp_ge (pc := 104) (t := 120) g (dt dt_X2_begin 57 rfl) rfl (fun hc => ?_) (fun hc => ?_)
    · have h := iteT hc h
      exact SW.vreturn (pc := 120) g (leafV h ho) rfl (Nat.le_of_ble_eq_true rfl) (Nat.le_of_ble_eq_true rfl) (dt dt_X2_begin 65 rfl)
    · have h := iteF hc h
      refine SW.aload_n (pc := 107) g (dt dt_X2_begin 58 rfl) rfl ?_
      refine SW.getR (pc := 108) g (dt dt_X2_begin 59 rfl) fl_X2_24 cell_35 rfl ?_
      refine SW.iload_n (pc := 111) g (dt dt_X2_begin 60 rfl) rfl ?_
      refine SW.iconst (pc := 112) (v := 0) g (dt dt_X2_begin 61 rfl) ki_0 ?_
      obtain ⟨hb1, h⟩ := inbI h
      refine SW.iastore (pc := 113) g (dt dt_X2_begin 62 rfl) cell_40 hb1 ?_
      refine SW.genM h (fun μ2 h => ?_)
      refine SW.iinc (pc := 114) (v := x1 + 1) g (dt dt_X2_begin 63 rfl) rfl (kn_1 _) (sw_ltm hm (Nat.le_of_ble_eq_true rfl)) rfl ?_
      refine SW.goto (pc := 117) (t := 102) g (dt dt_X2_begin 64 rfl) rfl ?_
      refine SW.msk [true, true] ?_
      exact ih μ2 (x1 + 1) h
set_option maxRecDepth 100000 in
set_option maxHeartbeats 4000000 in
theorem ok_f_days_begin_81 {G : sw_G} {ad : Nat → Nat} {ν : sw_N}   {N : Nat} {o : sw_M} (g : sw_ok G cX2_begin "DeadWires$Days" none 1 0 0 ad) (hm : G.2.2.1.2.1.maxLocals = 2)  (ho : sw_out G 0 0 (fun a => a = ad) (.inl none) lay0 o ν)  : ∀ (n : Nat) (μ : sw_M) (x1 : Int32) (h : f_days_begin_81 N   n μ x1 = some o), SW G ad lay0 ν 0 0 81 [some (.ref 35), some (.int x1)] [] μ := by
  intro n
  induction n with
  | zero => intro μ x1 h; simp only [f_days_begin_81] at h; cases h
  | succ n ih =>
    intro μ x1 h
    unfold f_days_begin_81 at h
    refine SW.iload_n (pc := 81) g (dt dt_X2_begin 43 rfl) rfl ?_
    refine SW.bipush (pc := 82) (v := 6) g (dt dt_X2_begin 44 rfl) kb_6 ?_
    refine SW.icmp_ge (pc := 84) (t := 100) g (dt dt_X2_begin 45 rfl) rfl (fun hc => ?_) (fun hc => ?_)
    · have h := iteT hc h
      refine SW.iconst (pc := 100) (v := 0) g (dt dt_X2_begin 53 rfl) ki_0 ?_
      refine SW.istore_n (pc := 101) g (dt dt_X2_begin 54 rfl) (sw_ltm hm (Nat.le_of_ble_eq_true rfl)) rfl ?_
      refine SW.msk [true, true] ?_
      exact ok_f_days_begin_102  g hm  ho   N μ 0 h
    · have h := iteF hc h
      refine SW.aload_n (pc := 87) g (dt dt_X2_begin 46 rfl) rfl ?_
      refine SW.getR (pc := 88) g (dt dt_X2_begin 47 rfl) fl_X2_18 cell_35 rfl ?_
      refine SW.iload_n (pc := 91) g (dt dt_X2_begin 48 rfl) rfl ?_
      refine SW.iconst (pc := 92) (v := (-1)) g (dt dt_X2_begin 49 rfl) ki_m1 ?_
      obtain ⟨hb1, h⟩ := inbI h
      refine SW.iastore (pc := 93) g (dt dt_X2_begin 50 rfl) cell_38 hb1 ?_
      refine SW.genM h (fun μ2 h => ?_)
      refine SW.iinc (pc := 94) (v := x1 + 1) g (dt dt_X2_begin 51 rfl) rfl (kn_1 _) (sw_ltm hm (Nat.le_of_ble_eq_true rfl)) rfl ?_
      refine SW.goto (pc := 97) (t := 81) g (dt dt_X2_begin 52 rfl) rfl ?_
      refine SW.msk [true, true] ?_
      exact ih μ2 (x1 + 1) h
set_option maxRecDepth 100000 in
set_option maxHeartbeats 4000000 in
theorem ok_f_days_begin {G : sw_G} {ad : Nat → Nat} {ν : sw_N}   {N : Nat} {o : sw_M} (g : sw_ok G cX2_begin "DeadWires$Days" none 1 0 0 ad) (hm : G.2.2.1.2.1.maxLocals = 2)  (μ : sw_M) (ho : sw_out G 0 0 (fun a => a = ad) (.inl none) lay0 o ν)  (h : f_days_begin N  μ  = some o) : SW G ad lay0 ν 0 0 0 [some (.ref 35), none] [] μ := by
  unfold f_days_begin at h
  refine SW.aload_n (pc := 0) g (dt dt_X2_begin 0 rfl) rfl ?_
  refine SW.iconst (pc := 1) (v := 0) g (dt dt_X2_begin 1 rfl) ki_0 ?_
  refine SW.putI (pc := 2) g (dt dt_X2_begin 2 rfl) fl_X2_38 cell_35 rfl ?_
  refine SW.genM h (fun μ1 h => ?_)
  refine SW.aload_n (pc := 5) g (dt dt_X2_begin 3 rfl) rfl ?_
  refine SW.aload_n (pc := 6) g (dt dt_X2_begin 4 rfl) rfl ?_
  refine SW.getR (pc := 7) g (dt dt_X2_begin 5 rfl) fl_X2_27 cell_35 rfl ?_
  refine SW.getI (pc := 10) g (dt dt_X2_begin 6 rfl) fl_X2_42 cell_3 rfl ?_
  refine SW.putI (pc := 13) g (dt dt_X2_begin 7 rfl) fl_X2_47 cell_35 rfl ?_
  refine SW.genM h (fun μ2 h => ?_)
  refine SW.aload_n (pc := 16) g (dt dt_X2_begin 8 rfl) rfl ?_
  refine SW.iconst (pc := 17) (v := 0) g (dt dt_X2_begin 9 rfl) ki_0 ?_
  refine SW.putI (pc := 18) g (dt dt_X2_begin 10 rfl) fl_X2_50 cell_35 rfl ?_
  refine SW.genM h (fun μ3 h => ?_)
  refine SW.aload_n (pc := 21) g (dt dt_X2_begin 11 rfl) rfl ?_
  refine SW.iconst (pc := 22) (v := 0) g (dt dt_X2_begin 12 rfl) ki_0 ?_
  refine SW.putI (pc := 23) g (dt dt_X2_begin 13 rfl) fl_X2_53 cell_35 rfl ?_
  refine SW.genM h (fun μ4 h => ?_)
  refine SW.aload_n (pc := 26) g (dt dt_X2_begin 14 rfl) rfl ?_
  refine SW.getR (pc := 27) g (dt dt_X2_begin 15 rfl) fl_X2_27 cell_35 rfl ?_
  refine SW.getR (pc := 30) g (dt dt_X2_begin 16 rfl) fl_X2_56 cell_3 rfl ?_
  refine SW.iconst (pc := 33) (v := 0) g (dt dt_X2_begin 17 rfl) ki_0 ?_
  refine SW.aload_n (pc := 34) g (dt dt_X2_begin 18 rfl) rfl ?_
  refine SW.getR (pc := 35) g (dt dt_X2_begin 19 rfl) fl_X2_9 cell_35 rfl ?_
  refine SW.iconst (pc := 38) (v := 0) g (dt dt_X2_begin 20 rfl) ki_0 ?_
  refine SW.bipush (pc := 39) (v := 12) g (dt dt_X2_begin 21 rfl) kb_12 ?_
  obtain ⟨hq5, h⟩ := cpcI h
  refine SW.acopy (pc := 41) g (dt dt_X2_begin 22 rfl) ml_X2_59 ac_n ac_s ac_i cell_6 cell_36 hq5.1 hq5.2.1 hq5.2.2.1 hq5.2.2.2.1 hq5.2.2.2.2 (Nat.le_of_ble_eq_true rfl) (Nat.le_of_ble_eq_true rfl) ?_
  refine SW.genM h (fun μ6 h => ?_)
  refine SW.aload_n (pc := 44) g (dt dt_X2_begin 23 rfl) rfl ?_
  refine SW.getR (pc := 45) g (dt dt_X2_begin 24 rfl) fl_X2_27 cell_35 rfl ?_
  refine SW.getR (pc := 48) g (dt dt_X2_begin 25 rfl) fl_X2_65 cell_3 rfl ?_
  refine SW.iconst (pc := 51) (v := 0) g (dt dt_X2_begin 26 rfl) ki_0 ?_
  refine SW.aload_n (pc := 52) g (dt dt_X2_begin 27 rfl) rfl ?_
  refine SW.getR (pc := 53) g (dt dt_X2_begin 28 rfl) fl_X2_15 cell_35 rfl ?_
  refine SW.iconst (pc := 56) (v := 0) g (dt dt_X2_begin 29 rfl) ki_0 ?_
  refine SW.bipush (pc := 57) (v := 6) g (dt dt_X2_begin 30 rfl) kb_6 ?_
  obtain ⟨hq7, h⟩ := cpcI h
  refine SW.acopy (pc := 59) g (dt dt_X2_begin 31 rfl) ml_X2_59 ac_n ac_s ac_i cell_7 cell_37 hq7.1 hq7.2.1 hq7.2.2.1 hq7.2.2.2.1 hq7.2.2.2.2 (Nat.le_of_ble_eq_true rfl) (Nat.le_of_ble_eq_true rfl) ?_
  refine SW.genM h (fun μ8 h => ?_)
  refine SW.aload_n (pc := 62) g (dt dt_X2_begin 32 rfl) rfl ?_
  refine SW.getR (pc := 63) g (dt dt_X2_begin 33 rfl) fl_X2_27 cell_35 rfl ?_
  refine SW.getR (pc := 66) g (dt dt_X2_begin 34 rfl) fl_X2_68 cell_3 rfl ?_
  refine SW.iconst (pc := 69) (v := 0) g (dt dt_X2_begin 35 rfl) ki_0 ?_
  refine SW.aload_n (pc := 70) g (dt dt_X2_begin 36 rfl) rfl ?_
  refine SW.getR (pc := 71) g (dt dt_X2_begin 37 rfl) fl_X2_21 cell_35 rfl ?_
  refine SW.iconst (pc := 74) (v := 0) g (dt dt_X2_begin 38 rfl) ki_0 ?_
  refine SW.iconst (pc := 75) (v := 5) g (dt dt_X2_begin 39 rfl) ki_5 ?_
  obtain ⟨hq9, h⟩ := cpcI h
  refine SW.acopy (pc := 76) g (dt dt_X2_begin 40 rfl) ml_X2_59 ac_n ac_s ac_i cell_9 cell_39 hq9.1 hq9.2.1 hq9.2.2.1 hq9.2.2.2.1 hq9.2.2.2.2 (Nat.le_of_ble_eq_true rfl) (Nat.le_of_ble_eq_true rfl) ?_
  refine SW.genM h (fun μ10 h => ?_)
  refine SW.iconst (pc := 79) (v := 0) g (dt dt_X2_begin 41 rfl) ki_0 ?_
  refine SW.istore_n (pc := 80) g (dt dt_X2_begin 42 rfl) (sw_ltm hm (Nat.le_of_ble_eq_true rfl)) rfl ?_
  refine SW.msk [true, true] ?_
  exact ok_f_days_begin_81  g hm  ho   N μ10 0 h
set_option maxRecDepth 100000 in
set_option maxHeartbeats 4000000 in
theorem mt_f_days_begin (l : Launch) (D : va_G) (cI cL : ClassId) (ad : Nat → Nat) (ν : sw_N)    (N : Nat) (μ : sw_M)  (o : sw_M) (h : f_days_begin N  μ  = some o) : MetR l D cI cL yX2_begin cX2_begin 2 none 1 0 0 (fun a => a = ad) ad [.ref 35] lay0 μ ν none lay0 o ν :=
  MetR.of (n := 1) rfl (Nat.le_of_ble_eq_true rfl) (fun G g ho hm _ _ => ok_f_days_begin  g hm  μ ho  h)
def f_days_isCut (N : Nat)  (μ : sw_M) (a1 : Int32) : Option (Int32) :=
  if (((μ 35 4) >>> (a1 &&& 31)) &&& 1) = 0 then
    some 0
  else
    some 1
set_option maxRecDepth 100000 in
set_option maxHeartbeats 4000000 in
theorem ok_f_days_isCut {G : sw_G} {ad : Nat → Nat} {ν : sw_N}   {N : Nat} {o : Int32} (g : sw_ok G cX2_isCut "DeadWires$Days" (some .boolean) 1 0 0 ad) (hm : G.2.2.1.2.1.maxLocals = 2)  (μ : sw_M) (ho : sw_out G 0 0 (fun a => a = ad) (.inl (some (.int o))) lay0 μ ν) (a1 : Int32) (h : f_days_isCut N  μ a1 = some o) : SW G ad lay0 ν 0 0 0 [some (.ref 35), some (.int a1)] [] μ := by
  unfold f_days_isCut at h
  refine SW.aload_n (pc := 0) g (dt dt_X2_isCut 0 rfl) rfl ?_
  refine SW.getI (pc := 1) g (dt dt_X2_isCut 1 rfl) fl_X2_50 cell_35 rfl ?_
  refine SW.iload_n (pc := 4) g (dt dt_X2_isCut 2 rfl) rfl ?_
  refine SW.ishr (pc := 5) g (dt dt_X2_isCut 3 rfl) ?_
  refine SW.iconst (pc := 6) (v := 1) g (dt dt_X2_isCut 4 rfl) ki_1 ?_
  refine SW.iand (pc := 7) g (dt dt_X2_isCut 5 rfl) ?_
  refine SW.if_eq (pc := 8) (t := 15) g (dt dt_X2_isCut 6 rfl) rfl (fun hc => ?_) (fun hc => ?_)
  · have h := iteT hc h
    refine SW.iconst (pc := 15) (v := 0) g (dt dt_X2_isCut 9 rfl) ki_0 ?_
    exact SW.zreturn (pc := 16) g (leafI h ho) rfl (Nat.le_of_ble_eq_true rfl) (Nat.le_of_ble_eq_true rfl) (by decide) (dt dt_X2_isCut 10 rfl)
  · have h := iteF hc h
    refine SW.iconst (pc := 11) (v := 1) g (dt dt_X2_isCut 7 rfl) ki_1 ?_
    refine SW.goto (pc := 12) (t := 16) g (dt dt_X2_isCut 8 rfl) rfl ?_
    exact SW.zreturn (pc := 16) g (leafI h ho) rfl (Nat.le_of_ble_eq_true rfl) (Nat.le_of_ble_eq_true rfl) (by decide) (dt dt_X2_isCut 10 rfl)
set_option maxRecDepth 100000 in
set_option maxHeartbeats 4000000 in
theorem mt_f_days_isCut (l : Launch) (D : va_G) (cI cL : ClassId) (ad : Nat → Nat) (ν : sw_N)    (N : Nat) (μ : sw_M) (a1 : Int32) (o : Int32) (h : f_days_isCut N  μ a1 = some o) : MetR l D cI cL yX2_isCut cX2_isCut 2 (some .boolean) 1 0 0 (fun a => a = ad) ad [.ref 35, .int a1] lay0 μ ν (some (.int o)) lay0 μ ν :=
  MetR.of (n := 0) rfl (Nat.le_of_ble_eq_true rfl) (fun G g ho hm _ _ => ok_f_days_isCut  g hm  μ ho a1 h)
def f_days_isLive (N : Nat)  (μ : sw_M) (a1 : Int32) (a2 : Int32) : Option (Int32) :=
  Option.bind (f_days_isCut N  μ a1) (fun r1 =>
    if r1 = 0 then
      Option.bind (f_sx_at N 36 12 μ a1) (fun r3 =>
        if ((μ 35 2) + a2) < r3 then
          some 0
        else
          some 1)
    else
      some 0)
set_option maxRecDepth 100000 in
set_option maxHeartbeats 4000000 in
theorem ok_f_days_isLive {G : sw_G} {ad : Nat → Nat} {ν : sw_N}   {N : Nat} {o : Int32} (g : sw_ok G cX2_isLive "DeadWires$Days" (some .boolean) 2 0 0 ad) (hm : G.2.2.1.2.1.maxLocals = 3)  (μ : sw_M) (ho : sw_out G 0 0 (fun a => a = ad) (.inl (some (.int o))) lay0 μ ν) (a1 : Int32) (a2 : Int32) (h : f_days_isLive N  μ a1 a2 = some o) : SW G ad lay0 ν 0 0 0 [some (.ref 35), some (.int a1), some (.int a2)] [] μ := by
  unfold f_days_isLive at h
  refine SW.aload_n (pc := 0) g (dt dt_X2_isLive 0 rfl) rfl ?_
  refine SW.iload_n (pc := 1) g (dt dt_X2_isLive 1 rfl) rfl ?_
  obtain ⟨r1, h2, h⟩ := bindI h
  refine SW.callVi (pc := 2) g (dt dt_X2_isLive 2 rfl) (mt_f_days_isCut _ _ _ _ ad ν   N μ a1 r1 h2) me_X2_isCut mv_X2_isCut ml_X2_75 cell_35 rfl rfl (Nat.le_of_ble_eq_true rfl) (Nat.le_of_ble_eq_true rfl) (Nat.le_of_ble_eq_true rfl) (Nat.le_of_ble_eq_true rfl) rfl ?_
  refine SW.if_ne (pc := 5) (t := 29) g (dt dt_X2_isLive 3 rfl) rfl (fun hc => ?_) (fun hc => ?_)
  · have h := iteF hc h
    refine SW.iconst (pc := 29) (v := 0) g (dt dt_X2_isLive 15 rfl) ki_0 ?_
    exact SW.zreturn (pc := 30) g (leafI h ho) rfl (Nat.le_of_ble_eq_true rfl) (Nat.le_of_ble_eq_true rfl) (by decide) (dt dt_X2_isLive 16 rfl)
  · have h := iteT hc h
    refine SW.aload_n (pc := 8) g (dt dt_X2_isLive 4 rfl) rfl ?_
    refine SW.getI (pc := 9) g (dt dt_X2_isLive 5 rfl) fl_X2_38 cell_35 rfl ?_
    refine SW.iload_n (pc := 12) g (dt dt_X2_isLive 6 rfl) rfl ?_
    refine SW.iadd (pc := 13) g (dt dt_X2_isLive 7 rfl) ?_
    refine SW.aload_n (pc := 14) g (dt dt_X2_isLive 8 rfl) rfl ?_
    refine SW.getR (pc := 15) g (dt dt_X2_isLive 9 rfl) fl_X2_9 cell_35 rfl ?_
    refine SW.iload_n (pc := 18) g (dt dt_X2_isLive 10 rfl) rfl ?_
    obtain ⟨r3, h4, h⟩ := bindI h
    refine SW.callSNi (pc := 19) g (dt dt_X2_isLive 11 rfl) (mt_f_sx_at _ _ _ _ ad ν lay0 36 12 cell_36 N μ a1 r3 h4) me_X10_at ms_X10_at mn_X2_79 rfl (Nat.le_of_ble_eq_true rfl) (Nat.le_of_ble_eq_true rfl) (Nat.le_of_ble_eq_true rfl) (Nat.le_of_ble_eq_true rfl) rfl ?_
    refine SW.icmp_lt (pc := 22) (t := 29) g (dt dt_X2_isLive 12 rfl) rfl (fun hc => ?_) (fun hc => ?_)
    · have h := iteT hc h
      refine SW.iconst (pc := 29) (v := 0) g (dt dt_X2_isLive 15 rfl) ki_0 ?_
      exact SW.zreturn (pc := 30) g (leafI h ho) rfl (Nat.le_of_ble_eq_true rfl) (Nat.le_of_ble_eq_true rfl) (by decide) (dt dt_X2_isLive 16 rfl)
    · have h := iteF hc h
      refine SW.iconst (pc := 25) (v := 1) g (dt dt_X2_isLive 13 rfl) ki_1 ?_
      refine SW.goto (pc := 26) (t := 30) g (dt dt_X2_isLive 14 rfl) rfl ?_
      exact SW.zreturn (pc := 30) g (leafI h ho) rfl (Nat.le_of_ble_eq_true rfl) (Nat.le_of_ble_eq_true rfl) (by decide) (dt dt_X2_isLive 16 rfl)
set_option maxRecDepth 100000 in
set_option maxHeartbeats 4000000 in
theorem mt_f_days_isLive (l : Launch) (D : va_G) (cI cL : ClassId) (ad : Nat → Nat) (ν : sw_N)    (N : Nat) (μ : sw_M) (a1 : Int32) (a2 : Int32) (o : Int32) (h : f_days_isLive N  μ a1 a2 = some o) : MetR l D cI cL yX2_isLive cX2_isLive 3 (some .boolean) 2 0 0 (fun a => a = ad) ad [.ref 35, .int a1, .int a2] lay0 μ ν (some (.int o)) lay0 μ ν :=
  MetR.of (n := 0) rfl (Nat.le_of_ble_eq_true rfl) (fun G g ho hm _ _ => ok_f_days_isLive  g hm  μ ho a1 a2 h)
def f_days_liveBits_4 (N : Nat)  (μ : sw_M)  : Nat → Int32 → Int32 → Int32 → Option (Int32)
  | 0, _, _, _ => none
  | n + 1, x1, x2, x3 =>
    if (μ 3 1) ≤ x3 then
      some x2
    else
      Option.bind (f_days_isLive N  μ x3 x1) (fun r1 =>
        if r1 = 0 then
          f_days_liveBits_4 N  μ  n x1 x2 (x3 + 1)
        else
          ib (x2 ||| ((1 : Int32) <<< (x3 &&& 31))) (fun y3 =>
            f_days_liveBits_4 N  μ  n x1 y3 (x3 + 1)))
def f_days_liveBits (N : Nat)  (μ : sw_M) (a1 : Int32) : Option (Int32) :=
  f_days_liveBits_4 N  μ  N a1 0 0
set_option maxRecDepth 100000 in
set_option maxHeartbeats 4000000 in
theorem ok_f_days_liveBits_4 {G : sw_G} {ad : Nat → Nat} {ν : sw_N}   {N : Nat} {o : Int32} (g : sw_ok G cX2_liveBits "DeadWires$Days" (some .int) 3 0 0 ad) (hm : G.2.2.1.2.1.maxLocals = 4)  (μ : sw_M) (ho : sw_out G 0 0 (fun a => a = ad) (.inl (some (.int o))) lay0 μ ν)  : ∀ (n : Nat) (x1 : Int32) (x2 : Int32) (x3 : Int32) (h : f_days_liveBits_4 N  μ  n x1 x2 x3 = some o), SW G ad lay0 ν 0 0 4 [some (.ref 35), some (.int x1), some (.int x2), some (.int x3)] [] μ := by
  intro n
  induction n with
  | zero => intro x1 x2 x3 h; simp only [f_days_liveBits_4] at h; cases h
  | succ n ih =>
    intro x1 x2 x3 h
    unfold f_days_liveBits_4 at h
    refine SW.iload_n (pc := 4) g (dt dt_X2_liveBits 4 rfl) rfl ?_
    refine SW.aload_n (pc := 5) g (dt dt_X2_liveBits 5 rfl) rfl ?_
    refine SW.getR (pc := 6) g (dt dt_X2_liveBits 6 rfl) fl_X2_27 cell_35 rfl ?_
    refine SW.getI (pc := 9) g (dt dt_X2_liveBits 7 rfl) fl_X2_83 cell_3 rfl ?_
    refine SW.icmp_ge (pc := 12) (t := 36) g (dt dt_X2_liveBits 8 rfl) rfl (fun hc => ?_) (fun hc => ?_)
    · have h := iteT hc h
      refine SW.iload_n (pc := 36) g (dt dt_X2_liveBits 22 rfl) rfl ?_
      exact SW.ireturn (pc := 37) g (leafI h ho) rfl (Nat.le_of_ble_eq_true rfl) (Nat.le_of_ble_eq_true rfl) (dt dt_X2_liveBits 23 rfl)
    · have h := iteF hc h
      refine SW.aload_n (pc := 15) g (dt dt_X2_liveBits 9 rfl) rfl ?_
      refine SW.iload_n (pc := 16) g (dt dt_X2_liveBits 10 rfl) rfl ?_
      refine SW.iload_n (pc := 17) g (dt dt_X2_liveBits 11 rfl) rfl ?_
      obtain ⟨r1, h2, h⟩ := bindI h
      refine SW.callVi (pc := 18) g (dt dt_X2_liveBits 12 rfl) (mt_f_days_isLive _ _ _ _ ad ν   N μ x3 x1 r1 h2) me_X2_isLive mv_X2_isLive ml_X2_86 cell_35 rfl rfl (Nat.le_of_ble_eq_true rfl) (Nat.le_of_ble_eq_true rfl) (Nat.le_of_ble_eq_true rfl) (Nat.le_of_ble_eq_true rfl) rfl ?_
      refine SW.if_eq (pc := 21) (t := 30) g (dt dt_X2_liveBits 13 rfl) rfl (fun hc => ?_) (fun hc => ?_)
      · have h := iteT hc h
        refine SW.iinc (pc := 30) (v := x3 + 1) g (dt dt_X2_liveBits 20 rfl) rfl (kn_1 _) (sw_ltm hm (Nat.le_of_ble_eq_true rfl)) rfl ?_
        refine SW.goto (pc := 33) (t := 4) g (dt dt_X2_liveBits 21 rfl) rfl ?_
        refine SW.msk [true, true, true, true] ?_
        exact ih  x1 x2 (x3 + 1) h
      · have h := iteF hc h
        refine SW.iload_n (pc := 24) g (dt dt_X2_liveBits 14 rfl) rfl ?_
        refine SW.iconst (pc := 25) (v := 1) g (dt dt_X2_liveBits 15 rfl) ki_1 ?_
        refine SW.iload_n (pc := 26) g (dt dt_X2_liveBits 16 rfl) rfl ?_
        refine SW.ishl (pc := 27) g (dt dt_X2_liveBits 17 rfl) ?_
        refine SW.ior (pc := 28) g (dt dt_X2_liveBits 18 rfl) ?_
        refine SW.istore_n (pc := 29) g (dt dt_X2_liveBits 19 rfl) (sw_ltm hm (Nat.le_of_ble_eq_true rfl)) rfl ?_
        refine SW.genL h (fun y3 h => ?_)
        refine SW.iinc (pc := 30) (v := x3 + 1) g (dt dt_X2_liveBits 20 rfl) rfl (kn_1 _) (sw_ltm hm (Nat.le_of_ble_eq_true rfl)) rfl ?_
        refine SW.goto (pc := 33) (t := 4) g (dt dt_X2_liveBits 21 rfl) rfl ?_
        refine SW.msk [true, true, true, true] ?_
        exact ih  x1 y3 (x3 + 1) h
set_option maxRecDepth 100000 in
set_option maxHeartbeats 4000000 in
theorem ok_f_days_liveBits {G : sw_G} {ad : Nat → Nat} {ν : sw_N}   {N : Nat} {o : Int32} (g : sw_ok G cX2_liveBits "DeadWires$Days" (some .int) 3 0 0 ad) (hm : G.2.2.1.2.1.maxLocals = 4)  (μ : sw_M) (ho : sw_out G 0 0 (fun a => a = ad) (.inl (some (.int o))) lay0 μ ν) (a1 : Int32) (h : f_days_liveBits N  μ a1 = some o) : SW G ad lay0 ν 0 0 0 [some (.ref 35), some (.int a1), none, none] [] μ := by
  unfold f_days_liveBits at h
  refine SW.iconst (pc := 0) (v := 0) g (dt dt_X2_liveBits 0 rfl) ki_0 ?_
  refine SW.istore_n (pc := 1) g (dt dt_X2_liveBits 1 rfl) (sw_ltm hm (Nat.le_of_ble_eq_true rfl)) rfl ?_
  refine SW.iconst (pc := 2) (v := 0) g (dt dt_X2_liveBits 2 rfl) ki_0 ?_
  refine SW.istore_n (pc := 3) g (dt dt_X2_liveBits 3 rfl) (sw_ltm hm (Nat.le_of_ble_eq_true rfl)) rfl ?_
  refine SW.msk [true, true, true, true] ?_
  exact ok_f_days_liveBits_4  g hm  μ ho   N a1 0 0 h
set_option maxRecDepth 100000 in
set_option maxHeartbeats 4000000 in
theorem mt_f_days_liveBits (l : Launch) (D : va_G) (cI cL : ClassId) (ad : Nat → Nat) (ν : sw_N)    (N : Nat) (μ : sw_M) (a1 : Int32) (o : Int32) (h : f_days_liveBits N  μ a1 = some o) : MetR l D cI cL yX2_liveBits cX2_liveBits 4 (some .int) 3 0 0 (fun a => a = ad) ad [.ref 35, .int a1] lay0 μ ν (some (.int o)) lay0 μ ν :=
  MetR.of (n := 2) rfl (Nat.le_of_ble_eq_true rfl) (fun G g ho hm _ _ => ok_f_days_liveBits  g hm  μ ho a1 h)
def f_days_carriedBits_4 (N : Nat)  (μ : sw_M)  : Nat → Int32 → Int32 → Option (Int32)
  | 0, _, _ => none
  | n + 1, x1, x2 =>
    if (μ 3 2) ≤ x2 then
      some x1
    else
      inb x2 6 (
        if (μ 38 x2.toNatClampNeg) = (-1) then
          f_days_carriedBits_4 N  μ  n x1 (x2 + 1)
        else
          ib (x1 ||| ((1 : Int32) <<< (x2 &&& 31))) (fun y2 =>
            f_days_carriedBits_4 N  μ  n y2 (x2 + 1)))
def f_days_carriedBits (N : Nat)  (μ : sw_M)  : Option (Int32) :=
  f_days_carriedBits_4 N  μ  N 0 0
set_option maxRecDepth 100000 in
set_option maxHeartbeats 4000000 in
theorem ok_f_days_carriedBits_4 {G : sw_G} {ad : Nat → Nat} {ν : sw_N}   {N : Nat} {o : Int32} (g : sw_ok G cX2_carriedBits "DeadWires$Days" (some .int) 1 0 0 ad) (hm : G.2.2.1.2.1.maxLocals = 3)  (μ : sw_M) (ho : sw_out G 0 0 (fun a => a = ad) (.inl (some (.int o))) lay0 μ ν)  : ∀ (n : Nat) (x1 : Int32) (x2 : Int32) (h : f_days_carriedBits_4 N  μ  n x1 x2 = some o), SW G ad lay0 ν 0 0 4 [some (.ref 35), some (.int x1), some (.int x2)] [] μ := by
  intro n
  induction n with
  | zero => intro x1 x2 h; simp only [f_days_carriedBits_4] at h; cases h
  | succ n ih =>
    intro x1 x2 h
    unfold f_days_carriedBits_4 at h
    refine SW.iload_n (pc := 4) g (dt dt_X2_carriedBits 4 rfl) rfl ?_
    refine SW.aload_n (pc := 5) g (dt dt_X2_carriedBits 5 rfl) rfl ?_
    refine SW.getR (pc := 6) g (dt dt_X2_carriedBits 6 rfl) fl_X2_27 cell_35 rfl ?_
    refine SW.getI (pc := 9) g (dt dt_X2_carriedBits 7 rfl) fl_X2_110 cell_3 rfl ?_
    refine SW.icmp_ge (pc := 12) (t := 37) g (dt dt_X2_carriedBits 8 rfl) rfl (fun hc => ?_) (fun hc => ?_)
    · have h := iteT hc h
      refine SW.iload_n (pc := 37) g (dt dt_X2_carriedBits 23 rfl) rfl ?_
      exact SW.ireturn (pc := 38) g (leafI h ho) rfl (Nat.le_of_ble_eq_true rfl) (Nat.le_of_ble_eq_true rfl) (dt dt_X2_carriedBits 24 rfl)
    · have h := iteF hc h
      refine SW.aload_n (pc := 15) g (dt dt_X2_carriedBits 9 rfl) rfl ?_
      refine SW.getR (pc := 16) g (dt dt_X2_carriedBits 10 rfl) fl_X2_18 cell_35 rfl ?_
      refine SW.iload_n (pc := 19) g (dt dt_X2_carriedBits 11 rfl) rfl ?_
      obtain ⟨hb1, h⟩ := inbI h
      refine SW.iaload (pc := 20) g (dt dt_X2_carriedBits 12 rfl) cell_38 hb1 ?_
      refine SW.iconst (pc := 21) (v := (-1)) g (dt dt_X2_carriedBits 13 rfl) ki_m1 ?_
      refine SW.icmp_eq (pc := 22) (t := 31) g (dt dt_X2_carriedBits 14 rfl) rfl (fun hc => ?_) (fun hc => ?_)
      · have h := iteT hc h
        refine SW.iinc (pc := 31) (v := x2 + 1) g (dt dt_X2_carriedBits 21 rfl) rfl (kn_1 _) (sw_ltm hm (Nat.le_of_ble_eq_true rfl)) rfl ?_
        refine SW.goto (pc := 34) (t := 4) g (dt dt_X2_carriedBits 22 rfl) rfl ?_
        refine SW.msk [true, true, true] ?_
        exact ih  x1 (x2 + 1) h
      · have h := iteF hc h
        refine SW.iload_n (pc := 25) g (dt dt_X2_carriedBits 15 rfl) rfl ?_
        refine SW.iconst (pc := 26) (v := 1) g (dt dt_X2_carriedBits 16 rfl) ki_1 ?_
        refine SW.iload_n (pc := 27) g (dt dt_X2_carriedBits 17 rfl) rfl ?_
        refine SW.ishl (pc := 28) g (dt dt_X2_carriedBits 18 rfl) ?_
        refine SW.ior (pc := 29) g (dt dt_X2_carriedBits 19 rfl) ?_
        refine SW.istore_n (pc := 30) g (dt dt_X2_carriedBits 20 rfl) (sw_ltm hm (Nat.le_of_ble_eq_true rfl)) rfl ?_
        refine SW.genL h (fun y2 h => ?_)
        refine SW.iinc (pc := 31) (v := x2 + 1) g (dt dt_X2_carriedBits 21 rfl) rfl (kn_1 _) (sw_ltm hm (Nat.le_of_ble_eq_true rfl)) rfl ?_
        refine SW.goto (pc := 34) (t := 4) g (dt dt_X2_carriedBits 22 rfl) rfl ?_
        refine SW.msk [true, true, true] ?_
        exact ih  y2 (x2 + 1) h
set_option maxRecDepth 100000 in
set_option maxHeartbeats 4000000 in
theorem ok_f_days_carriedBits {G : sw_G} {ad : Nat → Nat} {ν : sw_N}   {N : Nat} {o : Int32} (g : sw_ok G cX2_carriedBits "DeadWires$Days" (some .int) 1 0 0 ad) (hm : G.2.2.1.2.1.maxLocals = 3)  (μ : sw_M) (ho : sw_out G 0 0 (fun a => a = ad) (.inl (some (.int o))) lay0 μ ν)  (h : f_days_carriedBits N  μ  = some o) : SW G ad lay0 ν 0 0 0 [some (.ref 35), none, none] [] μ := by
  unfold f_days_carriedBits at h
  refine SW.iconst (pc := 0) (v := 0) g (dt dt_X2_carriedBits 0 rfl) ki_0 ?_
  refine SW.istore_n (pc := 1) g (dt dt_X2_carriedBits 1 rfl) (sw_ltm hm (Nat.le_of_ble_eq_true rfl)) rfl ?_
  refine SW.iconst (pc := 2) (v := 0) g (dt dt_X2_carriedBits 2 rfl) ki_0 ?_
  refine SW.istore_n (pc := 3) g (dt dt_X2_carriedBits 3 rfl) (sw_ltm hm (Nat.le_of_ble_eq_true rfl)) rfl ?_
  refine SW.msk [true, true, true] ?_
  exact ok_f_days_carriedBits_4  g hm  μ ho   N 0 0 h
set_option maxRecDepth 100000 in
set_option maxHeartbeats 4000000 in
theorem mt_f_days_carriedBits (l : Launch) (D : va_G) (cI cL : ClassId) (ad : Nat → Nat) (ν : sw_N)    (N : Nat) (μ : sw_M)  (o : Int32) (h : f_days_carriedBits N  μ  = some o) : MetR l D cI cL yX2_carriedBits cX2_carriedBits 3 (some .int) 1 0 0 (fun a => a = ad) ad [.ref 35] lay0 μ ν (some (.int o)) lay0 μ ν :=
  MetR.of (n := 2) rfl (Nat.le_of_ble_eq_true rfl) (fun G g ho hm _ _ => ok_f_days_carriedBits  g hm  μ ho  h)
def f_days_lyingBits_4 (N : Nat)  (μ : sw_M)  : Nat → Int32 → Int32 → Int32 → Option (Int32)
  | 0, _, _, _ => none
  | n + 1, x1, x2, x3 =>
    if (μ 3 2) ≤ x3 then
      some x2
    else
      inb x3 6 (
        if (μ 38 x3.toNatClampNeg) = (-1) then
          inb x3 6 (
            if (μ 37 x3.toNatClampNeg) = x1 then
              ib (x2 ||| ((1 : Int32) <<< (x3 &&& 31))) (fun y3 =>
                f_days_lyingBits_4 N  μ  n x1 y3 (x3 + 1))
            else
              f_days_lyingBits_4 N  μ  n x1 x2 (x3 + 1))
        else
          f_days_lyingBits_4 N  μ  n x1 x2 (x3 + 1))
def f_days_lyingBits (N : Nat)  (μ : sw_M) (a1 : Int32) : Option (Int32) :=
  f_days_lyingBits_4 N  μ  N a1 0 0
set_option maxRecDepth 100000 in
set_option maxHeartbeats 4000000 in
theorem ok_f_days_lyingBits_4 {G : sw_G} {ad : Nat → Nat} {ν : sw_N}   {N : Nat} {o : Int32} (g : sw_ok G cX2_lyingBits "DeadWires$Days" (some .int) 1 0 0 ad) (hm : G.2.2.1.2.1.maxLocals = 4)  (μ : sw_M) (ho : sw_out G 0 0 (fun a => a = ad) (.inl (some (.int o))) lay0 μ ν)  : ∀ (n : Nat) (x1 : Int32) (x2 : Int32) (x3 : Int32) (h : f_days_lyingBits_4 N  μ  n x1 x2 x3 = some o), SW G ad lay0 ν 0 0 4 [some (.ref 35), some (.int x1), some (.int x2), some (.int x3)] [] μ := by
  intro n
  induction n with
  | zero => intro x1 x2 x3 h; simp only [f_days_lyingBits_4] at h; cases h
  | succ n ih =>
    intro x1 x2 x3 h
    unfold f_days_lyingBits_4 at h
    refine SW.iload_n (pc := 4) g (dt dt_X2_lyingBits 4 rfl) rfl ?_
    refine SW.aload_n (pc := 5) g (dt dt_X2_lyingBits 5 rfl) rfl ?_
    refine SW.getR (pc := 6) g (dt dt_X2_lyingBits 6 rfl) fl_X2_27 cell_35 rfl ?_
    refine SW.getI (pc := 9) g (dt dt_X2_lyingBits 7 rfl) fl_X2_110 cell_3 rfl ?_
    refine SW.icmp_ge (pc := 12) (t := 47) g (dt dt_X2_lyingBits 8 rfl) rfl (fun hc => ?_) (fun hc => ?_)
    · have h := iteT hc h
      refine SW.iload_n (pc := 47) g (dt dt_X2_lyingBits 29 rfl) rfl ?_
      exact SW.ireturn (pc := 48) g (leafI h ho) rfl (Nat.le_of_ble_eq_true rfl) (Nat.le_of_ble_eq_true rfl) (dt dt_X2_lyingBits 30 rfl)
    · have h := iteF hc h
      refine SW.aload_n (pc := 15) g (dt dt_X2_lyingBits 9 rfl) rfl ?_
      refine SW.getR (pc := 16) g (dt dt_X2_lyingBits 10 rfl) fl_X2_18 cell_35 rfl ?_
      refine SW.iload_n (pc := 19) g (dt dt_X2_lyingBits 11 rfl) rfl ?_
      obtain ⟨hb1, h⟩ := inbI h
      refine SW.iaload (pc := 20) g (dt dt_X2_lyingBits 12 rfl) cell_38 hb1 ?_
      refine SW.iconst (pc := 21) (v := (-1)) g (dt dt_X2_lyingBits 13 rfl) ki_m1 ?_
      refine SW.icmp_ne (pc := 22) (t := 41) g (dt dt_X2_lyingBits 14 rfl) rfl (fun hc => ?_) (fun hc => ?_)
      · have h := iteF hc h
        refine SW.iinc (pc := 41) (v := x3 + 1) g (dt dt_X2_lyingBits 27 rfl) rfl (kn_1 _) (sw_ltm hm (Nat.le_of_ble_eq_true rfl)) rfl ?_
        refine SW.goto (pc := 44) (t := 4) g (dt dt_X2_lyingBits 28 rfl) rfl ?_
        refine SW.msk [true, true, true, true] ?_
        exact ih  x1 x2 (x3 + 1) h
      · have h := iteT hc h
        refine SW.aload_n (pc := 25) g (dt dt_X2_lyingBits 15 rfl) rfl ?_
        refine SW.getR (pc := 26) g (dt dt_X2_lyingBits 16 rfl) fl_X2_15 cell_35 rfl ?_
        refine SW.iload_n (pc := 29) g (dt dt_X2_lyingBits 17 rfl) rfl ?_
        obtain ⟨hb2, h⟩ := inbI h
        refine SW.iaload (pc := 30) g (dt dt_X2_lyingBits 18 rfl) cell_37 hb2 ?_
        refine SW.iload_n (pc := 31) g (dt dt_X2_lyingBits 19 rfl) rfl ?_
        refine SW.icmp_ne (pc := 32) (t := 41) g (dt dt_X2_lyingBits 20 rfl) rfl (fun hc => ?_) (fun hc => ?_)
        · have h := iteF hc h
          refine SW.iinc (pc := 41) (v := x3 + 1) g (dt dt_X2_lyingBits 27 rfl) rfl (kn_1 _) (sw_ltm hm (Nat.le_of_ble_eq_true rfl)) rfl ?_
          refine SW.goto (pc := 44) (t := 4) g (dt dt_X2_lyingBits 28 rfl) rfl ?_
          refine SW.msk [true, true, true, true] ?_
          exact ih  x1 x2 (x3 + 1) h
        · have h := iteT hc h
          refine SW.iload_n (pc := 35) g (dt dt_X2_lyingBits 21 rfl) rfl ?_
          refine SW.iconst (pc := 36) (v := 1) g (dt dt_X2_lyingBits 22 rfl) ki_1 ?_
          refine SW.iload_n (pc := 37) g (dt dt_X2_lyingBits 23 rfl) rfl ?_
          refine SW.ishl (pc := 38) g (dt dt_X2_lyingBits 24 rfl) ?_
          refine SW.ior (pc := 39) g (dt dt_X2_lyingBits 25 rfl) ?_
          refine SW.istore_n (pc := 40) g (dt dt_X2_lyingBits 26 rfl) (sw_ltm hm (Nat.le_of_ble_eq_true rfl)) rfl ?_
          refine SW.genL h (fun y3 h => ?_)
          refine SW.iinc (pc := 41) (v := x3 + 1) g (dt dt_X2_lyingBits 27 rfl) rfl (kn_1 _) (sw_ltm hm (Nat.le_of_ble_eq_true rfl)) rfl ?_
          refine SW.goto (pc := 44) (t := 4) g (dt dt_X2_lyingBits 28 rfl) rfl ?_
          refine SW.msk [true, true, true, true] ?_
          exact ih  x1 y3 (x3 + 1) h
set_option maxRecDepth 100000 in
set_option maxHeartbeats 4000000 in
theorem ok_f_days_lyingBits {G : sw_G} {ad : Nat → Nat} {ν : sw_N}   {N : Nat} {o : Int32} (g : sw_ok G cX2_lyingBits "DeadWires$Days" (some .int) 1 0 0 ad) (hm : G.2.2.1.2.1.maxLocals = 4)  (μ : sw_M) (ho : sw_out G 0 0 (fun a => a = ad) (.inl (some (.int o))) lay0 μ ν) (a1 : Int32) (h : f_days_lyingBits N  μ a1 = some o) : SW G ad lay0 ν 0 0 0 [some (.ref 35), some (.int a1), none, none] [] μ := by
  unfold f_days_lyingBits at h
  refine SW.iconst (pc := 0) (v := 0) g (dt dt_X2_lyingBits 0 rfl) ki_0 ?_
  refine SW.istore_n (pc := 1) g (dt dt_X2_lyingBits 1 rfl) (sw_ltm hm (Nat.le_of_ble_eq_true rfl)) rfl ?_
  refine SW.iconst (pc := 2) (v := 0) g (dt dt_X2_lyingBits 2 rfl) ki_0 ?_
  refine SW.istore_n (pc := 3) g (dt dt_X2_lyingBits 3 rfl) (sw_ltm hm (Nat.le_of_ble_eq_true rfl)) rfl ?_
  refine SW.msk [true, true, true, true] ?_
  exact ok_f_days_lyingBits_4  g hm  μ ho   N a1 0 0 h
set_option maxRecDepth 100000 in
set_option maxHeartbeats 4000000 in
theorem mt_f_days_lyingBits (l : Launch) (D : va_G) (cI cL : ClassId) (ad : Nat → Nat) (ν : sw_N)    (N : Nat) (μ : sw_M) (a1 : Int32) (o : Int32) (h : f_days_lyingBits N  μ a1 = some o) : MetR l D cI cL yX2_lyingBits cX2_lyingBits 4 (some .int) 1 0 0 (fun a => a = ad) ad [.ref 35, .int a1] lay0 μ ν (some (.int o)) lay0 μ ν :=
  MetR.of (n := 2) rfl (Nat.le_of_ble_eq_true rfl) (fun G g ho hm _ _ => ok_f_days_lyingBits  g hm  μ ho a1 h)
def f_days_peopleBits_4 (N : Nat)  (μ : sw_M)  : Nat → Int32 → Int32 → Int32 → Option (Int32)
  | 0, _, _, _ => none
  | n + 1, x1, x2, x3 =>
    if (μ 3 3) ≤ x3 then
      some x2
    else
      inb x3 5 (
        if (μ 39 x3.toNatClampNeg) = x1 then
          ib (x2 ||| ((1 : Int32) <<< (x3 &&& 31))) (fun y2 =>
            f_days_peopleBits_4 N  μ  n x1 y2 (x3 + 1))
        else
          f_days_peopleBits_4 N  μ  n x1 x2 (x3 + 1))
def f_days_peopleBits (N : Nat)  (μ : sw_M) (a1 : Int32) : Option (Int32) :=
  f_days_peopleBits_4 N  μ  N a1 0 0
set_option maxRecDepth 100000 in
set_option maxHeartbeats 4000000 in
theorem ok_f_days_peopleBits_4 {G : sw_G} {ad : Nat → Nat} {ν : sw_N}   {N : Nat} {o : Int32} (g : sw_ok G cX2_peopleBits "DeadWires$Days" (some .int) 1 0 0 ad) (hm : G.2.2.1.2.1.maxLocals = 4)  (μ : sw_M) (ho : sw_out G 0 0 (fun a => a = ad) (.inl (some (.int o))) lay0 μ ν)  : ∀ (n : Nat) (x1 : Int32) (x2 : Int32) (x3 : Int32) (h : f_days_peopleBits_4 N  μ  n x1 x2 x3 = some o), SW G ad lay0 ν 0 0 4 [some (.ref 35), some (.int x1), some (.int x2), some (.int x3)] [] μ := by
  intro n
  induction n with
  | zero => intro x1 x2 x3 h; simp only [f_days_peopleBits_4] at h; cases h
  | succ n ih =>
    intro x1 x2 x3 h
    unfold f_days_peopleBits_4 at h
    refine SW.iload_n (pc := 4) g (dt dt_X2_peopleBits 4 rfl) rfl ?_
    refine SW.aload_n (pc := 5) g (dt dt_X2_peopleBits 5 rfl) rfl ?_
    refine SW.getR (pc := 6) g (dt dt_X2_peopleBits 6 rfl) fl_X2_27 cell_35 rfl ?_
    refine SW.getI (pc := 9) g (dt dt_X2_peopleBits 7 rfl) fl_X2_113 cell_3 rfl ?_
    refine SW.icmp_ge (pc := 12) (t := 37) g (dt dt_X2_peopleBits 8 rfl) rfl (fun hc => ?_) (fun hc => ?_)
    · have h := iteT hc h
      refine SW.iload_n (pc := 37) g (dt dt_X2_peopleBits 23 rfl) rfl ?_
      exact SW.ireturn (pc := 38) g (leafI h ho) rfl (Nat.le_of_ble_eq_true rfl) (Nat.le_of_ble_eq_true rfl) (dt dt_X2_peopleBits 24 rfl)
    · have h := iteF hc h
      refine SW.aload_n (pc := 15) g (dt dt_X2_peopleBits 9 rfl) rfl ?_
      refine SW.getR (pc := 16) g (dt dt_X2_peopleBits 10 rfl) fl_X2_21 cell_35 rfl ?_
      refine SW.iload_n (pc := 19) g (dt dt_X2_peopleBits 11 rfl) rfl ?_
      obtain ⟨hb1, h⟩ := inbI h
      refine SW.iaload (pc := 20) g (dt dt_X2_peopleBits 12 rfl) cell_39 hb1 ?_
      refine SW.iload_n (pc := 21) g (dt dt_X2_peopleBits 13 rfl) rfl ?_
      refine SW.icmp_ne (pc := 22) (t := 31) g (dt dt_X2_peopleBits 14 rfl) rfl (fun hc => ?_) (fun hc => ?_)
      · have h := iteF hc h
        refine SW.iinc (pc := 31) (v := x3 + 1) g (dt dt_X2_peopleBits 21 rfl) rfl (kn_1 _) (sw_ltm hm (Nat.le_of_ble_eq_true rfl)) rfl ?_
        refine SW.goto (pc := 34) (t := 4) g (dt dt_X2_peopleBits 22 rfl) rfl ?_
        refine SW.msk [true, true, true, true] ?_
        exact ih  x1 x2 (x3 + 1) h
      · have h := iteT hc h
        refine SW.iload_n (pc := 25) g (dt dt_X2_peopleBits 15 rfl) rfl ?_
        refine SW.iconst (pc := 26) (v := 1) g (dt dt_X2_peopleBits 16 rfl) ki_1 ?_
        refine SW.iload_n (pc := 27) g (dt dt_X2_peopleBits 17 rfl) rfl ?_
        refine SW.ishl (pc := 28) g (dt dt_X2_peopleBits 18 rfl) ?_
        refine SW.ior (pc := 29) g (dt dt_X2_peopleBits 19 rfl) ?_
        refine SW.istore_n (pc := 30) g (dt dt_X2_peopleBits 20 rfl) (sw_ltm hm (Nat.le_of_ble_eq_true rfl)) rfl ?_
        refine SW.genL h (fun y2 h => ?_)
        refine SW.iinc (pc := 31) (v := x3 + 1) g (dt dt_X2_peopleBits 21 rfl) rfl (kn_1 _) (sw_ltm hm (Nat.le_of_ble_eq_true rfl)) rfl ?_
        refine SW.goto (pc := 34) (t := 4) g (dt dt_X2_peopleBits 22 rfl) rfl ?_
        refine SW.msk [true, true, true, true] ?_
        exact ih  x1 y2 (x3 + 1) h
set_option maxRecDepth 100000 in
set_option maxHeartbeats 4000000 in
theorem ok_f_days_peopleBits {G : sw_G} {ad : Nat → Nat} {ν : sw_N}   {N : Nat} {o : Int32} (g : sw_ok G cX2_peopleBits "DeadWires$Days" (some .int) 1 0 0 ad) (hm : G.2.2.1.2.1.maxLocals = 4)  (μ : sw_M) (ho : sw_out G 0 0 (fun a => a = ad) (.inl (some (.int o))) lay0 μ ν) (a1 : Int32) (h : f_days_peopleBits N  μ a1 = some o) : SW G ad lay0 ν 0 0 0 [some (.ref 35), some (.int a1), none, none] [] μ := by
  unfold f_days_peopleBits at h
  refine SW.iconst (pc := 0) (v := 0) g (dt dt_X2_peopleBits 0 rfl) ki_0 ?_
  refine SW.istore_n (pc := 1) g (dt dt_X2_peopleBits 1 rfl) (sw_ltm hm (Nat.le_of_ble_eq_true rfl)) rfl ?_
  refine SW.iconst (pc := 2) (v := 0) g (dt dt_X2_peopleBits 2 rfl) ki_0 ?_
  refine SW.istore_n (pc := 3) g (dt dt_X2_peopleBits 3 rfl) (sw_ltm hm (Nat.le_of_ble_eq_true rfl)) rfl ?_
  refine SW.msk [true, true, true, true] ?_
  exact ok_f_days_peopleBits_4  g hm  μ ho   N a1 0 0 h
set_option maxRecDepth 100000 in
set_option maxHeartbeats 4000000 in
theorem mt_f_days_peopleBits (l : Launch) (D : va_G) (cI cL : ClassId) (ad : Nat → Nat) (ν : sw_N)    (N : Nat) (μ : sw_M) (a1 : Int32) (o : Int32) (h : f_days_peopleBits N  μ a1 = some o) : MetR l D cI cL yX2_peopleBits cX2_peopleBits 4 (some .int) 1 0 0 (fun a => a = ad) ad [.ref 35, .int a1] lay0 μ ν (some (.int o)) lay0 μ ν :=
  MetR.of (n := 2) rfl (Nat.le_of_ble_eq_true rfl) (fun G g ho hm _ _ => ok_f_days_peopleBits  g hm  μ ho a1 h)
def f_days_hoursLeft (N : Nat)  (μ : sw_M) (a1 : Int32) : Option (Int32) :=
  Option.bind (f_days_isCut N  μ a1) (fun r1 =>
    if r1 = 0 then
      Option.bind (f_sx_at N 36 12 μ a1) (fun r3 =>
        Option.bind (f_sx_clamp N  μ (r3 - (μ 35 2)) 0 99) (fun r5 =>
          some r5))
    else
      some 99)
set_option maxRecDepth 100000 in
set_option maxHeartbeats 4000000 in
theorem ok_f_days_hoursLeft {G : sw_G} {ad : Nat → Nat} {ν : sw_N}   {N : Nat} {o : Int32} (g : sw_ok G cX2_hoursLeft "DeadWires$Days" (some .int) 2 0 0 ad) (hm : G.2.2.1.2.1.maxLocals = 2)  (μ : sw_M) (ho : sw_out G 0 0 (fun a => a = ad) (.inl (some (.int o))) lay0 μ ν) (a1 : Int32) (h : f_days_hoursLeft N  μ a1 = some o) : SW G ad lay0 ν 0 0 0 [some (.ref 35), some (.int a1)] [] μ := by
  unfold f_days_hoursLeft at h
  refine SW.aload_n (pc := 0) g (dt dt_X2_hoursLeft 0 rfl) rfl ?_
  refine SW.iload_n (pc := 1) g (dt dt_X2_hoursLeft 1 rfl) rfl ?_
  obtain ⟨r1, h2, h⟩ := bindI h
  refine SW.callVi (pc := 2) g (dt dt_X2_hoursLeft 2 rfl) (mt_f_days_isCut _ _ _ _ ad ν   N μ a1 r1 h2) me_X2_isCut mv_X2_isCut ml_X2_75 cell_35 rfl rfl (Nat.le_of_ble_eq_true rfl) (Nat.le_of_ble_eq_true rfl) (Nat.le_of_ble_eq_true rfl) (Nat.le_of_ble_eq_true rfl) rfl ?_
  refine SW.if_eq (pc := 5) (t := 13) g (dt dt_X2_hoursLeft 3 rfl) rfl (fun hc => ?_) (fun hc => ?_)
  · have h := iteT hc h
    refine SW.aload_n (pc := 13) g (dt dt_X2_hoursLeft 6 rfl) rfl ?_
    refine SW.getR (pc := 14) g (dt dt_X2_hoursLeft 7 rfl) fl_X2_9 cell_35 rfl ?_
    refine SW.iload_n (pc := 17) g (dt dt_X2_hoursLeft 8 rfl) rfl ?_
    obtain ⟨r3, h4, h⟩ := bindI h
    refine SW.callSNi (pc := 18) g (dt dt_X2_hoursLeft 9 rfl) (mt_f_sx_at _ _ _ _ ad ν lay0 36 12 cell_36 N μ a1 r3 h4) me_X10_at ms_X10_at mn_X2_79 rfl (Nat.le_of_ble_eq_true rfl) (Nat.le_of_ble_eq_true rfl) (Nat.le_of_ble_eq_true rfl) (Nat.le_of_ble_eq_true rfl) rfl ?_
    refine SW.aload_n (pc := 21) g (dt dt_X2_hoursLeft 10 rfl) rfl ?_
    refine SW.getI (pc := 22) g (dt dt_X2_hoursLeft 11 rfl) fl_X2_38 cell_35 rfl ?_
    refine SW.isub (pc := 25) g (dt dt_X2_hoursLeft 12 rfl) ?_
    refine SW.iconst (pc := 26) (v := 0) g (dt dt_X2_hoursLeft 13 rfl) ki_0 ?_
    refine SW.bipush (pc := 27) (v := 99) g (dt dt_X2_hoursLeft 14 rfl) kb_99 ?_
    obtain ⟨r5, h6, h⟩ := bindI h
    refine SW.callSNi (pc := 29) g (dt dt_X2_hoursLeft 15 rfl) (mt_f_sx_clamp _ _ _ _ ad ν lay0   N μ (r3 - (μ 35 2)) 0 99 r5 h6) me_X10_clamp ms_X10_clamp mn_X2_90 rfl (Nat.le_of_ble_eq_true rfl) (Nat.le_of_ble_eq_true rfl) (Nat.le_of_ble_eq_true rfl) (Nat.le_of_ble_eq_true rfl) rfl ?_
    exact SW.ireturn (pc := 32) g (leafI h ho) rfl (Nat.le_of_ble_eq_true rfl) (Nat.le_of_ble_eq_true rfl) (dt dt_X2_hoursLeft 16 rfl)
  · have h := iteF hc h
    refine SW.bipush (pc := 8) (v := 99) g (dt dt_X2_hoursLeft 4 rfl) kb_99 ?_
    refine SW.goto (pc := 10) (t := 32) g (dt dt_X2_hoursLeft 5 rfl) rfl ?_
    exact SW.ireturn (pc := 32) g (leafI h ho) rfl (Nat.le_of_ble_eq_true rfl) (Nat.le_of_ble_eq_true rfl) (dt dt_X2_hoursLeft 16 rfl)
set_option maxRecDepth 100000 in
set_option maxHeartbeats 4000000 in
theorem mt_f_days_hoursLeft (l : Launch) (D : va_G) (cI cL : ClassId) (ad : Nat → Nat) (ν : sw_N)    (N : Nat) (μ : sw_M) (a1 : Int32) (o : Int32) (h : f_days_hoursLeft N  μ a1 = some o) : MetR l D cI cL yX2_hoursLeft cX2_hoursLeft 2 (some .int) 2 0 0 (fun a => a = ad) ad [.ref 35, .int a1] lay0 μ ν (some (.int o)) lay0 μ ν :=
  MetR.of (n := 0) rfl (Nat.le_of_ble_eq_true rfl) (fun G g ho hm _ _ => ok_f_days_hoursLeft  g hm  μ ho a1 h)
def f_days_placeOfThing (N : Nat)  (μ : sw_M) (a1 : Int32) : Option (Int32) :=
  Option.bind (f_sx_at N 38 6 μ a1) (fun r1 =>
    if r1 = (-1) then
      Option.bind (f_sx_at N 37 6 μ a1) (fun r5 =>
        some r5)
    else
      Option.bind (f_sx_at N 39 5 μ r1) (fun r3 =>
        some r3))
set_option maxRecDepth 100000 in
set_option maxHeartbeats 4000000 in
theorem ok_f_days_placeOfThing {G : sw_G} {ad : Nat → Nat} {ν : sw_N}   {N : Nat} {o : Int32} (g : sw_ok G cX2_placeOfThing "DeadWires$Days" (some .int) 2 0 0 ad) (hm : G.2.2.1.2.1.maxLocals = 3)  (μ : sw_M) (ho : sw_out G 0 0 (fun a => a = ad) (.inl (some (.int o))) lay0 μ ν) (a1 : Int32) (h : f_days_placeOfThing N  μ a1 = some o) : SW G ad lay0 ν 0 0 0 [some (.ref 35), some (.int a1), none] [] μ := by
  unfold f_days_placeOfThing at h
  refine SW.aload_n (pc := 0) g (dt dt_X2_placeOfThing 0 rfl) rfl ?_
  refine SW.getR (pc := 1) g (dt dt_X2_placeOfThing 1 rfl) fl_X2_18 cell_35 rfl ?_
  refine SW.iload_n (pc := 4) g (dt dt_X2_placeOfThing 2 rfl) rfl ?_
  obtain ⟨r1, h2, h⟩ := bindI h
  refine SW.callSNi (pc := 5) g (dt dt_X2_placeOfThing 3 rfl) (mt_f_sx_at _ _ _ _ ad ν lay0 38 6 cell_38 N μ a1 r1 h2) me_X10_at ms_X10_at mn_X2_79 rfl (Nat.le_of_ble_eq_true rfl) (Nat.le_of_ble_eq_true rfl) (Nat.le_of_ble_eq_true rfl) (Nat.le_of_ble_eq_true rfl) rfl ?_
  refine SW.istore_n (pc := 8) g (dt dt_X2_placeOfThing 4 rfl) (sw_ltm hm (Nat.le_of_ble_eq_true rfl)) rfl ?_
  refine SW.iload_n (pc := 9) g (dt dt_X2_placeOfThing 5 rfl) rfl ?_
  refine SW.iconst (pc := 10) (v := (-1)) g (dt dt_X2_placeOfThing 6 rfl) ki_m1 ?_
  refine SW.icmp_ne (pc := 11) (t := 25) g (dt dt_X2_placeOfThing 7 rfl) rfl (fun hc => ?_) (fun hc => ?_)
  · have h := iteF hc h
    refine SW.aload_n (pc := 25) g (dt dt_X2_placeOfThing 13 rfl) rfl ?_
    refine SW.getR (pc := 26) g (dt dt_X2_placeOfThing 14 rfl) fl_X2_21 cell_35 rfl ?_
    refine SW.iload_n (pc := 29) g (dt dt_X2_placeOfThing 15 rfl) rfl ?_
    obtain ⟨r3, h4, h⟩ := bindI h
    refine SW.callSNi (pc := 30) g (dt dt_X2_placeOfThing 16 rfl) (mt_f_sx_at _ _ _ _ ad ν lay0 39 5 cell_39 N μ r1 r3 h4) me_X10_at ms_X10_at mn_X2_79 rfl (Nat.le_of_ble_eq_true rfl) (Nat.le_of_ble_eq_true rfl) (Nat.le_of_ble_eq_true rfl) (Nat.le_of_ble_eq_true rfl) rfl ?_
    exact SW.ireturn (pc := 33) g (leafI h ho) rfl (Nat.le_of_ble_eq_true rfl) (Nat.le_of_ble_eq_true rfl) (dt dt_X2_placeOfThing 17 rfl)
  · have h := iteT hc h
    refine SW.aload_n (pc := 14) g (dt dt_X2_placeOfThing 8 rfl) rfl ?_
    refine SW.getR (pc := 15) g (dt dt_X2_placeOfThing 9 rfl) fl_X2_15 cell_35 rfl ?_
    refine SW.iload_n (pc := 18) g (dt dt_X2_placeOfThing 10 rfl) rfl ?_
    obtain ⟨r5, h6, h⟩ := bindI h
    refine SW.callSNi (pc := 19) g (dt dt_X2_placeOfThing 11 rfl) (mt_f_sx_at _ _ _ _ ad ν lay0 37 6 cell_37 N μ a1 r5 h6) me_X10_at ms_X10_at mn_X2_79 rfl (Nat.le_of_ble_eq_true rfl) (Nat.le_of_ble_eq_true rfl) (Nat.le_of_ble_eq_true rfl) (Nat.le_of_ble_eq_true rfl) rfl ?_
    refine SW.goto (pc := 22) (t := 33) g (dt dt_X2_placeOfThing 12 rfl) rfl ?_
    exact SW.ireturn (pc := 33) g (leafI h ho) rfl (Nat.le_of_ble_eq_true rfl) (Nat.le_of_ble_eq_true rfl) (dt dt_X2_placeOfThing 17 rfl)
set_option maxRecDepth 100000 in
set_option maxHeartbeats 4000000 in
theorem mt_f_days_placeOfThing (l : Launch) (D : va_G) (cI cL : ClassId) (ad : Nat → Nat) (ν : sw_N)    (N : Nat) (μ : sw_M) (a1 : Int32) (o : Int32) (h : f_days_placeOfThing N  μ a1 = some o) : MetR l D cI cL yX2_placeOfThing cX2_placeOfThing 3 (some .int) 2 0 0 (fun a => a = ad) ad [.ref 35, .int a1] lay0 μ ν (some (.int o)) lay0 μ ν :=
  MetR.of (n := 1) rfl (Nat.le_of_ble_eq_true rfl) (fun G g ho hm _ _ => ok_f_days_placeOfThing  g hm  μ ho a1 h)
def f_days_loadOf_4 (N : Nat)  (μ : sw_M)  : Nat → Int32 → Int32 → Int32 → Option (Int32)
  | 0, _, _, _ => none
  | n + 1, x1, x2, x3 =>
    if (μ 3 2) ≤ x3 then
      some x2
    else
      inb x3 6 (
        if (μ 38 x3.toNatClampNeg) = x1 then
          inb x3 6 (
            ib (x2 + (μ 8 x3.toNatClampNeg)) (fun y3 =>
              f_days_loadOf_4 N  μ  n x1 y3 (x3 + 1)))
        else
          f_days_loadOf_4 N  μ  n x1 x2 (x3 + 1))
def f_days_loadOf (N : Nat)  (μ : sw_M) (a1 : Int32) : Option (Int32) :=
  f_days_loadOf_4 N  μ  N a1 0 0
set_option maxRecDepth 100000 in
set_option maxHeartbeats 4000000 in
theorem ok_f_days_loadOf_4 {G : sw_G} {ad : Nat → Nat} {ν : sw_N}   {N : Nat} {o : Int32} (g : sw_ok G cX2_loadOf "DeadWires$Days" (some .int) 1 0 0 ad) (hm : G.2.2.1.2.1.maxLocals = 4)  (μ : sw_M) (ho : sw_out G 0 0 (fun a => a = ad) (.inl (some (.int o))) lay0 μ ν)  : ∀ (n : Nat) (x1 : Int32) (x2 : Int32) (x3 : Int32) (h : f_days_loadOf_4 N  μ  n x1 x2 x3 = some o), SW G ad lay0 ν 0 0 4 [some (.ref 35), some (.int x1), some (.int x2), some (.int x3)] [] μ := by
  intro n
  induction n with
  | zero => intro x1 x2 x3 h; simp only [f_days_loadOf_4] at h; cases h
  | succ n ih =>
    intro x1 x2 x3 h
    unfold f_days_loadOf_4 at h
    refine SW.iload_n (pc := 4) g (dt dt_X2_loadOf 4 rfl) rfl ?_
    refine SW.aload_n (pc := 5) g (dt dt_X2_loadOf 5 rfl) rfl ?_
    refine SW.getR (pc := 6) g (dt dt_X2_loadOf 6 rfl) fl_X2_27 cell_35 rfl ?_
    refine SW.getI (pc := 9) g (dt dt_X2_loadOf 7 rfl) fl_X2_110 cell_3 rfl ?_
    refine SW.icmp_ge (pc := 12) (t := 43) g (dt dt_X2_loadOf 8 rfl) rfl (fun hc => ?_) (fun hc => ?_)
    · have h := iteT hc h
      refine SW.iload_n (pc := 43) g (dt dt_X2_loadOf 25 rfl) rfl ?_
      exact SW.ireturn (pc := 44) g (leafI h ho) rfl (Nat.le_of_ble_eq_true rfl) (Nat.le_of_ble_eq_true rfl) (dt dt_X2_loadOf 26 rfl)
    · have h := iteF hc h
      refine SW.aload_n (pc := 15) g (dt dt_X2_loadOf 9 rfl) rfl ?_
      refine SW.getR (pc := 16) g (dt dt_X2_loadOf 10 rfl) fl_X2_18 cell_35 rfl ?_
      refine SW.iload_n (pc := 19) g (dt dt_X2_loadOf 11 rfl) rfl ?_
      obtain ⟨hb1, h⟩ := inbI h
      refine SW.iaload (pc := 20) g (dt dt_X2_loadOf 12 rfl) cell_38 hb1 ?_
      refine SW.iload_n (pc := 21) g (dt dt_X2_loadOf 13 rfl) rfl ?_
      refine SW.icmp_ne (pc := 22) (t := 37) g (dt dt_X2_loadOf 14 rfl) rfl (fun hc => ?_) (fun hc => ?_)
      · have h := iteF hc h
        refine SW.iinc (pc := 37) (v := x3 + 1) g (dt dt_X2_loadOf 23 rfl) rfl (kn_1 _) (sw_ltm hm (Nat.le_of_ble_eq_true rfl)) rfl ?_
        refine SW.goto (pc := 40) (t := 4) g (dt dt_X2_loadOf 24 rfl) rfl ?_
        refine SW.msk [true, true, true, true] ?_
        exact ih  x1 x2 (x3 + 1) h
      · have h := iteT hc h
        refine SW.iload_n (pc := 25) g (dt dt_X2_loadOf 15 rfl) rfl ?_
        refine SW.aload_n (pc := 26) g (dt dt_X2_loadOf 16 rfl) rfl ?_
        refine SW.getR (pc := 27) g (dt dt_X2_loadOf 17 rfl) fl_X2_27 cell_35 rfl ?_
        refine SW.getR (pc := 30) g (dt dt_X2_loadOf 18 rfl) fl_X2_116 cell_3 rfl ?_
        refine SW.iload_n (pc := 33) g (dt dt_X2_loadOf 19 rfl) rfl ?_
        obtain ⟨hb2, h⟩ := inbI h
        refine SW.iaload (pc := 34) g (dt dt_X2_loadOf 20 rfl) cell_8 hb2 ?_
        refine SW.iadd (pc := 35) g (dt dt_X2_loadOf 21 rfl) ?_
        refine SW.istore_n (pc := 36) g (dt dt_X2_loadOf 22 rfl) (sw_ltm hm (Nat.le_of_ble_eq_true rfl)) rfl ?_
        refine SW.genL h (fun y3 h => ?_)
        refine SW.iinc (pc := 37) (v := x3 + 1) g (dt dt_X2_loadOf 23 rfl) rfl (kn_1 _) (sw_ltm hm (Nat.le_of_ble_eq_true rfl)) rfl ?_
        refine SW.goto (pc := 40) (t := 4) g (dt dt_X2_loadOf 24 rfl) rfl ?_
        refine SW.msk [true, true, true, true] ?_
        exact ih  x1 y3 (x3 + 1) h
set_option maxRecDepth 100000 in
set_option maxHeartbeats 4000000 in
theorem ok_f_days_loadOf {G : sw_G} {ad : Nat → Nat} {ν : sw_N}   {N : Nat} {o : Int32} (g : sw_ok G cX2_loadOf "DeadWires$Days" (some .int) 1 0 0 ad) (hm : G.2.2.1.2.1.maxLocals = 4)  (μ : sw_M) (ho : sw_out G 0 0 (fun a => a = ad) (.inl (some (.int o))) lay0 μ ν) (a1 : Int32) (h : f_days_loadOf N  μ a1 = some o) : SW G ad lay0 ν 0 0 0 [some (.ref 35), some (.int a1), none, none] [] μ := by
  unfold f_days_loadOf at h
  refine SW.iconst (pc := 0) (v := 0) g (dt dt_X2_loadOf 0 rfl) ki_0 ?_
  refine SW.istore_n (pc := 1) g (dt dt_X2_loadOf 1 rfl) (sw_ltm hm (Nat.le_of_ble_eq_true rfl)) rfl ?_
  refine SW.iconst (pc := 2) (v := 0) g (dt dt_X2_loadOf 2 rfl) ki_0 ?_
  refine SW.istore_n (pc := 3) g (dt dt_X2_loadOf 3 rfl) (sw_ltm hm (Nat.le_of_ble_eq_true rfl)) rfl ?_
  refine SW.msk [true, true, true, true] ?_
  exact ok_f_days_loadOf_4  g hm  μ ho   N a1 0 0 h
set_option maxRecDepth 100000 in
set_option maxHeartbeats 4000000 in
theorem mt_f_days_loadOf (l : Launch) (D : va_G) (cI cL : ClassId) (ad : Nat → Nat) (ν : sw_N)    (N : Nat) (μ : sw_M) (a1 : Int32) (o : Int32) (h : f_days_loadOf N  μ a1 = some o) : MetR l D cI cL yX2_loadOf cX2_loadOf 4 (some .int) 1 0 0 (fun a => a = ad) ad [.ref 35, .int a1] lay0 μ ν (some (.int o)) lay0 μ ν :=
  MetR.of (n := 2) rfl (Nat.le_of_ble_eq_true rfl) (fun G g ho hm _ _ => ok_f_days_loadOf  g hm  μ ho a1 h)
def f_days_carriedBy_4 (N : Nat)  (μ : sw_M)  : Nat → Int32 → Int32 → Int32 → Option (Int32)
  | 0, _, _, _ => none
  | n + 1, x1, x2, x3 =>
    if (μ 3 2) ≤ x3 then
      some x2
    else
      inb x3 6 (
        if (μ 38 x3.toNatClampNeg) = x1 then
          ib (x2 ||| ((1 : Int32) <<< (x3 &&& 31))) (fun y2 =>
            f_days_carriedBy_4 N  μ  n x1 y2 (x3 + 1))
        else
          f_days_carriedBy_4 N  μ  n x1 x2 (x3 + 1))
def f_days_carriedBy (N : Nat)  (μ : sw_M) (a1 : Int32) : Option (Int32) :=
  f_days_carriedBy_4 N  μ  N a1 0 0
set_option maxRecDepth 100000 in
set_option maxHeartbeats 4000000 in
theorem ok_f_days_carriedBy_4 {G : sw_G} {ad : Nat → Nat} {ν : sw_N}   {N : Nat} {o : Int32} (g : sw_ok G cX2_carriedBy "DeadWires$Days" (some .int) 1 0 0 ad) (hm : G.2.2.1.2.1.maxLocals = 4)  (μ : sw_M) (ho : sw_out G 0 0 (fun a => a = ad) (.inl (some (.int o))) lay0 μ ν)  : ∀ (n : Nat) (x1 : Int32) (x2 : Int32) (x3 : Int32) (h : f_days_carriedBy_4 N  μ  n x1 x2 x3 = some o), SW G ad lay0 ν 0 0 4 [some (.ref 35), some (.int x1), some (.int x2), some (.int x3)] [] μ := by
  intro n
  induction n with
  | zero => intro x1 x2 x3 h; simp only [f_days_carriedBy_4] at h; cases h
  | succ n ih =>
    intro x1 x2 x3 h
    unfold f_days_carriedBy_4 at h
    refine SW.iload_n (pc := 4) g (dt dt_X2_carriedBy 4 rfl) rfl ?_
    refine SW.aload_n (pc := 5) g (dt dt_X2_carriedBy 5 rfl) rfl ?_
    refine SW.getR (pc := 6) g (dt dt_X2_carriedBy 6 rfl) fl_X2_27 cell_35 rfl ?_
    refine SW.getI (pc := 9) g (dt dt_X2_carriedBy 7 rfl) fl_X2_110 cell_3 rfl ?_
    refine SW.icmp_ge (pc := 12) (t := 37) g (dt dt_X2_carriedBy 8 rfl) rfl (fun hc => ?_) (fun hc => ?_)
    · have h := iteT hc h
      refine SW.iload_n (pc := 37) g (dt dt_X2_carriedBy 23 rfl) rfl ?_
      exact SW.ireturn (pc := 38) g (leafI h ho) rfl (Nat.le_of_ble_eq_true rfl) (Nat.le_of_ble_eq_true rfl) (dt dt_X2_carriedBy 24 rfl)
    · have h := iteF hc h
      refine SW.aload_n (pc := 15) g (dt dt_X2_carriedBy 9 rfl) rfl ?_
      refine SW.getR (pc := 16) g (dt dt_X2_carriedBy 10 rfl) fl_X2_18 cell_35 rfl ?_
      refine SW.iload_n (pc := 19) g (dt dt_X2_carriedBy 11 rfl) rfl ?_
      obtain ⟨hb1, h⟩ := inbI h
      refine SW.iaload (pc := 20) g (dt dt_X2_carriedBy 12 rfl) cell_38 hb1 ?_
      refine SW.iload_n (pc := 21) g (dt dt_X2_carriedBy 13 rfl) rfl ?_
      refine SW.icmp_ne (pc := 22) (t := 31) g (dt dt_X2_carriedBy 14 rfl) rfl (fun hc => ?_) (fun hc => ?_)
      · have h := iteF hc h
        refine SW.iinc (pc := 31) (v := x3 + 1) g (dt dt_X2_carriedBy 21 rfl) rfl (kn_1 _) (sw_ltm hm (Nat.le_of_ble_eq_true rfl)) rfl ?_
        refine SW.goto (pc := 34) (t := 4) g (dt dt_X2_carriedBy 22 rfl) rfl ?_
        refine SW.msk [true, true, true, true] ?_
        exact ih  x1 x2 (x3 + 1) h
      · have h := iteT hc h
        refine SW.iload_n (pc := 25) g (dt dt_X2_carriedBy 15 rfl) rfl ?_
        refine SW.iconst (pc := 26) (v := 1) g (dt dt_X2_carriedBy 16 rfl) ki_1 ?_
        refine SW.iload_n (pc := 27) g (dt dt_X2_carriedBy 17 rfl) rfl ?_
        refine SW.ishl (pc := 28) g (dt dt_X2_carriedBy 18 rfl) ?_
        refine SW.ior (pc := 29) g (dt dt_X2_carriedBy 19 rfl) ?_
        refine SW.istore_n (pc := 30) g (dt dt_X2_carriedBy 20 rfl) (sw_ltm hm (Nat.le_of_ble_eq_true rfl)) rfl ?_
        refine SW.genL h (fun y2 h => ?_)
        refine SW.iinc (pc := 31) (v := x3 + 1) g (dt dt_X2_carriedBy 21 rfl) rfl (kn_1 _) (sw_ltm hm (Nat.le_of_ble_eq_true rfl)) rfl ?_
        refine SW.goto (pc := 34) (t := 4) g (dt dt_X2_carriedBy 22 rfl) rfl ?_
        refine SW.msk [true, true, true, true] ?_
        exact ih  x1 y2 (x3 + 1) h
set_option maxRecDepth 100000 in
set_option maxHeartbeats 4000000 in
theorem ok_f_days_carriedBy {G : sw_G} {ad : Nat → Nat} {ν : sw_N}   {N : Nat} {o : Int32} (g : sw_ok G cX2_carriedBy "DeadWires$Days" (some .int) 1 0 0 ad) (hm : G.2.2.1.2.1.maxLocals = 4)  (μ : sw_M) (ho : sw_out G 0 0 (fun a => a = ad) (.inl (some (.int o))) lay0 μ ν) (a1 : Int32) (h : f_days_carriedBy N  μ a1 = some o) : SW G ad lay0 ν 0 0 0 [some (.ref 35), some (.int a1), none, none] [] μ := by
  unfold f_days_carriedBy at h
  refine SW.iconst (pc := 0) (v := 0) g (dt dt_X2_carriedBy 0 rfl) ki_0 ?_
  refine SW.istore_n (pc := 1) g (dt dt_X2_carriedBy 1 rfl) (sw_ltm hm (Nat.le_of_ble_eq_true rfl)) rfl ?_
  refine SW.iconst (pc := 2) (v := 0) g (dt dt_X2_carriedBy 2 rfl) ki_0 ?_
  refine SW.istore_n (pc := 3) g (dt dt_X2_carriedBy 3 rfl) (sw_ltm hm (Nat.le_of_ble_eq_true rfl)) rfl ?_
  refine SW.msk [true, true, true, true] ?_
  exact ok_f_days_carriedBy_4  g hm  μ ho   N a1 0 0 h
set_option maxRecDepth 100000 in
set_option maxHeartbeats 4000000 in
theorem mt_f_days_carriedBy (l : Launch) (D : va_G) (cI cL : ClassId) (ad : Nat → Nat) (ν : sw_N)    (N : Nat) (μ : sw_M) (a1 : Int32) (o : Int32) (h : f_days_carriedBy N  μ a1 = some o) : MetR l D cI cL yX2_carriedBy cX2_carriedBy 4 (some .int) 1 0 0 (fun a => a = ad) ad [.ref 35, .int a1] lay0 μ ν (some (.int o)) lay0 μ ν :=
  MetR.of (n := 2) rfl (Nat.le_of_ble_eq_true rfl) (fun G g ho hm _ _ => ok_f_days_carriedBy  g hm  μ ho a1 h)
def f_days_tollOf (N : Nat)  (μ : sw_M) (a1 : Int32) (a2 : Int32) : Option (Int32 × sw_M) :=
  Option.bind (f_sx_at N 39 5 μ a1) (fun r1 =>
    Option.bind (f_days_loadOf N  μ a1) (fun r3 =>
      Option.bind (f_sx_at N 10 5 μ a1) (fun r5 =>
        Option.bind (f_sx_at N 40 5 μ a1) (fun r7 =>
          Option.bind (f_days_hoursLeft N  μ a2) (fun r9 =>
            Option.bind (f_land_wiresAt N  μ r1) (fun r11 =>
              Option.bind (f_law_setValues N  μ r3 r5 r7 r9 (μ 35 2) r11 a1) (fun r13 =>
                Option.bind (f_law_reckon N  r13 ) (fun r15 =>
                  some (r15.1, r15.2)))))))))
set_option maxRecDepth 100000 in
set_option maxHeartbeats 4000000 in
theorem ok_f_days_tollOf {G : sw_G} {ad : Nat → Nat} {ν : sw_N}   {N : Nat} {o : Int32 × sw_M} (g : sw_ok G cX2_tollOf "DeadWires$Days" (some .int) 3 0 0 ad) (hm : G.2.2.1.2.1.maxLocals = 4)  (μ : sw_M) (ho : sw_out G 0 0 (fun a => a = ad) (.inl (some (.int o.1))) lay0 o.2 ν) (a1 : Int32) (a2 : Int32) (h : f_days_tollOf N  μ a1 a2 = some o) : SW G ad lay0 ν 0 0 0 [some (.ref 35), some (.int a1), some (.int a2), none] [] μ := by
  unfold f_days_tollOf at h
  refine SW.aload_n (pc := 0) g (dt dt_X2_tollOf 0 rfl) rfl ?_
  refine SW.getR (pc := 1) g (dt dt_X2_tollOf 1 rfl) fl_X2_21 cell_35 rfl ?_
  refine SW.iload_n (pc := 4) g (dt dt_X2_tollOf 2 rfl) rfl ?_
  obtain ⟨r1, h2, h⟩ := bindI h
  refine SW.callSNi (pc := 5) g (dt dt_X2_tollOf 3 rfl) (mt_f_sx_at _ _ _ _ ad ν lay0 39 5 cell_39 N μ a1 r1 h2) me_X10_at ms_X10_at mn_X2_79 rfl (Nat.le_of_ble_eq_true rfl) (Nat.le_of_ble_eq_true rfl) (Nat.le_of_ble_eq_true rfl) (Nat.le_of_ble_eq_true rfl) rfl ?_
  refine SW.istore_n (pc := 8) g (dt dt_X2_tollOf 4 rfl) (sw_ltm hm (Nat.le_of_ble_eq_true rfl)) rfl ?_
  refine SW.aload_n (pc := 9) g (dt dt_X2_tollOf 5 rfl) rfl ?_
  refine SW.getR (pc := 10) g (dt dt_X2_tollOf 6 rfl) fl_X2_31 cell_35 rfl ?_
  refine SW.aload_n (pc := 13) g (dt dt_X2_tollOf 7 rfl) rfl ?_
  refine SW.iload_n (pc := 14) g (dt dt_X2_tollOf 8 rfl) rfl ?_
  obtain ⟨r3, h4, h⟩ := bindI h
  refine SW.callVi (pc := 15) g (dt dt_X2_tollOf 9 rfl) (mt_f_days_loadOf _ _ _ _ ad ν   N μ a1 r3 h4) me_X2_loadOf mv_X2_loadOf ml_X2_122 cell_35 rfl rfl (Nat.le_of_ble_eq_true rfl) (Nat.le_of_ble_eq_true rfl) (Nat.le_of_ble_eq_true rfl) (Nat.le_of_ble_eq_true rfl) rfl ?_
  refine SW.aload_n (pc := 18) g (dt dt_X2_tollOf 10 rfl) rfl ?_
  refine SW.getR (pc := 19) g (dt dt_X2_tollOf 11 rfl) fl_X2_27 cell_35 rfl ?_
  refine SW.getR (pc := 22) g (dt dt_X2_tollOf 12 rfl) fl_X2_119 cell_3 rfl ?_
  refine SW.iload_n (pc := 25) g (dt dt_X2_tollOf 13 rfl) rfl ?_
  obtain ⟨r5, h6, h⟩ := bindI h
  refine SW.callSNi (pc := 26) g (dt dt_X2_tollOf 14 rfl) (mt_f_sx_at _ _ _ _ ad ν lay0 10 5 cell_10 N μ a1 r5 h6) me_X10_at ms_X10_at mn_X2_79 rfl (Nat.le_of_ble_eq_true rfl) (Nat.le_of_ble_eq_true rfl) (Nat.le_of_ble_eq_true rfl) (Nat.le_of_ble_eq_true rfl) rfl ?_
  refine SW.aload_n (pc := 29) g (dt dt_X2_tollOf 15 rfl) rfl ?_
  refine SW.getR (pc := 30) g (dt dt_X2_tollOf 16 rfl) fl_X2_24 cell_35 rfl ?_
  refine SW.iload_n (pc := 33) g (dt dt_X2_tollOf 17 rfl) rfl ?_
  obtain ⟨r7, h8, h⟩ := bindI h
  refine SW.callSNi (pc := 34) g (dt dt_X2_tollOf 18 rfl) (mt_f_sx_at _ _ _ _ ad ν lay0 40 5 cell_40 N μ a1 r7 h8) me_X10_at ms_X10_at mn_X2_79 rfl (Nat.le_of_ble_eq_true rfl) (Nat.le_of_ble_eq_true rfl) (Nat.le_of_ble_eq_true rfl) (Nat.le_of_ble_eq_true rfl) rfl ?_
  refine SW.aload_n (pc := 37) g (dt dt_X2_tollOf 19 rfl) rfl ?_
  refine SW.iload_n (pc := 38) g (dt dt_X2_tollOf 20 rfl) rfl ?_
  obtain ⟨r9, h10, h⟩ := bindI h
  refine SW.callVi (pc := 39) g (dt dt_X2_tollOf 21 rfl) (mt_f_days_hoursLeft _ _ _ _ ad ν   N μ a2 r9 h10) me_X2_hoursLeft mv_X2_hoursLeft ml_X2_101 cell_35 rfl rfl (Nat.le_of_ble_eq_true rfl) (Nat.le_of_ble_eq_true rfl) (Nat.le_of_ble_eq_true rfl) (Nat.le_of_ble_eq_true rfl) rfl ?_
  refine SW.aload_n (pc := 42) g (dt dt_X2_tollOf 22 rfl) rfl ?_
  refine SW.getI (pc := 43) g (dt dt_X2_tollOf 23 rfl) fl_X2_38 cell_35 rfl ?_
  refine SW.aload_n (pc := 46) g (dt dt_X2_tollOf 24 rfl) rfl ?_
  refine SW.getR (pc := 47) g (dt dt_X2_tollOf 25 rfl) fl_X2_27 cell_35 rfl ?_
  refine SW.iload_n (pc := 50) g (dt dt_X2_tollOf 26 rfl) rfl ?_
  obtain ⟨r11, h12, h⟩ := bindI h
  refine SW.callVi (pc := 51) g (dt dt_X2_tollOf 27 rfl) (mt_f_land_wiresAt _ _ _ _ ad ν   N μ r1 r11 h12) me_X4_wiresAt mv_X4_wiresAt ml_X2_137 cell_3 rfl rfl (Nat.le_of_ble_eq_true rfl) (Nat.le_of_ble_eq_true rfl) (Nat.le_of_ble_eq_true rfl) (Nat.le_of_ble_eq_true rfl) rfl ?_
  refine SW.iload_n (pc := 54) g (dt dt_X2_tollOf 28 rfl) rfl ?_
  obtain ⟨r13, h14, h⟩ := bindI h
  refine SW.callVv (pc := 55) g (dt dt_X2_tollOf 29 rfl) (mt_f_law_setValues _ _ _ _ ad ν   N μ r3 r5 r7 r9 (μ 35 2) r11 a1 r13 h14) me_X5_setValues mv_X5_setValues ml_X2_140 cell_19 rfl rfl (Nat.le_of_ble_eq_true rfl) (Nat.le_of_ble_eq_true rfl) (Nat.le_of_ble_eq_true rfl) (Nat.le_of_ble_eq_true rfl) rfl ?_
  refine SW.aload_n (pc := 58) g (dt dt_X2_tollOf 30 rfl) rfl ?_
  refine SW.getR (pc := 59) g (dt dt_X2_tollOf 31 rfl) fl_X2_31 cell_35 rfl ?_
  obtain ⟨r15, h16, h⟩ := bindI h
  refine SW.callVi (pc := 62) g (dt dt_X2_tollOf 32 rfl) (mt_f_law_reckon _ _ _ _ ad ν   N r13  r15 h16) me_X5_reckon mv_X5_reckon ml_X2_146 cell_19 rfl rfl (Nat.le_of_ble_eq_true rfl) (Nat.le_of_ble_eq_true rfl) (Nat.le_of_ble_eq_true rfl) (Nat.le_of_ble_eq_true rfl) rfl ?_
  exact SW.ireturn (pc := 65) g (leafW h ho) rfl (Nat.le_of_ble_eq_true rfl) (Nat.le_of_ble_eq_true rfl) (dt dt_X2_tollOf 33 rfl)
set_option maxRecDepth 100000 in
set_option maxHeartbeats 4000000 in
theorem mt_f_days_tollOf (l : Launch) (D : va_G) (cI cL : ClassId) (ad : Nat → Nat) (ν : sw_N)    (N : Nat) (μ : sw_M) (a1 : Int32) (a2 : Int32) (o : Int32 × sw_M) (h : f_days_tollOf N  μ a1 a2 = some o) : MetR l D cI cL yX2_tollOf cX2_tollOf 4 (some .int) 3 0 0 (fun a => a = ad) ad [.ref 35, .int a1, .int a2] lay0 μ ν (some (.int o.1)) lay0 o.2 ν :=
  MetR.of (n := 1) rfl (Nat.le_of_ble_eq_true rfl) (fun G g ho hm _ _ => ok_f_days_tollOf  g hm  μ ho a1 a2 h)
def f_land_across (N : Nat)  (μ : sw_M) (a1 : Int32) (a2 : Int32) : Option (Int32) :=
  Option.bind (f_sx_at N 4 12 μ a1) (fun r1 =>
    Option.bind (f_sx_at N 5 12 μ a1) (fun r3 =>
      if a2 = r1 then
        some r3
      else
        if a2 = r3 then
          some r1
        else
          some (-1)))
set_option maxRecDepth 100000 in
set_option maxHeartbeats 4000000 in
theorem ok_f_land_across {G : sw_G} {ad : Nat → Nat} {ν : sw_N}   {N : Nat} {o : Int32} (g : sw_ok G cX4_across "DeadWires$Land" (some .int) 2 0 0 ad) (hm : G.2.2.1.2.1.maxLocals = 5)  (μ : sw_M) (ho : sw_out G 0 0 (fun a => a = ad) (.inl (some (.int o))) lay0 μ ν) (a1 : Int32) (a2 : Int32) (h : f_land_across N  μ a1 a2 = some o) : SW G ad lay0 ν 0 0 0 [some (.ref 3), some (.int a1), some (.int a2), none, none] [] μ := by
  unfold f_land_across at h
  refine SW.aload_n (pc := 0) g (dt dt_X4_across 0 rfl) rfl ?_
  refine SW.getR (pc := 1) g (dt dt_X4_across 1 rfl) fl_X4_15 cell_3 rfl ?_
  refine SW.iload_n (pc := 4) g (dt dt_X4_across 2 rfl) rfl ?_
  obtain ⟨r1, h2, h⟩ := bindI h
  refine SW.callSNi (pc := 5) g (dt dt_X4_across 3 rfl) (mt_f_sx_at _ _ _ _ ad ν lay0 4 12 cell_4 N μ a1 r1 h2) me_X10_at ms_X10_at mn_X4_64 rfl (Nat.le_of_ble_eq_true rfl) (Nat.le_of_ble_eq_true rfl) (Nat.le_of_ble_eq_true rfl) (Nat.le_of_ble_eq_true rfl) rfl ?_
  refine SW.istore_n (pc := 8) g (dt dt_X4_across 4 rfl) (sw_ltm hm (Nat.le_of_ble_eq_true rfl)) rfl ?_
  refine SW.aload_n (pc := 9) g (dt dt_X4_across 5 rfl) rfl ?_
  refine SW.getR (pc := 10) g (dt dt_X4_across 6 rfl) fl_X4_19 cell_3 rfl ?_
  refine SW.iload_n (pc := 13) g (dt dt_X4_across 7 rfl) rfl ?_
  obtain ⟨r3, h4, h⟩ := bindI h
  refine SW.callSNi (pc := 14) g (dt dt_X4_across 8 rfl) (mt_f_sx_at _ _ _ _ ad ν lay0 5 12 cell_5 N μ a1 r3 h4) me_X10_at ms_X10_at mn_X4_64 rfl (Nat.le_of_ble_eq_true rfl) (Nat.le_of_ble_eq_true rfl) (Nat.le_of_ble_eq_true rfl) (Nat.le_of_ble_eq_true rfl) rfl ?_
  refine SW.istore (pc := 17) g (dt dt_X4_across 9 rfl) (sw_ltm hm (Nat.le_of_ble_eq_true rfl)) rfl ?_
  refine SW.iload_n (pc := 19) g (dt dt_X4_across 10 rfl) rfl ?_
  refine SW.iload_n (pc := 20) g (dt dt_X4_across 11 rfl) rfl ?_
  refine SW.icmp_ne (pc := 21) (t := 27) g (dt dt_X4_across 12 rfl) rfl (fun hc => ?_) (fun hc => ?_)
  · have h := iteF hc h
    refine SW.iload_n (pc := 27) g (dt dt_X4_across 15 rfl) rfl ?_
    refine SW.iload (pc := 28) g (dt dt_X4_across 16 rfl) rfl ?_
    refine SW.icmp_ne (pc := 30) (t := 37) g (dt dt_X4_across 17 rfl) rfl (fun hc => ?_) (fun hc => ?_)
    · have h := iteF hc h
      refine SW.iconst (pc := 37) (v := (-1)) g (dt dt_X4_across 20 rfl) ki_m1 ?_
      exact SW.ireturn (pc := 38) g (leafI h ho) rfl (Nat.le_of_ble_eq_true rfl) (Nat.le_of_ble_eq_true rfl) (dt dt_X4_across 21 rfl)
    · have h := iteT hc h
      refine SW.iload_n (pc := 33) g (dt dt_X4_across 18 rfl) rfl ?_
      refine SW.goto (pc := 34) (t := 38) g (dt dt_X4_across 19 rfl) rfl ?_
      exact SW.ireturn (pc := 38) g (leafI h ho) rfl (Nat.le_of_ble_eq_true rfl) (Nat.le_of_ble_eq_true rfl) (dt dt_X4_across 21 rfl)
  · have h := iteT hc h
    refine SW.iload (pc := 24) g (dt dt_X4_across 13 rfl) rfl ?_
    exact SW.ireturn (pc := 26) g (leafI h ho) rfl (Nat.le_of_ble_eq_true rfl) (Nat.le_of_ble_eq_true rfl) (dt dt_X4_across 14 rfl)
set_option maxRecDepth 100000 in
set_option maxHeartbeats 4000000 in
theorem mt_f_land_across (l : Launch) (D : va_G) (cI cL : ClassId) (ad : Nat → Nat) (ν : sw_N)    (N : Nat) (μ : sw_M) (a1 : Int32) (a2 : Int32) (o : Int32) (h : f_land_across N  μ a1 a2 = some o) : MetR l D cI cL yX4_across cX4_across 5 (some .int) 2 0 0 (fun a => a = ad) ad [.ref 3, .int a1, .int a2] lay0 μ ν (some (.int o)) lay0 μ ν :=
  MetR.of (n := 2) rfl (Nat.le_of_ble_eq_true rfl) (fun G g ho hm _ _ => ok_f_land_across  g hm  μ ho a1 a2 h)
def f_days_isOpenTo (N : Nat)  (μ : sw_M) (a1 : Int32) (a2 : Int32) : Option (Int32) :=
  Option.bind (f_days_isLive N  μ a2 0) (fun r1 =>
    if r1 = 0 then
      Option.bind (f_sx_at N 39 5 μ a1) (fun r3 =>
        Option.bind (f_land_across N  μ a2 r3) (fun r5 =>
          if r5 = (-1) then
            some 0
          else
            some 1))
    else
      some 0)
set_option maxRecDepth 100000 in
set_option maxHeartbeats 4000000 in
theorem ok_f_days_isOpenTo {G : sw_G} {ad : Nat → Nat} {ν : sw_N}   {N : Nat} {o : Int32} (g : sw_ok G cX2_isOpenTo "DeadWires$Days" (some .boolean) 3 0 0 ad) (hm : G.2.2.1.2.1.maxLocals = 3)  (μ : sw_M) (ho : sw_out G 0 0 (fun a => a = ad) (.inl (some (.int o))) lay0 μ ν) (a1 : Int32) (a2 : Int32) (h : f_days_isOpenTo N  μ a1 a2 = some o) : SW G ad lay0 ν 0 0 0 [some (.ref 35), some (.int a1), some (.int a2)] [] μ := by
  unfold f_days_isOpenTo at h
  refine SW.aload_n (pc := 0) g (dt dt_X2_isOpenTo 0 rfl) rfl ?_
  refine SW.iload_n (pc := 1) g (dt dt_X2_isOpenTo 1 rfl) rfl ?_
  refine SW.iconst (pc := 2) (v := 0) g (dt dt_X2_isOpenTo 2 rfl) ki_0 ?_
  obtain ⟨r1, h2, h⟩ := bindI h
  refine SW.callVi (pc := 3) g (dt dt_X2_isOpenTo 3 rfl) (mt_f_days_isLive _ _ _ _ ad ν   N μ a2 0 r1 h2) me_X2_isLive mv_X2_isLive ml_X2_86 cell_35 rfl rfl (Nat.le_of_ble_eq_true rfl) (Nat.le_of_ble_eq_true rfl) (Nat.le_of_ble_eq_true rfl) (Nat.le_of_ble_eq_true rfl) rfl ?_
  refine SW.if_ne (pc := 6) (t := 33) g (dt dt_X2_isOpenTo 4 rfl) rfl (fun hc => ?_) (fun hc => ?_)
  · have h := iteF hc h
    refine SW.iconst (pc := 33) (v := 0) g (dt dt_X2_isOpenTo 17 rfl) ki_0 ?_
    exact SW.zreturn (pc := 34) g (leafI h ho) rfl (Nat.le_of_ble_eq_true rfl) (Nat.le_of_ble_eq_true rfl) (by decide) (dt dt_X2_isOpenTo 18 rfl)
  · have h := iteT hc h
    refine SW.aload_n (pc := 9) g (dt dt_X2_isOpenTo 5 rfl) rfl ?_
    refine SW.getR (pc := 10) g (dt dt_X2_isOpenTo 6 rfl) fl_X2_27 cell_35 rfl ?_
    refine SW.iload_n (pc := 13) g (dt dt_X2_isOpenTo 7 rfl) rfl ?_
    refine SW.aload_n (pc := 14) g (dt dt_X2_isOpenTo 8 rfl) rfl ?_
    refine SW.getR (pc := 15) g (dt dt_X2_isOpenTo 9 rfl) fl_X2_21 cell_35 rfl ?_
    refine SW.iload_n (pc := 18) g (dt dt_X2_isOpenTo 10 rfl) rfl ?_
    obtain ⟨r3, h4, h⟩ := bindI h
    refine SW.callSNi (pc := 19) g (dt dt_X2_isOpenTo 11 rfl) (mt_f_sx_at _ _ _ _ ad ν lay0 39 5 cell_39 N μ a1 r3 h4) me_X10_at ms_X10_at mn_X2_79 rfl (Nat.le_of_ble_eq_true rfl) (Nat.le_of_ble_eq_true rfl) (Nat.le_of_ble_eq_true rfl) (Nat.le_of_ble_eq_true rfl) rfl ?_
    obtain ⟨r5, h6, h⟩ := bindI h
    refine SW.callVi (pc := 22) g (dt dt_X2_isOpenTo 12 rfl) (mt_f_land_across _ _ _ _ ad ν   N μ a2 r3 r5 h6) me_X4_across mv_X4_across ml_X2_150 cell_3 rfl rfl (Nat.le_of_ble_eq_true rfl) (Nat.le_of_ble_eq_true rfl) (Nat.le_of_ble_eq_true rfl) (Nat.le_of_ble_eq_true rfl) rfl ?_
    refine SW.iconst (pc := 25) (v := (-1)) g (dt dt_X2_isOpenTo 13 rfl) ki_m1 ?_
    refine SW.icmp_eq (pc := 26) (t := 33) g (dt dt_X2_isOpenTo 14 rfl) rfl (fun hc => ?_) (fun hc => ?_)
    · have h := iteT hc h
      refine SW.iconst (pc := 33) (v := 0) g (dt dt_X2_isOpenTo 17 rfl) ki_0 ?_
      exact SW.zreturn (pc := 34) g (leafI h ho) rfl (Nat.le_of_ble_eq_true rfl) (Nat.le_of_ble_eq_true rfl) (by decide) (dt dt_X2_isOpenTo 18 rfl)
    · have h := iteF hc h
      refine SW.iconst (pc := 29) (v := 1) g (dt dt_X2_isOpenTo 15 rfl) ki_1 ?_
      refine SW.goto (pc := 30) (t := 34) g (dt dt_X2_isOpenTo 16 rfl) rfl ?_
      exact SW.zreturn (pc := 34) g (leafI h ho) rfl (Nat.le_of_ble_eq_true rfl) (Nat.le_of_ble_eq_true rfl) (by decide) (dt dt_X2_isOpenTo 18 rfl)
set_option maxRecDepth 100000 in
set_option maxHeartbeats 4000000 in
theorem mt_f_days_isOpenTo (l : Launch) (D : va_G) (cI cL : ClassId) (ad : Nat → Nat) (ν : sw_N)    (N : Nat) (μ : sw_M) (a1 : Int32) (a2 : Int32) (o : Int32) (h : f_days_isOpenTo N  μ a1 a2 = some o) : MetR l D cI cL yX2_isOpenTo cX2_isOpenTo 3 (some .boolean) 3 0 0 (fun a => a = ad) ad [.ref 35, .int a1, .int a2] lay0 μ ν (some (.int o)) lay0 μ ν :=
  MetR.of (n := 0) rfl (Nat.le_of_ble_eq_true rfl) (fun G g ho hm _ _ => ok_f_days_isOpenTo  g hm  μ ho a1 a2 h)
def f_days_canCross (N : Nat)  (μ : sw_M) (a1 : Int32) (a2 : Int32) : Option (Int32 × sw_M) :=
  Option.bind (f_days_isOpenTo N  μ a1 a2) (fun r1 =>
    if r1 = 0 then
      some (0, μ)
    else
      Option.bind (f_sx_at N 40 5 μ a1) (fun r3 =>
        Option.bind (f_days_tollOf N  μ a1 a2) (fun r5 =>
          if 60 < (r3 + r5.1) then
            some (0, r5.2)
          else
            some (1, r5.2))))
set_option maxRecDepth 100000 in
set_option maxHeartbeats 4000000 in
theorem ok_f_days_canCross {G : sw_G} {ad : Nat → Nat} {ν : sw_N}   {N : Nat} {o : Int32 × sw_M} (g : sw_ok G cX2_canCross "DeadWires$Days" (some .boolean) 4 0 0 ad) (hm : G.2.2.1.2.1.maxLocals = 3)  (μ : sw_M) (ho : sw_out G 0 0 (fun a => a = ad) (.inl (some (.int o.1))) lay0 o.2 ν) (a1 : Int32) (a2 : Int32) (h : f_days_canCross N  μ a1 a2 = some o) : SW G ad lay0 ν 0 0 0 [some (.ref 35), some (.int a1), some (.int a2)] [] μ := by
  unfold f_days_canCross at h
  refine SW.aload_n (pc := 0) g (dt dt_X2_canCross 0 rfl) rfl ?_
  refine SW.iload_n (pc := 1) g (dt dt_X2_canCross 1 rfl) rfl ?_
  refine SW.iload_n (pc := 2) g (dt dt_X2_canCross 2 rfl) rfl ?_
  obtain ⟨r1, h2, h⟩ := bindI h
  refine SW.callVi (pc := 3) g (dt dt_X2_canCross 3 rfl) (mt_f_days_isOpenTo _ _ _ _ ad ν   N μ a1 a2 r1 h2) me_X2_isOpenTo mv_X2_isOpenTo ml_X2_153 cell_35 rfl rfl (Nat.le_of_ble_eq_true rfl) (Nat.le_of_ble_eq_true rfl) (Nat.le_of_ble_eq_true rfl) (Nat.le_of_ble_eq_true rfl) rfl ?_
  refine SW.if_eq (pc := 6) (t := 33) g (dt dt_X2_canCross 4 rfl) rfl (fun hc => ?_) (fun hc => ?_)
  · have h := iteT hc h
    refine SW.iconst (pc := 33) (v := 0) g (dt dt_X2_canCross 18 rfl) ki_0 ?_
    exact SW.zreturn (pc := 34) g (leafW h ho) rfl (Nat.le_of_ble_eq_true rfl) (Nat.le_of_ble_eq_true rfl) (by decide) (dt dt_X2_canCross 19 rfl)
  · have h := iteF hc h
    refine SW.aload_n (pc := 9) g (dt dt_X2_canCross 5 rfl) rfl ?_
    refine SW.getR (pc := 10) g (dt dt_X2_canCross 6 rfl) fl_X2_24 cell_35 rfl ?_
    refine SW.iload_n (pc := 13) g (dt dt_X2_canCross 7 rfl) rfl ?_
    obtain ⟨r3, h4, h⟩ := bindI h
    refine SW.callSNi (pc := 14) g (dt dt_X2_canCross 8 rfl) (mt_f_sx_at _ _ _ _ ad ν lay0 40 5 cell_40 N μ a1 r3 h4) me_X10_at ms_X10_at mn_X2_79 rfl (Nat.le_of_ble_eq_true rfl) (Nat.le_of_ble_eq_true rfl) (Nat.le_of_ble_eq_true rfl) (Nat.le_of_ble_eq_true rfl) rfl ?_
    refine SW.aload_n (pc := 17) g (dt dt_X2_canCross 9 rfl) rfl ?_
    refine SW.iload_n (pc := 18) g (dt dt_X2_canCross 10 rfl) rfl ?_
    refine SW.iload_n (pc := 19) g (dt dt_X2_canCross 11 rfl) rfl ?_
    obtain ⟨r5, h6, h⟩ := bindI h
    refine SW.callVi (pc := 20) g (dt dt_X2_canCross 12 rfl) (mt_f_days_tollOf _ _ _ _ ad ν   N μ a1 a2 r5 h6) me_X2_tollOf mv_X2_tollOf ml_X2_156 cell_35 rfl rfl (Nat.le_of_ble_eq_true rfl) (Nat.le_of_ble_eq_true rfl) (Nat.le_of_ble_eq_true rfl) (Nat.le_of_ble_eq_true rfl) rfl ?_
    refine SW.iadd (pc := 23) g (dt dt_X2_canCross 13 rfl) ?_
    refine SW.bipush (pc := 24) (v := 60) g (dt dt_X2_canCross 14 rfl) kb_60 ?_
    refine SW.icmp_gt (pc := 26) (t := 33) g (dt dt_X2_canCross 15 rfl) rfl (fun hc => ?_) (fun hc => ?_)
    · have h := iteT hc h
      refine SW.iconst (pc := 33) (v := 0) g (dt dt_X2_canCross 18 rfl) ki_0 ?_
      exact SW.zreturn (pc := 34) g (leafW h ho) rfl (Nat.le_of_ble_eq_true rfl) (Nat.le_of_ble_eq_true rfl) (by decide) (dt dt_X2_canCross 19 rfl)
    · have h := iteF hc h
      refine SW.iconst (pc := 29) (v := 1) g (dt dt_X2_canCross 16 rfl) ki_1 ?_
      refine SW.goto (pc := 30) (t := 34) g (dt dt_X2_canCross 17 rfl) rfl ?_
      exact SW.zreturn (pc := 34) g (leafW h ho) rfl (Nat.le_of_ble_eq_true rfl) (Nat.le_of_ble_eq_true rfl) (by decide) (dt dt_X2_canCross 19 rfl)
set_option maxRecDepth 100000 in
set_option maxHeartbeats 4000000 in
theorem mt_f_days_canCross (l : Launch) (D : va_G) (cI cL : ClassId) (ad : Nat → Nat) (ν : sw_N)    (N : Nat) (μ : sw_M) (a1 : Int32) (a2 : Int32) (o : Int32 × sw_M) (h : f_days_canCross N  μ a1 a2 = some o) : MetR l D cI cL yX2_canCross cX2_canCross 3 (some .boolean) 4 0 0 (fun a => a = ad) ad [.ref 35, .int a1, .int a2] lay0 μ ν (some (.int o.1)) lay0 o.2 ν :=
  MetR.of (n := 0) rfl (Nat.le_of_ble_eq_true rfl) (fun G g ho hm _ _ => ok_f_days_canCross  g hm  μ ho a1 a2 h)
def f_days_tiredTogether_4 (N : Nat)  (μ : sw_M)  : Nat → Int32 → Int32 → Int32 → Option (Int32)
  | 0, _, _, _ => none
  | n + 1, x1, x2, x3 =>
    if (μ 3 3) ≤ x3 then
      some x2
    else
      inb x3 5 (
        ib (x2 + (if 0 < ((μ 40 x3.toNatClampNeg) - ((5 : Int32) * x1)) then ((μ 40 x3.toNatClampNeg) - ((5 : Int32) * x1)) else 0)) (fun y2 =>
          f_days_tiredTogether_4 N  μ  n x1 y2 (x3 + 1)))
def f_days_tiredTogether (N : Nat)  (μ : sw_M) (a1 : Int32) : Option (Int32) :=
  f_days_tiredTogether_4 N  μ  N a1 0 0
set_option maxRecDepth 100000 in
set_option maxHeartbeats 4000000 in
theorem ok_f_days_tiredTogether_4 {G : sw_G} {ad : Nat → Nat} {ν : sw_N}   {N : Nat} {o : Int32} (g : sw_ok G cX2_tiredTogether "DeadWires$Days" (some .int) 1 0 0 ad) (hm : G.2.2.1.2.1.maxLocals = 4)  (μ : sw_M) (ho : sw_out G 0 0 (fun a => a = ad) (.inl (some (.int o))) lay0 μ ν)  : ∀ (n : Nat) (x1 : Int32) (x2 : Int32) (x3 : Int32) (h : f_days_tiredTogether_4 N  μ  n x1 x2 x3 = some o), SW G ad lay0 ν 0 0 4 [some (.ref 35), some (.int x1), some (.int x2), some (.int x3)] [] μ := by
  intro n
  induction n with
  | zero => intro x1 x2 x3 h; simp only [f_days_tiredTogether_4] at h; cases h
  | succ n ih =>
    intro x1 x2 x3 h
    unfold f_days_tiredTogether_4 at h
    refine SW.iload_n (pc := 4) g (dt dt_X2_tiredTogether 4 rfl) rfl ?_
    refine SW.aload_n (pc := 5) g (dt dt_X2_tiredTogether 5 rfl) rfl ?_
    refine SW.getR (pc := 6) g (dt dt_X2_tiredTogether 6 rfl) fl_X2_27 cell_35 rfl ?_
    refine SW.getI (pc := 9) g (dt dt_X2_tiredTogether 7 rfl) fl_X2_113 cell_3 rfl ?_
    refine SW.icmp_ge (pc := 12) (t := 38) g (dt dt_X2_tiredTogether 8 rfl) rfl (fun hc => ?_) (fun hc => ?_)
    · have h := iteT hc h
      refine SW.iload_n (pc := 38) g (dt dt_X2_tiredTogether 24 rfl) rfl ?_
      exact SW.ireturn (pc := 39) g (leafI h ho) rfl (Nat.le_of_ble_eq_true rfl) (Nat.le_of_ble_eq_true rfl) (dt dt_X2_tiredTogether 25 rfl)
    · have h := iteF hc h
      refine SW.iload_n (pc := 15) g (dt dt_X2_tiredTogether 9 rfl) rfl ?_
      refine SW.iconst (pc := 16) (v := 0) g (dt dt_X2_tiredTogether 10 rfl) ki_0 ?_
      refine SW.aload_n (pc := 17) g (dt dt_X2_tiredTogether 11 rfl) rfl ?_
      refine SW.getR (pc := 18) g (dt dt_X2_tiredTogether 12 rfl) fl_X2_24 cell_35 rfl ?_
      refine SW.iload_n (pc := 21) g (dt dt_X2_tiredTogether 13 rfl) rfl ?_
      obtain ⟨hb1, h⟩ := inbI h
      refine SW.iaload (pc := 22) g (dt dt_X2_tiredTogether 14 rfl) cell_40 hb1 ?_
      refine SW.iconst (pc := 23) (v := 5) g (dt dt_X2_tiredTogether 15 rfl) ki_5 ?_
      refine SW.iload_n (pc := 24) g (dt dt_X2_tiredTogether 16 rfl) rfl ?_
      refine SW.imul (pc := 25) g (dt dt_X2_tiredTogether 17 rfl) ?_
      refine SW.isub (pc := 26) g (dt dt_X2_tiredTogether 18 rfl) ?_
      refine SW.mmax (pc := 27) g (dt dt_X2_tiredTogether 19 rfl) ml_X2_125 ms_J9_max_7cf53 mt_init me_J9_max_7cf53.1 (Nat.le_of_ble_eq_true rfl) (Nat.le_of_ble_eq_true rfl) (Nat.le_of_ble_eq_true rfl) (Nat.le_of_ble_eq_true rfl) ?_
      refine SW.iadd (pc := 30) g (dt dt_X2_tiredTogether 20 rfl) ?_
      refine SW.istore_n (pc := 31) g (dt dt_X2_tiredTogether 21 rfl) (sw_ltm hm (Nat.le_of_ble_eq_true rfl)) rfl ?_
      refine SW.genL h (fun y2 h => ?_)
      refine SW.iinc (pc := 32) (v := x3 + 1) g (dt dt_X2_tiredTogether 22 rfl) rfl (kn_1 _) (sw_ltm hm (Nat.le_of_ble_eq_true rfl)) rfl ?_
      refine SW.goto (pc := 35) (t := 4) g (dt dt_X2_tiredTogether 23 rfl) rfl ?_
      refine SW.msk [true, true, true, true] ?_
      exact ih  x1 y2 (x3 + 1) h
set_option maxRecDepth 100000 in
set_option maxHeartbeats 4000000 in
theorem ok_f_days_tiredTogether {G : sw_G} {ad : Nat → Nat} {ν : sw_N}   {N : Nat} {o : Int32} (g : sw_ok G cX2_tiredTogether "DeadWires$Days" (some .int) 1 0 0 ad) (hm : G.2.2.1.2.1.maxLocals = 4)  (μ : sw_M) (ho : sw_out G 0 0 (fun a => a = ad) (.inl (some (.int o))) lay0 μ ν) (a1 : Int32) (h : f_days_tiredTogether N  μ a1 = some o) : SW G ad lay0 ν 0 0 0 [some (.ref 35), some (.int a1), none, none] [] μ := by
  unfold f_days_tiredTogether at h
  refine SW.iconst (pc := 0) (v := 0) g (dt dt_X2_tiredTogether 0 rfl) ki_0 ?_
  refine SW.istore_n (pc := 1) g (dt dt_X2_tiredTogether 1 rfl) (sw_ltm hm (Nat.le_of_ble_eq_true rfl)) rfl ?_
  refine SW.iconst (pc := 2) (v := 0) g (dt dt_X2_tiredTogether 2 rfl) ki_0 ?_
  refine SW.istore_n (pc := 3) g (dt dt_X2_tiredTogether 3 rfl) (sw_ltm hm (Nat.le_of_ble_eq_true rfl)) rfl ?_
  refine SW.msk [true, true, true, true] ?_
  exact ok_f_days_tiredTogether_4  g hm  μ ho   N a1 0 0 h
set_option maxRecDepth 100000 in
set_option maxHeartbeats 4000000 in
theorem mt_f_days_tiredTogether (l : Launch) (D : va_G) (cI cL : ClassId) (ad : Nat → Nat) (ν : sw_N)    (N : Nat) (μ : sw_M) (a1 : Int32) (o : Int32) (h : f_days_tiredTogether N  μ a1 = some o) : MetR l D cI cL yX2_tiredTogether cX2_tiredTogether 4 (some .int) 1 0 0 (fun a => a = ad) ad [.ref 35, .int a1] lay0 μ ν (some (.int o)) lay0 μ ν :=
  MetR.of (n := 2) rfl (Nat.le_of_ble_eq_true rfl) (fun G g ho hm _ _ => ok_f_days_tiredTogether  g hm  μ ho a1 h)
def f_days_wireLiveAt_2 (N : Nat)  (μ : sw_M)  : Nat → Int32 → Int32 → Option (Int32)
  | 0, _, _ => none
  | n + 1, x1, x2 =>
    if (μ 3 1) ≤ x2 then
      some (-1)
    else
      Option.bind (f_days_isCut N  μ x2) (fun r1 =>
        if r1 = 0 then
          inb x2 12 (
            if (μ 36 x2.toNatClampNeg) = x1 then
              some x2
            else
              f_days_wireLiveAt_2 N  μ  n x1 (x2 + 1))
        else
          f_days_wireLiveAt_2 N  μ  n x1 (x2 + 1))
def f_days_wireLiveAt (N : Nat)  (μ : sw_M) (a1 : Int32) : Option (Int32) :=
  f_days_wireLiveAt_2 N  μ  N a1 0
set_option maxRecDepth 100000 in
set_option maxHeartbeats 4000000 in
theorem ok_f_days_wireLiveAt_2 {G : sw_G} {ad : Nat → Nat} {ν : sw_N}   {N : Nat} {o : Int32} (g : sw_ok G cX2_wireLiveAt "DeadWires$Days" (some .int) 2 0 0 ad) (hm : G.2.2.1.2.1.maxLocals = 3)  (μ : sw_M) (ho : sw_out G 0 0 (fun a => a = ad) (.inl (some (.int o))) lay0 μ ν)  : ∀ (n : Nat) (x1 : Int32) (x2 : Int32) (h : f_days_wireLiveAt_2 N  μ  n x1 x2 = some o), SW G ad lay0 ν 0 0 2 [some (.ref 35), some (.int x1), some (.int x2)] [] μ := by
  intro n
  induction n with
  | zero => intro x1 x2 h; simp only [f_days_wireLiveAt_2] at h; cases h
  | succ n ih =>
    intro x1 x2 h
    unfold f_days_wireLiveAt_2 at h
    refine SW.iload_n (pc := 2) g (dt dt_X2_wireLiveAt 2 rfl) rfl ?_
    refine SW.aload_n (pc := 3) g (dt dt_X2_wireLiveAt 3 rfl) rfl ?_
    refine SW.getR (pc := 4) g (dt dt_X2_wireLiveAt 4 rfl) fl_X2_27 cell_35 rfl ?_
    refine SW.getI (pc := 7) g (dt dt_X2_wireLiveAt 5 rfl) fl_X2_83 cell_3 rfl ?_
    refine SW.icmp_ge (pc := 10) (t := 39) g (dt dt_X2_wireLiveAt 6 rfl) rfl (fun hc => ?_) (fun hc => ?_)
    · have h := iteT hc h
      refine SW.iconst (pc := 39) (v := (-1)) g (dt dt_X2_wireLiveAt 21 rfl) ki_m1 ?_
      exact SW.ireturn (pc := 40) g (leafI h ho) rfl (Nat.le_of_ble_eq_true rfl) (Nat.le_of_ble_eq_true rfl) (dt dt_X2_wireLiveAt 22 rfl)
    · have h := iteF hc h
      refine SW.aload_n (pc := 13) g (dt dt_X2_wireLiveAt 7 rfl) rfl ?_
      refine SW.iload_n (pc := 14) g (dt dt_X2_wireLiveAt 8 rfl) rfl ?_
      obtain ⟨r1, h2, h⟩ := bindI h
      refine SW.callVi (pc := 15) g (dt dt_X2_wireLiveAt 9 rfl) (mt_f_days_isCut _ _ _ _ ad ν   N μ x2 r1 h2) me_X2_isCut mv_X2_isCut ml_X2_75 cell_35 rfl rfl (Nat.le_of_ble_eq_true rfl) (Nat.le_of_ble_eq_true rfl) (Nat.le_of_ble_eq_true rfl) (Nat.le_of_ble_eq_true rfl) rfl ?_
      refine SW.if_ne (pc := 18) (t := 33) g (dt dt_X2_wireLiveAt 10 rfl) rfl (fun hc => ?_) (fun hc => ?_)
      · have h := iteF hc h
        refine SW.iinc (pc := 33) (v := x2 + 1) g (dt dt_X2_wireLiveAt 19 rfl) rfl (kn_1 _) (sw_ltm hm (Nat.le_of_ble_eq_true rfl)) rfl ?_
        refine SW.goto (pc := 36) (t := 2) g (dt dt_X2_wireLiveAt 20 rfl) rfl ?_
        refine SW.msk [true, true, true] ?_
        exact ih  x1 (x2 + 1) h
      · have h := iteT hc h
        refine SW.aload_n (pc := 21) g (dt dt_X2_wireLiveAt 11 rfl) rfl ?_
        refine SW.getR (pc := 22) g (dt dt_X2_wireLiveAt 12 rfl) fl_X2_9 cell_35 rfl ?_
        refine SW.iload_n (pc := 25) g (dt dt_X2_wireLiveAt 13 rfl) rfl ?_
        obtain ⟨hb3, h⟩ := inbI h
        refine SW.iaload (pc := 26) g (dt dt_X2_wireLiveAt 14 rfl) cell_36 hb3 ?_
        refine SW.iload_n (pc := 27) g (dt dt_X2_wireLiveAt 15 rfl) rfl ?_
        refine SW.icmp_ne (pc := 28) (t := 33) g (dt dt_X2_wireLiveAt 16 rfl) rfl (fun hc => ?_) (fun hc => ?_)
        · have h := iteF hc h
          refine SW.iinc (pc := 33) (v := x2 + 1) g (dt dt_X2_wireLiveAt 19 rfl) rfl (kn_1 _) (sw_ltm hm (Nat.le_of_ble_eq_true rfl)) rfl ?_
          refine SW.goto (pc := 36) (t := 2) g (dt dt_X2_wireLiveAt 20 rfl) rfl ?_
          refine SW.msk [true, true, true] ?_
          exact ih  x1 (x2 + 1) h
        · have h := iteT hc h
          refine SW.iload_n (pc := 31) g (dt dt_X2_wireLiveAt 17 rfl) rfl ?_
          exact SW.ireturn (pc := 32) g (leafI h ho) rfl (Nat.le_of_ble_eq_true rfl) (Nat.le_of_ble_eq_true rfl) (dt dt_X2_wireLiveAt 18 rfl)
set_option maxRecDepth 100000 in
set_option maxHeartbeats 4000000 in
theorem ok_f_days_wireLiveAt {G : sw_G} {ad : Nat → Nat} {ν : sw_N}   {N : Nat} {o : Int32} (g : sw_ok G cX2_wireLiveAt "DeadWires$Days" (some .int) 2 0 0 ad) (hm : G.2.2.1.2.1.maxLocals = 3)  (μ : sw_M) (ho : sw_out G 0 0 (fun a => a = ad) (.inl (some (.int o))) lay0 μ ν) (a1 : Int32) (h : f_days_wireLiveAt N  μ a1 = some o) : SW G ad lay0 ν 0 0 0 [some (.ref 35), some (.int a1), none] [] μ := by
  unfold f_days_wireLiveAt at h
  refine SW.iconst (pc := 0) (v := 0) g (dt dt_X2_wireLiveAt 0 rfl) ki_0 ?_
  refine SW.istore_n (pc := 1) g (dt dt_X2_wireLiveAt 1 rfl) (sw_ltm hm (Nat.le_of_ble_eq_true rfl)) rfl ?_
  refine SW.msk [true, true, true] ?_
  exact ok_f_days_wireLiveAt_2  g hm  μ ho   N a1 0 h
set_option maxRecDepth 100000 in
set_option maxHeartbeats 4000000 in
theorem mt_f_days_wireLiveAt (l : Launch) (D : va_G) (cI cL : ClassId) (ad : Nat → Nat) (ν : sw_N)    (N : Nat) (μ : sw_M) (a1 : Int32) (o : Int32) (h : f_days_wireLiveAt N  μ a1 = some o) : MetR l D cI cL yX2_wireLiveAt cX2_wireLiveAt 3 (some .int) 2 0 0 (fun a => a = ad) ad [.ref 35, .int a1] lay0 μ ν (some (.int o)) lay0 μ ν :=
  MetR.of (n := 1) rfl (Nat.le_of_ble_eq_true rfl) (fun G g ho hm _ _ => ok_f_days_wireLiveAt  g hm  μ ho a1 h)
def f_days_freeOf (N : Nat)  (μ : sw_M) (a1 : Int32) : Option (Int32) :=
  Option.bind (f_sx_at N 10 5 μ a1) (fun r1 =>
    Option.bind (f_days_loadOf N  μ a1) (fun r3 =>
      some (r1 - r3)))
set_option maxRecDepth 100000 in
set_option maxHeartbeats 4000000 in
theorem ok_f_days_freeOf {G : sw_G} {ad : Nat → Nat} {ν : sw_N}   {N : Nat} {o : Int32} (g : sw_ok G cX2_freeOf "DeadWires$Days" (some .int) 2 0 0 ad) (hm : G.2.2.1.2.1.maxLocals = 2)  (μ : sw_M) (ho : sw_out G 0 0 (fun a => a = ad) (.inl (some (.int o))) lay0 μ ν) (a1 : Int32) (h : f_days_freeOf N  μ a1 = some o) : SW G ad lay0 ν 0 0 0 [some (.ref 35), some (.int a1)] [] μ := by
  unfold f_days_freeOf at h
  refine SW.aload_n (pc := 0) g (dt dt_X2_freeOf 0 rfl) rfl ?_
  refine SW.getR (pc := 1) g (dt dt_X2_freeOf 1 rfl) fl_X2_27 cell_35 rfl ?_
  refine SW.getR (pc := 4) g (dt dt_X2_freeOf 2 rfl) fl_X2_119 cell_3 rfl ?_
  refine SW.iload_n (pc := 7) g (dt dt_X2_freeOf 3 rfl) rfl ?_
  obtain ⟨r1, h2, h⟩ := bindI h
  refine SW.callSNi (pc := 8) g (dt dt_X2_freeOf 4 rfl) (mt_f_sx_at _ _ _ _ ad ν lay0 10 5 cell_10 N μ a1 r1 h2) me_X10_at ms_X10_at mn_X2_79 rfl (Nat.le_of_ble_eq_true rfl) (Nat.le_of_ble_eq_true rfl) (Nat.le_of_ble_eq_true rfl) (Nat.le_of_ble_eq_true rfl) rfl ?_
  refine SW.aload_n (pc := 11) g (dt dt_X2_freeOf 5 rfl) rfl ?_
  refine SW.iload_n (pc := 12) g (dt dt_X2_freeOf 6 rfl) rfl ?_
  obtain ⟨r3, h4, h⟩ := bindI h
  refine SW.callVi (pc := 13) g (dt dt_X2_freeOf 7 rfl) (mt_f_days_loadOf _ _ _ _ ad ν   N μ a1 r3 h4) me_X2_loadOf mv_X2_loadOf ml_X2_122 cell_35 rfl rfl (Nat.le_of_ble_eq_true rfl) (Nat.le_of_ble_eq_true rfl) (Nat.le_of_ble_eq_true rfl) (Nat.le_of_ble_eq_true rfl) rfl ?_
  refine SW.isub (pc := 16) g (dt dt_X2_freeOf 8 rfl) ?_
  exact SW.ireturn (pc := 17) g (leafI h ho) rfl (Nat.le_of_ble_eq_true rfl) (Nat.le_of_ble_eq_true rfl) (dt dt_X2_freeOf 9 rfl)
set_option maxRecDepth 100000 in
set_option maxHeartbeats 4000000 in
theorem mt_f_days_freeOf (l : Launch) (D : va_G) (cI cL : ClassId) (ad : Nat → Nat) (ν : sw_N)    (N : Nat) (μ : sw_M) (a1 : Int32) (o : Int32) (h : f_days_freeOf N  μ a1 = some o) : MetR l D cI cL yX2_freeOf cX2_freeOf 2 (some .int) 2 0 0 (fun a => a = ad) ad [.ref 35, .int a1] lay0 μ ν (some (.int o)) lay0 μ ν :=
  MetR.of (n := 0) rfl (Nat.le_of_ble_eq_true rfl) (fun G g ho hm _ _ => ok_f_days_freeOf  g hm  μ ho a1 h)
def f_days_bestHaul_28 (N : Nat)  (μ : sw_M)  : Nat → Int32 → Int32 → Int32 → Int32 → Int32 → Option (Int32)
  | 0, _, _, _, _, _ => none
  | n + 1, x2, x3, x4, x5, x6 =>
    if 64 ≤ x6 then
      some x4
    else
      Option.bind (f_land_weightOf N  μ x6) (fun r1 =>
        if (x6 &&& (x2 ^^^ (-1))) = 0 then
          if x3 < r1 then
            f_days_bestHaul_28 N  μ  n x2 x3 x4 x5 (x6 + 1)
          else
            if r1 ≤ x5 then
              f_days_bestHaul_28 N  μ  n x2 x3 x4 x5 (x6 + 1)
            else
              f_days_bestHaul_28 N  μ  n x2 x3 x6 r1 (x6 + 1)
        else
          f_days_bestHaul_28 N  μ  n x2 x3 x4 x5 (x6 + 1))
def f_days_bestHaul (N : Nat)  (μ : sw_M) (a1 : Int32) : Option (Int32) :=
  Option.bind (f_sx_at N 39 5 μ a1) (fun r1 =>
    Option.bind (f_days_lyingBits N  μ r1) (fun r3 =>
      Option.bind (f_days_freeOf N  μ a1) (fun r5 =>
        f_days_bestHaul_28 N  μ  N r3 r5 0 0 1)))
set_option maxRecDepth 100000 in
set_option maxHeartbeats 4000000 in
theorem ok_f_days_bestHaul_28 {G : sw_G} {ad : Nat → Nat} {ν : sw_N}   {N : Nat} {o : Int32} (g : sw_ok G cX2_bestHaul "DeadWires$Days" (some .int) 3 0 0 ad) (hm : G.2.2.1.2.1.maxLocals = 8)  (μ : sw_M) (ho : sw_out G 0 0 (fun a => a = ad) (.inl (some (.int o))) lay0 μ ν)  : ∀ (n : Nat) (x2 : Int32) (x3 : Int32) (x4 : Int32) (x5 : Int32) (x6 : Int32) (h : f_days_bestHaul_28 N  μ  n x2 x3 x4 x5 x6 = some o), SW G ad lay0 ν 0 0 28 [some (.ref 35), none, some (.int x2), some (.int x3), some (.int x4), some (.int x5), some (.int x6), none] [] μ := by
  intro n
  induction n with
  | zero => intro x2 x3 x4 x5 x6 h; simp only [f_days_bestHaul_28] at h; cases h
  | succ n ih =>
    intro x2 x3 x4 x5 x6 h
    unfold f_days_bestHaul_28 at h
    refine SW.iload (pc := 28) g (dt dt_X2_bestHaul 17 rfl) rfl ?_
    refine SW.bipush (pc := 30) (v := 64) g (dt dt_X2_bestHaul 18 rfl) kb_64 ?_
    refine SW.icmp_ge (pc := 32) (t := 82) g (dt dt_X2_bestHaul 19 rfl) rfl (fun hc => ?_) (fun hc => ?_)
    · have h := iteT hc h
      refine SW.iload (pc := 82) g (dt dt_X2_bestHaul 43 rfl) rfl ?_
      exact SW.ireturn (pc := 84) g (leafI h ho) rfl (Nat.le_of_ble_eq_true rfl) (Nat.le_of_ble_eq_true rfl) (dt dt_X2_bestHaul 44 rfl)
    · have h := iteF hc h
      refine SW.aload_n (pc := 35) g (dt dt_X2_bestHaul 20 rfl) rfl ?_
      refine SW.getR (pc := 36) g (dt dt_X2_bestHaul 21 rfl) fl_X2_27 cell_35 rfl ?_
      refine SW.iload (pc := 39) g (dt dt_X2_bestHaul 22 rfl) rfl ?_
      obtain ⟨r1, h2, h⟩ := bindI h
      refine SW.callVi (pc := 41) g (dt dt_X2_bestHaul 23 rfl) (mt_f_land_weightOf _ _ _ _ ad ν   N μ x6 r1 h2) me_X4_weightOf mv_X4_weightOf ml_X2_134 cell_3 rfl rfl (Nat.le_of_ble_eq_true rfl) (Nat.le_of_ble_eq_true rfl) (Nat.le_of_ble_eq_true rfl) (Nat.le_of_ble_eq_true rfl) rfl ?_
      refine SW.istore (pc := 44) g (dt dt_X2_bestHaul 24 rfl) (sw_ltm hm (Nat.le_of_ble_eq_true rfl)) rfl ?_
      refine SW.iload (pc := 46) g (dt dt_X2_bestHaul 25 rfl) rfl ?_
      refine SW.iload_n (pc := 48) g (dt dt_X2_bestHaul 26 rfl) rfl ?_
      refine SW.iconst (pc := 49) (v := (-1)) g (dt dt_X2_bestHaul 27 rfl) ki_m1 ?_
      refine SW.ixor (pc := 50) g (dt dt_X2_bestHaul 28 rfl) ?_
      refine SW.iand (pc := 51) g (dt dt_X2_bestHaul 29 rfl) ?_
      refine SW.if_ne (pc := 52) (t := 76) g (dt dt_X2_bestHaul 30 rfl) rfl (fun hc => ?_) (fun hc => ?_)
      · have h := iteF hc h
        refine SW.iinc (pc := 76) (v := x6 + 1) g (dt dt_X2_bestHaul 41 rfl) rfl (kn_1 _) (sw_ltm hm (Nat.le_of_ble_eq_true rfl)) rfl ?_
        refine SW.goto (pc := 79) (t := 28) g (dt dt_X2_bestHaul 42 rfl) rfl ?_
        refine SW.msk [true, false, true, true, true, true, true, false] ?_
        exact ih  x2 x3 x4 x5 (x6 + 1) h
      · have h := iteT hc h
        refine SW.iload (pc := 55) g (dt dt_X2_bestHaul 31 rfl) rfl ?_
        refine SW.iload_n (pc := 57) g (dt dt_X2_bestHaul 32 rfl) rfl ?_
        refine SW.icmp_gt (pc := 58) (t := 76) g (dt dt_X2_bestHaul 33 rfl) rfl (fun hc => ?_) (fun hc => ?_)
        · have h := iteT hc h
          refine SW.iinc (pc := 76) (v := x6 + 1) g (dt dt_X2_bestHaul 41 rfl) rfl (kn_1 _) (sw_ltm hm (Nat.le_of_ble_eq_true rfl)) rfl ?_
          refine SW.goto (pc := 79) (t := 28) g (dt dt_X2_bestHaul 42 rfl) rfl ?_
          refine SW.msk [true, false, true, true, true, true, true, false] ?_
          exact ih  x2 x3 x4 x5 (x6 + 1) h
        · have h := iteF hc h
          refine SW.iload (pc := 61) g (dt dt_X2_bestHaul 34 rfl) rfl ?_
          refine SW.iload (pc := 63) g (dt dt_X2_bestHaul 35 rfl) rfl ?_
          refine SW.icmp_le (pc := 65) (t := 76) g (dt dt_X2_bestHaul 36 rfl) rfl (fun hc => ?_) (fun hc => ?_)
          · have h := iteT hc h
            refine SW.iinc (pc := 76) (v := x6 + 1) g (dt dt_X2_bestHaul 41 rfl) rfl (kn_1 _) (sw_ltm hm (Nat.le_of_ble_eq_true rfl)) rfl ?_
            refine SW.goto (pc := 79) (t := 28) g (dt dt_X2_bestHaul 42 rfl) rfl ?_
            refine SW.msk [true, false, true, true, true, true, true, false] ?_
            exact ih  x2 x3 x4 x5 (x6 + 1) h
          · have h := iteF hc h
            refine SW.iload (pc := 68) g (dt dt_X2_bestHaul 37 rfl) rfl ?_
            refine SW.istore (pc := 70) g (dt dt_X2_bestHaul 38 rfl) (sw_ltm hm (Nat.le_of_ble_eq_true rfl)) rfl ?_
            refine SW.iload (pc := 72) g (dt dt_X2_bestHaul 39 rfl) rfl ?_
            refine SW.istore (pc := 74) g (dt dt_X2_bestHaul 40 rfl) (sw_ltm hm (Nat.le_of_ble_eq_true rfl)) rfl ?_
            refine SW.iinc (pc := 76) (v := x6 + 1) g (dt dt_X2_bestHaul 41 rfl) rfl (kn_1 _) (sw_ltm hm (Nat.le_of_ble_eq_true rfl)) rfl ?_
            refine SW.goto (pc := 79) (t := 28) g (dt dt_X2_bestHaul 42 rfl) rfl ?_
            refine SW.msk [true, false, true, true, true, true, true, false] ?_
            exact ih  x2 x3 x6 r1 (x6 + 1) h
set_option maxRecDepth 100000 in
set_option maxHeartbeats 4000000 in
theorem ok_f_days_bestHaul {G : sw_G} {ad : Nat → Nat} {ν : sw_N}   {N : Nat} {o : Int32} (g : sw_ok G cX2_bestHaul "DeadWires$Days" (some .int) 3 0 0 ad) (hm : G.2.2.1.2.1.maxLocals = 8)  (μ : sw_M) (ho : sw_out G 0 0 (fun a => a = ad) (.inl (some (.int o))) lay0 μ ν) (a1 : Int32) (h : f_days_bestHaul N  μ a1 = some o) : SW G ad lay0 ν 0 0 0 [some (.ref 35), some (.int a1), none, none, none, none, none, none] [] μ := by
  unfold f_days_bestHaul at h
  refine SW.aload_n (pc := 0) g (dt dt_X2_bestHaul 0 rfl) rfl ?_
  refine SW.aload_n (pc := 1) g (dt dt_X2_bestHaul 1 rfl) rfl ?_
  refine SW.getR (pc := 2) g (dt dt_X2_bestHaul 2 rfl) fl_X2_21 cell_35 rfl ?_
  refine SW.iload_n (pc := 5) g (dt dt_X2_bestHaul 3 rfl) rfl ?_
  obtain ⟨r1, h2, h⟩ := bindI h
  refine SW.callSNi (pc := 6) g (dt dt_X2_bestHaul 4 rfl) (mt_f_sx_at _ _ _ _ ad ν lay0 39 5 cell_39 N μ a1 r1 h2) me_X10_at ms_X10_at mn_X2_79 rfl (Nat.le_of_ble_eq_true rfl) (Nat.le_of_ble_eq_true rfl) (Nat.le_of_ble_eq_true rfl) (Nat.le_of_ble_eq_true rfl) rfl ?_
  obtain ⟨r3, h4, h⟩ := bindI h
  refine SW.callVi (pc := 9) g (dt dt_X2_bestHaul 5 rfl) (mt_f_days_lyingBits _ _ _ _ ad ν   N μ r1 r3 h4) me_X2_lyingBits mv_X2_lyingBits ml_X2_128 cell_35 rfl rfl (Nat.le_of_ble_eq_true rfl) (Nat.le_of_ble_eq_true rfl) (Nat.le_of_ble_eq_true rfl) (Nat.le_of_ble_eq_true rfl) rfl ?_
  refine SW.istore_n (pc := 12) g (dt dt_X2_bestHaul 6 rfl) (sw_ltm hm (Nat.le_of_ble_eq_true rfl)) rfl ?_
  refine SW.aload_n (pc := 13) g (dt dt_X2_bestHaul 7 rfl) rfl ?_
  refine SW.iload_n (pc := 14) g (dt dt_X2_bestHaul 8 rfl) rfl ?_
  obtain ⟨r5, h6, h⟩ := bindI h
  refine SW.callVi (pc := 15) g (dt dt_X2_bestHaul 9 rfl) (mt_f_days_freeOf _ _ _ _ ad ν   N μ a1 r5 h6) me_X2_freeOf mv_X2_freeOf ml_X2_131 cell_35 rfl rfl (Nat.le_of_ble_eq_true rfl) (Nat.le_of_ble_eq_true rfl) (Nat.le_of_ble_eq_true rfl) (Nat.le_of_ble_eq_true rfl) rfl ?_
  refine SW.istore_n (pc := 18) g (dt dt_X2_bestHaul 10 rfl) (sw_ltm hm (Nat.le_of_ble_eq_true rfl)) rfl ?_
  refine SW.iconst (pc := 19) (v := 0) g (dt dt_X2_bestHaul 11 rfl) ki_0 ?_
  refine SW.istore (pc := 20) g (dt dt_X2_bestHaul 12 rfl) (sw_ltm hm (Nat.le_of_ble_eq_true rfl)) rfl ?_
  refine SW.iconst (pc := 22) (v := 0) g (dt dt_X2_bestHaul 13 rfl) ki_0 ?_
  refine SW.istore (pc := 23) g (dt dt_X2_bestHaul 14 rfl) (sw_ltm hm (Nat.le_of_ble_eq_true rfl)) rfl ?_
  refine SW.iconst (pc := 25) (v := 1) g (dt dt_X2_bestHaul 15 rfl) ki_1 ?_
  refine SW.istore (pc := 26) g (dt dt_X2_bestHaul 16 rfl) (sw_ltm hm (Nat.le_of_ble_eq_true rfl)) rfl ?_
  refine SW.msk [true, false, true, true, true, true, true, false] ?_
  exact ok_f_days_bestHaul_28  g hm  μ ho   N r3 r5 0 0 1 h
set_option maxRecDepth 100000 in
set_option maxHeartbeats 4000000 in
theorem mt_f_days_bestHaul (l : Launch) (D : va_G) (cI cL : ClassId) (ad : Nat → Nat) (ν : sw_N)    (N : Nat) (μ : sw_M) (a1 : Int32) (o : Int32) (h : f_days_bestHaul N  μ a1 = some o) : MetR l D cI cL yX2_bestHaul cX2_bestHaul 8 (some .int) 3 0 0 (fun a => a = ad) ad [.ref 35, .int a1] lay0 μ ν (some (.int o)) lay0 μ ν :=
  MetR.of (n := 6) rfl (Nat.le_of_ble_eq_true rfl) (fun G g ho hm _ _ => ok_f_days_bestHaul  g hm  μ ho a1 h)
def f_days_givenBy_5 (N : Nat)  (μ : sw_M)  : Nat → Int32 → Int32 → Int32 → Int32 → Option (Int32)
  | 0, _, _, _, _ => none
  | n + 1, x1, x2, x3, x4 =>
    if (μ 3 1) ≤ x4 then
      some x3
    else
      Option.bind (f_sx_has N  μ x1 x4) (fun r1 =>
        if r1 = 0 then
          f_days_givenBy_5 N  μ  n x1 x2 x3 (x4 + 1)
        else
          Option.bind (f_days_hoursLeft N  μ x4) (fun r3 =>
            ib (x3 + (if r3 < x2 then r3 else x2)) (fun y5 =>
              f_days_givenBy_5 N  μ  n x1 x2 y5 (x4 + 1))))
def f_days_givenBy (N : Nat)  (μ : sw_M) (a1 : Int32) (a2 : Int32) : Option (Int32) :=
  f_days_givenBy_5 N  μ  N a1 a2 0 0
set_option maxRecDepth 100000 in
set_option maxHeartbeats 4000000 in
theorem ok_f_days_givenBy_5 {G : sw_G} {ad : Nat → Nat} {ν : sw_N}   {N : Nat} {o : Int32} (g : sw_ok G cX2_givenBy "DeadWires$Days" (some .int) 3 0 0 ad) (hm : G.2.2.1.2.1.maxLocals = 5)  (μ : sw_M) (ho : sw_out G 0 0 (fun a => a = ad) (.inl (some (.int o))) lay0 μ ν)  : ∀ (n : Nat) (x1 : Int32) (x2 : Int32) (x3 : Int32) (x4 : Int32) (h : f_days_givenBy_5 N  μ  n x1 x2 x3 x4 = some o), SW G ad lay0 ν 0 0 5 [some (.ref 35), some (.int x1), some (.int x2), some (.int x3), some (.int x4)] [] μ := by
  intro n
  induction n with
  | zero => intro x1 x2 x3 x4 h; simp only [f_days_givenBy_5] at h; cases h
  | succ n ih =>
    intro x1 x2 x3 x4 h
    unfold f_days_givenBy_5 at h
    refine SW.iload (pc := 5) g (dt dt_X2_givenBy 4 rfl) rfl ?_
    refine SW.aload_n (pc := 7) g (dt dt_X2_givenBy 5 rfl) rfl ?_
    refine SW.getR (pc := 8) g (dt dt_X2_givenBy 6 rfl) fl_X2_27 cell_35 rfl ?_
    refine SW.getI (pc := 11) g (dt dt_X2_givenBy 7 rfl) fl_X2_83 cell_3 rfl ?_
    refine SW.icmp_ge (pc := 14) (t := 45) g (dt dt_X2_givenBy 8 rfl) rfl (fun hc => ?_) (fun hc => ?_)
    · have h := iteT hc h
      refine SW.iload_n (pc := 45) g (dt dt_X2_givenBy 23 rfl) rfl ?_
      exact SW.ireturn (pc := 46) g (leafI h ho) rfl (Nat.le_of_ble_eq_true rfl) (Nat.le_of_ble_eq_true rfl) (dt dt_X2_givenBy 24 rfl)
    · have h := iteF hc h
      refine SW.iload_n (pc := 17) g (dt dt_X2_givenBy 9 rfl) rfl ?_
      refine SW.iload (pc := 18) g (dt dt_X2_givenBy 10 rfl) rfl ?_
      obtain ⟨r1, h2, h⟩ := bindI h
      refine SW.callSNi (pc := 20) g (dt dt_X2_givenBy 11 rfl) (mt_f_sx_has _ _ _ _ ad ν lay0   N μ x1 x4 r1 h2) me_X10_has ms_X10_has mn_X2_98 rfl (Nat.le_of_ble_eq_true rfl) (Nat.le_of_ble_eq_true rfl) (Nat.le_of_ble_eq_true rfl) (Nat.le_of_ble_eq_true rfl) rfl ?_
      refine SW.if_eq (pc := 23) (t := 39) g (dt dt_X2_givenBy 12 rfl) rfl (fun hc => ?_) (fun hc => ?_)
      · have h := iteT hc h
        refine SW.iinc (pc := 39) (v := x4 + 1) g (dt dt_X2_givenBy 21 rfl) rfl (kn_1 _) (sw_ltm hm (Nat.le_of_ble_eq_true rfl)) rfl ?_
        refine SW.goto (pc := 42) (t := 5) g (dt dt_X2_givenBy 22 rfl) rfl ?_
        refine SW.msk [true, true, true, true, true] ?_
        exact ih  x1 x2 x3 (x4 + 1) h
      · have h := iteF hc h
        refine SW.iload_n (pc := 26) g (dt dt_X2_givenBy 13 rfl) rfl ?_
        refine SW.iload_n (pc := 27) g (dt dt_X2_givenBy 14 rfl) rfl ?_
        refine SW.aload_n (pc := 28) g (dt dt_X2_givenBy 15 rfl) rfl ?_
        refine SW.iload (pc := 29) g (dt dt_X2_givenBy 16 rfl) rfl ?_
        obtain ⟨r3, h4, h⟩ := bindI h
        refine SW.callVi (pc := 31) g (dt dt_X2_givenBy 17 rfl) (mt_f_days_hoursLeft _ _ _ _ ad ν   N μ x4 r3 h4) me_X2_hoursLeft mv_X2_hoursLeft ml_X2_101 cell_35 rfl rfl (Nat.le_of_ble_eq_true rfl) (Nat.le_of_ble_eq_true rfl) (Nat.le_of_ble_eq_true rfl) (Nat.le_of_ble_eq_true rfl) rfl ?_
        refine SW.mmin (pc := 34) g (dt dt_X2_givenBy 18 rfl) ml_X2_105 ms_J9_min_7cf53 mt_init me_J9_min_7cf53.1 (Nat.le_of_ble_eq_true rfl) (Nat.le_of_ble_eq_true rfl) (Nat.le_of_ble_eq_true rfl) (Nat.le_of_ble_eq_true rfl) ?_
        refine SW.iadd (pc := 37) g (dt dt_X2_givenBy 19 rfl) ?_
        refine SW.istore_n (pc := 38) g (dt dt_X2_givenBy 20 rfl) (sw_ltm hm (Nat.le_of_ble_eq_true rfl)) rfl ?_
        refine SW.genL h (fun y5 h => ?_)
        refine SW.iinc (pc := 39) (v := x4 + 1) g (dt dt_X2_givenBy 21 rfl) rfl (kn_1 _) (sw_ltm hm (Nat.le_of_ble_eq_true rfl)) rfl ?_
        refine SW.goto (pc := 42) (t := 5) g (dt dt_X2_givenBy 22 rfl) rfl ?_
        refine SW.msk [true, true, true, true, true] ?_
        exact ih  x1 x2 y5 (x4 + 1) h
set_option maxRecDepth 100000 in
set_option maxHeartbeats 4000000 in
theorem ok_f_days_givenBy {G : sw_G} {ad : Nat → Nat} {ν : sw_N}   {N : Nat} {o : Int32} (g : sw_ok G cX2_givenBy "DeadWires$Days" (some .int) 3 0 0 ad) (hm : G.2.2.1.2.1.maxLocals = 5)  (μ : sw_M) (ho : sw_out G 0 0 (fun a => a = ad) (.inl (some (.int o))) lay0 μ ν) (a1 : Int32) (a2 : Int32) (h : f_days_givenBy N  μ a1 a2 = some o) : SW G ad lay0 ν 0 0 0 [some (.ref 35), some (.int a1), some (.int a2), none, none] [] μ := by
  unfold f_days_givenBy at h
  refine SW.iconst (pc := 0) (v := 0) g (dt dt_X2_givenBy 0 rfl) ki_0 ?_
  refine SW.istore_n (pc := 1) g (dt dt_X2_givenBy 1 rfl) (sw_ltm hm (Nat.le_of_ble_eq_true rfl)) rfl ?_
  refine SW.iconst (pc := 2) (v := 0) g (dt dt_X2_givenBy 2 rfl) ki_0 ?_
  refine SW.istore (pc := 3) g (dt dt_X2_givenBy 3 rfl) (sw_ltm hm (Nat.le_of_ble_eq_true rfl)) rfl ?_
  refine SW.msk [true, true, true, true, true] ?_
  exact ok_f_days_givenBy_5  g hm  μ ho   N a1 a2 0 0 h
set_option maxRecDepth 100000 in
set_option maxHeartbeats 4000000 in
theorem mt_f_days_givenBy (l : Launch) (D : va_G) (cI cL : ClassId) (ad : Nat → Nat) (ν : sw_N)    (N : Nat) (μ : sw_M) (a1 : Int32) (a2 : Int32) (o : Int32) (h : f_days_givenBy N  μ a1 a2 = some o) : MetR l D cI cL yX2_givenBy cX2_givenBy 5 (some .int) 3 0 0 (fun a => a = ad) ad [.ref 35, .int a1, .int a2] lay0 μ ν (some (.int o)) lay0 μ ν :=
  MetR.of (n := 2) rfl (Nat.le_of_ble_eq_true rfl) (fun G g ho hm _ _ => ok_f_days_givenBy  g hm  μ ho a1 a2 h)
def f_days_graceBound_3 (N : Nat)  (μ : sw_M)  : Nat → Int32 → Int32 → Int32 → Option (Int32)
  | 0, _, _, _ => none
  | n + 1, x1, x2, x3 =>
    if x3 ≤ 0 then
      some 0
    else
      Option.bind (f_days_givenBy N  μ x1 x3) (fun r1 =>
        if x2 < r1 then
          f_days_graceBound_3 N  μ  n x1 x2 (x3 + (-1))
        else
          some x3)
def f_days_graceBound (N : Nat)  (μ : sw_M) (a1 : Int32) (a2 : Int32) : Option (Int32) :=
  f_days_graceBound_3 N  μ  N a1 a2 99
set_option maxRecDepth 100000 in
set_option maxHeartbeats 4000000 in
theorem ok_f_days_graceBound_3 {G : sw_G} {ad : Nat → Nat} {ν : sw_N}   {N : Nat} {o : Int32} (g : sw_ok G cX2_graceBound "DeadWires$Days" (some .int) 4 0 0 ad) (hm : G.2.2.1.2.1.maxLocals = 4)  (μ : sw_M) (ho : sw_out G 0 0 (fun a => a = ad) (.inl (some (.int o))) lay0 μ ν)  : ∀ (n : Nat) (x1 : Int32) (x2 : Int32) (x3 : Int32) (h : f_days_graceBound_3 N  μ  n x1 x2 x3 = some o), SW G ad lay0 ν 0 0 3 [some (.ref 35), some (.int x1), some (.int x2), some (.int x3)] [] μ := by
  intro n
  induction n with
  | zero => intro x1 x2 x3 h; simp only [f_days_graceBound_3] at h; cases h
  | succ n ih =>
    intro x1 x2 x3 h
    unfold f_days_graceBound_3 at h
    refine SW.iload_n (pc := 3) g (dt dt_X2_graceBound 2 rfl) rfl ?_
    refine SW.if_le (pc := 4) (t := 25) g (dt dt_X2_graceBound 3 rfl) rfl (fun hc => ?_) (fun hc => ?_)
    · have h := iteT hc h
      refine SW.iconst (pc := 25) (v := 0) g (dt dt_X2_graceBound 14 rfl) ki_0 ?_
      exact SW.ireturn (pc := 26) g (leafI h ho) rfl (Nat.le_of_ble_eq_true rfl) (Nat.le_of_ble_eq_true rfl) (dt dt_X2_graceBound 15 rfl)
    · have h := iteF hc h
      refine SW.aload_n (pc := 7) g (dt dt_X2_graceBound 4 rfl) rfl ?_
      refine SW.iload_n (pc := 8) g (dt dt_X2_graceBound 5 rfl) rfl ?_
      refine SW.iload_n (pc := 9) g (dt dt_X2_graceBound 6 rfl) rfl ?_
      obtain ⟨r1, h2, h⟩ := bindI h
      refine SW.callVi (pc := 10) g (dt dt_X2_graceBound 7 rfl) (mt_f_days_givenBy _ _ _ _ ad ν   N μ x1 x3 r1 h2) me_X2_givenBy mv_X2_givenBy ml_X2_94 cell_35 rfl rfl (Nat.le_of_ble_eq_true rfl) (Nat.le_of_ble_eq_true rfl) (Nat.le_of_ble_eq_true rfl) (Nat.le_of_ble_eq_true rfl) rfl ?_
      refine SW.iload_n (pc := 13) g (dt dt_X2_graceBound 8 rfl) rfl ?_
      refine SW.icmp_gt (pc := 14) (t := 19) g (dt dt_X2_graceBound 9 rfl) rfl (fun hc => ?_) (fun hc => ?_)
      · have h := iteT hc h
        refine SW.iinc (pc := 19) (v := x3 + (-1)) g (dt dt_X2_graceBound 12 rfl) rfl (kn_m1 _) (sw_ltm hm (Nat.le_of_ble_eq_true rfl)) rfl ?_
        refine SW.goto (pc := 22) (t := 3) g (dt dt_X2_graceBound 13 rfl) rfl ?_
        refine SW.msk [true, true, true, true] ?_
        exact ih  x1 x2 (x3 + (-1)) h
      · have h := iteF hc h
        refine SW.iload_n (pc := 17) g (dt dt_X2_graceBound 10 rfl) rfl ?_
        exact SW.ireturn (pc := 18) g (leafI h ho) rfl (Nat.le_of_ble_eq_true rfl) (Nat.le_of_ble_eq_true rfl) (dt dt_X2_graceBound 11 rfl)
set_option maxRecDepth 100000 in
set_option maxHeartbeats 4000000 in
theorem ok_f_days_graceBound {G : sw_G} {ad : Nat → Nat} {ν : sw_N}   {N : Nat} {o : Int32} (g : sw_ok G cX2_graceBound "DeadWires$Days" (some .int) 4 0 0 ad) (hm : G.2.2.1.2.1.maxLocals = 4)  (μ : sw_M) (ho : sw_out G 0 0 (fun a => a = ad) (.inl (some (.int o))) lay0 μ ν) (a1 : Int32) (a2 : Int32) (h : f_days_graceBound N  μ a1 a2 = some o) : SW G ad lay0 ν 0 0 0 [some (.ref 35), some (.int a1), some (.int a2), none] [] μ := by
  unfold f_days_graceBound at h
  refine SW.bipush (pc := 0) (v := 99) g (dt dt_X2_graceBound 0 rfl) kb_99 ?_
  refine SW.istore_n (pc := 2) g (dt dt_X2_graceBound 1 rfl) (sw_ltm hm (Nat.le_of_ble_eq_true rfl)) rfl ?_
  refine SW.msk [true, true, true, true] ?_
  exact ok_f_days_graceBound_3  g hm  μ ho   N a1 a2 99 h
set_option maxRecDepth 100000 in
set_option maxHeartbeats 4000000 in
theorem mt_f_days_graceBound (l : Launch) (D : va_G) (cI cL : ClassId) (ad : Nat → Nat) (ν : sw_N)    (N : Nat) (μ : sw_M) (a1 : Int32) (a2 : Int32) (o : Int32) (h : f_days_graceBound N  μ a1 a2 = some o) : MetR l D cI cL yX2_graceBound cX2_graceBound 4 (some .int) 4 0 0 (fun a => a = ad) ad [.ref 35, .int a1, .int a2] lay0 μ ν (some (.int o)) lay0 μ ν :=
  MetR.of (n := 1) rfl (Nat.le_of_ble_eq_true rfl) (fun G g ho hm _ _ => ok_f_days_graceBound  g hm  μ ho a1 a2 h)
def f_days_nextWire_68 (N : Nat)  (μ : sw_M) (k_4 : Int32 → Int32 → Option (Int32)) (x2 : Int32) : Option (Int32) :=
  k_4  x2 (x2 + 1)
def f_days_nextWire_41 (N : Nat)  (μ : sw_M) (k_4 : Int32 → Int32 → Option (Int32)) (x1 : Int32) (x2 : Int32) (s0 : Int32) : Option (Int32) :=
  if s0 = 0 then
    k_4  x1 (x2 + 1)
  else
    if x1 = (-1) then
      f_days_nextWire_68 N  μ k_4  x2
    else
      inb x2 12 (
        Option.bind (f_sx_at N 36 12 μ x1) (fun r2 =>
          if r2 ≤ (μ 36 x2.toNatClampNeg) then
            k_4  x1 (x2 + 1)
          else
            f_days_nextWire_68 N  μ k_4  x2))
def f_days_nextWire_40 (N : Nat)  (μ : sw_M) (k_4 : Int32 → Int32 → Option (Int32)) (x1 : Int32) (x2 : Int32) : Option (Int32) :=
  f_days_nextWire_41 N  μ k_4  x1 x2 0
def f_days_nextWire_4 (N : Nat)  (μ : sw_M)  : Nat → Int32 → Int32 → Option (Int32)
  | 0, _, _ => none
  | n + 1, x1, x2 =>
    if (μ 3 1) ≤ x2 then
      some x1
    else
      Option.bind (f_days_isCut N  μ x2) (fun r1 =>
        if r1 = 0 then
          inb x2 12 (
            if (μ 36 x2.toNatClampNeg) ≤ (μ 35 2) then
              f_days_nextWire_40 N  μ (f_days_nextWire_4 N  μ  n)  x1 x2
            else
              f_days_nextWire_41 N  μ (f_days_nextWire_4 N  μ  n)  x1 x2 1)
        else
          f_days_nextWire_40 N  μ (f_days_nextWire_4 N  μ  n)  x1 x2)
def f_days_nextWire (N : Nat)  (μ : sw_M)  : Option (Int32) :=
  f_days_nextWire_4 N  μ  N (-1) 0
set_option maxRecDepth 100000 in
set_option maxHeartbeats 4000000 in
theorem ok_f_days_nextWire_68 {G : sw_G} {ad : Nat → Nat} {ν : sw_N}   {N : Nat} {o : Int32} (g : sw_ok G cX2_nextWire "DeadWires$Days" (some .int) 2 0 0 ad) (hm : G.2.2.1.2.1.maxLocals = 4)  (μ : sw_M) (ho : sw_out G 0 0 (fun a => a = ad) (.inl (some (.int o))) lay0 μ ν) (k_4 : Int32 → Int32 → Option (Int32)) (hk_4 : ∀ (x1 : Int32) (x2 : Int32), k_4 x1 x2 = some o → SW G ad lay0 ν 0 0 4 [some (.ref 35), some (.int x1), some (.int x2), none] [] μ) (x2 : Int32) (h : f_days_nextWire_68 N  μ k_4  x2 = some o) : SW G ad lay0 ν 0 0 68 [some (.ref 35), none, some (.int x2), none] [] μ := by
  unfold f_days_nextWire_68 at h
  refine SW.iload_n (pc := 68) g (dt dt_X2_nextWire 38 rfl) rfl ?_
  refine SW.istore_n (pc := 69) g (dt dt_X2_nextWire 39 rfl) (sw_ltm hm (Nat.le_of_ble_eq_true rfl)) rfl ?_
  refine SW.iinc (pc := 70) (v := x2 + 1) g (dt dt_X2_nextWire 40 rfl) rfl (kn_1 _) (sw_ltm hm (Nat.le_of_ble_eq_true rfl)) rfl ?_
  refine SW.goto (pc := 73) (t := 4) g (dt dt_X2_nextWire 41 rfl) rfl ?_
  refine SW.msk [true, true, true, false] ?_
  exact hk_4  x2 (x2 + 1) h
set_option maxRecDepth 100000 in
set_option maxHeartbeats 4000000 in
theorem ok_f_days_nextWire_41 {G : sw_G} {ad : Nat → Nat} {ν : sw_N}   {N : Nat} {o : Int32} (g : sw_ok G cX2_nextWire "DeadWires$Days" (some .int) 2 0 0 ad) (hm : G.2.2.1.2.1.maxLocals = 4)  (μ : sw_M) (ho : sw_out G 0 0 (fun a => a = ad) (.inl (some (.int o))) lay0 μ ν) (k_4 : Int32 → Int32 → Option (Int32)) (hk_4 : ∀ (x1 : Int32) (x2 : Int32), k_4 x1 x2 = some o → SW G ad lay0 ν 0 0 4 [some (.ref 35), some (.int x1), some (.int x2), none] [] μ) (x1 : Int32) (x2 : Int32) (s0 : Int32) (h : f_days_nextWire_41 N  μ k_4  x1 x2 s0 = some o) : SW G ad lay0 ν 0 0 41 [some (.ref 35), some (.int x1), some (.int x2), none] [.int s0] μ := by
  unfold f_days_nextWire_41 at h
  refine SW.istore_n (pc := 41) g (dt dt_X2_nextWire 23 rfl) (sw_ltm hm (Nat.le_of_ble_eq_true rfl)) rfl ?_
  refine SW.iload_n (pc := 42) g (dt dt_X2_nextWire 24 rfl) rfl ?_
  refine SW.if_eq (pc := 43) (t := 70) g (dt dt_X2_nextWire 25 rfl) rfl (fun hc => ?_) (fun hc => ?_)
  · have h := iteT hc h
    refine SW.iinc (pc := 70) (v := x2 + 1) g (dt dt_X2_nextWire 40 rfl) rfl (kn_1 _) (sw_ltm hm (Nat.le_of_ble_eq_true rfl)) rfl ?_
    refine SW.goto (pc := 73) (t := 4) g (dt dt_X2_nextWire 41 rfl) rfl ?_
    refine SW.msk [true, true, true, false] ?_
    exact hk_4  x1 (x2 + 1) h
  · have h := iteF hc h
    refine SW.iload_n (pc := 46) g (dt dt_X2_nextWire 26 rfl) rfl ?_
    refine SW.iconst (pc := 47) (v := (-1)) g (dt dt_X2_nextWire 27 rfl) ki_m1 ?_
    refine SW.icmp_eq (pc := 48) (t := 68) g (dt dt_X2_nextWire 28 rfl) rfl (fun hc => ?_) (fun hc => ?_)
    · have h := iteT hc h
      refine SW.msk [true, false, true, false] ?_
      exact ok_f_days_nextWire_68  g hm  μ ho k_4 hk_4  x2 h
    · have h := iteF hc h
      refine SW.aload_n (pc := 51) g (dt dt_X2_nextWire 29 rfl) rfl ?_
      refine SW.getR (pc := 52) g (dt dt_X2_nextWire 30 rfl) fl_X2_9 cell_35 rfl ?_
      refine SW.iload_n (pc := 55) g (dt dt_X2_nextWire 31 rfl) rfl ?_
      obtain ⟨hb1, h⟩ := inbI h
      refine SW.iaload (pc := 56) g (dt dt_X2_nextWire 32 rfl) cell_36 hb1 ?_
      refine SW.aload_n (pc := 57) g (dt dt_X2_nextWire 33 rfl) rfl ?_
      refine SW.getR (pc := 58) g (dt dt_X2_nextWire 34 rfl) fl_X2_9 cell_35 rfl ?_
      refine SW.iload_n (pc := 61) g (dt dt_X2_nextWire 35 rfl) rfl ?_
      obtain ⟨r2, h3, h⟩ := bindI h
      refine SW.callSNi (pc := 62) g (dt dt_X2_nextWire 36 rfl) (mt_f_sx_at _ _ _ _ ad ν lay0 36 12 cell_36 N μ x1 r2 h3) me_X10_at ms_X10_at mn_X2_79 rfl (Nat.le_of_ble_eq_true rfl) (Nat.le_of_ble_eq_true rfl) (Nat.le_of_ble_eq_true rfl) (Nat.le_of_ble_eq_true rfl) rfl ?_
      refine SW.icmp_ge (pc := 65) (t := 70) g (dt dt_X2_nextWire 37 rfl) rfl (fun hc => ?_) (fun hc => ?_)
      · have h := iteT hc h
        refine SW.iinc (pc := 70) (v := x2 + 1) g (dt dt_X2_nextWire 40 rfl) rfl (kn_1 _) (sw_ltm hm (Nat.le_of_ble_eq_true rfl)) rfl ?_
        refine SW.goto (pc := 73) (t := 4) g (dt dt_X2_nextWire 41 rfl) rfl ?_
        refine SW.msk [true, true, true, false] ?_
        exact hk_4  x1 (x2 + 1) h
      · have h := iteF hc h
        refine SW.msk [true, false, true, false] ?_
        exact ok_f_days_nextWire_68  g hm  μ ho k_4 hk_4  x2 h
set_option maxRecDepth 100000 in
set_option maxHeartbeats 4000000 in
theorem ok_f_days_nextWire_40 {G : sw_G} {ad : Nat → Nat} {ν : sw_N}   {N : Nat} {o : Int32} (g : sw_ok G cX2_nextWire "DeadWires$Days" (some .int) 2 0 0 ad) (hm : G.2.2.1.2.1.maxLocals = 4)  (μ : sw_M) (ho : sw_out G 0 0 (fun a => a = ad) (.inl (some (.int o))) lay0 μ ν) (k_4 : Int32 → Int32 → Option (Int32)) (hk_4 : ∀ (x1 : Int32) (x2 : Int32), k_4 x1 x2 = some o → SW G ad lay0 ν 0 0 4 [some (.ref 35), some (.int x1), some (.int x2), none] [] μ) (x1 : Int32) (x2 : Int32) (h : f_days_nextWire_40 N  μ k_4  x1 x2 = some o) : SW G ad lay0 ν 0 0 40 [some (.ref 35), some (.int x1), some (.int x2), none] [] μ := by
  unfold f_days_nextWire_40 at h
  refine SW.iconst (pc := 40) (v := 0) g (dt dt_X2_nextWire 22 rfl) ki_0 ?_
  refine SW.msk [true, true, true, false] ?_
  exact ok_f_days_nextWire_41  g hm  μ ho k_4 hk_4  x1 x2 0 h
set_option maxRecDepth 100000 in
set_option maxHeartbeats 4000000 in
theorem ok_f_days_nextWire_4 {G : sw_G} {ad : Nat → Nat} {ν : sw_N}   {N : Nat} {o : Int32} (g : sw_ok G cX2_nextWire "DeadWires$Days" (some .int) 2 0 0 ad) (hm : G.2.2.1.2.1.maxLocals = 4)  (μ : sw_M) (ho : sw_out G 0 0 (fun a => a = ad) (.inl (some (.int o))) lay0 μ ν)  : ∀ (n : Nat) (x1 : Int32) (x2 : Int32) (h : f_days_nextWire_4 N  μ  n x1 x2 = some o), SW G ad lay0 ν 0 0 4 [some (.ref 35), some (.int x1), some (.int x2), none] [] μ := by
  intro n
  induction n with
  | zero => intro x1 x2 h; simp only [f_days_nextWire_4] at h; cases h
  | succ n ih =>
    intro x1 x2 h
    unfold f_days_nextWire_4 at h
    refine SW.iload_n (pc := 4) g (dt dt_X2_nextWire 4 rfl) rfl ?_
    refine SW.aload_n (pc := 5) g (dt dt_X2_nextWire 5 rfl) rfl ?_
    refine SW.getR (pc := 6) g (dt dt_X2_nextWire 6 rfl) fl_X2_27 cell_35 rfl ?_
    refine SW.getI (pc := 9) g (dt dt_X2_nextWire 7 rfl) fl_X2_83 cell_3 rfl ?_
    refine SW.icmp_ge (pc := 12) (t := 76) g (dt dt_X2_nextWire 8 rfl) rfl (fun hc => ?_) (fun hc => ?_)
    · have h := iteT hc h
      refine SW.iload_n (pc := 76) g (dt dt_X2_nextWire 42 rfl) rfl ?_
      exact SW.ireturn (pc := 77) g (leafI h ho) rfl (Nat.le_of_ble_eq_true rfl) (Nat.le_of_ble_eq_true rfl) (dt dt_X2_nextWire 43 rfl)
    · have h := iteF hc h
      refine SW.aload_n (pc := 15) g (dt dt_X2_nextWire 9 rfl) rfl ?_
      refine SW.iload_n (pc := 16) g (dt dt_X2_nextWire 10 rfl) rfl ?_
      obtain ⟨r1, h2, h⟩ := bindI h
      refine SW.callVi (pc := 17) g (dt dt_X2_nextWire 11 rfl) (mt_f_days_isCut _ _ _ _ ad ν   N μ x2 r1 h2) me_X2_isCut mv_X2_isCut ml_X2_75 cell_35 rfl rfl (Nat.le_of_ble_eq_true rfl) (Nat.le_of_ble_eq_true rfl) (Nat.le_of_ble_eq_true rfl) (Nat.le_of_ble_eq_true rfl) rfl ?_
      refine SW.if_ne (pc := 20) (t := 40) g (dt dt_X2_nextWire 12 rfl) rfl (fun hc => ?_) (fun hc => ?_)
      · have h := iteF hc h
        refine SW.msk [true, true, true, false] ?_
        exact ok_f_days_nextWire_40  g hm  μ ho (f_days_nextWire_4 N  μ  n) ih  x1 x2 h
      · have h := iteT hc h
        refine SW.aload_n (pc := 23) g (dt dt_X2_nextWire 13 rfl) rfl ?_
        refine SW.getR (pc := 24) g (dt dt_X2_nextWire 14 rfl) fl_X2_9 cell_35 rfl ?_
        refine SW.iload_n (pc := 27) g (dt dt_X2_nextWire 15 rfl) rfl ?_
        obtain ⟨hb3, h⟩ := inbI h
        refine SW.iaload (pc := 28) g (dt dt_X2_nextWire 16 rfl) cell_36 hb3 ?_
        refine SW.aload_n (pc := 29) g (dt dt_X2_nextWire 17 rfl) rfl ?_
        refine SW.getI (pc := 30) g (dt dt_X2_nextWire 18 rfl) fl_X2_38 cell_35 rfl ?_
        refine SW.icmp_le (pc := 33) (t := 40) g (dt dt_X2_nextWire 19 rfl) rfl (fun hc => ?_) (fun hc => ?_)
        · have h := iteT hc h
          refine SW.msk [true, true, true, false] ?_
          exact ok_f_days_nextWire_40  g hm  μ ho (f_days_nextWire_4 N  μ  n) ih  x1 x2 h
        · have h := iteF hc h
          refine SW.iconst (pc := 36) (v := 1) g (dt dt_X2_nextWire 20 rfl) ki_1 ?_
          refine SW.goto (pc := 37) (t := 41) g (dt dt_X2_nextWire 21 rfl) rfl ?_
          refine SW.msk [true, true, true, false] ?_
          exact ok_f_days_nextWire_41  g hm  μ ho (f_days_nextWire_4 N  μ  n) ih  x1 x2 1 h
set_option maxRecDepth 100000 in
set_option maxHeartbeats 4000000 in
theorem ok_f_days_nextWire {G : sw_G} {ad : Nat → Nat} {ν : sw_N}   {N : Nat} {o : Int32} (g : sw_ok G cX2_nextWire "DeadWires$Days" (some .int) 2 0 0 ad) (hm : G.2.2.1.2.1.maxLocals = 4)  (μ : sw_M) (ho : sw_out G 0 0 (fun a => a = ad) (.inl (some (.int o))) lay0 μ ν)  (h : f_days_nextWire N  μ  = some o) : SW G ad lay0 ν 0 0 0 [some (.ref 35), none, none, none] [] μ := by
  unfold f_days_nextWire at h
  refine SW.iconst (pc := 0) (v := (-1)) g (dt dt_X2_nextWire 0 rfl) ki_m1 ?_
  refine SW.istore_n (pc := 1) g (dt dt_X2_nextWire 1 rfl) (sw_ltm hm (Nat.le_of_ble_eq_true rfl)) rfl ?_
  refine SW.iconst (pc := 2) (v := 0) g (dt dt_X2_nextWire 2 rfl) ki_0 ?_
  refine SW.istore_n (pc := 3) g (dt dt_X2_nextWire 3 rfl) (sw_ltm hm (Nat.le_of_ble_eq_true rfl)) rfl ?_
  refine SW.msk [true, true, true, false] ?_
  exact ok_f_days_nextWire_4  g hm  μ ho   N (-1) 0 h
set_option maxRecDepth 100000 in
set_option maxHeartbeats 4000000 in
theorem mt_f_days_nextWire (l : Launch) (D : va_G) (cI cL : ClassId) (ad : Nat → Nat) (ν : sw_N)    (N : Nat) (μ : sw_M)  (o : Int32) (h : f_days_nextWire N  μ  = some o) : MetR l D cI cL yX2_nextWire cX2_nextWire 4 (some .int) 2 0 0 (fun a => a = ad) ad [.ref 35] lay0 μ ν (some (.int o)) lay0 μ ν :=
  MetR.of (n := 3) rfl (Nat.le_of_ble_eq_true rfl) (fun G g ho hm _ _ => ok_f_days_nextWire  g hm  μ ho  h)
def f_days_canCrossAny_2 (N : Nat)   : Nat → sw_M → Int32 → Int32 → Option (Int32 × sw_M)
  | 0, _, _, _ => none
  | n + 1, μ, x1, x2 =>
    if (μ 3 1) ≤ x2 then
      some (0, μ)
    else
      Option.bind (f_days_canCross N  μ x1 x2) (fun r1 =>
        if r1.1 = 0 then
          f_days_canCrossAny_2 N   n r1.2 x1 (x2 + 1)
        else
          some (1, r1.2))
def f_days_canCrossAny (N : Nat)  (μ : sw_M) (a1 : Int32) : Option (Int32 × sw_M) :=
  f_days_canCrossAny_2 N   N μ a1 0
set_option maxRecDepth 100000 in
set_option maxHeartbeats 4000000 in
theorem ok_f_days_canCrossAny_2 {G : sw_G} {ad : Nat → Nat} {ν : sw_N}   {N : Nat} {o : Int32 × sw_M} (g : sw_ok G cX2_canCrossAny "DeadWires$Days" (some .boolean) 5 0 0 ad) (hm : G.2.2.1.2.1.maxLocals = 3)  (ho : sw_out G 0 0 (fun a => a = ad) (.inl (some (.int o.1))) lay0 o.2 ν)  : ∀ (n : Nat) (μ : sw_M) (x1 : Int32) (x2 : Int32) (h : f_days_canCrossAny_2 N   n μ x1 x2 = some o), SW G ad lay0 ν 0 0 2 [some (.ref 35), some (.int x1), some (.int x2)] [] μ := by
  intro n
  induction n with
  | zero => intro μ x1 x2 h; simp only [f_days_canCrossAny_2] at h; cases h
  | succ n ih =>
    intro μ x1 x2 h
    unfold f_days_canCrossAny_2 at h
    refine SW.iload_n (pc := 2) g (dt dt_X2_canCrossAny 2 rfl) rfl ?_
    refine SW.aload_n (pc := 3) g (dt dt_X2_canCrossAny 3 rfl) rfl ?_
    refine SW.getR (pc := 4) g (dt dt_X2_canCrossAny 4 rfl) fl_X2_27 cell_35 rfl ?_
    refine SW.getI (pc := 7) g (dt dt_X2_canCrossAny 5 rfl) fl_X2_83 cell_3 rfl ?_
    refine SW.icmp_ge (pc := 10) (t := 30) g (dt dt_X2_canCrossAny 6 rfl) rfl (fun hc => ?_) (fun hc => ?_)
    · have h := iteT hc h
      refine SW.iconst (pc := 30) (v := 0) g (dt dt_X2_canCrossAny 16 rfl) ki_0 ?_
      exact SW.zreturn (pc := 31) g (leafW h ho) rfl (Nat.le_of_ble_eq_true rfl) (Nat.le_of_ble_eq_true rfl) (by decide) (dt dt_X2_canCrossAny 17 rfl)
    · have h := iteF hc h
      refine SW.aload_n (pc := 13) g (dt dt_X2_canCrossAny 7 rfl) rfl ?_
      refine SW.iload_n (pc := 14) g (dt dt_X2_canCrossAny 8 rfl) rfl ?_
      refine SW.iload_n (pc := 15) g (dt dt_X2_canCrossAny 9 rfl) rfl ?_
      obtain ⟨r1, h2, h⟩ := bindI h
      refine SW.callVi (pc := 16) g (dt dt_X2_canCrossAny 10 rfl) (mt_f_days_canCross _ _ _ _ ad ν   N μ x1 x2 r1 h2) me_X2_canCross mv_X2_canCross ml_X2_159 cell_35 rfl rfl (Nat.le_of_ble_eq_true rfl) (Nat.le_of_ble_eq_true rfl) (Nat.le_of_ble_eq_true rfl) (Nat.le_of_ble_eq_true rfl) rfl ?_
      refine SW.if_eq (pc := 19) (t := 24) g (dt dt_X2_canCrossAny 11 rfl) rfl (fun hc => ?_) (fun hc => ?_)
      · have h := iteT hc h
        refine SW.iinc (pc := 24) (v := x2 + 1) g (dt dt_X2_canCrossAny 14 rfl) rfl (kn_1 _) (sw_ltm hm (Nat.le_of_ble_eq_true rfl)) rfl ?_
        refine SW.goto (pc := 27) (t := 2) g (dt dt_X2_canCrossAny 15 rfl) rfl ?_
        refine SW.msk [true, true, true] ?_
        exact ih r1.2 x1 (x2 + 1) h
      · have h := iteF hc h
        refine SW.iconst (pc := 22) (v := 1) g (dt dt_X2_canCrossAny 12 rfl) ki_1 ?_
        exact SW.zreturn (pc := 23) g (leafW h ho) rfl (Nat.le_of_ble_eq_true rfl) (Nat.le_of_ble_eq_true rfl) (by decide) (dt dt_X2_canCrossAny 13 rfl)
set_option maxRecDepth 100000 in
set_option maxHeartbeats 4000000 in
theorem ok_f_days_canCrossAny {G : sw_G} {ad : Nat → Nat} {ν : sw_N}   {N : Nat} {o : Int32 × sw_M} (g : sw_ok G cX2_canCrossAny "DeadWires$Days" (some .boolean) 5 0 0 ad) (hm : G.2.2.1.2.1.maxLocals = 3)  (μ : sw_M) (ho : sw_out G 0 0 (fun a => a = ad) (.inl (some (.int o.1))) lay0 o.2 ν) (a1 : Int32) (h : f_days_canCrossAny N  μ a1 = some o) : SW G ad lay0 ν 0 0 0 [some (.ref 35), some (.int a1), none] [] μ := by
  unfold f_days_canCrossAny at h
  refine SW.iconst (pc := 0) (v := 0) g (dt dt_X2_canCrossAny 0 rfl) ki_0 ?_
  refine SW.istore_n (pc := 1) g (dt dt_X2_canCrossAny 1 rfl) (sw_ltm hm (Nat.le_of_ble_eq_true rfl)) rfl ?_
  refine SW.msk [true, true, true] ?_
  exact ok_f_days_canCrossAny_2  g hm  ho   N μ a1 0 h
set_option maxRecDepth 100000 in
set_option maxHeartbeats 4000000 in
theorem mt_f_days_canCrossAny (l : Launch) (D : va_G) (cI cL : ClassId) (ad : Nat → Nat) (ν : sw_N)    (N : Nat) (μ : sw_M) (a1 : Int32) (o : Int32 × sw_M) (h : f_days_canCrossAny N  μ a1 = some o) : MetR l D cI cL yX2_canCrossAny cX2_canCrossAny 3 (some .boolean) 5 0 0 (fun a => a = ad) ad [.ref 35, .int a1] lay0 μ ν (some (.int o.1)) lay0 o.2 ν :=
  MetR.of (n := 1) rfl (Nat.le_of_ble_eq_true rfl) (fun G g ho hm _ _ => ok_f_days_canCrossAny  g hm  μ ho a1 h)
def f_days_movedBits_4 (N : Nat)  (μ : sw_M)  : Nat → Int32 → Int32 → Option (Int32)
  | 0, _, _ => none
  | n + 1, x1, x2 =>
    if (μ 3 1) ≤ x2 then
      some x1
    else
      inb x2 12 (
        inb x2 12 (
          if (μ 36 x2.toNatClampNeg) = (μ 6 x2.toNatClampNeg) then
            f_days_movedBits_4 N  μ  n x1 (x2 + 1)
          else
            ib (x1 ||| ((1 : Int32) <<< (x2 &&& 31))) (fun y3 =>
              f_days_movedBits_4 N  μ  n y3 (x2 + 1))))
def f_days_movedBits (N : Nat)  (μ : sw_M)  : Option (Int32) :=
  f_days_movedBits_4 N  μ  N 0 0
set_option maxRecDepth 100000 in
set_option maxHeartbeats 4000000 in
theorem ok_f_days_movedBits_4 {G : sw_G} {ad : Nat → Nat} {ν : sw_N}   {N : Nat} {o : Int32} (g : sw_ok G cX2_movedBits "DeadWires$Days" (some .int) 1 0 0 ad) (hm : G.2.2.1.2.1.maxLocals = 3)  (μ : sw_M) (ho : sw_out G 0 0 (fun a => a = ad) (.inl (some (.int o))) lay0 μ ν)  : ∀ (n : Nat) (x1 : Int32) (x2 : Int32) (h : f_days_movedBits_4 N  μ  n x1 x2 = some o), SW G ad lay0 ν 0 0 4 [some (.ref 35), some (.int x1), some (.int x2)] [] μ := by
  intro n
  induction n with
  | zero => intro x1 x2 h; simp only [f_days_movedBits_4] at h; cases h
  | succ n ih =>
    intro x1 x2 h
    unfold f_days_movedBits_4 at h
    refine SW.iload_n (pc := 4) g (dt dt_X2_movedBits 4 rfl) rfl ?_
    refine SW.aload_n (pc := 5) g (dt dt_X2_movedBits 5 rfl) rfl ?_
    refine SW.getR (pc := 6) g (dt dt_X2_movedBits 6 rfl) fl_X2_27 cell_35 rfl ?_
    refine SW.getI (pc := 9) g (dt dt_X2_movedBits 7 rfl) fl_X2_83 cell_3 rfl ?_
    refine SW.icmp_ge (pc := 12) (t := 45) g (dt dt_X2_movedBits 8 rfl) rfl (fun hc => ?_) (fun hc => ?_)
    · have h := iteT hc h
      refine SW.iload_n (pc := 45) g (dt dt_X2_movedBits 27 rfl) rfl ?_
      exact SW.ireturn (pc := 46) g (leafI h ho) rfl (Nat.le_of_ble_eq_true rfl) (Nat.le_of_ble_eq_true rfl) (dt dt_X2_movedBits 28 rfl)
    · have h := iteF hc h
      refine SW.aload_n (pc := 15) g (dt dt_X2_movedBits 9 rfl) rfl ?_
      refine SW.getR (pc := 16) g (dt dt_X2_movedBits 10 rfl) fl_X2_9 cell_35 rfl ?_
      refine SW.iload_n (pc := 19) g (dt dt_X2_movedBits 11 rfl) rfl ?_
      obtain ⟨hb1, h⟩ := inbI h
      refine SW.iaload (pc := 20) g (dt dt_X2_movedBits 12 rfl) cell_36 hb1 ?_
      refine SW.aload_n (pc := 21) g (dt dt_X2_movedBits 13 rfl) rfl ?_
      refine SW.getR (pc := 22) g (dt dt_X2_movedBits 14 rfl) fl_X2_27 cell_35 rfl ?_
      refine SW.getR (pc := 25) g (dt dt_X2_movedBits 15 rfl) fl_X2_56 cell_3 rfl ?_
      refine SW.iload_n (pc := 28) g (dt dt_X2_movedBits 16 rfl) rfl ?_
      obtain ⟨hb2, h⟩ := inbI h
      refine SW.iaload (pc := 29) g (dt dt_X2_movedBits 17 rfl) cell_6 hb2 ?_
      refine SW.icmp_eq (pc := 30) (t := 39) g (dt dt_X2_movedBits 18 rfl) rfl (fun hc => ?_) (fun hc => ?_)
      · have h := iteT hc h
        refine SW.iinc (pc := 39) (v := x2 + 1) g (dt dt_X2_movedBits 25 rfl) rfl (kn_1 _) (sw_ltm hm (Nat.le_of_ble_eq_true rfl)) rfl ?_
        refine SW.goto (pc := 42) (t := 4) g (dt dt_X2_movedBits 26 rfl) rfl ?_
        refine SW.msk [true, true, true] ?_
        exact ih  x1 (x2 + 1) h
      · have h := iteF hc h
        refine SW.iload_n (pc := 33) g (dt dt_X2_movedBits 19 rfl) rfl ?_
        refine SW.iconst (pc := 34) (v := 1) g (dt dt_X2_movedBits 20 rfl) ki_1 ?_
        refine SW.iload_n (pc := 35) g (dt dt_X2_movedBits 21 rfl) rfl ?_
        refine SW.ishl (pc := 36) g (dt dt_X2_movedBits 22 rfl) ?_
        refine SW.ior (pc := 37) g (dt dt_X2_movedBits 23 rfl) ?_
        refine SW.istore_n (pc := 38) g (dt dt_X2_movedBits 24 rfl) (sw_ltm hm (Nat.le_of_ble_eq_true rfl)) rfl ?_
        refine SW.genL h (fun y3 h => ?_)
        refine SW.iinc (pc := 39) (v := x2 + 1) g (dt dt_X2_movedBits 25 rfl) rfl (kn_1 _) (sw_ltm hm (Nat.le_of_ble_eq_true rfl)) rfl ?_
        refine SW.goto (pc := 42) (t := 4) g (dt dt_X2_movedBits 26 rfl) rfl ?_
        refine SW.msk [true, true, true] ?_
        exact ih  y3 (x2 + 1) h
set_option maxRecDepth 100000 in
set_option maxHeartbeats 4000000 in
theorem ok_f_days_movedBits {G : sw_G} {ad : Nat → Nat} {ν : sw_N}   {N : Nat} {o : Int32} (g : sw_ok G cX2_movedBits "DeadWires$Days" (some .int) 1 0 0 ad) (hm : G.2.2.1.2.1.maxLocals = 3)  (μ : sw_M) (ho : sw_out G 0 0 (fun a => a = ad) (.inl (some (.int o))) lay0 μ ν)  (h : f_days_movedBits N  μ  = some o) : SW G ad lay0 ν 0 0 0 [some (.ref 35), none, none] [] μ := by
  unfold f_days_movedBits at h
  refine SW.iconst (pc := 0) (v := 0) g (dt dt_X2_movedBits 0 rfl) ki_0 ?_
  refine SW.istore_n (pc := 1) g (dt dt_X2_movedBits 1 rfl) (sw_ltm hm (Nat.le_of_ble_eq_true rfl)) rfl ?_
  refine SW.iconst (pc := 2) (v := 0) g (dt dt_X2_movedBits 2 rfl) ki_0 ?_
  refine SW.istore_n (pc := 3) g (dt dt_X2_movedBits 3 rfl) (sw_ltm hm (Nat.le_of_ble_eq_true rfl)) rfl ?_
  refine SW.msk [true, true, true] ?_
  exact ok_f_days_movedBits_4  g hm  μ ho   N 0 0 h
set_option maxRecDepth 100000 in
set_option maxHeartbeats 4000000 in
theorem mt_f_days_movedBits (l : Launch) (D : va_G) (cI cL : ClassId) (ad : Nat → Nat) (ν : sw_N)    (N : Nat) (μ : sw_M)  (o : Int32) (h : f_days_movedBits N  μ  = some o) : MetR l D cI cL yX2_movedBits cX2_movedBits 3 (some .int) 1 0 0 (fun a => a = ad) ad [.ref 35] lay0 μ ν (some (.int o)) lay0 μ ν :=
  MetR.of (n := 2) rfl (Nat.le_of_ble_eq_true rfl) (fun G g ho hm _ _ => ok_f_days_movedBits  g hm  μ ho  h)
def f_shelf_clear (N : Nat)  (μ : sw_M)  : Option (sw_M) :=
  wb (wr μ 45 4 0) (fun μ1 =>
    wb (wr μ1 45 5 0) (fun μ2 =>
      some μ2))
set_option maxRecDepth 100000 in
set_option maxHeartbeats 4000000 in
theorem ok_f_shelf_clear {G : sw_G} {ad : Nat → Nat} {ν : sw_N}   {N : Nat} {o : sw_M} (g : sw_ok G cX6_clear "DeadWires$Shelf" none 1 0 0 ad) (hm : G.2.2.1.2.1.maxLocals = 1)  (μ : sw_M) (ho : sw_out G 0 0 (fun a => a = ad) (.inl none) lay0 o ν)  (h : f_shelf_clear N  μ  = some o) : SW G ad lay0 ν 0 0 0 [some (.ref 45)] [] μ := by
  unfold f_shelf_clear at h
  refine SW.aload_n (pc := 0) g (dt dt_X6_clear 0 rfl) rfl ?_
  refine SW.iconst (pc := 1) (v := 0) g (dt dt_X6_clear 1 rfl) ki_0 ?_
  refine SW.putI (pc := 2) g (dt dt_X6_clear 2 rfl) fl_X6_27 cell_45 rfl ?_
  refine SW.genM h (fun μ1 h => ?_)
  refine SW.aload_n (pc := 5) g (dt dt_X6_clear 3 rfl) rfl ?_
  refine SW.iconst (pc := 6) (v := 0) g (dt dt_X6_clear 4 rfl) ki_0 ?_
  refine SW.putI (pc := 7) g (dt dt_X6_clear 5 rfl) fl_X6_31 cell_45 rfl ?_
  refine SW.genM h (fun μ2 h => ?_)
  exact SW.vreturn (pc := 10) g (leafV h ho) rfl (Nat.le_of_ble_eq_true rfl) (Nat.le_of_ble_eq_true rfl) (dt dt_X6_clear 6 rfl)
set_option maxRecDepth 100000 in
set_option maxHeartbeats 4000000 in
theorem mt_f_shelf_clear (l : Launch) (D : va_G) (cI cL : ClassId) (ad : Nat → Nat) (ν : sw_N)    (N : Nat) (μ : sw_M)  (o : sw_M) (h : f_shelf_clear N  μ  = some o) : MetR l D cI cL yX6_clear cX6_clear 1 none 1 0 0 (fun a => a = ad) ad [.ref 45] lay0 μ ν none lay0 o ν :=
  MetR.of (n := 0) rfl (Nat.le_of_ble_eq_true rfl) (fun G g ho hm _ _ => ok_f_shelf_clear  g hm  μ ho  h)
def f_days_save (N : Nat) (k0 n0 : Nat) (μ : sw_M) (a2 : Int32) : Option (sw_M) :=
  ib (a2 * 38) (fun y1 =>
    Option.bind (f_sx_within N  μ y1 0 ((Int32.ofNat n0) - 38)) (fun r2 =>
      if r2 = 0 then
        some μ
      else
        inb y1 n0 (wb (wr μ k0 y1.toNatClampNeg (μ 35 2)) (fun μ5 =>
          inb (y1 + 1) n0 (wb (wr μ5 k0 (y1 + 1).toNatClampNeg (μ5 35 3)) (fun μ7 =>
            inb (y1 + 2) n0 (wb (wr μ7 k0 (y1 + 2).toNatClampNeg (μ7 35 4)) (fun μ9 =>
              inb (y1 + 3) n0 (wb (wr μ9 k0 (y1 + 3).toNatClampNeg (μ9 35 5)) (fun μ11 =>
                ib (y1 + 4) (fun y12 =>
                  cpc 0 y12 12 12 n0 (wb (wrR μ11 k0 (va_cpy (μ11 36) (μ11 k0) (0 : Int32).toNatClampNeg y12.toNatClampNeg (12 : Int32).toNatClampNeg)) (fun μ14 =>
                    ib (y12 + 12) (fun y15 =>
                      cpc 0 y15 6 6 n0 (wb (wrR μ14 k0 (va_cpy (μ14 37) (μ14 k0) (0 : Int32).toNatClampNeg y15.toNatClampNeg (6 : Int32).toNatClampNeg)) (fun μ17 =>
                        ib (y15 + 6) (fun y18 =>
                          cpc 0 y18 6 6 n0 (wb (wrR μ17 k0 (va_cpy (μ17 38) (μ17 k0) (0 : Int32).toNatClampNeg y18.toNatClampNeg (6 : Int32).toNatClampNeg)) (fun μ20 =>
                            ib (y18 + 6) (fun y21 =>
                              cpc 0 y21 5 5 n0 (wb (wrR μ20 k0 (va_cpy (μ20 39) (μ20 k0) (0 : Int32).toNatClampNeg y21.toNatClampNeg (5 : Int32).toNatClampNeg)) (fun μ23 =>
                                ib (y21 + 5) (fun y24 =>
                                  cpc 0 y24 5 5 n0 (wb (wrR μ23 k0 (va_cpy (μ23 40) (μ23 k0) (0 : Int32).toNatClampNeg y24.toNatClampNeg (5 : Int32).toNatClampNeg)) (fun μ26 =>
                                    some μ26)))))))))))))))))))))))))
set_option maxRecDepth 100000 in
set_option maxHeartbeats 4000000 in
theorem ok_f_days_save {G : sw_G} {ad : Nat → Nat} {ν : sw_N}  (k0 n0 : Nat) {N : Nat} {o : sw_M} (g : sw_ok G cX2_save "DeadWires$Days" none 2 0 0 ad) (hm : G.2.2.1.2.1.maxLocals = 5) (hk0 : lay0[k0]? = some (.inl (false, n0))) (μ : sw_M) (ho : sw_out G 0 0 (fun a => a = ad) (.inl none) lay0 o ν) (a2 : Int32) (h : f_days_save N k0 n0 μ a2 = some o) : SW G ad lay0 ν 0 0 0 [some (.ref 35), some (.ref k0), some (.int a2), none, none] [] μ := by
  unfold f_days_save at h
  refine SW.iload_n (pc := 0) g (dt dt_X2_save 0 rfl) rfl ?_
  refine SW.bipush (pc := 1) (v := 38) g (dt dt_X2_save 1 rfl) kb_38 ?_
  refine SW.imul (pc := 3) g (dt dt_X2_save 2 rfl) ?_
  refine SW.istore_n (pc := 4) g (dt dt_X2_save 3 rfl) (sw_ltm hm (Nat.le_of_ble_eq_true rfl)) rfl ?_
  refine SW.genL h (fun y1 h => ?_)
  refine SW.iload_n (pc := 5) g (dt dt_X2_save 4 rfl) rfl ?_
  refine SW.iconst (pc := 6) (v := 0) g (dt dt_X2_save 5 rfl) ki_0 ?_
  refine SW.aload_n (pc := 7) g (dt dt_X2_save 6 rfl) rfl ?_
  refine SW.alen (pc := 8) g (dt dt_X2_save 7 rfl) hk0 ?_
  refine SW.bipush (pc := 9) (v := 38) g (dt dt_X2_save 8 rfl) kb_38 ?_
  refine SW.isub (pc := 11) g (dt dt_X2_save 9 rfl) ?_
  obtain ⟨r2, h3, h⟩ := bindI h
  refine SW.callSNi (pc := 12) g (dt dt_X2_save 10 rfl) (mt_f_sx_within _ _ _ _ ad ν lay0   N μ y1 0 ((Int32.ofNat n0) - 38) r2 h3) me_X10_within ms_X10_within mn_X2_71 rfl (Nat.le_of_ble_eq_true rfl) (Nat.le_of_ble_eq_true rfl) (Nat.le_of_ble_eq_true rfl) (Nat.le_of_ble_eq_true rfl) rfl ?_
  refine SW.if_ne (pc := 15) (t := 19) g (dt dt_X2_save 11 rfl) rfl (fun hc => ?_) (fun hc => ?_)
  · have h := iteF hc h
    refine SW.aload_n (pc := 19) g (dt dt_X2_save 13 rfl) rfl ?_
    refine SW.iload_n (pc := 20) g (dt dt_X2_save 14 rfl) rfl ?_
    refine SW.aload_n (pc := 21) g (dt dt_X2_save 15 rfl) rfl ?_
    refine SW.getI (pc := 22) g (dt dt_X2_save 16 rfl) fl_X2_38 cell_35 rfl ?_
    obtain ⟨hb4, h⟩ := inbI h
    refine SW.iastore (pc := 25) g (dt dt_X2_save 17 rfl) hk0 hb4 ?_
    refine SW.genM h (fun μ5 h => ?_)
    refine SW.aload_n (pc := 26) g (dt dt_X2_save 18 rfl) rfl ?_
    refine SW.iload_n (pc := 27) g (dt dt_X2_save 19 rfl) rfl ?_
    refine SW.iconst (pc := 28) (v := 1) g (dt dt_X2_save 20 rfl) ki_1 ?_
    refine SW.iadd (pc := 29) g (dt dt_X2_save 21 rfl) ?_
    refine SW.aload_n (pc := 30) g (dt dt_X2_save 22 rfl) rfl ?_
    refine SW.getI (pc := 31) g (dt dt_X2_save 23 rfl) fl_X2_47 cell_35 rfl ?_
    obtain ⟨hb6, h⟩ := inbI h
    refine SW.iastore (pc := 34) g (dt dt_X2_save 24 rfl) hk0 hb6 ?_
    refine SW.genM h (fun μ7 h => ?_)
    refine SW.aload_n (pc := 35) g (dt dt_X2_save 25 rfl) rfl ?_
    refine SW.iload_n (pc := 36) g (dt dt_X2_save 26 rfl) rfl ?_
    refine SW.iconst (pc := 37) (v := 2) g (dt dt_X2_save 27 rfl) ki_2 ?_
    refine SW.iadd (pc := 38) g (dt dt_X2_save 28 rfl) ?_
    refine SW.aload_n (pc := 39) g (dt dt_X2_save 29 rfl) rfl ?_
    refine SW.getI (pc := 40) g (dt dt_X2_save 30 rfl) fl_X2_50 cell_35 rfl ?_
    obtain ⟨hb8, h⟩ := inbI h
    refine SW.iastore (pc := 43) g (dt dt_X2_save 31 rfl) hk0 hb8 ?_
    refine SW.genM h (fun μ9 h => ?_)
    refine SW.aload_n (pc := 44) g (dt dt_X2_save 32 rfl) rfl ?_
    refine SW.iload_n (pc := 45) g (dt dt_X2_save 33 rfl) rfl ?_
    refine SW.iconst (pc := 46) (v := 3) g (dt dt_X2_save 34 rfl) ki_3 ?_
    refine SW.iadd (pc := 47) g (dt dt_X2_save 35 rfl) ?_
    refine SW.aload_n (pc := 48) g (dt dt_X2_save 36 rfl) rfl ?_
    refine SW.getI (pc := 49) g (dt dt_X2_save 37 rfl) fl_X2_53 cell_35 rfl ?_
    obtain ⟨hb10, h⟩ := inbI h
    refine SW.iastore (pc := 52) g (dt dt_X2_save 38 rfl) hk0 hb10 ?_
    refine SW.genM h (fun μ11 h => ?_)
    refine SW.iload_n (pc := 53) g (dt dt_X2_save 39 rfl) rfl ?_
    refine SW.iconst (pc := 54) (v := 4) g (dt dt_X2_save 40 rfl) ki_4 ?_
    refine SW.iadd (pc := 55) g (dt dt_X2_save 41 rfl) ?_
    refine SW.istore (pc := 56) g (dt dt_X2_save 42 rfl) (sw_ltm hm (Nat.le_of_ble_eq_true rfl)) rfl ?_
    refine SW.genL h (fun y12 h => ?_)
    refine SW.aload_n (pc := 58) g (dt dt_X2_save 43 rfl) rfl ?_
    refine SW.getR (pc := 59) g (dt dt_X2_save 44 rfl) fl_X2_9 cell_35 rfl ?_
    refine SW.iconst (pc := 62) (v := 0) g (dt dt_X2_save 45 rfl) ki_0 ?_
    refine SW.aload_n (pc := 63) g (dt dt_X2_save 46 rfl) rfl ?_
    refine SW.iload (pc := 64) g (dt dt_X2_save 47 rfl) rfl ?_
    refine SW.bipush (pc := 66) (v := 12) g (dt dt_X2_save 48 rfl) kb_12 ?_
    obtain ⟨hq13, h⟩ := cpcI h
    refine SW.acopy (pc := 68) g (dt dt_X2_save 49 rfl) ml_X2_59 ac_n ac_s ac_i cell_36 hk0 hq13.1 hq13.2.1 hq13.2.2.1 hq13.2.2.2.1 hq13.2.2.2.2 (Nat.le_of_ble_eq_true rfl) (Nat.le_of_ble_eq_true rfl) ?_
    refine SW.genM h (fun μ14 h => ?_)
    refine SW.iinc (pc := 71) (v := y12 + 12) g (dt dt_X2_save 50 rfl) rfl (kn_12 _) (sw_ltm hm (Nat.le_of_ble_eq_true rfl)) rfl ?_
    refine SW.genL h (fun y15 h => ?_)
    refine SW.aload_n (pc := 74) g (dt dt_X2_save 51 rfl) rfl ?_
    refine SW.getR (pc := 75) g (dt dt_X2_save 52 rfl) fl_X2_15 cell_35 rfl ?_
    refine SW.iconst (pc := 78) (v := 0) g (dt dt_X2_save 53 rfl) ki_0 ?_
    refine SW.aload_n (pc := 79) g (dt dt_X2_save 54 rfl) rfl ?_
    refine SW.iload (pc := 80) g (dt dt_X2_save 55 rfl) rfl ?_
    refine SW.bipush (pc := 82) (v := 6) g (dt dt_X2_save 56 rfl) kb_6 ?_
    obtain ⟨hq16, h⟩ := cpcI h
    refine SW.acopy (pc := 84) g (dt dt_X2_save 57 rfl) ml_X2_59 ac_n ac_s ac_i cell_37 hk0 hq16.1 hq16.2.1 hq16.2.2.1 hq16.2.2.2.1 hq16.2.2.2.2 (Nat.le_of_ble_eq_true rfl) (Nat.le_of_ble_eq_true rfl) ?_
    refine SW.genM h (fun μ17 h => ?_)
    refine SW.iinc (pc := 87) (v := y15 + 6) g (dt dt_X2_save 58 rfl) rfl (kn_6 _) (sw_ltm hm (Nat.le_of_ble_eq_true rfl)) rfl ?_
    refine SW.genL h (fun y18 h => ?_)
    refine SW.aload_n (pc := 90) g (dt dt_X2_save 59 rfl) rfl ?_
    refine SW.getR (pc := 91) g (dt dt_X2_save 60 rfl) fl_X2_18 cell_35 rfl ?_
    refine SW.iconst (pc := 94) (v := 0) g (dt dt_X2_save 61 rfl) ki_0 ?_
    refine SW.aload_n (pc := 95) g (dt dt_X2_save 62 rfl) rfl ?_
    refine SW.iload (pc := 96) g (dt dt_X2_save 63 rfl) rfl ?_
    refine SW.bipush (pc := 98) (v := 6) g (dt dt_X2_save 64 rfl) kb_6 ?_
    obtain ⟨hq19, h⟩ := cpcI h
    refine SW.acopy (pc := 100) g (dt dt_X2_save 65 rfl) ml_X2_59 ac_n ac_s ac_i cell_38 hk0 hq19.1 hq19.2.1 hq19.2.2.1 hq19.2.2.2.1 hq19.2.2.2.2 (Nat.le_of_ble_eq_true rfl) (Nat.le_of_ble_eq_true rfl) ?_
    refine SW.genM h (fun μ20 h => ?_)
    refine SW.iinc (pc := 103) (v := y18 + 6) g (dt dt_X2_save 66 rfl) rfl (kn_6 _) (sw_ltm hm (Nat.le_of_ble_eq_true rfl)) rfl ?_
    refine SW.genL h (fun y21 h => ?_)
    refine SW.aload_n (pc := 106) g (dt dt_X2_save 67 rfl) rfl ?_
    refine SW.getR (pc := 107) g (dt dt_X2_save 68 rfl) fl_X2_21 cell_35 rfl ?_
    refine SW.iconst (pc := 110) (v := 0) g (dt dt_X2_save 69 rfl) ki_0 ?_
    refine SW.aload_n (pc := 111) g (dt dt_X2_save 70 rfl) rfl ?_
    refine SW.iload (pc := 112) g (dt dt_X2_save 71 rfl) rfl ?_
    refine SW.iconst (pc := 114) (v := 5) g (dt dt_X2_save 72 rfl) ki_5 ?_
    obtain ⟨hq22, h⟩ := cpcI h
    refine SW.acopy (pc := 115) g (dt dt_X2_save 73 rfl) ml_X2_59 ac_n ac_s ac_i cell_39 hk0 hq22.1 hq22.2.1 hq22.2.2.1 hq22.2.2.2.1 hq22.2.2.2.2 (Nat.le_of_ble_eq_true rfl) (Nat.le_of_ble_eq_true rfl) ?_
    refine SW.genM h (fun μ23 h => ?_)
    refine SW.iinc (pc := 118) (v := y21 + 5) g (dt dt_X2_save 74 rfl) rfl (kn_5 _) (sw_ltm hm (Nat.le_of_ble_eq_true rfl)) rfl ?_
    refine SW.genL h (fun y24 h => ?_)
    refine SW.aload_n (pc := 121) g (dt dt_X2_save 75 rfl) rfl ?_
    refine SW.getR (pc := 122) g (dt dt_X2_save 76 rfl) fl_X2_24 cell_35 rfl ?_
    refine SW.iconst (pc := 125) (v := 0) g (dt dt_X2_save 77 rfl) ki_0 ?_
    refine SW.aload_n (pc := 126) g (dt dt_X2_save 78 rfl) rfl ?_
    refine SW.iload (pc := 127) g (dt dt_X2_save 79 rfl) rfl ?_
    refine SW.iconst (pc := 129) (v := 5) g (dt dt_X2_save 80 rfl) ki_5 ?_
    obtain ⟨hq25, h⟩ := cpcI h
    refine SW.acopy (pc := 130) g (dt dt_X2_save 81 rfl) ml_X2_59 ac_n ac_s ac_i cell_40 hk0 hq25.1 hq25.2.1 hq25.2.2.1 hq25.2.2.2.1 hq25.2.2.2.2 (Nat.le_of_ble_eq_true rfl) (Nat.le_of_ble_eq_true rfl) ?_
    refine SW.genM h (fun μ26 h => ?_)
    exact SW.vreturn (pc := 133) g (leafV h ho) rfl (Nat.le_of_ble_eq_true rfl) (Nat.le_of_ble_eq_true rfl) (dt dt_X2_save 82 rfl)
  · have h := iteT hc h
    exact SW.vreturn (pc := 18) g (leafV h ho) rfl (Nat.le_of_ble_eq_true rfl) (Nat.le_of_ble_eq_true rfl) (dt dt_X2_save 12 rfl)
set_option maxRecDepth 100000 in
set_option maxHeartbeats 4000000 in
theorem mt_f_days_save (l : Launch) (D : va_G) (cI cL : ClassId) (ad : Nat → Nat) (ν : sw_N)  (k0 n0 : Nat) (hk0 : lay0[k0]? = some (.inl (false, n0))) (N : Nat) (μ : sw_M) (a2 : Int32) (o : sw_M) (h : f_days_save N k0 n0 μ a2 = some o) : MetR l D cI cL yX2_save cX2_save 5 none 2 0 0 (fun a => a = ad) ad [.ref 35, .ref k0, .int a2] lay0 μ ν none lay0 o ν :=
  MetR.of (n := 2) rfl (Nat.le_of_ble_eq_true rfl) (fun G g ho hm _ _ => ok_f_days_save k0 n0 g hm hk0 μ ho a2 h)
def f_shelf_keep (N : Nat)  (μ : sw_M)  : Option (sw_M) :=
  if 16 ≤ (μ 45 4) then
    some μ
  else
    Option.bind (f_days_save N 46 608 μ (μ 45 4)) (fun r1 =>
      wb (wr r1 45 4 ((r1 45 4) + 1)) (fun μ3 =>
        some μ3))
set_option maxRecDepth 100000 in
set_option maxHeartbeats 4000000 in
theorem ok_f_shelf_keep {G : sw_G} {ad : Nat → Nat} {ν : sw_N}   {N : Nat} {o : sw_M} (g : sw_ok G cX6_keep "DeadWires$Shelf" none 3 0 0 ad) (hm : G.2.2.1.2.1.maxLocals = 1)  (μ : sw_M) (ho : sw_out G 0 0 (fun a => a = ad) (.inl none) lay0 o ν)  (h : f_shelf_keep N  μ  = some o) : SW G ad lay0 ν 0 0 0 [some (.ref 45)] [] μ := by
  unfold f_shelf_keep at h
  refine SW.aload_n (pc := 0) g (dt dt_X6_keep 0 rfl) rfl ?_
  refine SW.getI (pc := 1) g (dt dt_X6_keep 1 rfl) fl_X6_27 cell_45 rfl ?_
  refine SW.bipush (pc := 4) (v := 16) g (dt dt_X6_keep 2 rfl) kb_16 ?_
  refine SW.icmp_ge (pc := 6) (t := 34) g (dt dt_X6_keep 3 rfl) rfl (fun hc => ?_) (fun hc => ?_)
  · have h := iteT hc h
    exact SW.vreturn (pc := 34) g (leafV h ho) rfl (Nat.le_of_ble_eq_true rfl) (Nat.le_of_ble_eq_true rfl) (dt dt_X6_keep 17 rfl)
  · have h := iteF hc h
    refine SW.aload_n (pc := 9) g (dt dt_X6_keep 4 rfl) rfl ?_
    refine SW.getR (pc := 10) g (dt dt_X6_keep 5 rfl) fl_X6_23 cell_45 rfl ?_
    refine SW.aload_n (pc := 13) g (dt dt_X6_keep 6 rfl) rfl ?_
    refine SW.getR (pc := 14) g (dt dt_X6_keep 7 rfl) fl_X6_11 cell_45 rfl ?_
    refine SW.aload_n (pc := 17) g (dt dt_X6_keep 8 rfl) rfl ?_
    refine SW.getI (pc := 18) g (dt dt_X6_keep 9 rfl) fl_X6_27 cell_45 rfl ?_
    obtain ⟨r1, h2, h⟩ := bindI h
    refine SW.callVv (pc := 21) g (dt dt_X6_keep 10 rfl) (mt_f_days_save _ _ _ _ ad ν 46 608 cell_46 N μ (μ 45 4) r1 h2) me_X2_save mv_X2_save ml_X6_34 cell_35 rfl rfl (Nat.le_of_ble_eq_true rfl) (Nat.le_of_ble_eq_true rfl) (Nat.le_of_ble_eq_true rfl) (Nat.le_of_ble_eq_true rfl) rfl ?_
    refine SW.aload_n (pc := 24) g (dt dt_X6_keep 11 rfl) rfl ?_
    refine SW.dup (pc := 25) g (dt dt_X6_keep 12 rfl) rfl ?_
    refine SW.getI (pc := 26) g (dt dt_X6_keep 13 rfl) fl_X6_27 cell_45 rfl ?_
    refine SW.iconst (pc := 29) (v := 1) g (dt dt_X6_keep 14 rfl) ki_1 ?_
    refine SW.iadd (pc := 30) g (dt dt_X6_keep 15 rfl) ?_
    refine SW.putI (pc := 31) g (dt dt_X6_keep 16 rfl) fl_X6_27 cell_45 rfl ?_
    refine SW.genM h (fun μ3 h => ?_)
    exact SW.vreturn (pc := 34) g (leafV h ho) rfl (Nat.le_of_ble_eq_true rfl) (Nat.le_of_ble_eq_true rfl) (dt dt_X6_keep 17 rfl)
set_option maxRecDepth 100000 in
set_option maxHeartbeats 4000000 in
theorem mt_f_shelf_keep (l : Launch) (D : va_G) (cI cL : ClassId) (ad : Nat → Nat) (ν : sw_N)    (N : Nat) (μ : sw_M)  (o : sw_M) (h : f_shelf_keep N  μ  = some o) : MetR l D cI cL yX6_keep cX6_keep 1 none 3 0 0 (fun a => a = ad) ad [.ref 45] lay0 μ ν none lay0 o ν :=
  MetR.of (n := 0) rfl (Nat.le_of_ble_eq_true rfl) (fun G g ho hm _ _ => ok_f_shelf_keep  g hm  μ ho  h)
def f_days_load (N : Nat) (k0 n0 : Nat) (μ : sw_M) (a2 : Int32) : Option (sw_M) :=
  ib (a2 * 38) (fun y1 =>
    Option.bind (f_sx_within N  μ y1 0 ((Int32.ofNat n0) - 38)) (fun r2 =>
      if r2 = 0 then
        some μ
      else
        inb y1 n0 (
          wb (wr μ 35 2 (μ k0 y1.toNatClampNeg)) (fun μ5 =>
            inb (y1 + 1) n0 (
              wb (wr μ5 35 3 (μ5 k0 (y1 + 1).toNatClampNeg)) (fun μ7 =>
                inb (y1 + 2) n0 (
                  wb (wr μ7 35 4 (μ7 k0 (y1 + 2).toNatClampNeg)) (fun μ9 =>
                    inb (y1 + 3) n0 (
                      wb (wr μ9 35 5 (μ9 k0 (y1 + 3).toNatClampNeg)) (fun μ11 =>
                        ib (y1 + 4) (fun y12 =>
                          cpc y12 0 12 n0 12 (wb (wrR μ11 36 (va_cpy (μ11 k0) (μ11 36) y12.toNatClampNeg (0 : Int32).toNatClampNeg (12 : Int32).toNatClampNeg)) (fun μ14 =>
                            ib (y12 + 12) (fun y15 =>
                              cpc y15 0 6 n0 6 (wb (wrR μ14 37 (va_cpy (μ14 k0) (μ14 37) y15.toNatClampNeg (0 : Int32).toNatClampNeg (6 : Int32).toNatClampNeg)) (fun μ17 =>
                                ib (y15 + 6) (fun y18 =>
                                  cpc y18 0 6 n0 6 (wb (wrR μ17 38 (va_cpy (μ17 k0) (μ17 38) y18.toNatClampNeg (0 : Int32).toNatClampNeg (6 : Int32).toNatClampNeg)) (fun μ20 =>
                                    ib (y18 + 6) (fun y21 =>
                                      cpc y21 0 5 n0 5 (wb (wrR μ20 39 (va_cpy (μ20 k0) (μ20 39) y21.toNatClampNeg (0 : Int32).toNatClampNeg (5 : Int32).toNatClampNeg)) (fun μ23 =>
                                        ib (y21 + 5) (fun y24 =>
                                          cpc y24 0 5 n0 5 (wb (wrR μ23 40 (va_cpy (μ23 k0) (μ23 40) y24.toNatClampNeg (0 : Int32).toNatClampNeg (5 : Int32).toNatClampNeg)) (fun μ26 =>
                                            some μ26)))))))))))))))))))))))))
set_option maxRecDepth 100000 in
set_option maxHeartbeats 4000000 in
theorem ok_f_days_load {G : sw_G} {ad : Nat → Nat} {ν : sw_N}  (k0 n0 : Nat) {N : Nat} {o : sw_M} (g : sw_ok G cX2_load "DeadWires$Days" none 2 0 0 ad) (hm : G.2.2.1.2.1.maxLocals = 5) (hk0 : lay0[k0]? = some (.inl (false, n0))) (μ : sw_M) (ho : sw_out G 0 0 (fun a => a = ad) (.inl none) lay0 o ν) (a2 : Int32) (h : f_days_load N k0 n0 μ a2 = some o) : SW G ad lay0 ν 0 0 0 [some (.ref 35), some (.ref k0), some (.int a2), none, none] [] μ := by
  unfold f_days_load at h
  refine SW.iload_n (pc := 0) g (dt dt_X2_load 0 rfl) rfl ?_
  refine SW.bipush (pc := 1) (v := 38) g (dt dt_X2_load 1 rfl) kb_38 ?_
  refine SW.imul (pc := 3) g (dt dt_X2_load 2 rfl) ?_
  refine SW.istore_n (pc := 4) g (dt dt_X2_load 3 rfl) (sw_ltm hm (Nat.le_of_ble_eq_true rfl)) rfl ?_
  refine SW.genL h (fun y1 h => ?_)
  refine SW.iload_n (pc := 5) g (dt dt_X2_load 4 rfl) rfl ?_
  refine SW.iconst (pc := 6) (v := 0) g (dt dt_X2_load 5 rfl) ki_0 ?_
  refine SW.aload_n (pc := 7) g (dt dt_X2_load 6 rfl) rfl ?_
  refine SW.alen (pc := 8) g (dt dt_X2_load 7 rfl) hk0 ?_
  refine SW.bipush (pc := 9) (v := 38) g (dt dt_X2_load 8 rfl) kb_38 ?_
  refine SW.isub (pc := 11) g (dt dt_X2_load 9 rfl) ?_
  obtain ⟨r2, h3, h⟩ := bindI h
  refine SW.callSNi (pc := 12) g (dt dt_X2_load 10 rfl) (mt_f_sx_within _ _ _ _ ad ν lay0   N μ y1 0 ((Int32.ofNat n0) - 38) r2 h3) me_X10_within ms_X10_within mn_X2_71 rfl (Nat.le_of_ble_eq_true rfl) (Nat.le_of_ble_eq_true rfl) (Nat.le_of_ble_eq_true rfl) (Nat.le_of_ble_eq_true rfl) rfl ?_
  refine SW.if_ne (pc := 15) (t := 19) g (dt dt_X2_load 11 rfl) rfl (fun hc => ?_) (fun hc => ?_)
  · have h := iteF hc h
    refine SW.aload_n (pc := 19) g (dt dt_X2_load 13 rfl) rfl ?_
    refine SW.aload_n (pc := 20) g (dt dt_X2_load 14 rfl) rfl ?_
    refine SW.iload_n (pc := 21) g (dt dt_X2_load 15 rfl) rfl ?_
    obtain ⟨hb4, h⟩ := inbI h
    refine SW.iaload (pc := 22) g (dt dt_X2_load 16 rfl) hk0 hb4 ?_
    refine SW.putI (pc := 23) g (dt dt_X2_load 17 rfl) fl_X2_38 cell_35 rfl ?_
    refine SW.genM h (fun μ5 h => ?_)
    refine SW.aload_n (pc := 26) g (dt dt_X2_load 18 rfl) rfl ?_
    refine SW.aload_n (pc := 27) g (dt dt_X2_load 19 rfl) rfl ?_
    refine SW.iload_n (pc := 28) g (dt dt_X2_load 20 rfl) rfl ?_
    refine SW.iconst (pc := 29) (v := 1) g (dt dt_X2_load 21 rfl) ki_1 ?_
    refine SW.iadd (pc := 30) g (dt dt_X2_load 22 rfl) ?_
    obtain ⟨hb6, h⟩ := inbI h
    refine SW.iaload (pc := 31) g (dt dt_X2_load 23 rfl) hk0 hb6 ?_
    refine SW.putI (pc := 32) g (dt dt_X2_load 24 rfl) fl_X2_47 cell_35 rfl ?_
    refine SW.genM h (fun μ7 h => ?_)
    refine SW.aload_n (pc := 35) g (dt dt_X2_load 25 rfl) rfl ?_
    refine SW.aload_n (pc := 36) g (dt dt_X2_load 26 rfl) rfl ?_
    refine SW.iload_n (pc := 37) g (dt dt_X2_load 27 rfl) rfl ?_
    refine SW.iconst (pc := 38) (v := 2) g (dt dt_X2_load 28 rfl) ki_2 ?_
    refine SW.iadd (pc := 39) g (dt dt_X2_load 29 rfl) ?_
    obtain ⟨hb8, h⟩ := inbI h
    refine SW.iaload (pc := 40) g (dt dt_X2_load 30 rfl) hk0 hb8 ?_
    refine SW.putI (pc := 41) g (dt dt_X2_load 31 rfl) fl_X2_50 cell_35 rfl ?_
    refine SW.genM h (fun μ9 h => ?_)
    refine SW.aload_n (pc := 44) g (dt dt_X2_load 32 rfl) rfl ?_
    refine SW.aload_n (pc := 45) g (dt dt_X2_load 33 rfl) rfl ?_
    refine SW.iload_n (pc := 46) g (dt dt_X2_load 34 rfl) rfl ?_
    refine SW.iconst (pc := 47) (v := 3) g (dt dt_X2_load 35 rfl) ki_3 ?_
    refine SW.iadd (pc := 48) g (dt dt_X2_load 36 rfl) ?_
    obtain ⟨hb10, h⟩ := inbI h
    refine SW.iaload (pc := 49) g (dt dt_X2_load 37 rfl) hk0 hb10 ?_
    refine SW.putI (pc := 50) g (dt dt_X2_load 38 rfl) fl_X2_53 cell_35 rfl ?_
    refine SW.genM h (fun μ11 h => ?_)
    refine SW.iload_n (pc := 53) g (dt dt_X2_load 39 rfl) rfl ?_
    refine SW.iconst (pc := 54) (v := 4) g (dt dt_X2_load 40 rfl) ki_4 ?_
    refine SW.iadd (pc := 55) g (dt dt_X2_load 41 rfl) ?_
    refine SW.istore (pc := 56) g (dt dt_X2_load 42 rfl) (sw_ltm hm (Nat.le_of_ble_eq_true rfl)) rfl ?_
    refine SW.genL h (fun y12 h => ?_)
    refine SW.aload_n (pc := 58) g (dt dt_X2_load 43 rfl) rfl ?_
    refine SW.iload (pc := 59) g (dt dt_X2_load 44 rfl) rfl ?_
    refine SW.aload_n (pc := 61) g (dt dt_X2_load 45 rfl) rfl ?_
    refine SW.getR (pc := 62) g (dt dt_X2_load 46 rfl) fl_X2_9 cell_35 rfl ?_
    refine SW.iconst (pc := 65) (v := 0) g (dt dt_X2_load 47 rfl) ki_0 ?_
    refine SW.bipush (pc := 66) (v := 12) g (dt dt_X2_load 48 rfl) kb_12 ?_
    obtain ⟨hq13, h⟩ := cpcI h
    refine SW.acopy (pc := 68) g (dt dt_X2_load 49 rfl) ml_X2_59 ac_n ac_s ac_i hk0 cell_36 hq13.1 hq13.2.1 hq13.2.2.1 hq13.2.2.2.1 hq13.2.2.2.2 (Nat.le_of_ble_eq_true rfl) (Nat.le_of_ble_eq_true rfl) ?_
    refine SW.genM h (fun μ14 h => ?_)
    refine SW.iinc (pc := 71) (v := y12 + 12) g (dt dt_X2_load 50 rfl) rfl (kn_12 _) (sw_ltm hm (Nat.le_of_ble_eq_true rfl)) rfl ?_
    refine SW.genL h (fun y15 h => ?_)
    refine SW.aload_n (pc := 74) g (dt dt_X2_load 51 rfl) rfl ?_
    refine SW.iload (pc := 75) g (dt dt_X2_load 52 rfl) rfl ?_
    refine SW.aload_n (pc := 77) g (dt dt_X2_load 53 rfl) rfl ?_
    refine SW.getR (pc := 78) g (dt dt_X2_load 54 rfl) fl_X2_15 cell_35 rfl ?_
    refine SW.iconst (pc := 81) (v := 0) g (dt dt_X2_load 55 rfl) ki_0 ?_
    refine SW.bipush (pc := 82) (v := 6) g (dt dt_X2_load 56 rfl) kb_6 ?_
    obtain ⟨hq16, h⟩ := cpcI h
    refine SW.acopy (pc := 84) g (dt dt_X2_load 57 rfl) ml_X2_59 ac_n ac_s ac_i hk0 cell_37 hq16.1 hq16.2.1 hq16.2.2.1 hq16.2.2.2.1 hq16.2.2.2.2 (Nat.le_of_ble_eq_true rfl) (Nat.le_of_ble_eq_true rfl) ?_
    refine SW.genM h (fun μ17 h => ?_)
    refine SW.iinc (pc := 87) (v := y15 + 6) g (dt dt_X2_load 58 rfl) rfl (kn_6 _) (sw_ltm hm (Nat.le_of_ble_eq_true rfl)) rfl ?_
    refine SW.genL h (fun y18 h => ?_)
    refine SW.aload_n (pc := 90) g (dt dt_X2_load 59 rfl) rfl ?_
    refine SW.iload (pc := 91) g (dt dt_X2_load 60 rfl) rfl ?_
    refine SW.aload_n (pc := 93) g (dt dt_X2_load 61 rfl) rfl ?_
    refine SW.getR (pc := 94) g (dt dt_X2_load 62 rfl) fl_X2_18 cell_35 rfl ?_
    refine SW.iconst (pc := 97) (v := 0) g (dt dt_X2_load 63 rfl) ki_0 ?_
    refine SW.bipush (pc := 98) (v := 6) g (dt dt_X2_load 64 rfl) kb_6 ?_
    obtain ⟨hq19, h⟩ := cpcI h
    refine SW.acopy (pc := 100) g (dt dt_X2_load 65 rfl) ml_X2_59 ac_n ac_s ac_i hk0 cell_38 hq19.1 hq19.2.1 hq19.2.2.1 hq19.2.2.2.1 hq19.2.2.2.2 (Nat.le_of_ble_eq_true rfl) (Nat.le_of_ble_eq_true rfl) ?_
    refine SW.genM h (fun μ20 h => ?_)
    refine SW.iinc (pc := 103) (v := y18 + 6) g (dt dt_X2_load 66 rfl) rfl (kn_6 _) (sw_ltm hm (Nat.le_of_ble_eq_true rfl)) rfl ?_
    refine SW.genL h (fun y21 h => ?_)
    refine SW.aload_n (pc := 106) g (dt dt_X2_load 67 rfl) rfl ?_
    refine SW.iload (pc := 107) g (dt dt_X2_load 68 rfl) rfl ?_
    refine SW.aload_n (pc := 109) g (dt dt_X2_load 69 rfl) rfl ?_
    refine SW.getR (pc := 110) g (dt dt_X2_load 70 rfl) fl_X2_21 cell_35 rfl ?_
    refine SW.iconst (pc := 113) (v := 0) g (dt dt_X2_load 71 rfl) ki_0 ?_
    refine SW.iconst (pc := 114) (v := 5) g (dt dt_X2_load 72 rfl) ki_5 ?_
    obtain ⟨hq22, h⟩ := cpcI h
    refine SW.acopy (pc := 115) g (dt dt_X2_load 73 rfl) ml_X2_59 ac_n ac_s ac_i hk0 cell_39 hq22.1 hq22.2.1 hq22.2.2.1 hq22.2.2.2.1 hq22.2.2.2.2 (Nat.le_of_ble_eq_true rfl) (Nat.le_of_ble_eq_true rfl) ?_
    refine SW.genM h (fun μ23 h => ?_)
    refine SW.iinc (pc := 118) (v := y21 + 5) g (dt dt_X2_load 74 rfl) rfl (kn_5 _) (sw_ltm hm (Nat.le_of_ble_eq_true rfl)) rfl ?_
    refine SW.genL h (fun y24 h => ?_)
    refine SW.aload_n (pc := 121) g (dt dt_X2_load 75 rfl) rfl ?_
    refine SW.iload (pc := 122) g (dt dt_X2_load 76 rfl) rfl ?_
    refine SW.aload_n (pc := 124) g (dt dt_X2_load 77 rfl) rfl ?_
    refine SW.getR (pc := 125) g (dt dt_X2_load 78 rfl) fl_X2_24 cell_35 rfl ?_
    refine SW.iconst (pc := 128) (v := 0) g (dt dt_X2_load 79 rfl) ki_0 ?_
    refine SW.iconst (pc := 129) (v := 5) g (dt dt_X2_load 80 rfl) ki_5 ?_
    obtain ⟨hq25, h⟩ := cpcI h
    refine SW.acopy (pc := 130) g (dt dt_X2_load 81 rfl) ml_X2_59 ac_n ac_s ac_i hk0 cell_40 hq25.1 hq25.2.1 hq25.2.2.1 hq25.2.2.2.1 hq25.2.2.2.2 (Nat.le_of_ble_eq_true rfl) (Nat.le_of_ble_eq_true rfl) ?_
    refine SW.genM h (fun μ26 h => ?_)
    exact SW.vreturn (pc := 133) g (leafV h ho) rfl (Nat.le_of_ble_eq_true rfl) (Nat.le_of_ble_eq_true rfl) (dt dt_X2_load 82 rfl)
  · have h := iteT hc h
    exact SW.vreturn (pc := 18) g (leafV h ho) rfl (Nat.le_of_ble_eq_true rfl) (Nat.le_of_ble_eq_true rfl) (dt dt_X2_load 12 rfl)
set_option maxRecDepth 100000 in
set_option maxHeartbeats 4000000 in
theorem mt_f_days_load (l : Launch) (D : va_G) (cI cL : ClassId) (ad : Nat → Nat) (ν : sw_N)  (k0 n0 : Nat) (hk0 : lay0[k0]? = some (.inl (false, n0))) (N : Nat) (μ : sw_M) (a2 : Int32) (o : sw_M) (h : f_days_load N k0 n0 μ a2 = some o) : MetR l D cI cL yX2_load cX2_load 5 none 2 0 0 (fun a => a = ad) ad [.ref 35, .ref k0, .int a2] lay0 μ ν none lay0 o ν :=
  MetR.of (n := 2) rfl (Nat.le_of_ble_eq_true rfl) (fun G g ho hm _ _ => ok_f_days_load k0 n0 g hm hk0 μ ho a2 h)
