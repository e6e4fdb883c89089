/-! ===== by program (wip/whole/all.py): functions over the memory, and that the machine does just that ===== -/
def f_dream_hoursLeft (N : Nat)  (μ : sw_M) (a1 : Int32) : Option (Int32) :=
  Option.bind (f_dream_isCut N  μ a1) (fun r1 =>
    if r1 = 0 then
      Option.bind (f_sx_at N 58 12 μ a1) (fun r3 =>
        Option.bind (f_sx_clamp N  μ (r3 - (μ 57 2)) 0 99) (fun r5 =>
          some r5))
    else
      some 99)
set_option maxRecDepth 100000 in
set_option maxHeartbeats 4000000 in
theorem ok_f_dream_hoursLeft {G : sw_G} {ad : Nat → Nat} {ν : sw_N}   {N : Nat} {o : Int32} (g : sw_ok G cX2_hoursLeft "DeadWires$Days" (some .int) 2 0 0 ad) (hm : G.2.2.1.2.1.maxLocals = 2)  (μ : sw_M) (ho : sw_out G 0 0 (fun a => a = ad) (.inl (some (.int o))) lay0 μ ν) (a1 : Int32) (h : f_dream_hoursLeft N  μ a1 = some o) : SW G ad lay0 ν 0 0 0 [some (.ref 57), some (.int a1)] [] μ := by
  unfold f_dream_hoursLeft at h
  refine SW.aload_n (pc := 0) g (dt dt_X2_hoursLeft 0 rfl) rfl ?_
  refine SW.iload_n (pc := 1) g (dt dt_X2_hoursLeft 1 rfl) rfl ?_
  obtain ⟨r1, h2, h⟩ := bindI h
  refine SW.callVi (pc := 2) g (dt dt_X2_hoursLeft 2 rfl) (mt_f_dream_isCut _ _ _ _ ad ν   N μ a1 r1 h2) me_X2_isCut mv_X2_isCut ml_X2_75 cell_57 rfl rfl (Nat.le_of_ble_eq_true rfl) (Nat.le_of_ble_eq_true rfl) (Nat.le_of_ble_eq_true rfl) (Nat.le_of_ble_eq_true rfl) rfl ?_
  refine SW.if_eq (pc := 5) (t := 13) g (dt dt_X2_hoursLeft 3 rfl) rfl (fun hc => ?_) (fun hc => ?_)
  · have h := iteT hc h
    refine SW.aload_n (pc := 13) g (dt dt_X2_hoursLeft 6 rfl) rfl ?_
    refine SW.getR (pc := 14) g (dt dt_X2_hoursLeft 7 rfl) fl_X2_9 cell_57 rfl ?_
    refine SW.iload_n (pc := 17) g (dt dt_X2_hoursLeft 8 rfl) rfl ?_
    obtain ⟨r3, h4, h⟩ := bindI h
    refine SW.callSNi (pc := 18) g (dt dt_X2_hoursLeft 9 rfl) (mt_f_sx_at _ _ _ _ ad ν lay0 58 12 cell_58 N μ a1 r3 h4) me_X10_at ms_X10_at mn_X2_79 rfl (Nat.le_of_ble_eq_true rfl) (Nat.le_of_ble_eq_true rfl) (Nat.le_of_ble_eq_true rfl) (Nat.le_of_ble_eq_true rfl) rfl ?_
    refine SW.aload_n (pc := 21) g (dt dt_X2_hoursLeft 10 rfl) rfl ?_
    refine SW.getI (pc := 22) g (dt dt_X2_hoursLeft 11 rfl) fl_X2_38 cell_57 rfl ?_
    refine SW.isub (pc := 25) g (dt dt_X2_hoursLeft 12 rfl) ?_
    refine SW.iconst (pc := 26) (v := 0) g (dt dt_X2_hoursLeft 13 rfl) ki_0 ?_
    refine SW.bipush (pc := 27) (v := 99) g (dt dt_X2_hoursLeft 14 rfl) kb_99 ?_
    obtain ⟨r5, h6, h⟩ := bindI h
    refine SW.callSNi (pc := 29) g (dt dt_X2_hoursLeft 15 rfl) (mt_f_sx_clamp _ _ _ _ ad ν lay0   N μ (r3 - (μ 57 2)) 0 99 r5 h6) me_X10_clamp ms_X10_clamp mn_X2_90 rfl (Nat.le_of_ble_eq_true rfl) (Nat.le_of_ble_eq_true rfl) (Nat.le_of_ble_eq_true rfl) (Nat.le_of_ble_eq_true rfl) rfl ?_
    exact SW.ireturn (pc := 32) g (leafI h ho) rfl (Nat.le_of_ble_eq_true rfl) (Nat.le_of_ble_eq_true rfl) (dt dt_X2_hoursLeft 16 rfl)
  · have h := iteF hc h
    refine SW.bipush (pc := 8) (v := 99) g (dt dt_X2_hoursLeft 4 rfl) kb_99 ?_
    refine SW.goto (pc := 10) (t := 32) g (dt dt_X2_hoursLeft 5 rfl) rfl ?_
    exact SW.ireturn (pc := 32) g (leafI h ho) rfl (Nat.le_of_ble_eq_true rfl) (Nat.le_of_ble_eq_true rfl) (dt dt_X2_hoursLeft 16 rfl)
set_option maxRecDepth 100000 in
set_option maxHeartbeats 4000000 in
theorem mt_f_dream_hoursLeft (l : Launch) (D : va_G) (cI cL : ClassId) (ad : Nat → Nat) (ν : sw_N)    (N : Nat) (μ : sw_M) (a1 : Int32) (o : Int32) (h : f_dream_hoursLeft N  μ a1 = some o) : MetR l D cI cL yX2_hoursLeft cX2_hoursLeft 2 (some .int) 2 0 0 (fun a => a = ad) ad [.ref 57, .int a1] lay0 μ ν (some (.int o)) lay0 μ ν :=
  MetR.of (n := 0) rfl (Nat.le_of_ble_eq_true rfl) (fun G g ho hm _ _ => ok_f_dream_hoursLeft  g hm  μ ho a1 h)
def f_dream_tollOf (N : Nat)  (μ : sw_M) (a1 : Int32) (a2 : Int32) : Option (Int32 × sw_M) :=
  Option.bind (f_sx_at N 61 5 μ a1) (fun r1 =>
    Option.bind (f_dream_loadOf N  μ a1) (fun r3 =>
      Option.bind (f_sx_at N 10 5 μ a1) (fun r5 =>
        Option.bind (f_sx_at N 62 5 μ a1) (fun r7 =>
          Option.bind (f_dream_hoursLeft N  μ a2) (fun r9 =>
            Option.bind (f_land_wiresAt N  μ r1) (fun r11 =>
              Option.bind (f_law_setValues N  μ r3 r5 r7 r9 (μ 57 2) r11 a1) (fun r13 =>
                Option.bind (f_law_reckon N  r13 ) (fun r15 =>
                  some (r15.1, r15.2)))))))))
set_option maxRecDepth 100000 in
set_option maxHeartbeats 4000000 in
theorem ok_f_dream_tollOf {G : sw_G} {ad : Nat → Nat} {ν : sw_N}   {N : Nat} {o : Int32 × sw_M} (g : sw_ok G cX2_tollOf "DeadWires$Days" (some .int) 3 0 0 ad) (hm : G.2.2.1.2.1.maxLocals = 4)  (μ : sw_M) (ho : sw_out G 0 0 (fun a => a = ad) (.inl (some (.int o.1))) lay0 o.2 ν) (a1 : Int32) (a2 : Int32) (h : f_dream_tollOf N  μ a1 a2 = some o) : SW G ad lay0 ν 0 0 0 [some (.ref 57), some (.int a1), some (.int a2), none] [] μ := by
  unfold f_dream_tollOf at h
  refine SW.aload_n (pc := 0) g (dt dt_X2_tollOf 0 rfl) rfl ?_
  refine SW.getR (pc := 1) g (dt dt_X2_tollOf 1 rfl) fl_X2_21 cell_57 rfl ?_
  refine SW.iload_n (pc := 4) g (dt dt_X2_tollOf 2 rfl) rfl ?_
  obtain ⟨r1, h2, h⟩ := bindI h
  refine SW.callSNi (pc := 5) g (dt dt_X2_tollOf 3 rfl) (mt_f_sx_at _ _ _ _ ad ν lay0 61 5 cell_61 N μ a1 r1 h2) me_X10_at ms_X10_at mn_X2_79 rfl (Nat.le_of_ble_eq_true rfl) (Nat.le_of_ble_eq_true rfl) (Nat.le_of_ble_eq_true rfl) (Nat.le_of_ble_eq_true rfl) rfl ?_
  refine SW.istore_n (pc := 8) g (dt dt_X2_tollOf 4 rfl) (sw_ltm hm (Nat.le_of_ble_eq_true rfl)) rfl ?_
  refine SW.aload_n (pc := 9) g (dt dt_X2_tollOf 5 rfl) rfl ?_
  refine SW.getR (pc := 10) g (dt dt_X2_tollOf 6 rfl) fl_X2_31 cell_57 rfl ?_
  refine SW.aload_n (pc := 13) g (dt dt_X2_tollOf 7 rfl) rfl ?_
  refine SW.iload_n (pc := 14) g (dt dt_X2_tollOf 8 rfl) rfl ?_
  obtain ⟨r3, h4, h⟩ := bindI h
  refine SW.callVi (pc := 15) g (dt dt_X2_tollOf 9 rfl) (mt_f_dream_loadOf _ _ _ _ ad ν   N μ a1 r3 h4) me_X2_loadOf mv_X2_loadOf ml_X2_122 cell_57 rfl rfl (Nat.le_of_ble_eq_true rfl) (Nat.le_of_ble_eq_true rfl) (Nat.le_of_ble_eq_true rfl) (Nat.le_of_ble_eq_true rfl) rfl ?_
  refine SW.aload_n (pc := 18) g (dt dt_X2_tollOf 10 rfl) rfl ?_
  refine SW.getR (pc := 19) g (dt dt_X2_tollOf 11 rfl) fl_X2_27 cell_57 rfl ?_
  refine SW.getR (pc := 22) g (dt dt_X2_tollOf 12 rfl) fl_X2_119 cell_3 rfl ?_
  refine SW.iload_n (pc := 25) g (dt dt_X2_tollOf 13 rfl) rfl ?_
  obtain ⟨r5, h6, h⟩ := bindI h
  refine SW.callSNi (pc := 26) g (dt dt_X2_tollOf 14 rfl) (mt_f_sx_at _ _ _ _ ad ν lay0 10 5 cell_10 N μ a1 r5 h6) me_X10_at ms_X10_at mn_X2_79 rfl (Nat.le_of_ble_eq_true rfl) (Nat.le_of_ble_eq_true rfl) (Nat.le_of_ble_eq_true rfl) (Nat.le_of_ble_eq_true rfl) rfl ?_
  refine SW.aload_n (pc := 29) g (dt dt_X2_tollOf 15 rfl) rfl ?_
  refine SW.getR (pc := 30) g (dt dt_X2_tollOf 16 rfl) fl_X2_24 cell_57 rfl ?_
  refine SW.iload_n (pc := 33) g (dt dt_X2_tollOf 17 rfl) rfl ?_
  obtain ⟨r7, h8, h⟩ := bindI h
  refine SW.callSNi (pc := 34) g (dt dt_X2_tollOf 18 rfl) (mt_f_sx_at _ _ _ _ ad ν lay0 62 5 cell_62 N μ a1 r7 h8) me_X10_at ms_X10_at mn_X2_79 rfl (Nat.le_of_ble_eq_true rfl) (Nat.le_of_ble_eq_true rfl) (Nat.le_of_ble_eq_true rfl) (Nat.le_of_ble_eq_true rfl) rfl ?_
  refine SW.aload_n (pc := 37) g (dt dt_X2_tollOf 19 rfl) rfl ?_
  refine SW.iload_n (pc := 38) g (dt dt_X2_tollOf 20 rfl) rfl ?_
  obtain ⟨r9, h10, h⟩ := bindI h
  refine SW.callVi (pc := 39) g (dt dt_X2_tollOf 21 rfl) (mt_f_dream_hoursLeft _ _ _ _ ad ν   N μ a2 r9 h10) me_X2_hoursLeft mv_X2_hoursLeft ml_X2_101 cell_57 rfl rfl (Nat.le_of_ble_eq_true rfl) (Nat.le_of_ble_eq_true rfl) (Nat.le_of_ble_eq_true rfl) (Nat.le_of_ble_eq_true rfl) rfl ?_
  refine SW.aload_n (pc := 42) g (dt dt_X2_tollOf 22 rfl) rfl ?_
  refine SW.getI (pc := 43) g (dt dt_X2_tollOf 23 rfl) fl_X2_38 cell_57 rfl ?_
  refine SW.aload_n (pc := 46) g (dt dt_X2_tollOf 24 rfl) rfl ?_
  refine SW.getR (pc := 47) g (dt dt_X2_tollOf 25 rfl) fl_X2_27 cell_57 rfl ?_
  refine SW.iload_n (pc := 50) g (dt dt_X2_tollOf 26 rfl) rfl ?_
  obtain ⟨r11, h12, h⟩ := bindI h
  refine SW.callVi (pc := 51) g (dt dt_X2_tollOf 27 rfl) (mt_f_land_wiresAt _ _ _ _ ad ν   N μ r1 r11 h12) me_X4_wiresAt mv_X4_wiresAt ml_X2_137 cell_3 rfl rfl (Nat.le_of_ble_eq_true rfl) (Nat.le_of_ble_eq_true rfl) (Nat.le_of_ble_eq_true rfl) (Nat.le_of_ble_eq_true rfl) rfl ?_
  refine SW.iload_n (pc := 54) g (dt dt_X2_tollOf 28 rfl) rfl ?_
  obtain ⟨r13, h14, h⟩ := bindI h
  refine SW.callVv (pc := 55) g (dt dt_X2_tollOf 29 rfl) (mt_f_law_setValues _ _ _ _ ad ν   N μ r3 r5 r7 r9 (μ 57 2) r11 a1 r13 h14) me_X5_setValues mv_X5_setValues ml_X2_140 cell_19 rfl rfl (Nat.le_of_ble_eq_true rfl) (Nat.le_of_ble_eq_true rfl) (Nat.le_of_ble_eq_true rfl) (Nat.le_of_ble_eq_true rfl) rfl ?_
  refine SW.aload_n (pc := 58) g (dt dt_X2_tollOf 30 rfl) rfl ?_
  refine SW.getR (pc := 59) g (dt dt_X2_tollOf 31 rfl) fl_X2_31 cell_57 rfl ?_
  obtain ⟨r15, h16, h⟩ := bindI h
  refine SW.callVi (pc := 62) g (dt dt_X2_tollOf 32 rfl) (mt_f_law_reckon _ _ _ _ ad ν   N r13  r15 h16) me_X5_reckon mv_X5_reckon ml_X2_146 cell_19 rfl rfl (Nat.le_of_ble_eq_true rfl) (Nat.le_of_ble_eq_true rfl) (Nat.le_of_ble_eq_true rfl) (Nat.le_of_ble_eq_true rfl) rfl ?_
  exact SW.ireturn (pc := 65) g (leafW h ho) rfl (Nat.le_of_ble_eq_true rfl) (Nat.le_of_ble_eq_true rfl) (dt dt_X2_tollOf 33 rfl)
set_option maxRecDepth 100000 in
set_option maxHeartbeats 4000000 in
theorem mt_f_dream_tollOf (l : Launch) (D : va_G) (cI cL : ClassId) (ad : Nat → Nat) (ν : sw_N)    (N : Nat) (μ : sw_M) (a1 : Int32) (a2 : Int32) (o : Int32 × sw_M) (h : f_dream_tollOf N  μ a1 a2 = some o) : MetR l D cI cL yX2_tollOf cX2_tollOf 4 (some .int) 3 0 0 (fun a => a = ad) ad [.ref 57, .int a1, .int a2] lay0 μ ν (some (.int o.1)) lay0 o.2 ν :=
  MetR.of (n := 1) rfl (Nat.le_of_ble_eq_true rfl) (fun G g ho hm _ _ => ok_f_dream_tollOf  g hm  μ ho a1 a2 h)
def f_dream_cross (N : Nat)  (μ : sw_M) (a1 : Int32) (a2 : Int32) : Option (Int32 × sw_M) :=
  Option.bind (f_dream_isOpenTo N  μ a1 a2) (fun r1 =>
    if r1 = 0 then
      some (0, μ)
    else
      Option.bind (f_sx_at N 62 5 μ a1) (fun r3 =>
        Option.bind (f_dream_tollOf N  μ a1 a2) (fun r5 =>
          ib (r3 + r5.1) (fun y7 =>
            if y7 ≤ 60 then
              Option.bind (f_sx_put N 62 5 r5.2 a1 y7) (fun r8 =>
                Option.bind (f_sx_at N 61 5 r8 a1) (fun r10 =>
                  Option.bind (f_land_across N  r8 a2 r10) (fun r12 =>
                    Option.bind (f_sx_put N 61 5 r8 a1 r12) (fun r14 =>
                      wb (wr r14 57 5 ((r14 57 5) + 1)) (fun μ16 =>
                        some (1, μ16))))))
            else
              some (0, r5.2)))))
set_option maxRecDepth 100000 in
set_option maxHeartbeats 4000000 in
theorem ok_f_dream_cross {G : sw_G} {ad : Nat → Nat} {ν : sw_N}   {N : Nat} {o : Int32 × sw_M} (g : sw_ok G cX2_cross "DeadWires$Days" (some .boolean) 4 0 0 ad) (hm : G.2.2.1.2.1.maxLocals = 4)  (μ : sw_M) (ho : sw_out G 0 0 (fun a => a = ad) (.inl (some (.int o.1))) lay0 o.2 ν) (a1 : Int32) (a2 : Int32) (h : f_dream_cross N  μ a1 a2 = some o) : SW G ad lay0 ν 0 0 0 [some (.ref 57), some (.int a1), some (.int a2), none] [] μ := by
  unfold f_dream_cross at h
  refine SW.aload_n (pc := 0) g (dt dt_X2_cross 0 rfl) rfl ?_
  refine SW.iload_n (pc := 1) g (dt dt_X2_cross 1 rfl) rfl ?_
  refine SW.iload_n (pc := 2) g (dt dt_X2_cross 2 rfl) rfl ?_
  obtain ⟨r1, h2, h⟩ := bindI h
  refine SW.callVi (pc := 3) g (dt dt_X2_cross 3 rfl) (mt_f_dream_isOpenTo _ _ _ _ ad ν   N μ a1 a2 r1 h2) me_X2_isOpenTo mv_X2_isOpenTo ml_X2_153 cell_57 rfl rfl (Nat.le_of_ble_eq_true rfl) (Nat.le_of_ble_eq_true rfl) (Nat.le_of_ble_eq_true rfl) (Nat.le_of_ble_eq_true rfl) rfl ?_
  refine SW.if_ne (pc := 6) (t := 11) g (dt dt_X2_cross 4 rfl) rfl (fun hc => ?_) (fun hc => ?_)
  · have h := iteF hc h
    refine SW.aload_n (pc := 11) g (dt dt_X2_cross 7 rfl) rfl ?_
    refine SW.getR (pc := 12) g (dt dt_X2_cross 8 rfl) fl_X2_24 cell_57 rfl ?_
    refine SW.iload_n (pc := 15) g (dt dt_X2_cross 9 rfl) rfl ?_
    obtain ⟨r3, h4, h⟩ := bindI h
    refine SW.callSNi (pc := 16) g (dt dt_X2_cross 10 rfl) (mt_f_sx_at _ _ _ _ ad ν lay0 62 5 cell_62 N μ a1 r3 h4) me_X10_at ms_X10_at mn_X2_79 rfl (Nat.le_of_ble_eq_true rfl) (Nat.le_of_ble_eq_true rfl) (Nat.le_of_ble_eq_true rfl) (Nat.le_of_ble_eq_true rfl) rfl ?_
    refine SW.aload_n (pc := 19) g (dt dt_X2_cross 11 rfl) rfl ?_
    refine SW.iload_n (pc := 20) g (dt dt_X2_cross 12 rfl) rfl ?_
    refine SW.iload_n (pc := 21) g (dt dt_X2_cross 13 rfl) rfl ?_
    obtain ⟨r5, h6, h⟩ := bindI h
    refine SW.callVi (pc := 22) g (dt dt_X2_cross 14 rfl) (mt_f_dream_tollOf _ _ _ _ ad ν   N μ a1 a2 r5 h6) me_X2_tollOf mv_X2_tollOf ml_X2_156 cell_57 rfl rfl (Nat.le_of_ble_eq_true rfl) (Nat.le_of_ble_eq_true rfl) (Nat.le_of_ble_eq_true rfl) (Nat.le_of_ble_eq_true rfl) rfl ?_
    refine SW.iadd (pc := 25) g (dt dt_X2_cross 15 rfl) ?_
    refine SW.istore_n (pc := 26) g (dt dt_X2_cross 16 rfl) (sw_ltm hm (Nat.le_of_ble_eq_true rfl)) rfl ?_
    refine SW.genL h (fun y7 h => ?_)
    refine SW.iload_n (pc := 27) g (dt dt_X2_cross 17 rfl) rfl ?_
    refine SW.bipush (pc := 28) (v := 60) g (dt dt_X2_cross 18 rfl) kb_60 ?_
    refine SW.icmp_le (pc := 30) (t := 35) g (dt dt_X2_cross 19 rfl) rfl (fun hc => ?_) (fun hc => ?_)
    · have h := iteT hc h
      refine SW.aload_n (pc := 35) g (dt dt_X2_cross 22 rfl) rfl ?_
      refine SW.getR (pc := 36) g (dt dt_X2_cross 23 rfl) fl_X2_24 cell_57 rfl ?_
      refine SW.iload_n (pc := 39) g (dt dt_X2_cross 24 rfl) rfl ?_
      refine SW.iload_n (pc := 40) g (dt dt_X2_cross 25 rfl) rfl ?_
      obtain ⟨r8, h9, h⟩ := bindI h
      refine SW.callSNv (pc := 41) g (dt dt_X2_cross 26 rfl) (mt_f_sx_put _ _ _ _ ad ν lay0 62 5 cell_62 N r5.2 a1 y7 r8 h9) me_X10_put ms_X10_put mn_X2_162 rfl (Nat.le_of_ble_eq_true rfl) (Nat.le_of_ble_eq_true rfl) (Nat.le_of_ble_eq_true rfl) (Nat.le_of_ble_eq_true rfl) rfl ?_
      refine SW.aload_n (pc := 44) g (dt dt_X2_cross 27 rfl) rfl ?_
      refine SW.getR (pc := 45) g (dt dt_X2_cross 28 rfl) fl_X2_21 cell_57 rfl ?_
      refine SW.iload_n (pc := 48) g (dt dt_X2_cross 29 rfl) rfl ?_
      refine SW.aload_n (pc := 49) g (dt dt_X2_cross 30 rfl) rfl ?_
      refine SW.getR (pc := 50) g (dt dt_X2_cross 31 rfl) fl_X2_27 cell_57 rfl ?_
      refine SW.iload_n (pc := 53) g (dt dt_X2_cross 32 rfl) rfl ?_
      refine SW.aload_n (pc := 54) g (dt dt_X2_cross 33 rfl) rfl ?_
      refine SW.getR (pc := 55) g (dt dt_X2_cross 34 rfl) fl_X2_21 cell_57 rfl ?_
      refine SW.iload_n (pc := 58) g (dt dt_X2_cross 35 rfl) rfl ?_
      obtain ⟨r10, h11, h⟩ := bindI h
      refine SW.callSNi (pc := 59) g (dt dt_X2_cross 36 rfl) (mt_f_sx_at _ _ _ _ ad ν lay0 61 5 cell_61 N r8 a1 r10 h11) me_X10_at ms_X10_at mn_X2_79 rfl (Nat.le_of_ble_eq_true rfl) (Nat.le_of_ble_eq_true rfl) (Nat.le_of_ble_eq_true rfl) (Nat.le_of_ble_eq_true rfl) rfl ?_
      obtain ⟨r12, h13, h⟩ := bindI h
      refine SW.callVi (pc := 62) g (dt dt_X2_cross 37 rfl) (mt_f_land_across _ _ _ _ ad ν   N r8 a2 r10 r12 h13) me_X4_across mv_X4_across ml_X2_150 cell_3 rfl rfl (Nat.le_of_ble_eq_true rfl) (Nat.le_of_ble_eq_true rfl) (Nat.le_of_ble_eq_true rfl) (Nat.le_of_ble_eq_true rfl) rfl ?_
      obtain ⟨r14, h15, h⟩ := bindI h
      refine SW.callSNv (pc := 65) g (dt dt_X2_cross 38 rfl) (mt_f_sx_put _ _ _ _ ad ν lay0 61 5 cell_61 N r8 a1 r12 r14 h15) me_X10_put ms_X10_put mn_X2_162 rfl (Nat.le_of_ble_eq_true rfl) (Nat.le_of_ble_eq_true rfl) (Nat.le_of_ble_eq_true rfl) (Nat.le_of_ble_eq_true rfl) rfl ?_
      refine SW.aload_n (pc := 68) g (dt dt_X2_cross 39 rfl) rfl ?_
      refine SW.dup (pc := 69) g (dt dt_X2_cross 40 rfl) rfl ?_
      refine SW.getI (pc := 70) g (dt dt_X2_cross 41 rfl) fl_X2_53 cell_57 rfl ?_
      refine SW.iconst (pc := 73) (v := 1) g (dt dt_X2_cross 42 rfl) ki_1 ?_
      refine SW.iadd (pc := 74) g (dt dt_X2_cross 43 rfl) ?_
      refine SW.putI (pc := 75) g (dt dt_X2_cross 44 rfl) fl_X2_53 cell_57 rfl ?_
      refine SW.genM h (fun μ16 h => ?_)
      refine SW.iconst (pc := 78) (v := 1) g (dt dt_X2_cross 45 rfl) ki_1 ?_
      exact SW.zreturn (pc := 79) g (leafW h ho) rfl (Nat.le_of_ble_eq_true rfl) (Nat.le_of_ble_eq_true rfl) (by decide) (dt dt_X2_cross 46 rfl)
    · have h := iteF hc h
      refine SW.iconst (pc := 33) (v := 0) g (dt dt_X2_cross 20 rfl) ki_0 ?_
      exact SW.zreturn (pc := 34) g (leafW h ho) rfl (Nat.le_of_ble_eq_true rfl) (Nat.le_of_ble_eq_true rfl) (by decide) (dt dt_X2_cross 21 rfl)
  · have h := iteT hc h
    refine SW.iconst (pc := 9) (v := 0) g (dt dt_X2_cross 5 rfl) ki_0 ?_
    exact SW.zreturn (pc := 10) g (leafW h ho) rfl (Nat.le_of_ble_eq_true rfl) (Nat.le_of_ble_eq_true rfl) (by decide) (dt dt_X2_cross 6 rfl)
set_option maxRecDepth 100000 in
set_option maxHeartbeats 4000000 in
theorem mt_f_dream_cross (l : Launch) (D : va_G) (cI cL : ClassId) (ad : Nat → Nat) (ν : sw_N)    (N : Nat) (μ : sw_M) (a1 : Int32) (a2 : Int32) (o : Int32 × sw_M) (h : f_dream_cross N  μ a1 a2 = some o) : MetR l D cI cL yX2_cross cX2_cross 4 (some .boolean) 4 0 0 (fun a => a = ad) ad [.ref 57, .int a1, .int a2] lay0 μ ν (some (.int o.1)) lay0 o.2 ν :=
  MetR.of (n := 1) rfl (Nat.le_of_ble_eq_true rfl) (fun G g ho hm _ _ => ok_f_dream_cross  g hm  μ ho a1 a2 h)
def f_dream_lyingBits_4 (N : Nat)  (μ : sw_M)  : Nat → Int32 → Int32 → Int32 → Option (Int32)
  | 0, _, _, _ => none
  | n + 1, x1, x2, x3 =>
    if (μ 3 2) ≤ x3 then
      some x2
    else
      inb x3 6 (
        if (μ 60 x3.toNatClampNeg) = (-1) then
          inb x3 6 (
            if (μ 59 x3.toNatClampNeg) = x1 then
              ib (x2 ||| ((1 : Int32) <<< (x3 &&& 31))) (fun y3 =>
                f_dream_lyingBits_4 N  μ  n x1 y3 (x3 + 1))
            else
              f_dream_lyingBits_4 N  μ  n x1 x2 (x3 + 1))
        else
          f_dream_lyingBits_4 N  μ  n x1 x2 (x3 + 1))
def f_dream_lyingBits (N : Nat)  (μ : sw_M) (a1 : Int32) : Option (Int32) :=
  f_dream_lyingBits_4 N  μ  N a1 0 0
set_option maxRecDepth 100000 in
set_option maxHeartbeats 4000000 in
theorem ok_f_dream_lyingBits_4 {G : sw_G} {ad : Nat → Nat} {ν : sw_N}   {N : Nat} {o : Int32} (g : sw_ok G cX2_lyingBits "DeadWires$Days" (some .int) 1 0 0 ad) (hm : G.2.2.1.2.1.maxLocals = 4)  (μ : sw_M) (ho : sw_out G 0 0 (fun a => a = ad) (.inl (some (.int o))) lay0 μ ν)  : ∀ (n : Nat) (x1 : Int32) (x2 : Int32) (x3 : Int32) (h : f_dream_lyingBits_4 N  μ  n x1 x2 x3 = some o), SW G ad lay0 ν 0 0 4 [some (.ref 57), some (.int x1), some (.int x2), some (.int x3)] [] μ := by
  intro n
  induction n with
  | zero => intro x1 x2 x3 h; simp only [f_dream_lyingBits_4] at h; cases h
  | succ n ih =>
    intro x1 x2 x3 h
    unfold f_dream_lyingBits_4 at h
    refine SW.iload_n (pc := 4) g (dt dt_X2_lyingBits 4 rfl) rfl ?_
    refine SW.aload_n (pc := 5) g (dt dt_X2_lyingBits 5 rfl) rfl ?_
    refine SW.getR (pc := 6) g (dt dt_X2_lyingBits 6 rfl) fl_X2_27 cell_57 rfl ?_
    refine SW.getI (pc := 9) g (dt dt_X2_lyingBits 7 rfl) fl_X2_110 cell_3 rfl ?_
    refine SW.icmp_ge (pc := 12) (t := 47) g (dt dt_X2_lyingBits 8 rfl) rfl (fun hc => ?_) (fun hc => ?_)
    · have h := iteT hc h
      refine SW.iload_n (pc := 47) g (dt dt_X2_lyingBits 29 rfl) rfl ?_
      exact SW.ireturn (pc := 48) g (leafI h ho) rfl (Nat.le_of_ble_eq_true rfl) (Nat.le_of_ble_eq_true rfl) (dt dt_X2_lyingBits 30 rfl)
    · have h := iteF hc h
      refine SW.aload_n (pc := 15) g (dt dt_X2_lyingBits 9 rfl) rfl ?_
      refine SW.getR (pc := 16) g (dt dt_X2_lyingBits 10 rfl) fl_X2_18 cell_57 rfl ?_
      refine SW.iload_n (pc := 19) g (dt dt_X2_lyingBits 11 rfl) rfl ?_
      obtain ⟨hb1, h⟩ := inbI h
      refine SW.iaload (pc := 20) g (dt dt_X2_lyingBits 12 rfl) cell_60 hb1 ?_
      refine SW.iconst (pc := 21) (v := (-1)) g (dt dt_X2_lyingBits 13 rfl) ki_m1 ?_
      refine SW.icmp_ne (pc := 22) (t := 41) g (dt dt_X2_lyingBits 14 rfl) rfl (fun hc => ?_) (fun hc => ?_)
      · have h := iteF hc h
        refine SW.iinc (pc := 41) (v := x3 + 1) g (dt dt_X2_lyingBits 27 rfl) rfl (kn_1 _) (sw_ltm hm (Nat.le_of_ble_eq_true rfl)) rfl ?_
        refine SW.goto (pc := 44) (t := 4) g (dt dt_X2_lyingBits 28 rfl) rfl ?_
        refine SW.msk [true, true, true, true] ?_
        exact ih  x1 x2 (x3 + 1) h
      · have h := iteT hc h
        refine SW.aload_n (pc := 25) g (dt dt_X2_lyingBits 15 rfl) rfl ?_
        refine SW.getR (pc := 26) g (dt dt_X2_lyingBits 16 rfl) fl_X2_15 cell_57 rfl ?_
        refine SW.iload_n (pc := 29) g (dt dt_X2_lyingBits 17 rfl) rfl ?_
        obtain ⟨hb2, h⟩ := inbI h
        refine SW.iaload (pc := 30) g (dt dt_X2_lyingBits 18 rfl) cell_59 hb2 ?_
        refine SW.iload_n (pc := 31) g (dt dt_X2_lyingBits 19 rfl) rfl ?_
        refine SW.icmp_ne (pc := 32) (t := 41) g (dt dt_X2_lyingBits 20 rfl) rfl (fun hc => ?_) (fun hc => ?_)
        · have h := iteF hc h
          refine SW.iinc (pc := 41) (v := x3 + 1) g (dt dt_X2_lyingBits 27 rfl) rfl (kn_1 _) (sw_ltm hm (Nat.le_of_ble_eq_true rfl)) rfl ?_
          refine SW.goto (pc := 44) (t := 4) g (dt dt_X2_lyingBits 28 rfl) rfl ?_
          refine SW.msk [true, true, true, true] ?_
          exact ih  x1 x2 (x3 + 1) h
        · have h := iteT hc h
          refine SW.iload_n (pc := 35) g (dt dt_X2_lyingBits 21 rfl) rfl ?_
          refine SW.iconst (pc := 36) (v := 1) g (dt dt_X2_lyingBits 22 rfl) ki_1 ?_
          refine SW.iload_n (pc := 37) g (dt dt_X2_lyingBits 23 rfl) rfl ?_
          refine SW.ishl (pc := 38) g (dt dt_X2_lyingBits 24 rfl) ?_
          refine SW.ior (pc := 39) g (dt dt_X2_lyingBits 25 rfl) ?_
          refine SW.istore_n (pc := 40) g (dt dt_X2_lyingBits 26 rfl) (sw_ltm hm (Nat.le_of_ble_eq_true rfl)) rfl ?_
          refine SW.genL h (fun y3 h => ?_)
          refine SW.iinc (pc := 41) (v := x3 + 1) g (dt dt_X2_lyingBits 27 rfl) rfl (kn_1 _) (sw_ltm hm (Nat.le_of_ble_eq_true rfl)) rfl ?_
          refine SW.goto (pc := 44) (t := 4) g (dt dt_X2_lyingBits 28 rfl) rfl ?_
          refine SW.msk [true, true, true, true] ?_
          exact ih  x1 y3 (x3 + 1) h
set_option maxRecDepth 100000 in
set_option maxHeartbeats 4000000 in
theorem ok_f_dream_lyingBits {G : sw_G} {ad : Nat → Nat} {ν : sw_N}   {N : Nat} {o : Int32} (g : sw_ok G cX2_lyingBits "DeadWires$Days" (some .int) 1 0 0 ad) (hm : G.2.2.1.2.1.maxLocals = 4)  (μ : sw_M) (ho : sw_out G 0 0 (fun a => a = ad) (.inl (some (.int o))) lay0 μ ν) (a1 : Int32) (h : f_dream_lyingBits N  μ a1 = some o) : SW G ad lay0 ν 0 0 0 [some (.ref 57), some (.int a1), none, none] [] μ := by
  unfold f_dream_lyingBits at h
  refine SW.iconst (pc := 0) (v := 0) g (dt dt_X2_lyingBits 0 rfl) ki_0 ?_
  refine SW.istore_n (pc := 1) g (dt dt_X2_lyingBits 1 rfl) (sw_ltm hm (Nat.le_of_ble_eq_true rfl)) rfl ?_
  refine SW.iconst (pc := 2) (v := 0) g (dt dt_X2_lyingBits 2 rfl) ki_0 ?_
  refine SW.istore_n (pc := 3) g (dt dt_X2_lyingBits 3 rfl) (sw_ltm hm (Nat.le_of_ble_eq_true rfl)) rfl ?_
  refine SW.msk [true, true, true, true] ?_
  exact ok_f_dream_lyingBits_4  g hm  μ ho   N a1 0 0 h
set_option maxRecDepth 100000 in
set_option maxHeartbeats 4000000 in
theorem mt_f_dream_lyingBits (l : Launch) (D : va_G) (cI cL : ClassId) (ad : Nat → Nat) (ν : sw_N)    (N : Nat) (μ : sw_M) (a1 : Int32) (o : Int32) (h : f_dream_lyingBits N  μ a1 = some o) : MetR l D cI cL yX2_lyingBits cX2_lyingBits 4 (some .int) 1 0 0 (fun a => a = ad) ad [.ref 57, .int a1] lay0 μ ν (some (.int o)) lay0 μ ν :=
  MetR.of (n := 2) rfl (Nat.le_of_ble_eq_true rfl) (fun G g ho hm _ _ => ok_f_dream_lyingBits  g hm  μ ho a1 h)
def f_dream_freeOf (N : Nat)  (μ : sw_M) (a1 : Int32) : Option (Int32) :=
  Option.bind (f_sx_at N 10 5 μ a1) (fun r1 =>
    Option.bind (f_dream_loadOf N  μ a1) (fun r3 =>
      some (r1 - r3)))
set_option maxRecDepth 100000 in
set_option maxHeartbeats 4000000 in
theorem ok_f_dream_freeOf {G : sw_G} {ad : Nat → Nat} {ν : sw_N}   {N : Nat} {o : Int32} (g : sw_ok G cX2_freeOf "DeadWires$Days" (some .int) 2 0 0 ad) (hm : G.2.2.1.2.1.maxLocals = 2)  (μ : sw_M) (ho : sw_out G 0 0 (fun a => a = ad) (.inl (some (.int o))) lay0 μ ν) (a1 : Int32) (h : f_dream_freeOf N  μ a1 = some o) : SW G ad lay0 ν 0 0 0 [some (.ref 57), some (.int a1)] [] μ := by
  unfold f_dream_freeOf at h
  refine SW.aload_n (pc := 0) g (dt dt_X2_freeOf 0 rfl) rfl ?_
  refine SW.getR (pc := 1) g (dt dt_X2_freeOf 1 rfl) fl_X2_27 cell_57 rfl ?_
  refine SW.getR (pc := 4) g (dt dt_X2_freeOf 2 rfl) fl_X2_119 cell_3 rfl ?_
  refine SW.iload_n (pc := 7) g (dt dt_X2_freeOf 3 rfl) rfl ?_
  obtain ⟨r1, h2, h⟩ := bindI h
  refine SW.callSNi (pc := 8) g (dt dt_X2_freeOf 4 rfl) (mt_f_sx_at _ _ _ _ ad ν lay0 10 5 cell_10 N μ a1 r1 h2) me_X10_at ms_X10_at mn_X2_79 rfl (Nat.le_of_ble_eq_true rfl) (Nat.le_of_ble_eq_true rfl) (Nat.le_of_ble_eq_true rfl) (Nat.le_of_ble_eq_true rfl) rfl ?_
  refine SW.aload_n (pc := 11) g (dt dt_X2_freeOf 5 rfl) rfl ?_
  refine SW.iload_n (pc := 12) g (dt dt_X2_freeOf 6 rfl) rfl ?_
  obtain ⟨r3, h4, h⟩ := bindI h
  refine SW.callVi (pc := 13) g (dt dt_X2_freeOf 7 rfl) (mt_f_dream_loadOf _ _ _ _ ad ν   N μ a1 r3 h4) me_X2_loadOf mv_X2_loadOf ml_X2_122 cell_57 rfl rfl (Nat.le_of_ble_eq_true rfl) (Nat.le_of_ble_eq_true rfl) (Nat.le_of_ble_eq_true rfl) (Nat.le_of_ble_eq_true rfl) rfl ?_
  refine SW.isub (pc := 16) g (dt dt_X2_freeOf 8 rfl) ?_
  exact SW.ireturn (pc := 17) g (leafI h ho) rfl (Nat.le_of_ble_eq_true rfl) (Nat.le_of_ble_eq_true rfl) (dt dt_X2_freeOf 9 rfl)
set_option maxRecDepth 100000 in
set_option maxHeartbeats 4000000 in
theorem mt_f_dream_freeOf (l : Launch) (D : va_G) (cI cL : ClassId) (ad : Nat → Nat) (ν : sw_N)    (N : Nat) (μ : sw_M) (a1 : Int32) (o : Int32) (h : f_dream_freeOf N  μ a1 = some o) : MetR l D cI cL yX2_freeOf cX2_freeOf 2 (some .int) 2 0 0 (fun a => a = ad) ad [.ref 57, .int a1] lay0 μ ν (some (.int o)) lay0 μ ν :=
  MetR.of (n := 0) rfl (Nat.le_of_ble_eq_true rfl) (fun G g ho hm _ _ => ok_f_dream_freeOf  g hm  μ ho a1 h)
def f_dream_lift (N : Nat)  (μ : sw_M) (a1 : Int32) (a2 : Int32) : Option (Int32 × sw_M) :=
  Option.bind (f_sx_at N 61 5 μ a1) (fun r1 =>
    Option.bind (f_dream_lyingBits N  μ r1) (fun r3 =>
      Option.bind (f_sx_has N  μ r3 a2) (fun r5 =>
        if r5 = 0 then
          some (0, μ)
        else
          Option.bind (f_sx_at N 8 6 μ a2) (fun r7 =>
            Option.bind (f_dream_freeOf N  μ a1) (fun r9 =>
              if r7 ≤ r9 then
                Option.bind (f_sx_put N 60 6 μ a2 a1) (fun r11 =>
                  some (1, r11))
              else
                some (0, μ))))))
set_option maxRecDepth 100000 in
set_option maxHeartbeats 4000000 in
theorem ok_f_dream_lift {G : sw_G} {ad : Nat → Nat} {ν : sw_N}   {N : Nat} {o : Int32 × sw_M} (g : sw_ok G cX2_lift "DeadWires$Days" (some .boolean) 3 0 0 ad) (hm : G.2.2.1.2.1.maxLocals = 4)  (μ : sw_M) (ho : sw_out G 0 0 (fun a => a = ad) (.inl (some (.int o.1))) lay0 o.2 ν) (a1 : Int32) (a2 : Int32) (h : f_dream_lift N  μ a1 a2 = some o) : SW G ad lay0 ν 0 0 0 [some (.ref 57), some (.int a1), some (.int a2), none] [] μ := by
  unfold f_dream_lift at h
  refine SW.aload_n (pc := 0) g (dt dt_X2_lift 0 rfl) rfl ?_
  refine SW.aload_n (pc := 1) g (dt dt_X2_lift 1 rfl) rfl ?_
  refine SW.getR (pc := 2) g (dt dt_X2_lift 2 rfl) fl_X2_21 cell_57 rfl ?_
  refine SW.iload_n (pc := 5) g (dt dt_X2_lift 3 rfl) rfl ?_
  obtain ⟨r1, h2, h⟩ := bindI h
  refine SW.callSNi (pc := 6) g (dt dt_X2_lift 4 rfl) (mt_f_sx_at _ _ _ _ ad ν lay0 61 5 cell_61 N μ a1 r1 h2) me_X10_at ms_X10_at mn_X2_79 rfl (Nat.le_of_ble_eq_true rfl) (Nat.le_of_ble_eq_true rfl) (Nat.le_of_ble_eq_true rfl) (Nat.le_of_ble_eq_true rfl) rfl ?_
  obtain ⟨r3, h4, h⟩ := bindI h
  refine SW.callVi (pc := 9) g (dt dt_X2_lift 5 rfl) (mt_f_dream_lyingBits _ _ _ _ ad ν   N μ r1 r3 h4) me_X2_lyingBits mv_X2_lyingBits ml_X2_128 cell_57 rfl rfl (Nat.le_of_ble_eq_true rfl) (Nat.le_of_ble_eq_true rfl) (Nat.le_of_ble_eq_true rfl) (Nat.le_of_ble_eq_true rfl) rfl ?_
  refine SW.iload_n (pc := 12) g (dt dt_X2_lift 6 rfl) rfl ?_
  obtain ⟨r5, h6, h⟩ := bindI h
  refine SW.callSNi (pc := 13) g (dt dt_X2_lift 7 rfl) (mt_f_sx_has _ _ _ _ ad ν lay0   N μ r3 a2 r5 h6) me_X10_has ms_X10_has mn_X2_98 rfl (Nat.le_of_ble_eq_true rfl) (Nat.le_of_ble_eq_true rfl) (Nat.le_of_ble_eq_true rfl) (Nat.le_of_ble_eq_true rfl) rfl ?_
  refine SW.istore_n (pc := 16) g (dt dt_X2_lift 8 rfl) (sw_ltm hm (Nat.le_of_ble_eq_true rfl)) rfl ?_
  refine SW.iload_n (pc := 17) g (dt dt_X2_lift 9 rfl) rfl ?_
  refine SW.if_eq (pc := 18) (t := 40) g (dt dt_X2_lift 10 rfl) rfl (fun hc => ?_) (fun hc => ?_)
  · have h := iteT hc h
    refine SW.iconst (pc := 40) (v := 0) g (dt dt_X2_lift 20 rfl) ki_0 ?_
    exact SW.zreturn (pc := 41) g (leafW h ho) rfl (Nat.le_of_ble_eq_true rfl) (Nat.le_of_ble_eq_true rfl) (by decide) (dt dt_X2_lift 21 rfl)
  · have h := iteF hc h
    refine SW.aload_n (pc := 21) g (dt dt_X2_lift 11 rfl) rfl ?_
    refine SW.getR (pc := 22) g (dt dt_X2_lift 12 rfl) fl_X2_27 cell_57 rfl ?_
    refine SW.getR (pc := 25) g (dt dt_X2_lift 13 rfl) fl_X2_116 cell_3 rfl ?_
    refine SW.iload_n (pc := 28) g (dt dt_X2_lift 14 rfl) rfl ?_
    obtain ⟨r7, h8, h⟩ := bindI h
    refine SW.callSNi (pc := 29) g (dt dt_X2_lift 15 rfl) (mt_f_sx_at _ _ _ _ ad ν lay0 8 6 cell_8 N μ a2 r7 h8) me_X10_at ms_X10_at mn_X2_79 rfl (Nat.le_of_ble_eq_true rfl) (Nat.le_of_ble_eq_true rfl) (Nat.le_of_ble_eq_true rfl) (Nat.le_of_ble_eq_true rfl) rfl ?_
    refine SW.aload_n (pc := 32) g (dt dt_X2_lift 16 rfl) rfl ?_
    refine SW.iload_n (pc := 33) g (dt dt_X2_lift 17 rfl) rfl ?_
    obtain ⟨r9, h10, h⟩ := bindI h
    refine SW.callVi (pc := 34) g (dt dt_X2_lift 18 rfl) (mt_f_dream_freeOf _ _ _ _ ad ν   N μ a1 r9 h10) me_X2_freeOf mv_X2_freeOf ml_X2_131 cell_57 rfl rfl (Nat.le_of_ble_eq_true rfl) (Nat.le_of_ble_eq_true rfl) (Nat.le_of_ble_eq_true rfl) (Nat.le_of_ble_eq_true rfl) rfl ?_
    refine SW.icmp_le (pc := 37) (t := 42) g (dt dt_X2_lift 19 rfl) rfl (fun hc => ?_) (fun hc => ?_)
    · have h := iteT hc h
      refine SW.aload_n (pc := 42) g (dt dt_X2_lift 22 rfl) rfl ?_
      refine SW.getR (pc := 43) g (dt dt_X2_lift 23 rfl) fl_X2_18 cell_57 rfl ?_
      refine SW.iload_n (pc := 46) g (dt dt_X2_lift 24 rfl) rfl ?_
      refine SW.iload_n (pc := 47) g (dt dt_X2_lift 25 rfl) rfl ?_
      obtain ⟨r11, h12, h⟩ := bindI h
      refine SW.callSNv (pc := 48) g (dt dt_X2_lift 26 rfl) (mt_f_sx_put _ _ _ _ ad ν lay0 60 6 cell_60 N μ a2 a1 r11 h12) me_X10_put ms_X10_put mn_X2_162 rfl (Nat.le_of_ble_eq_true rfl) (Nat.le_of_ble_eq_true rfl) (Nat.le_of_ble_eq_true rfl) (Nat.le_of_ble_eq_true rfl) rfl ?_
      refine SW.iconst (pc := 51) (v := 1) g (dt dt_X2_lift 27 rfl) ki_1 ?_
      exact SW.zreturn (pc := 52) g (leafW h ho) rfl (Nat.le_of_ble_eq_true rfl) (Nat.le_of_ble_eq_true rfl) (by decide) (dt dt_X2_lift 28 rfl)
    · have h := iteF hc h
      refine SW.iconst (pc := 40) (v := 0) g (dt dt_X2_lift 20 rfl) ki_0 ?_
      exact SW.zreturn (pc := 41) g (leafW h ho) rfl (Nat.le_of_ble_eq_true rfl) (Nat.le_of_ble_eq_true rfl) (by decide) (dt dt_X2_lift 21 rfl)
set_option maxRecDepth 100000 in
set_option maxHeartbeats 4000000 in
theorem mt_f_dream_lift (l : Launch) (D : va_G) (cI cL : ClassId) (ad : Nat → Nat) (ν : sw_N)    (N : Nat) (μ : sw_M) (a1 : Int32) (a2 : Int32) (o : Int32 × sw_M) (h : f_dream_lift N  μ a1 a2 = some o) : MetR l D cI cL yX2_lift cX2_lift 4 (some .boolean) 3 0 0 (fun a => a = ad) ad [.ref 57, .int a1, .int a2] lay0 μ ν (some (.int o.1)) lay0 o.2 ν :=
  MetR.of (n := 1) rfl (Nat.le_of_ble_eq_true rfl) (fun G g ho hm _ _ => ok_f_dream_lift  g hm  μ ho a1 a2 h)
def f_dream_move (N : Nat)  (μ : sw_M) (a1 : Int32) (a2 : Int32) : Option (Int32 × sw_M) :=
  Option.bind (f_sx_at N 58 12 μ a1) (fun r1 =>
    Option.bind (f_dream_isCut N  μ a1) (fun r3 =>
      if r3 = 0 then
        Option.bind (f_dream_isLive N  μ a1 0) (fun r5 =>
          if r5 = 0 then
            if r1 < 199 then
              Option.bind (f_sx_put N 58 12 μ a1 (if (r1 + a2) < 199 then (r1 + a2) else 199)) (fun r7 =>
                some (1, r7))
            else
              some (0, μ)
          else
            some (0, μ))
      else
        some (0, μ)))
set_option maxRecDepth 100000 in
set_option maxHeartbeats 4000000 in
theorem ok_f_dream_move {G : sw_G} {ad : Nat → Nat} {ν : sw_N}   {N : Nat} {o : Int32 × sw_M} (g : sw_ok G cX2_move "DeadWires$Days" (some .boolean) 3 0 0 ad) (hm : G.2.2.1.2.1.maxLocals = 4)  (μ : sw_M) (ho : sw_out G 0 0 (fun a => a = ad) (.inl (some (.int o.1))) lay0 o.2 ν) (a1 : Int32) (a2 : Int32) (h : f_dream_move N  μ a1 a2 = some o) : SW G ad lay0 ν 0 0 0 [some (.ref 57), some (.int a1), some (.int a2), none] [] μ := by
  unfold f_dream_move at h
  refine SW.aload_n (pc := 0) g (dt dt_X2_move 0 rfl) rfl ?_
  refine SW.getR (pc := 1) g (dt dt_X2_move 1 rfl) fl_X2_9 cell_57 rfl ?_
  refine SW.iload_n (pc := 4) g (dt dt_X2_move 2 rfl) rfl ?_
  obtain ⟨r1, h2, h⟩ := bindI h
  refine SW.callSNi (pc := 5) g (dt dt_X2_move 3 rfl) (mt_f_sx_at _ _ _ _ ad ν lay0 58 12 cell_58 N μ a1 r1 h2) me_X10_at ms_X10_at mn_X2_79 rfl (Nat.le_of_ble_eq_true rfl) (Nat.le_of_ble_eq_true rfl) (Nat.le_of_ble_eq_true rfl) (Nat.le_of_ble_eq_true rfl) rfl ?_
  refine SW.istore_n (pc := 8) g (dt dt_X2_move 4 rfl) (sw_ltm hm (Nat.le_of_ble_eq_true rfl)) rfl ?_
  refine SW.aload_n (pc := 9) g (dt dt_X2_move 5 rfl) rfl ?_
  refine SW.iload_n (pc := 10) g (dt dt_X2_move 6 rfl) rfl ?_
  obtain ⟨r3, h4, h⟩ := bindI h
  refine SW.callVi (pc := 11) g (dt dt_X2_move 7 rfl) (mt_f_dream_isCut _ _ _ _ ad ν   N μ a1 r3 h4) me_X2_isCut mv_X2_isCut ml_X2_75 cell_57 rfl rfl (Nat.le_of_ble_eq_true rfl) (Nat.le_of_ble_eq_true rfl) (Nat.le_of_ble_eq_true rfl) (Nat.le_of_ble_eq_true rfl) rfl ?_
  refine SW.if_ne (pc := 14) (t := 33) g (dt dt_X2_move 8 rfl) rfl (fun hc => ?_) (fun hc => ?_)
  · have h := iteF hc h
    refine SW.iconst (pc := 33) (v := 0) g (dt dt_X2_move 17 rfl) ki_0 ?_
    exact SW.zreturn (pc := 34) g (leafW h ho) rfl (Nat.le_of_ble_eq_true rfl) (Nat.le_of_ble_eq_true rfl) (by decide) (dt dt_X2_move 18 rfl)
  · have h := iteT hc h
    refine SW.aload_n (pc := 17) g (dt dt_X2_move 9 rfl) rfl ?_
    refine SW.iload_n (pc := 18) g (dt dt_X2_move 10 rfl) rfl ?_
    refine SW.iconst (pc := 19) (v := 0) g (dt dt_X2_move 11 rfl) ki_0 ?_
    obtain ⟨r5, h6, h⟩ := bindI h
    refine SW.callVi (pc := 20) g (dt dt_X2_move 12 rfl) (mt_f_dream_isLive _ _ _ _ ad ν   N μ a1 0 r5 h6) me_X2_isLive mv_X2_isLive ml_X2_86 cell_57 rfl rfl (Nat.le_of_ble_eq_true rfl) (Nat.le_of_ble_eq_true rfl) (Nat.le_of_ble_eq_true rfl) (Nat.le_of_ble_eq_true rfl) rfl ?_
    refine SW.if_ne (pc := 23) (t := 33) g (dt dt_X2_move 13 rfl) rfl (fun hc => ?_) (fun hc => ?_)
    · have h := iteF hc h
      refine SW.iconst (pc := 33) (v := 0) g (dt dt_X2_move 17 rfl) ki_0 ?_
      exact SW.zreturn (pc := 34) g (leafW h ho) rfl (Nat.le_of_ble_eq_true rfl) (Nat.le_of_ble_eq_true rfl) (by decide) (dt dt_X2_move 18 rfl)
    · have h := iteT hc h
      refine SW.iload_n (pc := 26) g (dt dt_X2_move 14 rfl) rfl ?_
      refine SW.sipush (pc := 27) (v := 199) g (dt dt_X2_move 15 rfl) ks_199 ?_
      refine SW.icmp_lt (pc := 30) (t := 35) g (dt dt_X2_move 16 rfl) rfl (fun hc => ?_) (fun hc => ?_)
      · have h := iteT hc h
        refine SW.aload_n (pc := 35) g (dt dt_X2_move 19 rfl) rfl ?_
        refine SW.getR (pc := 36) g (dt dt_X2_move 20 rfl) fl_X2_9 cell_57 rfl ?_
        refine SW.iload_n (pc := 39) g (dt dt_X2_move 21 rfl) rfl ?_
        refine SW.sipush (pc := 40) (v := 199) g (dt dt_X2_move 22 rfl) ks_199 ?_
        refine SW.iload_n (pc := 43) g (dt dt_X2_move 23 rfl) rfl ?_
        refine SW.iload_n (pc := 44) g (dt dt_X2_move 24 rfl) rfl ?_
        refine SW.iadd (pc := 45) g (dt dt_X2_move 25 rfl) ?_
        refine SW.mmin (pc := 46) g (dt dt_X2_move 26 rfl) ml_X2_105 ms_J9_min_7cf53 mt_init me_J9_min_7cf53.1 (Nat.le_of_ble_eq_true rfl) (Nat.le_of_ble_eq_true rfl) (Nat.le_of_ble_eq_true rfl) (Nat.le_of_ble_eq_true rfl) ?_
        obtain ⟨r7, h8, h⟩ := bindI h
        refine SW.callSNv (pc := 49) g (dt dt_X2_move 27 rfl) (mt_f_sx_put _ _ _ _ ad ν lay0 58 12 cell_58 N μ a1 (if (r1 + a2) < 199 then (r1 + a2) else 199) r7 h8) me_X10_put ms_X10_put mn_X2_162 rfl (Nat.le_of_ble_eq_true rfl) (Nat.le_of_ble_eq_true rfl) (Nat.le_of_ble_eq_true rfl) (Nat.le_of_ble_eq_true rfl) rfl ?_
        refine SW.iconst (pc := 52) (v := 1) g (dt dt_X2_move 28 rfl) ki_1 ?_
        exact SW.zreturn (pc := 53) g (leafW h ho) rfl (Nat.le_of_ble_eq_true rfl) (Nat.le_of_ble_eq_true rfl) (by decide) (dt dt_X2_move 29 rfl)
      · have h := iteF hc h
        refine SW.iconst (pc := 33) (v := 0) g (dt dt_X2_move 17 rfl) ki_0 ?_
        exact SW.zreturn (pc := 34) g (leafW h ho) rfl (Nat.le_of_ble_eq_true rfl) (Nat.le_of_ble_eq_true rfl) (by decide) (dt dt_X2_move 18 rfl)
set_option maxRecDepth 100000 in
set_option maxHeartbeats 4000000 in
theorem mt_f_dream_move (l : Launch) (D : va_G) (cI cL : ClassId) (ad : Nat → Nat) (ν : sw_N)    (N : Nat) (μ : sw_M) (a1 : Int32) (a2 : Int32) (o : Int32 × sw_M) (h : f_dream_move N  μ a1 a2 = some o) : MetR l D cI cL yX2_move cX2_move 4 (some .boolean) 3 0 0 (fun a => a = ad) ad [.ref 57, .int a1, .int a2] lay0 μ ν (some (.int o.1)) lay0 o.2 ν :=
  MetR.of (n := 1) rfl (Nat.le_of_ble_eq_true rfl) (fun G g ho hm _ _ => ok_f_dream_move  g hm  μ ho a1 a2 h)
def f_autm_drawSteps_76 (N : Nat)   (μ : sw_M) (x1 : Int32) (x3 : Int32) : Option (sw_M) :=
  Option.bind (f_autm_draw N  μ 16) (fun r1 =>
    if x1 ≤ r1.1 then
      some r1.2
    else
      Option.bind (f_dream_move N  r1.2 x3 3) (fun r3 =>
        some r3.2))
def f_autm_drawSteps (N : Nat)  (μ : sw_M) (a1 : Int32) : Option (sw_M) :=
  Option.bind (f_autm_draw N  μ (μ 3 3)) (fun r1 =>
    Option.bind (f_autm_draw N  r1.2 (r1.2 3 1)) (fun r3 =>
      Option.bind (f_dream_cross N  r3.2 r1.1 r3.1) (fun r5 =>
        if (r5.2 3 2) ≤ 0 then
          f_autm_drawSteps_76 N    r5.2 a1 r3.1
        else
          Option.bind (f_autm_draw N  r5.2 (r5.2 3 2)) (fun r7 =>
            Option.bind (f_dream_lift N  r7.2 r1.1 r7.1) (fun r9 =>
              f_autm_drawSteps_76 N    r9.2 a1 r3.1)))))
set_option maxRecDepth 100000 in
set_option maxHeartbeats 4000000 in
theorem ok_f_autm_drawSteps_76 {G : sw_G} {ad : Nat → Nat} {ν : sw_N}   {N : Nat} {o : sw_M} (g : sw_ok G cX0_drawSteps "DeadWires$Autumns" none 5 0 0 ad) (hm : G.2.2.1.2.1.maxLocals = 4)  (ho : sw_out G 0 0 (fun a => a = ad) (.inl none) lay0 o ν)  (μ : sw_M) (x1 : Int32) (x3 : Int32) (h : f_autm_drawSteps_76 N    μ x1 x3 = some o) : SW G ad lay0 ν 0 0 76 [some (.ref 55), some (.int x1), none, some (.int x3)] [] μ := by
  unfold f_autm_drawSteps_76 at h
  refine SW.aload_n (pc := 76) g (dt dt_X0_drawSteps 36 rfl) rfl ?_
  refine SW.bipush (pc := 77) (v := 16) g (dt dt_X0_drawSteps 37 rfl) kb_16 ?_
  obtain ⟨r1, h2, h⟩ := bindI h
  refine SW.callVi (pc := 79) g (dt dt_X0_drawSteps 38 rfl) (mt_f_autm_draw _ _ _ _ ad ν   N μ 16 r1 h2) me_X0_draw mv_X0_draw ml_X0_59 cell_55 rfl rfl (Nat.le_of_ble_eq_true rfl) (Nat.le_of_ble_eq_true rfl) (Nat.le_of_ble_eq_true rfl) (Nat.le_of_ble_eq_true rfl) rfl ?_
  refine SW.iload_n (pc := 82) g (dt dt_X0_drawSteps 39 rfl) rfl ?_
  refine SW.icmp_ge (pc := 83) (t := 96) g (dt dt_X0_drawSteps 40 rfl) rfl (fun hc => ?_) (fun hc => ?_)
  · have h := iteT hc h
    exact SW.vreturn (pc := 96) g (leafV h ho) rfl (Nat.le_of_ble_eq_true rfl) (Nat.le_of_ble_eq_true rfl) (dt dt_X0_drawSteps 47 rfl)
  · have h := iteF hc h
    refine SW.aload_n (pc := 86) g (dt dt_X0_drawSteps 41 rfl) rfl ?_
    refine SW.getR (pc := 87) g (dt dt_X0_drawSteps 42 rfl) fl_X0_30 cell_55 rfl ?_
    refine SW.iload_n (pc := 90) g (dt dt_X0_drawSteps 43 rfl) rfl ?_
    refine SW.iconst (pc := 91) (v := 3) g (dt dt_X0_drawSteps 44 rfl) ki_3 ?_
    obtain ⟨r3, h4, h⟩ := bindI h
    refine SW.callVi (pc := 92) g (dt dt_X0_drawSteps 45 rfl) (mt_f_dream_move _ _ _ _ ad ν   N r1.2 x3 3 r3 h4) me_X2_move mv_X2_move ml_X0_73 cell_57 rfl rfl (Nat.le_of_ble_eq_true rfl) (Nat.le_of_ble_eq_true rfl) (Nat.le_of_ble_eq_true rfl) (Nat.le_of_ble_eq_true rfl) rfl ?_
    refine SW.pop (pc := 95) g (dt dt_X0_drawSteps 46 rfl) rfl ?_
    exact SW.vreturn (pc := 96) g (leafV h ho) rfl (Nat.le_of_ble_eq_true rfl) (Nat.le_of_ble_eq_true rfl) (dt dt_X0_drawSteps 47 rfl)
set_option maxRecDepth 100000 in
set_option maxHeartbeats 4000000 in
theorem ok_f_autm_drawSteps {G : sw_G} {ad : Nat → Nat} {ν : sw_N}   {N : Nat} {o : sw_M} (g : sw_ok G cX0_drawSteps "DeadWires$Autumns" none 5 0 0 ad) (hm : G.2.2.1.2.1.maxLocals = 4)  (μ : sw_M) (ho : sw_out G 0 0 (fun a => a = ad) (.inl none) lay0 o ν) (a1 : Int32) (h : f_autm_drawSteps N  μ a1 = some o) : SW G ad lay0 ν 0 0 0 [some (.ref 55), some (.int a1), none, none] [] μ := by
  unfold f_autm_drawSteps at h
  refine SW.aload_n (pc := 0) g (dt dt_X0_drawSteps 0 rfl) rfl ?_
  refine SW.aload_n (pc := 1) g (dt dt_X0_drawSteps 1 rfl) rfl ?_
  refine SW.getR (pc := 2) g (dt dt_X0_drawSteps 2 rfl) fl_X0_15 cell_55 rfl ?_
  refine SW.getR (pc := 5) g (dt dt_X0_drawSteps 3 rfl) fl_X0_19 cell_35 rfl ?_
  refine SW.getI (pc := 8) g (dt dt_X0_drawSteps 4 rfl) fl_X0_44 cell_3 rfl ?_
  obtain ⟨r1, h2, h⟩ := bindI h
  refine SW.callVi (pc := 11) g (dt dt_X0_drawSteps 5 rfl) (mt_f_autm_draw _ _ _ _ ad ν   N μ (μ 3 3) r1 h2) me_X0_draw mv_X0_draw ml_X0_59 cell_55 rfl rfl (Nat.le_of_ble_eq_true rfl) (Nat.le_of_ble_eq_true rfl) (Nat.le_of_ble_eq_true rfl) (Nat.le_of_ble_eq_true rfl) rfl ?_
  refine SW.istore_n (pc := 14) g (dt dt_X0_drawSteps 6 rfl) (sw_ltm hm (Nat.le_of_ble_eq_true rfl)) rfl ?_
  refine SW.aload_n (pc := 15) g (dt dt_X0_drawSteps 7 rfl) rfl ?_
  refine SW.aload_n (pc := 16) g (dt dt_X0_drawSteps 8 rfl) rfl ?_
  refine SW.getR (pc := 17) g (dt dt_X0_drawSteps 9 rfl) fl_X0_15 cell_55 rfl ?_
  refine SW.getR (pc := 20) g (dt dt_X0_drawSteps 10 rfl) fl_X0_19 cell_35 rfl ?_
  refine SW.getI (pc := 23) g (dt dt_X0_drawSteps 11 rfl) fl_X0_49 cell_3 rfl ?_
  obtain ⟨r3, h4, h⟩ := bindI h
  refine SW.callVi (pc := 26) g (dt dt_X0_drawSteps 12 rfl) (mt_f_autm_draw _ _ _ _ ad ν   N r1.2 (r1.2 3 1) r3 h4) me_X0_draw mv_X0_draw ml_X0_59 cell_55 rfl rfl (Nat.le_of_ble_eq_true rfl) (Nat.le_of_ble_eq_true rfl) (Nat.le_of_ble_eq_true rfl) (Nat.le_of_ble_eq_true rfl) rfl ?_
  refine SW.istore_n (pc := 29) g (dt dt_X0_drawSteps 13 rfl) (sw_ltm hm (Nat.le_of_ble_eq_true rfl)) rfl ?_
  refine SW.aload_n (pc := 30) g (dt dt_X0_drawSteps 14 rfl) rfl ?_
  refine SW.getR (pc := 31) g (dt dt_X0_drawSteps 15 rfl) fl_X0_30 cell_55 rfl ?_
  refine SW.iload_n (pc := 34) g (dt dt_X0_drawSteps 16 rfl) rfl ?_
  refine SW.iload_n (pc := 35) g (dt dt_X0_drawSteps 17 rfl) rfl ?_
  obtain ⟨r5, h6, h⟩ := bindI h
  refine SW.callVi (pc := 36) g (dt dt_X0_drawSteps 18 rfl) (mt_f_dream_cross _ _ _ _ ad ν   N r3.2 r1.1 r3.1 r5 h6) me_X2_cross mv_X2_cross ml_X0_63 cell_57 rfl rfl (Nat.le_of_ble_eq_true rfl) (Nat.le_of_ble_eq_true rfl) (Nat.le_of_ble_eq_true rfl) (Nat.le_of_ble_eq_true rfl) rfl ?_
  refine SW.pop (pc := 39) g (dt dt_X0_drawSteps 19 rfl) rfl ?_
  refine SW.aload_n (pc := 40) g (dt dt_X0_drawSteps 20 rfl) rfl ?_
  refine SW.getR (pc := 41) g (dt dt_X0_drawSteps 21 rfl) fl_X0_15 cell_55 rfl ?_
  refine SW.getR (pc := 44) g (dt dt_X0_drawSteps 22 rfl) fl_X0_19 cell_35 rfl ?_
  refine SW.getI (pc := 47) g (dt dt_X0_drawSteps 23 rfl) fl_X0_67 cell_3 rfl ?_
  refine SW.if_le (pc := 50) (t := 76) g (dt dt_X0_drawSteps 24 rfl) rfl (fun hc => ?_) (fun hc => ?_)
  · have h := iteT hc h
    refine SW.msk [true, true, false, true] ?_
    exact ok_f_autm_drawSteps_76  g hm  ho    r5.2 a1 r3.1 h
  · have h := iteF hc h
    refine SW.aload_n (pc := 53) g (dt dt_X0_drawSteps 25 rfl) rfl ?_
    refine SW.getR (pc := 54) g (dt dt_X0_drawSteps 26 rfl) fl_X0_30 cell_55 rfl ?_
    refine SW.iload_n (pc := 57) g (dt dt_X0_drawSteps 27 rfl) rfl ?_
    refine SW.aload_n (pc := 58) g (dt dt_X0_drawSteps 28 rfl) rfl ?_
    refine SW.aload_n (pc := 59) g (dt dt_X0_drawSteps 29 rfl) rfl ?_
    refine SW.getR (pc := 60) g (dt dt_X0_drawSteps 30 rfl) fl_X0_15 cell_55 rfl ?_
    refine SW.getR (pc := 63) g (dt dt_X0_drawSteps 31 rfl) fl_X0_19 cell_35 rfl ?_
    refine SW.getI (pc := 66) g (dt dt_X0_drawSteps 32 rfl) fl_X0_67 cell_3 rfl ?_
    obtain ⟨r7, h8, h⟩ := bindI h
    refine SW.callVi (pc := 69) g (dt dt_X0_drawSteps 33 rfl) (mt_f_autm_draw _ _ _ _ ad ν   N r5.2 (r5.2 3 2) r7 h8) me_X0_draw mv_X0_draw ml_X0_59 cell_55 rfl rfl (Nat.le_of_ble_eq_true rfl) (Nat.le_of_ble_eq_true rfl) (Nat.le_of_ble_eq_true rfl) (Nat.le_of_ble_eq_true rfl) rfl ?_
    obtain ⟨r9, h10, h⟩ := bindI h
    refine SW.callVi (pc := 72) g (dt dt_X0_drawSteps 34 rfl) (mt_f_dream_lift _ _ _ _ ad ν   N r7.2 r1.1 r7.1 r9 h10) me_X2_lift mv_X2_lift ml_X0_70 cell_57 rfl rfl (Nat.le_of_ble_eq_true rfl) (Nat.le_of_ble_eq_true rfl) (Nat.le_of_ble_eq_true rfl) (Nat.le_of_ble_eq_true rfl) rfl ?_
    refine SW.pop (pc := 75) g (dt dt_X0_drawSteps 35 rfl) rfl ?_
    refine SW.msk [true, true, false, true] ?_
    exact ok_f_autm_drawSteps_76  g hm  ho    r9.2 a1 r3.1 h
set_option maxRecDepth 100000 in
set_option maxHeartbeats 4000000 in
theorem mt_f_autm_drawSteps (l : Launch) (D : va_G) (cI cL : ClassId) (ad : Nat → Nat) (ν : sw_N)    (N : Nat) (μ : sw_M) (a1 : Int32) (o : sw_M) (h : f_autm_drawSteps N  μ a1 = some o) : MetR l D cI cL yX0_drawSteps cX0_drawSteps 4 none 5 0 0 (fun a => a = ad) ad [.ref 55, .int a1] lay0 μ ν none lay0 o ν :=
  MetR.of (n := 2) rfl (Nat.le_of_ble_eq_true rfl) (fun G g ho hm _ _ => ok_f_autm_drawSteps  g hm  μ ho a1 h)
def f_dream_passHour_2 (N : Nat)   : Nat → sw_M → Int32 → Option (sw_M)
  | 0, _, _ => none
  | n + 1, μ, x1 =>
    if (μ 3 3) ≤ x1 then
      wb (wr μ 57 2 ((μ 57 2) + 1)) (fun μ1 =>
        some μ1)
    else
      inb x1 5 (
        inb x1 5 (wb (wr μ 62 x1.toNatClampNeg (if 0 < ((μ 62 x1.toNatClampNeg) - 5) then ((μ 62 x1.toNatClampNeg) - 5) else 0)) (fun μ4 =>
          f_dream_passHour_2 N   n μ4 (x1 + 1))))
def f_dream_passHour (N : Nat)  (μ : sw_M)  : Option (sw_M) :=
  f_dream_passHour_2 N   N μ 0
set_option maxRecDepth 100000 in
set_option maxHeartbeats 4000000 in
theorem ok_f_dream_passHour_2 {G : sw_G} {ad : Nat → Nat} {ν : sw_N}   {N : Nat} {o : sw_M} (g : sw_ok G cX2_passHour "DeadWires$Days" none 1 0 0 ad) (hm : G.2.2.1.2.1.maxLocals = 2)  (ho : sw_out G 0 0 (fun a => a = ad) (.inl none) lay0 o ν)  : ∀ (n : Nat) (μ : sw_M) (x1 : Int32) (h : f_dream_passHour_2 N   n μ x1 = some o), SW G ad lay0 ν 0 0 2 [some (.ref 57), some (.int x1)] [] μ := by
  intro n
  induction n with
  | zero => intro μ x1 h; simp only [f_dream_passHour_2] at h; cases h
  | succ n ih =>
    intro μ x1 h
    unfold f_dream_passHour_2 at h
    refine SW.iload_n (pc := 2) g (dt dt_X2_passHour 2 rfl) rfl ?_
    refine SW.aload_n (pc := 3) g (dt dt_X2_passHour 3 rfl) rfl ?_
    refine SW.getR (pc := 4) g (dt dt_X2_passHour 4 rfl) fl_X2_27 cell_57 rfl ?_
    refine SW.getI (pc := 7) g (dt dt_X2_passHour 5 rfl) fl_X2_113 cell_3 rfl ?_
    refine SW.icmp_ge (pc := 10) (t := 37) g (dt dt_X2_passHour 6 rfl) rfl (fun hc => ?_) (fun hc => ?_)
    · have h := iteT hc h
      refine SW.aload_n (pc := 37) g (dt dt_X2_passHour 21 rfl) rfl ?_
      refine SW.dup (pc := 38) g (dt dt_X2_passHour 22 rfl) rfl ?_
      refine SW.getI (pc := 39) g (dt dt_X2_passHour 23 rfl) fl_X2_38 cell_57 rfl ?_
      refine SW.iconst (pc := 42) (v := 1) g (dt dt_X2_passHour 24 rfl) ki_1 ?_
      refine SW.iadd (pc := 43) g (dt dt_X2_passHour 25 rfl) ?_
      refine SW.putI (pc := 44) g (dt dt_X2_passHour 26 rfl) fl_X2_38 cell_57 rfl ?_
      refine SW.genM h (fun μ1 h => ?_)
      exact SW.vreturn (pc := 47) g (leafV h ho) rfl (Nat.le_of_ble_eq_true rfl) (Nat.le_of_ble_eq_true rfl) (dt dt_X2_passHour 27 rfl)
    · have h := iteF hc h
      refine SW.aload_n (pc := 13) g (dt dt_X2_passHour 7 rfl) rfl ?_
      refine SW.getR (pc := 14) g (dt dt_X2_passHour 8 rfl) fl_X2_24 cell_57 rfl ?_
      refine SW.iload_n (pc := 17) g (dt dt_X2_passHour 9 rfl) rfl ?_
      refine SW.iconst (pc := 18) (v := 0) g (dt dt_X2_passHour 10 rfl) ki_0 ?_
      refine SW.aload_n (pc := 19) g (dt dt_X2_passHour 11 rfl) rfl ?_
      refine SW.getR (pc := 20) g (dt dt_X2_passHour 12 rfl) fl_X2_24 cell_57 rfl ?_
      refine SW.iload_n (pc := 23) g (dt dt_X2_passHour 13 rfl) rfl ?_
      obtain ⟨hb2, h⟩ := inbI h
      refine SW.iaload (pc := 24) g (dt dt_X2_passHour 14 rfl) cell_62 hb2 ?_
      refine SW.iconst (pc := 25) (v := 5) g (dt dt_X2_passHour 15 rfl) ki_5 ?_
      refine SW.isub (pc := 26) g (dt dt_X2_passHour 16 rfl) ?_
      refine SW.mmax (pc := 27) g (dt dt_X2_passHour 17 rfl) ml_X2_125 ms_J9_max_7cf53 mt_init me_J9_max_7cf53.1 (Nat.le_of_ble_eq_true rfl) (Nat.le_of_ble_eq_true rfl) (Nat.le_of_ble_eq_true rfl) (Nat.le_of_ble_eq_true rfl) ?_
      obtain ⟨hb3, h⟩ := inbI h
      refine SW.iastore (pc := 30) g (dt dt_X2_passHour 18 rfl) cell_62 hb3 ?_
      refine SW.genM h (fun μ4 h => ?_)
      refine SW.iinc (pc := 31) (v := x1 + 1) g (dt dt_X2_passHour 19 rfl) rfl (kn_1 _) (sw_ltm hm (Nat.le_of_ble_eq_true rfl)) rfl ?_
      refine SW.goto (pc := 34) (t := 2) g (dt dt_X2_passHour 20 rfl) rfl ?_
      refine SW.msk [true, true] ?_
      exact ih μ4 (x1 + 1) h
set_option maxRecDepth 100000 in
set_option maxHeartbeats 4000000 in
theorem ok_f_dream_passHour {G : sw_G} {ad : Nat → Nat} {ν : sw_N}   {N : Nat} {o : sw_M} (g : sw_ok G cX2_passHour "DeadWires$Days" none 1 0 0 ad) (hm : G.2.2.1.2.1.maxLocals = 2)  (μ : sw_M) (ho : sw_out G 0 0 (fun a => a = ad) (.inl none) lay0 o ν)  (h : f_dream_passHour N  μ  = some o) : SW G ad lay0 ν 0 0 0 [some (.ref 57), none] [] μ := by
  unfold f_dream_passHour at h
  refine SW.iconst (pc := 0) (v := 0) g (dt dt_X2_passHour 0 rfl) ki_0 ?_
  refine SW.istore_n (pc := 1) g (dt dt_X2_passHour 1 rfl) (sw_ltm hm (Nat.le_of_ble_eq_true rfl)) rfl ?_
  refine SW.msk [true, true] ?_
  exact ok_f_dream_passHour_2  g hm  ho   N μ 0 h
set_option maxRecDepth 100000 in
set_option maxHeartbeats 4000000 in
theorem mt_f_dream_passHour (l : Launch) (D : va_G) (cI cL : ClassId) (ad : Nat → Nat) (ν : sw_N)    (N : Nat) (μ : sw_M)  (o : sw_M) (h : f_dream_passHour N  μ  = some o) : MetR l D cI cL yX2_passHour cX2_passHour 2 none 1 0 0 (fun a => a = ad) ad [.ref 57] lay0 μ ν none lay0 o ν :=
  MetR.of (n := 1) rfl (Nat.le_of_ble_eq_true rfl) (fun G g ho hm _ _ => ok_f_dream_passHour  g hm  μ ho  h)
def f_autm_go_81 (N : Nat)  (k_65 : sw_M → Int32 → Int32 → Int32 → Int32 → Option (sw_M)) (μ : sw_M) (x2 : Int32) (x3 : Int32) (x4 : Int32) (x5 : Int32) : Option (sw_M) :=
  Option.bind (f_dream_passHour N  μ ) (fun r1 =>
    k_65 r1 x2 x3 x4 (x5 + 1))
def f_autm_go_65 (N : Nat)   : Nat → sw_M → Int32 → Int32 → Int32 → Int32 → Option (sw_M)
  | 0, _, _, _, _, _ => none
  | n + 1, μ, x2, x3, x4, x5 =>
    if x3 ≤ x5 then
      some μ
    else
      if x4 = 0 then
        f_autm_go_81 N  (f_autm_go_65 N   n)  μ x2 x3 x4 x5
      else
        Option.bind (f_autm_drawSteps N  μ x2) (fun r1 =>
          f_autm_go_81 N  (f_autm_go_65 N   n)  r1 x2 x3 x4 x5)
def f_autm_go_60 (N : Nat)   (μ : sw_M) (x2 : Int32) (x3 : Int32) (s0 : Int32) : Option (sw_M) :=
  f_autm_go_65 N   N μ x2 x3 s0 0
def f_autm_go_59 (N : Nat)   (μ : sw_M) (x2 : Int32) (x3 : Int32) : Option (sw_M) :=
  f_autm_go_60 N    μ x2 x3 0
def f_autm_go (N : Nat)  (μ : sw_M) (a1 : Int32) (a2 : Int32) (a3 : Int32) : Option (sw_M) :=
  Option.bind (f_days_save N 56 38 μ 0) (fun r1 =>
    Option.bind (f_dream_load N 56 38 r1 0) (fun r3 =>
      wb (wr r3 55 3 a1) (fun μ5 =>
        if (μ5 3 3) ≤ 0 then
          f_autm_go_59 N    μ5 a2 a3
        else
          if (μ5 3 1) ≤ 0 then
            f_autm_go_59 N    μ5 a2 a3
          else
            f_autm_go_60 N    μ5 a2 a3 1)))
set_option maxRecDepth 100000 in
set_option maxHeartbeats 4000000 in
theorem ok_f_autm_go_81 {G : sw_G} {ad : Nat → Nat} {ν : sw_N}   {N : Nat} {o : sw_M} (g : sw_ok G cX0_go "DeadWires$Autumns" none 6 0 0 ad) (hm : G.2.2.1.2.1.maxLocals = 6)  (ho : sw_out G 0 0 (fun a => a = ad) (.inl none) lay0 o ν) (k_65 : sw_M → Int32 → Int32 → Int32 → Int32 → Option (sw_M)) (hk_65 : ∀ (μ : sw_M) (x2 : Int32) (x3 : Int32) (x4 : Int32) (x5 : Int32), k_65 μ x2 x3 x4 x5 = some o → SW G ad lay0 ν 0 0 65 [some (.ref 55), none, some (.int x2), some (.int x3), some (.int x4), some (.int x5)] [] μ) (μ : sw_M) (x2 : Int32) (x3 : Int32) (x4 : Int32) (x5 : Int32) (h : f_autm_go_81 N  k_65  μ x2 x3 x4 x5 = some o) : SW G ad lay0 ν 0 0 81 [some (.ref 55), none, some (.int x2), some (.int x3), some (.int x4), some (.int x5)] [] μ := by
  unfold f_autm_go_81 at h
  refine SW.aload_n (pc := 81) g (dt dt_X0_go 39 rfl) rfl ?_
  refine SW.getR (pc := 82) g (dt dt_X0_go 40 rfl) fl_X0_30 cell_55 rfl ?_
  obtain ⟨r1, h2, h⟩ := bindI h
  refine SW.callVv (pc := 85) g (dt dt_X0_go 41 rfl) (mt_f_dream_passHour _ _ _ _ ad ν   N μ  r1 h2) me_X2_passHour mv_X2_passHour ml_X0_56 cell_57 rfl rfl (Nat.le_of_ble_eq_true rfl) (Nat.le_of_ble_eq_true rfl) (Nat.le_of_ble_eq_true rfl) (Nat.le_of_ble_eq_true rfl) rfl ?_
  refine SW.iinc (pc := 88) (v := x5 + 1) g (dt dt_X0_go 42 rfl) rfl (kn_1 _) (sw_ltm hm (Nat.le_of_ble_eq_true rfl)) rfl ?_
  refine SW.goto (pc := 91) (t := 65) g (dt dt_X0_go 43 rfl) rfl ?_
  refine SW.msk [true, false, true, true, true, true] ?_
  exact hk_65 r1 x2 x3 x4 (x5 + 1) h
set_option maxRecDepth 100000 in
set_option maxHeartbeats 4000000 in
theorem ok_f_autm_go_65 {G : sw_G} {ad : Nat → Nat} {ν : sw_N}   {N : Nat} {o : sw_M} (g : sw_ok G cX0_go "DeadWires$Autumns" none 6 0 0 ad) (hm : G.2.2.1.2.1.maxLocals = 6)  (ho : sw_out G 0 0 (fun a => a = ad) (.inl none) lay0 o ν)  : ∀ (n : Nat) (μ : sw_M) (x2 : Int32) (x3 : Int32) (x4 : Int32) (x5 : Int32) (h : f_autm_go_65 N   n μ x2 x3 x4 x5 = some o), SW G ad lay0 ν 0 0 65 [some (.ref 55), none, some (.int x2), some (.int x3), some (.int x4), some (.int x5)] [] μ := by
  intro n
  induction n with
  | zero => intro μ x2 x3 x4 x5 h; simp only [f_autm_go_65] at h; cases h
  | succ n ih =>
    intro μ x2 x3 x4 x5 h
    unfold f_autm_go_65 at h
    refine SW.iload (pc := 65) g (dt dt_X0_go 31 rfl) rfl ?_
    refine SW.iload_n (pc := 67) g (dt dt_X0_go 32 rfl) rfl ?_
    refine SW.icmp_ge (pc := 68) (t := 94) g (dt dt_X0_go 33 rfl) rfl (fun hc => ?_) (fun hc => ?_)
    · have h := iteT hc h
      exact SW.vreturn (pc := 94) g (leafV h ho) rfl (Nat.le_of_ble_eq_true rfl) (Nat.le_of_ble_eq_true rfl) (dt dt_X0_go 44 rfl)
    · have h := iteF hc h
      refine SW.iload (pc := 71) g (dt dt_X0_go 34 rfl) rfl ?_
      refine SW.if_eq (pc := 73) (t := 81) g (dt dt_X0_go 35 rfl) rfl (fun hc => ?_) (fun hc => ?_)
      · have h := iteT hc h
        refine SW.msk [true, false, true, true, true, true] ?_
        exact ok_f_autm_go_81  g hm  ho (f_autm_go_65 N   n) ih  μ x2 x3 x4 x5 h
      · have h := iteF hc h
        refine SW.aload_n (pc := 76) g (dt dt_X0_go 36 rfl) rfl ?_
        refine SW.iload_n (pc := 77) g (dt dt_X0_go 37 rfl) rfl ?_
        obtain ⟨r1, h2, h⟩ := bindI h
        refine SW.callVv (pc := 78) g (dt dt_X0_go 38 rfl) (mt_f_autm_drawSteps _ _ _ _ ad ν   N μ x2 r1 h2) me_X0_drawSteps mv_X0_drawSteps ml_X0_52 cell_55 rfl rfl (Nat.le_of_ble_eq_true rfl) (Nat.le_of_ble_eq_true rfl) (Nat.le_of_ble_eq_true rfl) (Nat.le_of_ble_eq_true rfl) rfl ?_
        refine SW.msk [true, false, true, true, true, true] ?_
        exact ok_f_autm_go_81  g hm  ho (f_autm_go_65 N   n) ih  r1 x2 x3 x4 x5 h
set_option maxRecDepth 100000 in
set_option maxHeartbeats 4000000 in
theorem ok_f_autm_go_60 {G : sw_G} {ad : Nat → Nat} {ν : sw_N}   {N : Nat} {o : sw_M} (g : sw_ok G cX0_go "DeadWires$Autumns" none 6 0 0 ad) (hm : G.2.2.1.2.1.maxLocals = 6)  (ho : sw_out G 0 0 (fun a => a = ad) (.inl none) lay0 o ν)  (μ : sw_M) (x2 : Int32) (x3 : Int32) (s0 : Int32) (h : f_autm_go_60 N    μ x2 x3 s0 = some o) : SW G ad lay0 ν 0 0 60 [some (.ref 55), none, some (.int x2), some (.int x3), none, none] [.int s0] μ := by
  unfold f_autm_go_60 at h
  refine SW.istore (pc := 60) g (dt dt_X0_go 28 rfl) (sw_ltm hm (Nat.le_of_ble_eq_true rfl)) rfl ?_
  refine SW.iconst (pc := 62) (v := 0) g (dt dt_X0_go 29 rfl) ki_0 ?_
  refine SW.istore (pc := 63) g (dt dt_X0_go 30 rfl) (sw_ltm hm (Nat.le_of_ble_eq_true rfl)) rfl ?_
  refine SW.msk [true, false, true, true, true, true] ?_
  exact ok_f_autm_go_65  g hm  ho   N μ x2 x3 s0 0 h
set_option maxRecDepth 100000 in
set_option maxHeartbeats 4000000 in
theorem ok_f_autm_go_59 {G : sw_G} {ad : Nat → Nat} {ν : sw_N}   {N : Nat} {o : sw_M} (g : sw_ok G cX0_go "DeadWires$Autumns" none 6 0 0 ad) (hm : G.2.2.1.2.1.maxLocals = 6)  (ho : sw_out G 0 0 (fun a => a = ad) (.inl none) lay0 o ν)  (μ : sw_M) (x2 : Int32) (x3 : Int32) (h : f_autm_go_59 N    μ x2 x3 = some o) : SW G ad lay0 ν 0 0 59 [some (.ref 55), none, some (.int x2), some (.int x3), none, none] [] μ := by
  unfold f_autm_go_59 at h
  refine SW.iconst (pc := 59) (v := 0) g (dt dt_X0_go 27 rfl) ki_0 ?_
  refine SW.msk [true, false, true, true, false, false] ?_
  exact ok_f_autm_go_60  g hm  ho    μ x2 x3 0 h
set_option maxRecDepth 100000 in
set_option maxHeartbeats 4000000 in
theorem ok_f_autm_go {G : sw_G} {ad : Nat → Nat} {ν : sw_N}   {N : Nat} {o : sw_M} (g : sw_ok G cX0_go "DeadWires$Autumns" none 6 0 0 ad) (hm : G.2.2.1.2.1.maxLocals = 6)  (μ : sw_M) (ho : sw_out G 0 0 (fun a => a = ad) (.inl none) lay0 o ν) (a1 : Int32) (a2 : Int32) (a3 : Int32) (h : f_autm_go N  μ a1 a2 a3 = some o) : SW G ad lay0 ν 0 0 0 [some (.ref 55), some (.int a1), some (.int a2), some (.int a3), none, none] [] μ := by
  unfold f_autm_go at h
  refine SW.aload_n (pc := 0) g (dt dt_X0_go 0 rfl) rfl ?_
  refine SW.getR (pc := 1) g (dt dt_X0_go 1 rfl) fl_X0_15 cell_55 rfl ?_
  refine SW.aload_n (pc := 4) g (dt dt_X0_go 2 rfl) rfl ?_
  refine SW.getR (pc := 5) g (dt dt_X0_go 3 rfl) fl_X0_9 cell_55 rfl ?_
  refine SW.iconst (pc := 8) (v := 0) g (dt dt_X0_go 4 rfl) ki_0 ?_
  obtain ⟨r1, h2, h⟩ := bindI h
  refine SW.callVv (pc := 9) g (dt dt_X0_go 5 rfl) (mt_f_days_save _ _ _ _ ad ν 56 38 cell_56 N μ 0 r1 h2) me_X2_save mv_X2_save ml_X0_33 cell_35 rfl rfl (Nat.le_of_ble_eq_true rfl) (Nat.le_of_ble_eq_true rfl) (Nat.le_of_ble_eq_true rfl) (Nat.le_of_ble_eq_true rfl) rfl ?_
  refine SW.aload_n (pc := 12) g (dt dt_X0_go 6 rfl) rfl ?_
  refine SW.getR (pc := 13) g (dt dt_X0_go 7 rfl) fl_X0_30 cell_55 rfl ?_
  refine SW.aload_n (pc := 16) g (dt dt_X0_go 8 rfl) rfl ?_
  refine SW.getR (pc := 17) g (dt dt_X0_go 9 rfl) fl_X0_9 cell_55 rfl ?_
  refine SW.iconst (pc := 20) (v := 0) g (dt dt_X0_go 10 rfl) ki_0 ?_
  obtain ⟨r3, h4, h⟩ := bindI h
  refine SW.callVv (pc := 21) g (dt dt_X0_go 11 rfl) (mt_f_dream_load _ _ _ _ ad ν 56 38 cell_56 N r1 0 r3 h4) me_X2_load mv_X2_load ml_X0_37 cell_57 rfl rfl (Nat.le_of_ble_eq_true rfl) (Nat.le_of_ble_eq_true rfl) (Nat.le_of_ble_eq_true rfl) (Nat.le_of_ble_eq_true rfl) rfl ?_
  refine SW.aload_n (pc := 24) g (dt dt_X0_go 12 rfl) rfl ?_
  refine SW.iload_n (pc := 25) g (dt dt_X0_go 13 rfl) rfl ?_
  refine SW.putI (pc := 26) g (dt dt_X0_go 14 rfl) fl_X0_40 cell_55 rfl ?_
  refine SW.genM h (fun μ5 h => ?_)
  refine SW.aload_n (pc := 29) g (dt dt_X0_go 15 rfl) rfl ?_
  refine SW.getR (pc := 30) g (dt dt_X0_go 16 rfl) fl_X0_15 cell_55 rfl ?_
  refine SW.getR (pc := 33) g (dt dt_X0_go 17 rfl) fl_X0_19 cell_35 rfl ?_
  refine SW.getI (pc := 36) g (dt dt_X0_go 18 rfl) fl_X0_44 cell_3 rfl ?_
  refine SW.if_le (pc := 39) (t := 59) g (dt dt_X0_go 19 rfl) rfl (fun hc => ?_) (fun hc => ?_)
  · have h := iteT hc h
    refine SW.msk [true, false, true, true, false, false] ?_
    exact ok_f_autm_go_59  g hm  ho    μ5 a2 a3 h
  · have h := iteF hc h
    refine SW.aload_n (pc := 42) g (dt dt_X0_go 20 rfl) rfl ?_
    refine SW.getR (pc := 43) g (dt dt_X0_go 21 rfl) fl_X0_15 cell_55 rfl ?_
    refine SW.getR (pc := 46) g (dt dt_X0_go 22 rfl) fl_X0_19 cell_35 rfl ?_
    refine SW.getI (pc := 49) g (dt dt_X0_go 23 rfl) fl_X0_49 cell_3 rfl ?_
    refine SW.if_le (pc := 52) (t := 59) g (dt dt_X0_go 24 rfl) rfl (fun hc => ?_) (fun hc => ?_)
    · have h := iteT hc h
      refine SW.msk [true, false, true, true, false, false] ?_
      exact ok_f_autm_go_59  g hm  ho    μ5 a2 a3 h
    · have h := iteF hc h
      refine SW.iconst (pc := 55) (v := 1) g (dt dt_X0_go 25 rfl) ki_1 ?_
      refine SW.goto (pc := 56) (t := 60) g (dt dt_X0_go 26 rfl) rfl ?_
      refine SW.msk [true, false, true, true, false, false] ?_
      exact ok_f_autm_go_60  g hm  ho    μ5 a2 a3 1 h
set_option maxRecDepth 100000 in
set_option maxHeartbeats 4000000 in
theorem mt_f_autm_go (l : Launch) (D : va_G) (cI cL : ClassId) (ad : Nat → Nat) (ν : sw_N)    (N : Nat) (μ : sw_M) (a1 : Int32) (a2 : Int32) (a3 : Int32) (o : sw_M) (h : f_autm_go N  μ a1 a2 a3 = some o) : MetR l D cI cL yX0_go cX0_go 6 none 6 0 0 (fun a => a = ad) ad [.ref 55, .int a1, .int a2, .int a3] lay0 μ ν none lay0 o ν :=
  MetR.of (n := 2) rfl (Nat.le_of_ble_eq_true rfl) (fun G g ho hm _ _ => ok_f_autm_go  g hm  μ ho a1 a2 a3 h)
def f_autm_crossings (N : Nat)  (μ : sw_M)  : Option (Int32) :=
  some ((μ 57 5) - (μ 35 5))
set_option maxRecDepth 100000 in
set_option maxHeartbeats 4000000 in
theorem ok_f_autm_crossings {G : sw_G} {ad : Nat → Nat} {ν : sw_N}   {N : Nat} {o : Int32} (g : sw_ok G cX0_crossings "DeadWires$Autumns" (some .int) 1 0 0 ad) (hm : G.2.2.1.2.1.maxLocals = 1)  (μ : sw_M) (ho : sw_out G 0 0 (fun a => a = ad) (.inl (some (.int o))) lay0 μ ν)  (h : f_autm_crossings N  μ  = some o) : SW G ad lay0 ν 0 0 0 [some (.ref 55)] [] μ := by
  unfold f_autm_crossings at h
  refine SW.aload_n (pc := 0) g (dt dt_X0_crossings 0 rfl) rfl ?_
  refine SW.getR (pc := 1) g (dt dt_X0_crossings 1 rfl) fl_X0_30 cell_55 rfl ?_
  refine SW.getI (pc := 4) g (dt dt_X0_crossings 2 rfl) fl_X0_77 cell_57 rfl ?_
  refine SW.aload_n (pc := 7) g (dt dt_X0_crossings 3 rfl) rfl ?_
  refine SW.getR (pc := 8) g (dt dt_X0_crossings 4 rfl) fl_X0_15 cell_55 rfl ?_
  refine SW.getI (pc := 11) g (dt dt_X0_crossings 5 rfl) fl_X0_77 cell_35 rfl ?_
  refine SW.isub (pc := 14) g (dt dt_X0_crossings 6 rfl) ?_
  exact SW.ireturn (pc := 15) g (leafI h ho) rfl (Nat.le_of_ble_eq_true rfl) (Nat.le_of_ble_eq_true rfl) (dt dt_X0_crossings 7 rfl)
set_option maxRecDepth 100000 in
set_option maxHeartbeats 4000000 in
theorem mt_f_autm_crossings (l : Launch) (D : va_G) (cI cL : ClassId) (ad : Nat → Nat) (ν : sw_N)    (N : Nat) (μ : sw_M)  (o : Int32) (h : f_autm_crossings N  μ  = some o) : MetR l D cI cL yX0_crossings cX0_crossings 1 (some .int) 1 0 0 (fun a => a = ad) ad [.ref 55] lay0 μ ν (some (.int o)) lay0 μ ν :=
  MetR.of (n := 0) rfl (Nat.le_of_ble_eq_true rfl) (fun G g ho hm _ _ => ok_f_autm_crossings  g hm  μ ho  h)
def f_autm_isElsewhere (N : Nat)  (μ : sw_M) (a1 : Int32) : Option (Int32) :=
  Option.bind (f_sx_at N 61 5 μ a1) (fun r1 =>
    Option.bind (f_sx_at N 39 5 μ a1) (fun r3 =>
      if r1 = r3 then
        some 0
      else
        some 1))
set_option maxRecDepth 100000 in
set_option maxHeartbeats 4000000 in
theorem ok_f_autm_isElsewhere {G : sw_G} {ad : Nat → Nat} {ν : sw_N}   {N : Nat} {o : Int32} (g : sw_ok G cX0_isElsewhere "DeadWires$Autumns" (some .boolean) 2 0 0 ad) (hm : G.2.2.1.2.1.maxLocals = 2)  (μ : sw_M) (ho : sw_out G 0 0 (fun a => a = ad) (.inl (some (.int o))) lay0 μ ν) (a1 : Int32) (h : f_autm_isElsewhere N  μ a1 = some o) : SW G ad lay0 ν 0 0 0 [some (.ref 55), some (.int a1)] [] μ := by
  unfold f_autm_isElsewhere at h
  refine SW.aload_n (pc := 0) g (dt dt_X0_isElsewhere 0 rfl) rfl ?_
  refine SW.getR (pc := 1) g (dt dt_X0_isElsewhere 1 rfl) fl_X0_30 cell_55 rfl ?_
  refine SW.getR (pc := 4) g (dt dt_X0_isElsewhere 2 rfl) fl_X0_80 cell_57 rfl ?_
  refine SW.iload_n (pc := 7) g (dt dt_X0_isElsewhere 3 rfl) rfl ?_
  obtain ⟨r1, h2, h⟩ := bindI h
  refine SW.callSNi (pc := 8) g (dt dt_X0_isElsewhere 4 rfl) (mt_f_sx_at _ _ _ _ ad ν lay0 61 5 cell_61 N μ a1 r1 h2) me_X10_at ms_X10_at mn_X0_83 rfl (Nat.le_of_ble_eq_true rfl) (Nat.le_of_ble_eq_true rfl) (Nat.le_of_ble_eq_true rfl) (Nat.le_of_ble_eq_true rfl) rfl ?_
  refine SW.aload_n (pc := 11) g (dt dt_X0_isElsewhere 5 rfl) rfl ?_
  refine SW.getR (pc := 12) g (dt dt_X0_isElsewhere 6 rfl) fl_X0_15 cell_55 rfl ?_
  refine SW.getR (pc := 15) g (dt dt_X0_isElsewhere 7 rfl) fl_X0_80 cell_35 rfl ?_
  refine SW.iload_n (pc := 18) g (dt dt_X0_isElsewhere 8 rfl) rfl ?_
  obtain ⟨r3, h4, h⟩ := bindI h
  refine SW.callSNi (pc := 19) g (dt dt_X0_isElsewhere 9 rfl) (mt_f_sx_at _ _ _ _ ad ν lay0 39 5 cell_39 N μ a1 r3 h4) me_X10_at ms_X10_at mn_X0_83 rfl (Nat.le_of_ble_eq_true rfl) (Nat.le_of_ble_eq_true rfl) (Nat.le_of_ble_eq_true rfl) (Nat.le_of_ble_eq_true rfl) rfl ?_
  refine SW.icmp_eq (pc := 22) (t := 29) g (dt dt_X0_isElsewhere 10 rfl) rfl (fun hc => ?_) (fun hc => ?_)
  · have h := iteT hc h
    refine SW.iconst (pc := 29) (v := 0) g (dt dt_X0_isElsewhere 13 rfl) ki_0 ?_
    exact SW.zreturn (pc := 30) g (leafI h ho) rfl (Nat.le_of_ble_eq_true rfl) (Nat.le_of_ble_eq_true rfl) (by decide) (dt dt_X0_isElsewhere 14 rfl)
  · have h := iteF hc h
    refine SW.iconst (pc := 25) (v := 1) g (dt dt_X0_isElsewhere 11 rfl) ki_1 ?_
    refine SW.goto (pc := 26) (t := 30) g (dt dt_X0_isElsewhere 12 rfl) rfl ?_
    exact SW.zreturn (pc := 30) g (leafI h ho) rfl (Nat.le_of_ble_eq_true rfl) (Nat.le_of_ble_eq_true rfl) (by decide) (dt dt_X0_isElsewhere 14 rfl)
set_option maxRecDepth 100000 in
set_option maxHeartbeats 4000000 in
theorem mt_f_autm_isElsewhere (l : Launch) (D : va_G) (cI cL : ClassId) (ad : Nat → Nat) (ν : sw_N)    (N : Nat) (μ : sw_M) (a1 : Int32) (o : Int32) (h : f_autm_isElsewhere N  μ a1 = some o) : MetR l D cI cL yX0_isElsewhere cX0_isElsewhere 2 (some .boolean) 2 0 0 (fun a => a = ad) ad [.ref 55, .int a1] lay0 μ ν (some (.int o)) lay0 μ ν :=
  MetR.of (n := 0) rfl (Nat.le_of_ble_eq_true rfl) (fun G g ho hm _ _ => ok_f_autm_isElsewhere  g hm  μ ho a1 h)
def f_dream_carriedBits_4 (N : Nat)  (μ : sw_M)  : Nat → Int32 → Int32 → Option (Int32)
  | 0, _, _ => none
  | n + 1, x1, x2 =>
    if (μ 3 2) ≤ x2 then
      some x1
    else
      inb x2 6 (
        if (μ 60 x2.toNatClampNeg) = (-1) then
          f_dream_carriedBits_4 N  μ  n x1 (x2 + 1)
        else
          ib (x1 ||| ((1 : Int32) <<< (x2 &&& 31))) (fun y2 =>
            f_dream_carriedBits_4 N  μ  n y2 (x2 + 1)))
def f_dream_carriedBits (N : Nat)  (μ : sw_M)  : Option (Int32) :=
  f_dream_carriedBits_4 N  μ  N 0 0
set_option maxRecDepth 100000 in
set_option maxHeartbeats 4000000 in
theorem ok_f_dream_carriedBits_4 {G : sw_G} {ad : Nat → Nat} {ν : sw_N}   {N : Nat} {o : Int32} (g : sw_ok G cX2_carriedBits "DeadWires$Days" (some .int) 1 0 0 ad) (hm : G.2.2.1.2.1.maxLocals = 3)  (μ : sw_M) (ho : sw_out G 0 0 (fun a => a = ad) (.inl (some (.int o))) lay0 μ ν)  : ∀ (n : Nat) (x1 : Int32) (x2 : Int32) (h : f_dream_carriedBits_4 N  μ  n x1 x2 = some o), SW G ad lay0 ν 0 0 4 [some (.ref 57), some (.int x1), some (.int x2)] [] μ := by
  intro n
  induction n with
  | zero => intro x1 x2 h; simp only [f_dream_carriedBits_4] at h; cases h
  | succ n ih =>
    intro x1 x2 h
    unfold f_dream_carriedBits_4 at h
    refine SW.iload_n (pc := 4) g (dt dt_X2_carriedBits 4 rfl) rfl ?_
    refine SW.aload_n (pc := 5) g (dt dt_X2_carriedBits 5 rfl) rfl ?_
    refine SW.getR (pc := 6) g (dt dt_X2_carriedBits 6 rfl) fl_X2_27 cell_57 rfl ?_
    refine SW.getI (pc := 9) g (dt dt_X2_carriedBits 7 rfl) fl_X2_110 cell_3 rfl ?_
    refine SW.icmp_ge (pc := 12) (t := 37) g (dt dt_X2_carriedBits 8 rfl) rfl (fun hc => ?_) (fun hc => ?_)
    · have h := iteT hc h
      refine SW.iload_n (pc := 37) g (dt dt_X2_carriedBits 23 rfl) rfl ?_
      exact SW.ireturn (pc := 38) g (leafI h ho) rfl (Nat.le_of_ble_eq_true rfl) (Nat.le_of_ble_eq_true rfl) (dt dt_X2_carriedBits 24 rfl)
    · have h := iteF hc h
      refine SW.aload_n (pc := 15) g (dt dt_X2_carriedBits 9 rfl) rfl ?_
      refine SW.getR (pc := 16) g (dt dt_X2_carriedBits 10 rfl) fl_X2_18 cell_57 rfl ?_
      refine SW.iload_n (pc := 19) g (dt dt_X2_carriedBits 11 rfl) rfl ?_
      obtain ⟨hb1, h⟩ := inbI h
      refine SW.iaload (pc := 20) g (dt dt_X2_carriedBits 12 rfl) cell_60 hb1 ?_
      refine SW.iconst (pc := 21) (v := (-1)) g (dt dt_X2_carriedBits 13 rfl) ki_m1 ?_
      refine SW.icmp_eq (pc := 22) (t := 31) g (dt dt_X2_carriedBits 14 rfl) rfl (fun hc => ?_) (fun hc => ?_)
      · have h := iteT hc h
        refine SW.iinc (pc := 31) (v := x2 + 1) g (dt dt_X2_carriedBits 21 rfl) rfl (kn_1 _) (sw_ltm hm (Nat.le_of_ble_eq_true rfl)) rfl ?_
        refine SW.goto (pc := 34) (t := 4) g (dt dt_X2_carriedBits 22 rfl) rfl ?_
        refine SW.msk [true, true, true] ?_
        exact ih  x1 (x2 + 1) h
      · have h := iteF hc h
        refine SW.iload_n (pc := 25) g (dt dt_X2_carriedBits 15 rfl) rfl ?_
        refine SW.iconst (pc := 26) (v := 1) g (dt dt_X2_carriedBits 16 rfl) ki_1 ?_
        refine SW.iload_n (pc := 27) g (dt dt_X2_carriedBits 17 rfl) rfl ?_
        refine SW.ishl (pc := 28) g (dt dt_X2_carriedBits 18 rfl) ?_
        refine SW.ior (pc := 29) g (dt dt_X2_carriedBits 19 rfl) ?_
        refine SW.istore_n (pc := 30) g (dt dt_X2_carriedBits 20 rfl) (sw_ltm hm (Nat.le_of_ble_eq_true rfl)) rfl ?_
        refine SW.genL h (fun y2 h => ?_)
        refine SW.iinc (pc := 31) (v := x2 + 1) g (dt dt_X2_carriedBits 21 rfl) rfl (kn_1 _) (sw_ltm hm (Nat.le_of_ble_eq_true rfl)) rfl ?_
        refine SW.goto (pc := 34) (t := 4) g (dt dt_X2_carriedBits 22 rfl) rfl ?_
        refine SW.msk [true, true, true] ?_
        exact ih  y2 (x2 + 1) h
set_option maxRecDepth 100000 in
set_option maxHeartbeats 4000000 in
theorem ok_f_dream_carriedBits {G : sw_G} {ad : Nat → Nat} {ν : sw_N}   {N : Nat} {o : Int32} (g : sw_ok G cX2_carriedBits "DeadWires$Days" (some .int) 1 0 0 ad) (hm : G.2.2.1.2.1.maxLocals = 3)  (μ : sw_M) (ho : sw_out G 0 0 (fun a => a = ad) (.inl (some (.int o))) lay0 μ ν)  (h : f_dream_carriedBits N  μ  = some o) : SW G ad lay0 ν 0 0 0 [some (.ref 57), none, none] [] μ := by
  unfold f_dream_carriedBits at h
  refine SW.iconst (pc := 0) (v := 0) g (dt dt_X2_carriedBits 0 rfl) ki_0 ?_
  refine SW.istore_n (pc := 1) g (dt dt_X2_carriedBits 1 rfl) (sw_ltm hm (Nat.le_of_ble_eq_true rfl)) rfl ?_
  refine SW.iconst (pc := 2) (v := 0) g (dt dt_X2_carriedBits 2 rfl) ki_0 ?_
  refine SW.istore_n (pc := 3) g (dt dt_X2_carriedBits 3 rfl) (sw_ltm hm (Nat.le_of_ble_eq_true rfl)) rfl ?_
  refine SW.msk [true, true, true] ?_
  exact ok_f_dream_carriedBits_4  g hm  μ ho   N 0 0 h
set_option maxRecDepth 100000 in
set_option maxHeartbeats 4000000 in
theorem mt_f_dream_carriedBits (l : Launch) (D : va_G) (cI cL : ClassId) (ad : Nat → Nat) (ν : sw_N)    (N : Nat) (μ : sw_M)  (o : Int32) (h : f_dream_carriedBits N  μ  = some o) : MetR l D cI cL yX2_carriedBits cX2_carriedBits 3 (some .int) 1 0 0 (fun a => a = ad) ad [.ref 57] lay0 μ ν (some (.int o)) lay0 μ ν :=
  MetR.of (n := 2) rfl (Nat.le_of_ble_eq_true rfl) (fun G g ho hm _ _ => ok_f_dream_carriedBits  g hm  μ ho  h)
def f_dream_liveBits_4 (N : Nat)  (μ : sw_M)  : Nat → Int32 → Int32 → Int32 → Option (Int32)
  | 0, _, _, _ => none
  | n + 1, x1, x2, x3 =>
    if (μ 3 1) ≤ x3 then
      some x2
    else
      Option.bind (f_dream_isLive N  μ x3 x1) (fun r1 =>
        if r1 = 0 then
          f_dream_liveBits_4 N  μ  n x1 x2 (x3 + 1)
        else
          ib (x2 ||| ((1 : Int32) <<< (x3 &&& 31))) (fun y3 =>
            f_dream_liveBits_4 N  μ  n x1 y3 (x3 + 1)))
def f_dream_liveBits (N : Nat)  (μ : sw_M) (a1 : Int32) : Option (Int32) :=
  f_dream_liveBits_4 N  μ  N a1 0 0
set_option maxRecDepth 100000 in
set_option maxHeartbeats 4000000 in
theorem ok_f_dream_liveBits_4 {G : sw_G} {ad : Nat → Nat} {ν : sw_N}   {N : Nat} {o : Int32} (g : sw_ok G cX2_liveBits "DeadWires$Days" (some .int) 3 0 0 ad) (hm : G.2.2.1.2.1.maxLocals = 4)  (μ : sw_M) (ho : sw_out G 0 0 (fun a => a = ad) (.inl (some (.int o))) lay0 μ ν)  : ∀ (n : Nat) (x1 : Int32) (x2 : Int32) (x3 : Int32) (h : f_dream_liveBits_4 N  μ  n x1 x2 x3 = some o), SW G ad lay0 ν 0 0 4 [some (.ref 57), some (.int x1), some (.int x2), some (.int x3)] [] μ := by
  intro n
  induction n with
  | zero => intro x1 x2 x3 h; simp only [f_dream_liveBits_4] at h; cases h
  | succ n ih =>
    intro x1 x2 x3 h
    unfold f_dream_liveBits_4 at h
    refine SW.iload_n (pc := 4) g (dt dt_X2_liveBits 4 rfl) rfl ?_
    refine SW.aload_n (pc := 5) g (dt dt_X2_liveBits 5 rfl) rfl ?_
    refine SW.getR (pc := 6) g (dt dt_X2_liveBits 6 rfl) fl_X2_27 cell_57 rfl ?_
    refine SW.getI (pc := 9) g (dt dt_X2_liveBits 7 rfl) fl_X2_83 cell_3 rfl ?_
    refine SW.icmp_ge (pc := 12) (t := 36) g (dt dt_X2_liveBits 8 rfl) rfl (fun hc => ?_) (fun hc => ?_)
    · have h := iteT hc h
      refine SW.iload_n (pc := 36) g (dt dt_X2_liveBits 22 rfl) rfl ?_
      exact SW.ireturn (pc := 37) g (leafI h ho) rfl (Nat.le_of_ble_eq_true rfl) (Nat.le_of_ble_eq_true rfl) (dt dt_X2_liveBits 23 rfl)
    · have h := iteF hc h
      refine SW.aload_n (pc := 15) g (dt dt_X2_liveBits 9 rfl) rfl ?_
      refine SW.iload_n (pc := 16) g (dt dt_X2_liveBits 10 rfl) rfl ?_
      refine SW.iload_n (pc := 17) g (dt dt_X2_liveBits 11 rfl) rfl ?_
      obtain ⟨r1, h2, h⟩ := bindI h
      refine SW.callVi (pc := 18) g (dt dt_X2_liveBits 12 rfl) (mt_f_dream_isLive _ _ _ _ ad ν   N μ x3 x1 r1 h2) me_X2_isLive mv_X2_isLive ml_X2_86 cell_57 rfl rfl (Nat.le_of_ble_eq_true rfl) (Nat.le_of_ble_eq_true rfl) (Nat.le_of_ble_eq_true rfl) (Nat.le_of_ble_eq_true rfl) rfl ?_
      refine SW.if_eq (pc := 21) (t := 30) g (dt dt_X2_liveBits 13 rfl) rfl (fun hc => ?_) (fun hc => ?_)
      · have h := iteT hc h
        refine SW.iinc (pc := 30) (v := x3 + 1) g (dt dt_X2_liveBits 20 rfl) rfl (kn_1 _) (sw_ltm hm (Nat.le_of_ble_eq_true rfl)) rfl ?_
        refine SW.goto (pc := 33) (t := 4) g (dt dt_X2_liveBits 21 rfl) rfl ?_
        refine SW.msk [true, true, true, true] ?_
        exact ih  x1 x2 (x3 + 1) h
      · have h := iteF hc h
        refine SW.iload_n (pc := 24) g (dt dt_X2_liveBits 14 rfl) rfl ?_
        refine SW.iconst (pc := 25) (v := 1) g (dt dt_X2_liveBits 15 rfl) ki_1 ?_
        refine SW.iload_n (pc := 26) g (dt dt_X2_liveBits 16 rfl) rfl ?_
        refine SW.ishl (pc := 27) g (dt dt_X2_liveBits 17 rfl) ?_
        refine SW.ior (pc := 28) g (dt dt_X2_liveBits 18 rfl) ?_
        refine SW.istore_n (pc := 29) g (dt dt_X2_liveBits 19 rfl) (sw_ltm hm (Nat.le_of_ble_eq_true rfl)) rfl ?_
        refine SW.genL h (fun y3 h => ?_)
        refine SW.iinc (pc := 30) (v := x3 + 1) g (dt dt_X2_liveBits 20 rfl) rfl (kn_1 _) (sw_ltm hm (Nat.le_of_ble_eq_true rfl)) rfl ?_
        refine SW.goto (pc := 33) (t := 4) g (dt dt_X2_liveBits 21 rfl) rfl ?_
        refine SW.msk [true, true, true, true] ?_
        exact ih  x1 y3 (x3 + 1) h
set_option maxRecDepth 100000 in
set_option maxHeartbeats 4000000 in
theorem ok_f_dream_liveBits {G : sw_G} {ad : Nat → Nat} {ν : sw_N}   {N : Nat} {o : Int32} (g : sw_ok G cX2_liveBits "DeadWires$Days" (some .int) 3 0 0 ad) (hm : G.2.2.1.2.1.maxLocals = 4)  (μ : sw_M) (ho : sw_out G 0 0 (fun a => a = ad) (.inl (some (.int o))) lay0 μ ν) (a1 : Int32) (h : f_dream_liveBits N  μ a1 = some o) : SW G ad lay0 ν 0 0 0 [some (.ref 57), some (.int a1), none, none] [] μ := by
  unfold f_dream_liveBits at h
  refine SW.iconst (pc := 0) (v := 0) g (dt dt_X2_liveBits 0 rfl) ki_0 ?_
  refine SW.istore_n (pc := 1) g (dt dt_X2_liveBits 1 rfl) (sw_ltm hm (Nat.le_of_ble_eq_true rfl)) rfl ?_
  refine SW.iconst (pc := 2) (v := 0) g (dt dt_X2_liveBits 2 rfl) ki_0 ?_
  refine SW.istore_n (pc := 3) g (dt dt_X2_liveBits 3 rfl) (sw_ltm hm (Nat.le_of_ble_eq_true rfl)) rfl ?_
  refine SW.msk [true, true, true, true] ?_
  exact ok_f_dream_liveBits_4  g hm  μ ho   N a1 0 0 h
set_option maxRecDepth 100000 in
set_option maxHeartbeats 4000000 in
theorem mt_f_dream_liveBits (l : Launch) (D : va_G) (cI cL : ClassId) (ad : Nat → Nat) (ν : sw_N)    (N : Nat) (μ : sw_M) (a1 : Int32) (o : Int32) (h : f_dream_liveBits N  μ a1 = some o) : MetR l D cI cL yX2_liveBits cX2_liveBits 4 (some .int) 3 0 0 (fun a => a = ad) ad [.ref 57, .int a1] lay0 μ ν (some (.int o)) lay0 μ ν :=
  MetR.of (n := 2) rfl (Nat.le_of_ble_eq_true rfl) (fun G g ho hm _ _ => ok_f_dream_liveBits  g hm  μ ho a1 h)
def f_dream_tiredTogether_4 (N : Nat)  (μ : sw_M)  : Nat → Int32 → Int32 → Int32 → Option (Int32)
  | 0, _, _, _ => none
  | n + 1, x1, x2, x3 =>
    if (μ 3 3) ≤ x3 then
      some x2
    else
      inb x3 5 (
        ib (x2 + (if 0 < ((μ 62 x3.toNatClampNeg) - ((5 : Int32) * x1)) then ((μ 62 x3.toNatClampNeg) - ((5 : Int32) * x1)) else 0)) (fun y2 =>
          f_dream_tiredTogether_4 N  μ  n x1 y2 (x3 + 1)))
def f_dream_tiredTogether (N : Nat)  (μ : sw_M) (a1 : Int32) : Option (Int32) :=
  f_dream_tiredTogether_4 N  μ  N a1 0 0
set_option maxRecDepth 100000 in
set_option maxHeartbeats 4000000 in
theorem ok_f_dream_tiredTogether_4 {G : sw_G} {ad : Nat → Nat} {ν : sw_N}   {N : Nat} {o : Int32} (g : sw_ok G cX2_tiredTogether "DeadWires$Days" (some .int) 1 0 0 ad) (hm : G.2.2.1.2.1.maxLocals = 4)  (μ : sw_M) (ho : sw_out G 0 0 (fun a => a = ad) (.inl (some (.int o))) lay0 μ ν)  : ∀ (n : Nat) (x1 : Int32) (x2 : Int32) (x3 : Int32) (h : f_dream_tiredTogether_4 N  μ  n x1 x2 x3 = some o), SW G ad lay0 ν 0 0 4 [some (.ref 57), some (.int x1), some (.int x2), some (.int x3)] [] μ := by
  intro n
  induction n with
  | zero => intro x1 x2 x3 h; simp only [f_dream_tiredTogether_4] at h; cases h
  | succ n ih =>
    intro x1 x2 x3 h
    unfold f_dream_tiredTogether_4 at h
    refine SW.iload_n (pc := 4) g (dt dt_X2_tiredTogether 4 rfl) rfl ?_
    refine SW.aload_n (pc := 5) g (dt dt_X2_tiredTogether 5 rfl) rfl ?_
    refine SW.getR (pc := 6) g (dt dt_X2_tiredTogether 6 rfl) fl_X2_27 cell_57 rfl ?_
    refine SW.getI (pc := 9) g (dt dt_X2_tiredTogether 7 rfl) fl_X2_113 cell_3 rfl ?_
    refine SW.icmp_ge (pc := 12) (t := 38) g (dt dt_X2_tiredTogether 8 rfl) rfl (fun hc => ?_) (fun hc => ?_)
    · have h := iteT hc h
      refine SW.iload_n (pc := 38) g (dt dt_X2_tiredTogether 24 rfl) rfl ?_
      exact SW.ireturn (pc := 39) g (leafI h ho) rfl (Nat.le_of_ble_eq_true rfl) (Nat.le_of_ble_eq_true rfl) (dt dt_X2_tiredTogether 25 rfl)
    · have h := iteF hc h
      refine SW.iload_n (pc := 15) g (dt dt_X2_tiredTogether 9 rfl) rfl ?_
      refine SW.iconst (pc := 16) (v := 0) g (dt dt_X2_tiredTogether 10 rfl) ki_0 ?_
      refine SW.aload_n (pc := 17) g (dt dt_X2_tiredTogether 11 rfl) rfl ?_
      refine SW.getR (pc := 18) g (dt dt_X2_tiredTogether 12 rfl) fl_X2_24 cell_57 rfl ?_
      refine SW.iload_n (pc := 21) g (dt dt_X2_tiredTogether 13 rfl) rfl ?_
      obtain ⟨hb1, h⟩ := inbI h
      refine SW.iaload (pc := 22) g (dt dt_X2_tiredTogether 14 rfl) cell_62 hb1 ?_
      refine SW.iconst (pc := 23) (v := 5) g (dt dt_X2_tiredTogether 15 rfl) ki_5 ?_
      refine SW.iload_n (pc := 24) g (dt dt_X2_tiredTogether 16 rfl) rfl ?_
      refine SW.imul (pc := 25) g (dt dt_X2_tiredTogether 17 rfl) ?_
      refine SW.isub (pc := 26) g (dt dt_X2_tiredTogether 18 rfl) ?_
      refine SW.mmax (pc := 27) g (dt dt_X2_tiredTogether 19 rfl) ml_X2_125 ms_J9_max_7cf53 mt_init me_J9_max_7cf53.1 (Nat.le_of_ble_eq_true rfl) (Nat.le_of_ble_eq_true rfl) (Nat.le_of_ble_eq_true rfl) (Nat.le_of_ble_eq_true rfl) ?_
      refine SW.iadd (pc := 30) g (dt dt_X2_tiredTogether 20 rfl) ?_
      refine SW.istore_n (pc := 31) g (dt dt_X2_tiredTogether 21 rfl) (sw_ltm hm (Nat.le_of_ble_eq_true rfl)) rfl ?_
      refine SW.genL h (fun y2 h => ?_)
      refine SW.iinc (pc := 32) (v := x3 + 1) g (dt dt_X2_tiredTogether 22 rfl) rfl (kn_1 _) (sw_ltm hm (Nat.le_of_ble_eq_true rfl)) rfl ?_
      refine SW.goto (pc := 35) (t := 4) g (dt dt_X2_tiredTogether 23 rfl) rfl ?_
      refine SW.msk [true, true, true, true] ?_
      exact ih  x1 y2 (x3 + 1) h
set_option maxRecDepth 100000 in
set_option maxHeartbeats 4000000 in
theorem ok_f_dream_tiredTogether {G : sw_G} {ad : Nat → Nat} {ν : sw_N}   {N : Nat} {o : Int32} (g : sw_ok G cX2_tiredTogether "DeadWires$Days" (some .int) 1 0 0 ad) (hm : G.2.2.1.2.1.maxLocals = 4)  (μ : sw_M) (ho : sw_out G 0 0 (fun a => a = ad) (.inl (some (.int o))) lay0 μ ν) (a1 : Int32) (h : f_dream_tiredTogether N  μ a1 = some o) : SW G ad lay0 ν 0 0 0 [some (.ref 57), some (.int a1), none, none] [] μ := by
  unfold f_dream_tiredTogether at h
  refine SW.iconst (pc := 0) (v := 0) g (dt dt_X2_tiredTogether 0 rfl) ki_0 ?_
  refine SW.istore_n (pc := 1) g (dt dt_X2_tiredTogether 1 rfl) (sw_ltm hm (Nat.le_of_ble_eq_true rfl)) rfl ?_
  refine SW.iconst (pc := 2) (v := 0) g (dt dt_X2_tiredTogether 2 rfl) ki_0 ?_
  refine SW.istore_n (pc := 3) g (dt dt_X2_tiredTogether 3 rfl) (sw_ltm hm (Nat.le_of_ble_eq_true rfl)) rfl ?_
  refine SW.msk [true, true, true, true] ?_
  exact ok_f_dream_tiredTogether_4  g hm  μ ho   N a1 0 0 h
set_option maxRecDepth 100000 in
set_option maxHeartbeats 4000000 in
theorem mt_f_dream_tiredTogether (l : Launch) (D : va_G) (cI cL : ClassId) (ad : Nat → Nat) (ν : sw_N)    (N : Nat) (μ : sw_M) (a1 : Int32) (o : Int32) (h : f_dream_tiredTogether N  μ a1 = some o) : MetR l D cI cL yX2_tiredTogether cX2_tiredTogether 4 (some .int) 1 0 0 (fun a => a = ad) ad [.ref 57, .int a1] lay0 μ ν (some (.int o)) lay0 μ ν :=
  MetR.of (n := 2) rfl (Nat.le_of_ble_eq_true rfl) (fun G g ho hm _ _ => ok_f_dream_tiredTogether  g hm  μ ho a1 h)
def f_sx_power_5 (N : Nat)  (μ : sw_M)  : Nat → Int32 → Int32 → Int64 → Int32 → Option (Int64)
  | 0, _, _, _, _ => none
  | n + 1, x0, x1, x2, x4 =>
    if x1 ≤ x4 then
      some x2
    else
      ibL (x2 * (x0.toInt64)) (fun y1 =>
        f_sx_power_5 N  μ  n x0 x1 y1 (x4 + 1))
def f_sx_power (N : Nat)  (μ : sw_M) (a0 : Int32) (a1 : Int32) : Option (Int64) :=
  f_sx_power_5 N  μ  N a0 a1 1 0
set_option maxRecDepth 100000 in
set_option maxHeartbeats 4000000 in
theorem ok_f_sx_power_5 {G : sw_G} {ad : Nat → Nat} {ν : sw_N} {L : sw_L}  {N : Nat} {o : Int64} (g : sw_ok G cX10_power "DeadWires" (some .long) 1 0 0 ad) (hm : G.2.2.1.2.1.maxLocals = 5)  (μ : sw_M) (ho : sw_out G 0 0 (fun a => a = ad) (.inl (some (.long o))) L μ ν)  : ∀ (n : Nat) (x0 : Int32) (x1 : Int32) (x2 : Int64) (x4 : Int32) (h : f_sx_power_5 N  μ  n x0 x1 x2 x4 = some o), SW G ad L ν 0 0 5 [some (.int x0), some (.int x1), some (.long x2), none, some (.int x4)] [] μ := by
  intro n
  induction n with
  | zero => intro x0 x1 x2 x4 h; simp only [f_sx_power_5] at h; cases h
  | succ n ih =>
    intro x0 x1 x2 x4 h
    unfold f_sx_power_5 at h
    refine SW.iload (pc := 5) g (dt dt_X10_power 4 rfl) rfl ?_
    refine SW.iload_n (pc := 7) g (dt dt_X10_power 5 rfl) rfl ?_
    refine SW.icmp_ge (pc := 8) (t := 22) g (dt dt_X10_power 6 rfl) rfl (fun hc => ?_) (fun hc => ?_)
    · have h := iteT hc h
      refine SW.lload_n (pc := 22) g (dt dt_X10_power 14 rfl) rfl ?_
      exact SW.lreturn (pc := 23) g (leafJ h ho) rfl (Nat.le_of_ble_eq_true rfl) (Nat.le_of_ble_eq_true rfl) (dt dt_X10_power 15 rfl)
    · have h := iteF hc h
      refine SW.lload_n (pc := 11) g (dt dt_X10_power 7 rfl) rfl ?_
      refine SW.iload_n (pc := 12) g (dt dt_X10_power 8 rfl) rfl ?_
      refine SW.i2l (pc := 13) g (dt dt_X10_power 9 rfl) ?_
      refine SW.lmul (pc := 14) g (dt dt_X10_power 10 rfl) ?_
      refine SW.lstore_n (pc := 15) g (dt dt_X10_power 11 rfl) (sw_ltm hm (Nat.le_of_ble_eq_true rfl)) rfl ?_
      refine SW.genJ h (fun y1 h => ?_)
      refine SW.iinc (pc := 16) (v := x4 + 1) g (dt dt_X10_power 12 rfl) rfl (kn_1 _) (sw_ltm hm (Nat.le_of_ble_eq_true rfl)) rfl ?_
      refine SW.goto (pc := 19) (t := 5) g (dt dt_X10_power 13 rfl) rfl ?_
      refine SW.msk [true, true, true, false, true] ?_
      exact ih  x0 x1 y1 (x4 + 1) h
set_option maxRecDepth 100000 in
set_option maxHeartbeats 4000000 in
theorem ok_f_sx_power {G : sw_G} {ad : Nat → Nat} {ν : sw_N} {L : sw_L}  {N : Nat} {o : Int64} (g : sw_ok G cX10_power "DeadWires" (some .long) 1 0 0 ad) (hm : G.2.2.1.2.1.maxLocals = 5)  (μ : sw_M) (ho : sw_out G 0 0 (fun a => a = ad) (.inl (some (.long o))) L μ ν) (a0 : Int32) (a1 : Int32) (h : f_sx_power N  μ a0 a1 = some o) : SW G ad L ν 0 0 0 [some (.int a0), some (.int a1), none, none, none] [] μ := by
  unfold f_sx_power at h
  refine SW.lconst (pc := 0) (v := 1) g (dt dt_X10_power 0 rfl) rfl ?_
  refine SW.lstore_n (pc := 1) g (dt dt_X10_power 1 rfl) (sw_ltm hm (Nat.le_of_ble_eq_true rfl)) rfl ?_
  refine SW.iconst (pc := 2) (v := 0) g (dt dt_X10_power 2 rfl) ki_0 ?_
  refine SW.istore (pc := 3) g (dt dt_X10_power 3 rfl) (sw_ltm hm (Nat.le_of_ble_eq_true rfl)) rfl ?_
  refine SW.msk [true, true, true, false, true] ?_
  exact ok_f_sx_power_5  g hm  μ ho   N a0 a1 1 0 h
set_option maxRecDepth 100000 in
set_option maxHeartbeats 4000000 in
theorem mt_f_sx_power (l : Launch) (D : va_G) (cI cL : ClassId) (ad : Nat → Nat) (ν : sw_N) (L : sw_L)   (N : Nat) (μ : sw_M) (a0 : Int32) (a1 : Int32) (o : Int64) (h : f_sx_power N  μ a0 a1 = some o) : MetR l D cI cL yX10_power cX10_power 5 (some .long) 1 0 0 (fun a => a = ad) ad [.int a0, .int a1] L μ ν (some (.long o)) L μ ν :=
  MetR.of (n := 3) rfl (Nat.le_of_ble_eq_true rfl) (fun G g ho hm _ _ => ok_f_sx_power  g hm  μ ho a0 a1 h)
def f_sx_greatestDivisor_9 (N : Nat)  (μ : sw_M)  : Nat → Int64 → Int64 → Int32 → Option (Int64)
  | 0, _, _, _ => none
  | n + 1, x4, x6, x8 =>
    if 128 ≤ x8 then
      some x4
    else
      if (lg_cmp x6 0) = 0 then
        some x4
      else
        nzL x6
          (ibL (x4 - x4 / x6 * x6) (fun y2 =>
            f_sx_greatestDivisor_9 N  μ  n x6 y2 (x8 + 1)))
def f_sx_greatestDivisor (N : Nat)  (μ : sw_M) (a0 : Int64) (a2 : Int64) : Option (Int64) :=
  f_sx_greatestDivisor_9 N  μ  N a0 a2 0
set_option maxRecDepth 100000 in
set_option maxHeartbeats 4000000 in
theorem ok_f_sx_greatestDivisor_9 {G : sw_G} {ad : Nat → Nat} {ν : sw_N} {L : sw_L}  {N : Nat} {o : Int64} (g : sw_ok G cX10_greatestDivisor "DeadWires" (some .long) 1 0 0 ad) (hm : G.2.2.1.2.1.maxLocals = 11)  (μ : sw_M) (ho : sw_out G 0 0 (fun a => a = ad) (.inl (some (.long o))) L μ ν)  : ∀ (n : Nat) (x4 : Int64) (x6 : Int64) (x8 : Int32) (h : f_sx_greatestDivisor_9 N  μ  n x4 x6 x8 = some o), SW G ad L ν 0 0 9 [none, none, none, none, some (.long x4), none, some (.long x6), none, some (.int x8), none, none] [] μ := by
  intro n
  induction n with
  | zero => intro x4 x6 x8 h; simp only [f_sx_greatestDivisor_9] at h; cases h
  | succ n ih =>
    intro x4 x6 x8 h
    unfold f_sx_greatestDivisor_9 at h
    refine SW.iload (pc := 9) g (dt dt_X10_greatestDivisor 6 rfl) rfl ?_
    refine SW.sipush (pc := 11) (v := 128) g (dt dt_X10_greatestDivisor 7 rfl) ks_128 ?_
    refine SW.icmp_ge (pc := 14) (t := 45) g (dt dt_X10_greatestDivisor 8 rfl) rfl (fun hc => ?_) (fun hc => ?_)
    · have h := iteT hc h
      refine SW.lload (pc := 45) g (dt dt_X10_greatestDivisor 23 rfl) rfl ?_
      exact SW.lreturn (pc := 47) g (leafJ h ho) rfl (Nat.le_of_ble_eq_true rfl) (Nat.le_of_ble_eq_true rfl) (dt dt_X10_greatestDivisor 24 rfl)
    · have h := iteF hc h
      refine SW.lload (pc := 17) g (dt dt_X10_greatestDivisor 9 rfl) rfl ?_
      refine SW.lconst (pc := 19) (v := 0) g (dt dt_X10_greatestDivisor 10 rfl) rfl ?_
      refine SW.lcmp (pc := 20) g (dt dt_X10_greatestDivisor 11 rfl) ?_
      refine SW.if_eq (pc := 21) (t := 45) g (dt dt_X10_greatestDivisor 12 rfl) rfl (fun hc => ?_) (fun hc => ?_)
      · have h := iteT hc h
        refine SW.lload (pc := 45) g (dt dt_X10_greatestDivisor 23 rfl) rfl ?_
        exact SW.lreturn (pc := 47) g (leafJ h ho) rfl (Nat.le_of_ble_eq_true rfl) (Nat.le_of_ble_eq_true rfl) (dt dt_X10_greatestDivisor 24 rfl)
      · have h := iteF hc h
        refine SW.lload (pc := 24) g (dt dt_X10_greatestDivisor 13 rfl) rfl ?_
        refine SW.lload (pc := 26) g (dt dt_X10_greatestDivisor 14 rfl) rfl ?_
        obtain ⟨hz1, h⟩ := nzLI h
        refine SW.lrem (pc := 28) g (dt dt_X10_greatestDivisor 15 rfl) hz1 ?_
        refine SW.lstore (pc := 29) g (dt dt_X10_greatestDivisor 16 rfl) (sw_ltm hm (Nat.le_of_ble_eq_true rfl)) rfl ?_
        refine SW.genJ h (fun y2 h => ?_)
        refine SW.lload (pc := 31) g (dt dt_X10_greatestDivisor 17 rfl) rfl ?_
        refine SW.lstore (pc := 33) g (dt dt_X10_greatestDivisor 18 rfl) (sw_ltm hm (Nat.le_of_ble_eq_true rfl)) rfl ?_
        refine SW.lload (pc := 35) g (dt dt_X10_greatestDivisor 19 rfl) rfl ?_
        refine SW.lstore (pc := 37) g (dt dt_X10_greatestDivisor 20 rfl) (sw_ltm hm (Nat.le_of_ble_eq_true rfl)) rfl ?_
        refine SW.iinc (pc := 39) (v := x8 + 1) g (dt dt_X10_greatestDivisor 21 rfl) rfl (kn_1 _) (sw_ltm hm (Nat.le_of_ble_eq_true rfl)) rfl ?_
        refine SW.goto (pc := 42) (t := 9) g (dt dt_X10_greatestDivisor 22 rfl) rfl ?_
        refine SW.msk [false, false, false, false, true, false, true, false, true, false, false] ?_
        exact ih  x6 y2 (x8 + 1) h
set_option maxRecDepth 100000 in
set_option maxHeartbeats 4000000 in
theorem ok_f_sx_greatestDivisor {G : sw_G} {ad : Nat → Nat} {ν : sw_N} {L : sw_L}  {N : Nat} {o : Int64} (g : sw_ok G cX10_greatestDivisor "DeadWires" (some .long) 1 0 0 ad) (hm : G.2.2.1.2.1.maxLocals = 11)  (μ : sw_M) (ho : sw_out G 0 0 (fun a => a = ad) (.inl (some (.long o))) L μ ν) (a0 : Int64) (a2 : Int64) (h : f_sx_greatestDivisor N  μ a0 a2 = some o) : SW G ad L ν 0 0 0 [some (.long a0), none, some (.long a2), none, none, none, none, none, none, none, none] [] μ := by
  unfold f_sx_greatestDivisor at h
  refine SW.lload_n (pc := 0) g (dt dt_X10_greatestDivisor 0 rfl) rfl ?_
  refine SW.lstore (pc := 1) g (dt dt_X10_greatestDivisor 1 rfl) (sw_ltm hm (Nat.le_of_ble_eq_true rfl)) rfl ?_
  refine SW.lload_n (pc := 3) g (dt dt_X10_greatestDivisor 2 rfl) rfl ?_
  refine SW.lstore (pc := 4) g (dt dt_X10_greatestDivisor 3 rfl) (sw_ltm hm (Nat.le_of_ble_eq_true rfl)) rfl ?_
  refine SW.iconst (pc := 6) (v := 0) g (dt dt_X10_greatestDivisor 4 rfl) ki_0 ?_
  refine SW.istore (pc := 7) g (dt dt_X10_greatestDivisor 5 rfl) (sw_ltm hm (Nat.le_of_ble_eq_true rfl)) rfl ?_
  refine SW.msk [false, false, false, false, true, false, true, false, true, false, false] ?_
  exact ok_f_sx_greatestDivisor_9  g hm  μ ho   N a0 a2 0 h
set_option maxRecDepth 100000 in
set_option maxHeartbeats 4000000 in
theorem mt_f_sx_greatestDivisor (l : Launch) (D : va_G) (cI cL : ClassId) (ad : Nat → Nat) (ν : sw_N) (L : sw_L)   (N : Nat) (μ : sw_M) (a0 : Int64) (a2 : Int64) (o : Int64) (h : f_sx_greatestDivisor N  μ a0 a2 = some o) : MetR l D cI cL yX10_greatestDivisor cX10_greatestDivisor 11 (some .long) 1 0 0 (fun a => a = ad) ad [.long a0, .long a2] L μ ν (some (.long o)) L μ ν :=
  MetR.of (n := 7) rfl (Nat.le_of_ble_eq_true rfl) (fun G g ho hm _ _ => ok_f_sx_greatestDivisor  g hm  μ ho a0 a2 h)
def f_sx_gain (N : Nat)  (μ : sw_M) (a0 : Int32) (a1 : Int32) (a2 : Int32) (a3 : Int32) : Option (Int32) :=
  if a2 = 0 then
    if a3 = 0 then
      some a0
    else
      some (-a1)
  else
    some 0
set_option maxRecDepth 100000 in
set_option maxHeartbeats 4000000 in
theorem ok_f_sx_gain {G : sw_G} {ad : Nat → Nat} {ν : sw_N} {L : sw_L}  {N : Nat} {o : Int32} (g : sw_ok G cX10_gain "DeadWires" (some .int) 1 0 0 ad) (hm : G.2.2.1.2.1.maxLocals = 4)  (μ : sw_M) (ho : sw_out G 0 0 (fun a => a = ad) (.inl (some (.int o))) L μ ν) (a0 : Int32) (a1 : Int32) (a2 : Int32) (a3 : Int32) (h : f_sx_gain N  μ a0 a1 a2 a3 = some o) : SW G ad L ν 0 0 0 [some (.int a0), some (.int a1), some (.int a2), some (.int a3)] [] μ := by
  unfold f_sx_gain at h
  refine SW.iload_n (pc := 0) g (dt dt_X10_gain 0 rfl) rfl ?_
  refine SW.if_eq (pc := 1) (t := 6) g (dt dt_X10_gain 1 rfl) rfl (fun hc => ?_) (fun hc => ?_)
  · have h := iteT hc h
    refine SW.iload_n (pc := 6) g (dt dt_X10_gain 4 rfl) rfl ?_
    refine SW.if_ne (pc := 7) (t := 14) g (dt dt_X10_gain 5 rfl) rfl (fun hc => ?_) (fun hc => ?_)
    · have h := iteF hc h
      refine SW.iload_n (pc := 14) g (dt dt_X10_gain 8 rfl) rfl ?_
      refine SW.ineg (pc := 15) g (dt dt_X10_gain 9 rfl) ?_
      exact SW.ireturn (pc := 16) g (leafI h ho) rfl (Nat.le_of_ble_eq_true rfl) (Nat.le_of_ble_eq_true rfl) (dt dt_X10_gain 10 rfl)
    · have h := iteT hc h
      refine SW.iload_n (pc := 10) g (dt dt_X10_gain 6 rfl) rfl ?_
      refine SW.goto (pc := 11) (t := 16) g (dt dt_X10_gain 7 rfl) rfl ?_
      exact SW.ireturn (pc := 16) g (leafI h ho) rfl (Nat.le_of_ble_eq_true rfl) (Nat.le_of_ble_eq_true rfl) (dt dt_X10_gain 10 rfl)
  · have h := iteF hc h
    refine SW.iconst (pc := 4) (v := 0) g (dt dt_X10_gain 2 rfl) ki_0 ?_
    exact SW.ireturn (pc := 5) g (leafI h ho) rfl (Nat.le_of_ble_eq_true rfl) (Nat.le_of_ble_eq_true rfl) (dt dt_X10_gain 3 rfl)
set_option maxRecDepth 100000 in
set_option maxHeartbeats 4000000 in
theorem mt_f_sx_gain (l : Launch) (D : va_G) (cI cL : ClassId) (ad : Nat → Nat) (ν : sw_N) (L : sw_L)   (N : Nat) (μ : sw_M) (a0 : Int32) (a1 : Int32) (a2 : Int32) (a3 : Int32) (o : Int32) (h : f_sx_gain N  μ a0 a1 a2 a3 = some o) : MetR l D cI cL yX10_gain cX10_gain 4 (some .int) 1 0 0 (fun a => a = ad) ad [.int a0, .int a1, .int a2, .int a3] L μ ν (some (.int o)) L μ ν :=
  MetR.of (n := 0) rfl (Nat.le_of_ble_eq_true rfl) (fun G g ho hm _ _ => ok_f_sx_gain  g hm  μ ho a0 a1 a2 a3 h)
def f_sx_rests (N : Nat)  (μ : sw_M) (a0 : Int32) (a1 : Int32) (a2 : Int32) (a3 : Int32) : Option (Int32) :=
  Option.bind (f_sx_gain N  μ a0 a1 a2 a3) (fun r1 =>
    Option.bind (f_sx_gain N  μ a0 a1 ((1 : Int32) - a2) a3) (fun r3 =>
      if r1 < r3 then
        some 0
      else
        Option.bind (f_sx_gain N  μ a0 a1 a3 a2) (fun r5 =>
          Option.bind (f_sx_gain N  μ a0 a1 ((1 : Int32) - a3) a2) (fun r7 =>
            if r5 < r7 then
              some 0
            else
              some 1))))
set_option maxRecDepth 100000 in
set_option maxHeartbeats 4000000 in
theorem ok_f_sx_rests {G : sw_G} {ad : Nat → Nat} {ν : sw_N} {L : sw_L}  {N : Nat} {o : Int32} (g : sw_ok G cX10_rests "DeadWires" (some .boolean) 2 0 0 ad) (hm : G.2.2.1.2.1.maxLocals = 4)  (μ : sw_M) (ho : sw_out G 0 0 (fun a => a = ad) (.inl (some (.int o))) L μ ν) (a0 : Int32) (a1 : Int32) (a2 : Int32) (a3 : Int32) (h : f_sx_rests N  μ a0 a1 a2 a3 = some o) : SW G ad L ν 0 0 0 [some (.int a0), some (.int a1), some (.int a2), some (.int a3)] [] μ := by
  unfold f_sx_rests at h
  refine SW.iload_n (pc := 0) g (dt dt_X10_rests 0 rfl) rfl ?_
  refine SW.iload_n (pc := 1) g (dt dt_X10_rests 1 rfl) rfl ?_
  refine SW.iload_n (pc := 2) g (dt dt_X10_rests 2 rfl) rfl ?_
  refine SW.iload_n (pc := 3) g (dt dt_X10_rests 3 rfl) rfl ?_
  obtain ⟨r1, h2, h⟩ := bindI h
  refine SW.callSi (pc := 4) g (dt dt_X10_rests 4 rfl) (mt_f_sx_gain _ _ _ _ ad ν L   N μ a0 a1 a2 a3 r1 h2) me_X10_gain ms_X10_gain ml_X10_360 rfl (Nat.le_of_ble_eq_true rfl) (Nat.le_of_ble_eq_true rfl) (Nat.le_of_ble_eq_true rfl) (Nat.le_of_ble_eq_true rfl) rfl ?_
  refine SW.iload_n (pc := 7) g (dt dt_X10_rests 5 rfl) rfl ?_
  refine SW.iload_n (pc := 8) g (dt dt_X10_rests 6 rfl) rfl ?_
  refine SW.iconst (pc := 9) (v := 1) g (dt dt_X10_rests 7 rfl) ki_1 ?_
  refine SW.iload_n (pc := 10) g (dt dt_X10_rests 8 rfl) rfl ?_
  refine SW.isub (pc := 11) g (dt dt_X10_rests 9 rfl) ?_
  refine SW.iload_n (pc := 12) g (dt dt_X10_rests 10 rfl) rfl ?_
  obtain ⟨r3, h4, h⟩ := bindI h
  refine SW.callSi (pc := 13) g (dt dt_X10_rests 11 rfl) (mt_f_sx_gain _ _ _ _ ad ν L   N μ a0 a1 ((1 : Int32) - a2) a3 r3 h4) me_X10_gain ms_X10_gain ml_X10_360 rfl (Nat.le_of_ble_eq_true rfl) (Nat.le_of_ble_eq_true rfl) (Nat.le_of_ble_eq_true rfl) (Nat.le_of_ble_eq_true rfl) rfl ?_
  refine SW.icmp_lt (pc := 16) (t := 42) g (dt dt_X10_rests 12 rfl) rfl (fun hc => ?_) (fun hc => ?_)
  · have h := iteT hc h
    refine SW.iconst (pc := 42) (v := 0) g (dt dt_X10_rests 28 rfl) ki_0 ?_
    exact SW.zreturn (pc := 43) g (leafI h ho) rfl (Nat.le_of_ble_eq_true rfl) (Nat.le_of_ble_eq_true rfl) (by decide) (dt dt_X10_rests 29 rfl)
  · have h := iteF hc h
    refine SW.iload_n (pc := 19) g (dt dt_X10_rests 13 rfl) rfl ?_
    refine SW.iload_n (pc := 20) g (dt dt_X10_rests 14 rfl) rfl ?_
    refine SW.iload_n (pc := 21) g (dt dt_X10_rests 15 rfl) rfl ?_
    refine SW.iload_n (pc := 22) g (dt dt_X10_rests 16 rfl) rfl ?_
    obtain ⟨r5, h6, h⟩ := bindI h
    refine SW.callSi (pc := 23) g (dt dt_X10_rests 17 rfl) (mt_f_sx_gain _ _ _ _ ad ν L   N μ a0 a1 a3 a2 r5 h6) me_X10_gain ms_X10_gain ml_X10_360 rfl (Nat.le_of_ble_eq_true rfl) (Nat.le_of_ble_eq_true rfl) (Nat.le_of_ble_eq_true rfl) (Nat.le_of_ble_eq_true rfl) rfl ?_
    refine SW.iload_n (pc := 26) g (dt dt_X10_rests 18 rfl) rfl ?_
    refine SW.iload_n (pc := 27) g (dt dt_X10_rests 19 rfl) rfl ?_
    refine SW.iconst (pc := 28) (v := 1) g (dt dt_X10_rests 20 rfl) ki_1 ?_
    refine SW.iload_n (pc := 29) g (dt dt_X10_rests 21 rfl) rfl ?_
    refine SW.isub (pc := 30) g (dt dt_X10_rests 22 rfl) ?_
    refine SW.iload_n (pc := 31) g (dt dt_X10_rests 23 rfl) rfl ?_
    obtain ⟨r7, h8, h⟩ := bindI h
    refine SW.callSi (pc := 32) g (dt dt_X10_rests 24 rfl) (mt_f_sx_gain _ _ _ _ ad ν L   N μ a0 a1 ((1 : Int32) - a3) a2 r7 h8) me_X10_gain ms_X10_gain ml_X10_360 rfl (Nat.le_of_ble_eq_true rfl) (Nat.le_of_ble_eq_true rfl) (Nat.le_of_ble_eq_true rfl) (Nat.le_of_ble_eq_true rfl) rfl ?_
    refine SW.icmp_lt (pc := 35) (t := 42) g (dt dt_X10_rests 25 rfl) rfl (fun hc => ?_) (fun hc => ?_)
    · have h := iteT hc h
      refine SW.iconst (pc := 42) (v := 0) g (dt dt_X10_rests 28 rfl) ki_0 ?_
      exact SW.zreturn (pc := 43) g (leafI h ho) rfl (Nat.le_of_ble_eq_true rfl) (Nat.le_of_ble_eq_true rfl) (by decide) (dt dt_X10_rests 29 rfl)
    · have h := iteF hc h
      refine SW.iconst (pc := 38) (v := 1) g (dt dt_X10_rests 26 rfl) ki_1 ?_
      refine SW.goto (pc := 39) (t := 43) g (dt dt_X10_rests 27 rfl) rfl ?_
      exact SW.zreturn (pc := 43) g (leafI h ho) rfl (Nat.le_of_ble_eq_true rfl) (Nat.le_of_ble_eq_true rfl) (by decide) (dt dt_X10_rests 29 rfl)
set_option maxRecDepth 100000 in
set_option maxHeartbeats 4000000 in
theorem mt_f_sx_rests (l : Launch) (D : va_G) (cI cL : ClassId) (ad : Nat → Nat) (ν : sw_N) (L : sw_L)   (N : Nat) (μ : sw_M) (a0 : Int32) (a1 : Int32) (a2 : Int32) (a3 : Int32) (o : Int32) (h : f_sx_rests N  μ a0 a1 a2 a3 = some o) : MetR l D cI cL yX10_rests cX10_rests 4 (some .boolean) 2 0 0 (fun a => a = ad) ad [.int a0, .int a1, .int a2, .int a3] L μ ν (some (.int o)) L μ ν :=
  MetR.of (n := 0) rfl (Nat.le_of_ble_eq_true rfl) (fun G g ho hm _ _ => ok_f_sx_rests  g hm  μ ho a0 a1 a2 a3 h)
