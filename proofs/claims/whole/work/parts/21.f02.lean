/-! ===== by program (wip/whole/all.py): functions over the memory, and that the machine does just that ===== -/
def f_m_wire (N : Nat)  (μ : sw_M) (a1 : Int32) (a2 : Int32) : Option (Int32 × sw_M) :=
  wb (wr μ 63 0 0) (fun μ1 =>
    Option.bind (f_m_isWire N  μ1 a1 1) (fun r2 =>
      if r2.1 = 0 then
        some (0, r2.2)
      else
        Option.bind (f_sm_within N  r2.2 a2 0 6) (fun r4 =>
          Option.bind (f_m_may N  r2.2 r4 2 1) (fun r6 =>
            if r6.1 = 0 then
              some (0, r6.2)
            else
              Option.bind (f_m_take N  r6.2 ) (fun r8 =>
                if 4 ≤ a2 then
                  if a2 = 4 then
                    Option.bind (f_m_isLive N  r8 a1 0 0) (fun r13 =>
                      if r13 = 0 then
                        some (0, r8)
                      else
                        some (1, r8))
                  else
                    if a2 = 5 then
                      inb ((12 : Int32) + a1) 49 (
                        some (r8 81 ((12 : Int32) + a1).toNatClampNeg, r8))
                    else
                      Option.bind (f_m_leftOf N  r8 a1) (fun r10 =>
                        some (r10, r8))
                else
                  if 2 ≤ a2 then
                    if a2 = 2 then
                      inb ((0 : Int32) + a1) 49 (
                        some (r8 81 ((0 : Int32) + a1).toNatClampNeg, r8))
                    else
                      inb (((3 : Int32) * a1) + 2) 36 (
                        some (r8 69 (((3 : Int32) * a1) + 2).toNatClampNeg, r8))
                  else
                    inb (((3 : Int32) * a1) + a2) 36 (
                      some (r8 69 (((3 : Int32) * a1) + a2).toNatClampNeg, r8)))))))
set_option maxRecDepth 100000 in
set_option maxHeartbeats 4000000 in
theorem ok_f_m_wire {G : sw_G} {ad : Nat → Nat} {ν : sw_N}   {N : Nat} {o : Int32 × sw_M} (g : sw_ok G cX11_wire "DeadWiresModel" (some .int) 3 0 0 ad) (hm : G.2.2.1.2.1.maxLocals = 3)  (μ : sw_M) (ho : sw_out G 0 0 (fun a => a = ad) (.inl (some (.int o.1))) lay0 o.2 ν) (a1 : Int32) (a2 : Int32) (h : f_m_wire N  μ a1 a2 = some o) : SW G ad lay0 ν 0 0 0 [some (.ref 63), some (.int a1), some (.int a2)] [] μ := by
  unfold f_m_wire at h
  refine SW.aload_n (pc := 0) g (dt dt_X11_wire 0 rfl) rfl ?_
  refine SW.iconst (pc := 1) (v := 0) g (dt dt_X11_wire 1 rfl) ki_0 ?_
  refine SW.putI (pc := 2) g (dt dt_X11_wire 2 rfl) fl_X11_3 cell_63 rfl ?_
  refine SW.genM h (fun μ1 h => ?_)
  refine SW.aload_n (pc := 5) g (dt dt_X11_wire 3 rfl) rfl ?_
  refine SW.iload_n (pc := 6) g (dt dt_X11_wire 4 rfl) rfl ?_
  refine SW.iconst (pc := 7) (v := 1) g (dt dt_X11_wire 5 rfl) ki_1 ?_
  obtain ⟨r2, h3, h⟩ := bindI h
  refine SW.callVi (pc := 8) g (dt dt_X11_wire 6 rfl) (mt_f_m_isWire _ _ _ _ ad ν   N μ1 a1 1 r2 h3) me_X11_isWire mv_X11_isWire ml_X11_395 cell_63 rfl rfl (Nat.le_of_ble_eq_true rfl) (Nat.le_of_ble_eq_true rfl) (Nat.le_of_ble_eq_true rfl) (Nat.le_of_ble_eq_true rfl) rfl ?_
  refine SW.if_eq (pc := 11) (t := 30) g (dt dt_X11_wire 7 rfl) rfl (fun hc => ?_) (fun hc => ?_)
  · have h := iteT hc h
    refine SW.iconst (pc := 30) (v := 0) g (dt dt_X11_wire 17 rfl) ki_0 ?_
    exact SW.ireturn (pc := 31) g (leafW h ho) rfl (Nat.le_of_ble_eq_true rfl) (Nat.le_of_ble_eq_true rfl) (dt dt_X11_wire 18 rfl)
  · have h := iteF hc h
    refine SW.aload_n (pc := 14) g (dt dt_X11_wire 8 rfl) rfl ?_
    refine SW.iload_n (pc := 15) g (dt dt_X11_wire 9 rfl) rfl ?_
    refine SW.iconst (pc := 16) (v := 0) g (dt dt_X11_wire 10 rfl) ki_0 ?_
    refine SW.bipush (pc := 17) (v := 6) g (dt dt_X11_wire 11 rfl) kb_6 ?_
    obtain ⟨r4, h5, h⟩ := bindI h
    refine SW.callSi (pc := 19) g (dt dt_X11_wire 12 rfl) (mt_f_sm_within _ _ _ _ ad ν lay0   N r2.2 a2 0 6 r4 h5) me_X11_within ms_X11_within ml_X11_374 rfl (Nat.le_of_ble_eq_true rfl) (Nat.le_of_ble_eq_true rfl) (Nat.le_of_ble_eq_true rfl) (Nat.le_of_ble_eq_true rfl) rfl ?_
    refine SW.iconst (pc := 22) (v := 2) g (dt dt_X11_wire 13 rfl) ki_2 ?_
    refine SW.iconst (pc := 23) (v := 1) g (dt dt_X11_wire 14 rfl) ki_1 ?_
    obtain ⟨r6, h7, h⟩ := bindI h
    refine SW.callVi (pc := 24) g (dt dt_X11_wire 15 rfl) (mt_f_m_may _ _ _ _ ad ν   N r2.2 r4 2 1 r6 h7) me_X11_may mv_X11_may ml_X11_204 cell_63 rfl rfl (Nat.le_of_ble_eq_true rfl) (Nat.le_of_ble_eq_true rfl) (Nat.le_of_ble_eq_true rfl) (Nat.le_of_ble_eq_true rfl) rfl ?_
    refine SW.if_ne (pc := 27) (t := 32) g (dt dt_X11_wire 16 rfl) rfl (fun hc => ?_) (fun hc => ?_)
    · have h := iteF hc h
      refine SW.aload_n (pc := 32) g (dt dt_X11_wire 19 rfl) rfl ?_
      obtain ⟨r8, h9, h⟩ := bindI h
      refine SW.callVv (pc := 33) g (dt dt_X11_wire 20 rfl) (mt_f_m_take _ _ _ _ ad ν   N r6.2  r8 h9) me_X11_take mv_X11_take ml_X11_305 cell_63 rfl rfl (Nat.le_of_ble_eq_true rfl) (Nat.le_of_ble_eq_true rfl) (Nat.le_of_ble_eq_true rfl) (Nat.le_of_ble_eq_true rfl) rfl ?_
      refine SW.iload_n (pc := 36) g (dt dt_X11_wire 21 rfl) rfl ?_
      refine SW.iconst (pc := 37) (v := 4) g (dt dt_X11_wire 22 rfl) ki_4 ?_
      refine SW.icmp_ge (pc := 38) (t := 86) g (dt dt_X11_wire 23 rfl) rfl (fun hc => ?_) (fun hc => ?_)
      · have h := iteT hc h
        refine SW.iload_n (pc := 86) g (dt dt_X11_wire 55 rfl) rfl ?_
        refine SW.iconst (pc := 87) (v := 4) g (dt dt_X11_wire 56 rfl) ki_4 ?_
        refine SW.icmp_ne (pc := 88) (t := 109) g (dt dt_X11_wire 57 rfl) rfl (fun hc => ?_) (fun hc => ?_)
        · have h := iteF hc h
          refine SW.iload_n (pc := 109) g (dt dt_X11_wire 68 rfl) rfl ?_
          refine SW.iconst (pc := 110) (v := 5) g (dt dt_X11_wire 69 rfl) ki_5 ?_
          refine SW.icmp_ne (pc := 111) (t := 126) g (dt dt_X11_wire 70 rfl) rfl (fun hc => ?_) (fun hc => ?_)
          · have h := iteF hc h
            refine SW.aload_n (pc := 126) g (dt dt_X11_wire 78 rfl) rfl ?_
            refine SW.iload_n (pc := 127) g (dt dt_X11_wire 79 rfl) rfl ?_
            obtain ⟨r10, h11, h⟩ := bindI h
            refine SW.callVi (pc := 128) g (dt dt_X11_wire 80 rfl) (mt_f_m_leftOf _ _ _ _ ad ν   N r8 a1 r10 h11) me_X11_leftOf mv_X11_leftOf ml_X11_340 cell_63 rfl rfl (Nat.le_of_ble_eq_true rfl) (Nat.le_of_ble_eq_true rfl) (Nat.le_of_ble_eq_true rfl) (Nat.le_of_ble_eq_true rfl) rfl ?_
            exact SW.ireturn (pc := 131) g (leafW h ho) rfl (Nat.le_of_ble_eq_true rfl) (Nat.le_of_ble_eq_true rfl) (dt dt_X11_wire 81 rfl)
          · have h := iteT hc h
            refine SW.aload_n (pc := 114) g (dt dt_X11_wire 71 rfl) rfl ?_
            refine SW.getR (pc := 115) g (dt dt_X11_wire 72 rfl) fl_X11_68 cell_63 rfl ?_
            refine SW.bipush (pc := 118) (v := 12) g (dt dt_X11_wire 73 rfl) kb_12 ?_
            refine SW.iload_n (pc := 120) g (dt dt_X11_wire 74 rfl) rfl ?_
            refine SW.iadd (pc := 121) g (dt dt_X11_wire 75 rfl) ?_
            obtain ⟨hb12, h⟩ := inbI h
            refine SW.iaload (pc := 122) g (dt dt_X11_wire 76 rfl) cell_81 hb12 ?_
            refine SW.goto (pc := 123) (t := 131) g (dt dt_X11_wire 77 rfl) rfl ?_
            exact SW.ireturn (pc := 131) g (leafW h ho) rfl (Nat.le_of_ble_eq_true rfl) (Nat.le_of_ble_eq_true rfl) (dt dt_X11_wire 81 rfl)
        · have h := iteT hc h
          refine SW.aload_n (pc := 91) g (dt dt_X11_wire 58 rfl) rfl ?_
          refine SW.iload_n (pc := 92) g (dt dt_X11_wire 59 rfl) rfl ?_
          refine SW.iconst (pc := 93) (v := 0) g (dt dt_X11_wire 60 rfl) ki_0 ?_
          refine SW.iconst (pc := 94) (v := 0) g (dt dt_X11_wire 61 rfl) ki_0 ?_
          obtain ⟨r13, h14, h⟩ := bindI h
          refine SW.callVi (pc := 95) g (dt dt_X11_wire 62 rfl) (mt_f_m_isLive _ _ _ _ ad ν   N r8 a1 0 0 r13 h14) me_X11_isLive mv_X11_isLive ml_X11_350 cell_63 rfl rfl (Nat.le_of_ble_eq_true rfl) (Nat.le_of_ble_eq_true rfl) (Nat.le_of_ble_eq_true rfl) (Nat.le_of_ble_eq_true rfl) rfl ?_
          refine SW.if_eq (pc := 98) (t := 105) g (dt dt_X11_wire 63 rfl) rfl (fun hc => ?_) (fun hc => ?_)
          · have h := iteT hc h
            refine SW.iconst (pc := 105) (v := 0) g (dt dt_X11_wire 66 rfl) ki_0 ?_
            refine SW.goto (pc := 106) (t := 131) g (dt dt_X11_wire 67 rfl) rfl ?_
            exact SW.ireturn (pc := 131) g (leafW h ho) rfl (Nat.le_of_ble_eq_true rfl) (Nat.le_of_ble_eq_true rfl) (dt dt_X11_wire 81 rfl)
          · have h := iteF hc h
            refine SW.iconst (pc := 101) (v := 1) g (dt dt_X11_wire 64 rfl) ki_1 ?_
            refine SW.goto (pc := 102) (t := 131) g (dt dt_X11_wire 65 rfl) rfl ?_
            exact SW.ireturn (pc := 131) g (leafW h ho) rfl (Nat.le_of_ble_eq_true rfl) (Nat.le_of_ble_eq_true rfl) (dt dt_X11_wire 81 rfl)
      · have h := iteF hc h
        refine SW.iload_n (pc := 41) g (dt dt_X11_wire 24 rfl) rfl ?_
        refine SW.iconst (pc := 42) (v := 2) g (dt dt_X11_wire 25 rfl) ki_2 ?_
        refine SW.icmp_ge (pc := 43) (t := 59) g (dt dt_X11_wire 26 rfl) rfl (fun hc => ?_) (fun hc => ?_)
        · have h := iteT hc h
          refine SW.iload_n (pc := 59) g (dt dt_X11_wire 36 rfl) rfl ?_
          refine SW.iconst (pc := 60) (v := 2) g (dt dt_X11_wire 37 rfl) ki_2 ?_
          refine SW.icmp_ne (pc := 61) (t := 75) g (dt dt_X11_wire 38 rfl) rfl (fun hc => ?_) (fun hc => ?_)
          · have h := iteF hc h
            refine SW.aload_n (pc := 75) g (dt dt_X11_wire 46 rfl) rfl ?_
            refine SW.getR (pc := 76) g (dt dt_X11_wire 47 rfl) fl_X11_32 cell_63 rfl ?_
            refine SW.iconst (pc := 79) (v := 3) g (dt dt_X11_wire 48 rfl) ki_3 ?_
            refine SW.iload_n (pc := 80) g (dt dt_X11_wire 49 rfl) rfl ?_
            refine SW.imul (pc := 81) g (dt dt_X11_wire 50 rfl) ?_
            refine SW.iconst (pc := 82) (v := 2) g (dt dt_X11_wire 51 rfl) ki_2 ?_
            refine SW.iadd (pc := 83) g (dt dt_X11_wire 52 rfl) ?_
            obtain ⟨hb15, h⟩ := inbI h
            refine SW.iaload (pc := 84) g (dt dt_X11_wire 53 rfl) cell_69 hb15 ?_
            exact SW.ireturn (pc := 85) g (leafW h ho) rfl (Nat.le_of_ble_eq_true rfl) (Nat.le_of_ble_eq_true rfl) (dt dt_X11_wire 54 rfl)
          · have h := iteT hc h
            refine SW.aload_n (pc := 64) g (dt dt_X11_wire 39 rfl) rfl ?_
            refine SW.getR (pc := 65) g (dt dt_X11_wire 40 rfl) fl_X11_68 cell_63 rfl ?_
            refine SW.iconst (pc := 68) (v := 0) g (dt dt_X11_wire 41 rfl) ki_0 ?_
            refine SW.iload_n (pc := 69) g (dt dt_X11_wire 42 rfl) rfl ?_
            refine SW.iadd (pc := 70) g (dt dt_X11_wire 43 rfl) ?_
            obtain ⟨hb16, h⟩ := inbI h
            refine SW.iaload (pc := 71) g (dt dt_X11_wire 44 rfl) cell_81 hb16 ?_
            refine SW.goto (pc := 72) (t := 85) g (dt dt_X11_wire 45 rfl) rfl ?_
            exact SW.ireturn (pc := 85) g (leafW h ho) rfl (Nat.le_of_ble_eq_true rfl) (Nat.le_of_ble_eq_true rfl) (dt dt_X11_wire 54 rfl)
        · have h := iteF hc h
          refine SW.aload_n (pc := 46) g (dt dt_X11_wire 27 rfl) rfl ?_
          refine SW.getR (pc := 47) g (dt dt_X11_wire 28 rfl) fl_X11_32 cell_63 rfl ?_
          refine SW.iconst (pc := 50) (v := 3) g (dt dt_X11_wire 29 rfl) ki_3 ?_
          refine SW.iload_n (pc := 51) g (dt dt_X11_wire 30 rfl) rfl ?_
          refine SW.imul (pc := 52) g (dt dt_X11_wire 31 rfl) ?_
          refine SW.iload_n (pc := 53) g (dt dt_X11_wire 32 rfl) rfl ?_
          refine SW.iadd (pc := 54) g (dt dt_X11_wire 33 rfl) ?_
          obtain ⟨hb17, h⟩ := inbI h
          refine SW.iaload (pc := 55) g (dt dt_X11_wire 34 rfl) cell_69 hb17 ?_
          refine SW.goto (pc := 56) (t := 85) g (dt dt_X11_wire 35 rfl) rfl ?_
          exact SW.ireturn (pc := 85) g (leafW h ho) rfl (Nat.le_of_ble_eq_true rfl) (Nat.le_of_ble_eq_true rfl) (dt dt_X11_wire 54 rfl)
    · have h := iteT hc h
      refine SW.iconst (pc := 30) (v := 0) g (dt dt_X11_wire 17 rfl) ki_0 ?_
      exact SW.ireturn (pc := 31) g (leafW h ho) rfl (Nat.le_of_ble_eq_true rfl) (Nat.le_of_ble_eq_true rfl) (dt dt_X11_wire 18 rfl)
set_option maxRecDepth 100000 in
set_option maxHeartbeats 4000000 in
theorem mt_f_m_wire (l : Launch) (D : va_G) (cI cL : ClassId) (ad : Nat → Nat) (ν : sw_N)    (N : Nat) (μ : sw_M) (a1 : Int32) (a2 : Int32) (o : Int32 × sw_M) (h : f_m_wire N  μ a1 a2 = some o) : MetR l D cI cL yX11_wire cX11_wire 3 (some .int) 3 0 0 (fun a => a = ad) ad [.ref 63, .int a1, .int a2] lay0 μ ν (some (.int o.1)) lay0 o.2 ν :=
  MetR.of (n := 0) rfl (Nat.le_of_ble_eq_true rfl) (fun G g ho hm _ _ => ok_f_m_wire  g hm  μ ho a1 a2 h)
def f_m_thing_75 (N : Nat)   (μ : sw_M) (x1 : Int32) (s0 : Int32) : Option (Int32 × sw_M) :=
  inb (s0 + x1) 49 (
    some (μ 80 (s0 + x1).toNatClampNeg, μ))
def f_m_thing (N : Nat)  (μ : sw_M) (a1 : Int32) (a2 : Int32) : Option (Int32 × sw_M) :=
  wb (wr μ 63 0 0) (fun μ1 =>
    Option.bind (f_sm_within N  μ1 a1 0 ((μ1 63 23) - 1)) (fun r2 =>
      Option.bind (f_m_may N  μ1 r2 1 0) (fun r4 =>
        if r4.1 = 0 then
          some (0, r4.2)
        else
          Option.bind (f_sm_within N  r4.2 a2 0 2) (fun r6 =>
            Option.bind (f_m_may N  r4.2 r6 2 1) (fun r8 =>
              if r8.1 = 0 then
                some (0, r8.2)
              else
                if a2 = 0 then
                  inb (((2 : Int32) * a1) + 1) 12 (
                    some (r8.2 70 (((2 : Int32) * a1) + 1).toNatClampNeg, r8.2))
                else
                  if a2 = 1 then
                    f_m_thing_75 N    r8.2 a1 24
                  else
                    f_m_thing_75 N    r8.2 a1 30)))))
set_option maxRecDepth 100000 in
set_option maxHeartbeats 4000000 in
theorem ok_f_m_thing_75 {G : sw_G} {ad : Nat → Nat} {ν : sw_N}   {N : Nat} {o : Int32 × sw_M} (g : sw_ok G cX11_thing "DeadWiresModel" (some .int) 2 0 0 ad) (hm : G.2.2.1.2.1.maxLocals = 3)  (ho : sw_out G 0 0 (fun a => a = ad) (.inl (some (.int o.1))) lay0 o.2 ν)  (μ : sw_M) (x1 : Int32) (s0 : Int32) (h : f_m_thing_75 N    μ x1 s0 = some o) : SW G ad lay0 ν 0 0 75 [none, some (.int x1), none] [.int s0, .ref 80] μ := by
  unfold f_m_thing_75 at h
  refine SW.iload_n (pc := 75) g (dt dt_X11_thing 45 rfl) rfl ?_
  refine SW.iadd (pc := 76) g (dt dt_X11_thing 46 rfl) ?_
  obtain ⟨hb1, h⟩ := inbI h
  refine SW.iaload (pc := 77) g (dt dt_X11_thing 47 rfl) cell_80 hb1 ?_
  exact SW.ireturn (pc := 78) g (leafW h ho) rfl (Nat.le_of_ble_eq_true rfl) (Nat.le_of_ble_eq_true rfl) (dt dt_X11_thing 48 rfl)
set_option maxRecDepth 100000 in
set_option maxHeartbeats 4000000 in
theorem ok_f_m_thing {G : sw_G} {ad : Nat → Nat} {ν : sw_N}   {N : Nat} {o : Int32 × sw_M} (g : sw_ok G cX11_thing "DeadWiresModel" (some .int) 2 0 0 ad) (hm : G.2.2.1.2.1.maxLocals = 3)  (μ : sw_M) (ho : sw_out G 0 0 (fun a => a = ad) (.inl (some (.int o.1))) lay0 o.2 ν) (a1 : Int32) (a2 : Int32) (h : f_m_thing N  μ a1 a2 = some o) : SW G ad lay0 ν 0 0 0 [some (.ref 63), some (.int a1), some (.int a2)] [] μ := by
  unfold f_m_thing at h
  refine SW.aload_n (pc := 0) g (dt dt_X11_thing 0 rfl) rfl ?_
  refine SW.iconst (pc := 1) (v := 0) g (dt dt_X11_thing 1 rfl) ki_0 ?_
  refine SW.putI (pc := 2) g (dt dt_X11_thing 2 rfl) fl_X11_3 cell_63 rfl ?_
  refine SW.genM h (fun μ1 h => ?_)
  refine SW.aload_n (pc := 5) g (dt dt_X11_thing 3 rfl) rfl ?_
  refine SW.iload_n (pc := 6) g (dt dt_X11_thing 4 rfl) rfl ?_
  refine SW.iconst (pc := 7) (v := 0) g (dt dt_X11_thing 5 rfl) ki_0 ?_
  refine SW.aload_n (pc := 8) g (dt dt_X11_thing 6 rfl) rfl ?_
  refine SW.getI (pc := 9) g (dt dt_X11_thing 7 rfl) fl_X11_159 cell_63 rfl ?_
  refine SW.iconst (pc := 12) (v := 1) g (dt dt_X11_thing 8 rfl) ki_1 ?_
  refine SW.isub (pc := 13) g (dt dt_X11_thing 9 rfl) ?_
  obtain ⟨r2, h3, h⟩ := bindI h
  refine SW.callSi (pc := 14) g (dt dt_X11_thing 10 rfl) (mt_f_sm_within _ _ _ _ ad ν lay0   N μ1 a1 0 ((μ1 63 23) - 1) r2 h3) me_X11_within ms_X11_within ml_X11_374 rfl (Nat.le_of_ble_eq_true rfl) (Nat.le_of_ble_eq_true rfl) (Nat.le_of_ble_eq_true rfl) (Nat.le_of_ble_eq_true rfl) rfl ?_
  refine SW.iconst (pc := 17) (v := 1) g (dt dt_X11_thing 11 rfl) ki_1 ?_
  refine SW.iconst (pc := 18) (v := 0) g (dt dt_X11_thing 12 rfl) ki_0 ?_
  obtain ⟨r4, h5, h⟩ := bindI h
  refine SW.callVi (pc := 19) g (dt dt_X11_thing 13 rfl) (mt_f_m_may _ _ _ _ ad ν   N μ1 r2 1 0 r4 h5) me_X11_may mv_X11_may ml_X11_204 cell_63 rfl rfl (Nat.le_of_ble_eq_true rfl) (Nat.le_of_ble_eq_true rfl) (Nat.le_of_ble_eq_true rfl) (Nat.le_of_ble_eq_true rfl) rfl ?_
  refine SW.if_eq (pc := 22) (t := 40) g (dt dt_X11_thing 14 rfl) rfl (fun hc => ?_) (fun hc => ?_)
  · have h := iteT hc h
    refine SW.iconst (pc := 40) (v := 0) g (dt dt_X11_thing 24 rfl) ki_0 ?_
    exact SW.ireturn (pc := 41) g (leafW h ho) rfl (Nat.le_of_ble_eq_true rfl) (Nat.le_of_ble_eq_true rfl) (dt dt_X11_thing 25 rfl)
  · have h := iteF hc h
    refine SW.aload_n (pc := 25) g (dt dt_X11_thing 15 rfl) rfl ?_
    refine SW.iload_n (pc := 26) g (dt dt_X11_thing 16 rfl) rfl ?_
    refine SW.iconst (pc := 27) (v := 0) g (dt dt_X11_thing 17 rfl) ki_0 ?_
    refine SW.iconst (pc := 28) (v := 2) g (dt dt_X11_thing 18 rfl) ki_2 ?_
    obtain ⟨r6, h7, h⟩ := bindI h
    refine SW.callSi (pc := 29) g (dt dt_X11_thing 19 rfl) (mt_f_sm_within _ _ _ _ ad ν lay0   N r4.2 a2 0 2 r6 h7) me_X11_within ms_X11_within ml_X11_374 rfl (Nat.le_of_ble_eq_true rfl) (Nat.le_of_ble_eq_true rfl) (Nat.le_of_ble_eq_true rfl) (Nat.le_of_ble_eq_true rfl) rfl ?_
    refine SW.iconst (pc := 32) (v := 2) g (dt dt_X11_thing 20 rfl) ki_2 ?_
    refine SW.iconst (pc := 33) (v := 1) g (dt dt_X11_thing 21 rfl) ki_1 ?_
    obtain ⟨r8, h9, h⟩ := bindI h
    refine SW.callVi (pc := 34) g (dt dt_X11_thing 22 rfl) (mt_f_m_may _ _ _ _ ad ν   N r4.2 r6 2 1 r8 h9) me_X11_may mv_X11_may ml_X11_204 cell_63 rfl rfl (Nat.le_of_ble_eq_true rfl) (Nat.le_of_ble_eq_true rfl) (Nat.le_of_ble_eq_true rfl) (Nat.le_of_ble_eq_true rfl) rfl ?_
    refine SW.if_ne (pc := 37) (t := 42) g (dt dt_X11_thing 23 rfl) rfl (fun hc => ?_) (fun hc => ?_)
    · have h := iteF hc h
      refine SW.iload_n (pc := 42) g (dt dt_X11_thing 26 rfl) rfl ?_
      refine SW.if_ne (pc := 43) (t := 59) g (dt dt_X11_thing 27 rfl) rfl (fun hc => ?_) (fun hc => ?_)
      · have h := iteF hc h
        refine SW.aload_n (pc := 59) g (dt dt_X11_thing 37 rfl) rfl ?_
        refine SW.getR (pc := 60) g (dt dt_X11_thing 38 rfl) fl_X11_65 cell_63 rfl ?_
        refine SW.iload_n (pc := 63) g (dt dt_X11_thing 39 rfl) rfl ?_
        refine SW.iconst (pc := 64) (v := 1) g (dt dt_X11_thing 40 rfl) ki_1 ?_
        refine SW.icmp_ne (pc := 65) (t := 73) g (dt dt_X11_thing 41 rfl) rfl (fun hc => ?_) (fun hc => ?_)
        · have h := iteF hc h
          refine SW.bipush (pc := 73) (v := 30) g (dt dt_X11_thing 44 rfl) kb_30 ?_
          refine SW.msk [false, true, false] ?_
          exact ok_f_m_thing_75  g hm  ho    r8.2 a1 30 h
        · have h := iteT hc h
          refine SW.bipush (pc := 68) (v := 24) g (dt dt_X11_thing 42 rfl) kb_24 ?_
          refine SW.goto (pc := 70) (t := 75) g (dt dt_X11_thing 43 rfl) rfl ?_
          refine SW.msk [false, true, false] ?_
          exact ok_f_m_thing_75  g hm  ho    r8.2 a1 24 h
      · have h := iteT hc h
        refine SW.aload_n (pc := 46) g (dt dt_X11_thing 28 rfl) rfl ?_
        refine SW.getR (pc := 47) g (dt dt_X11_thing 29 rfl) fl_X11_35 cell_63 rfl ?_
        refine SW.iconst (pc := 50) (v := 2) g (dt dt_X11_thing 30 rfl) ki_2 ?_
        refine SW.iload_n (pc := 51) g (dt dt_X11_thing 31 rfl) rfl ?_
        refine SW.imul (pc := 52) g (dt dt_X11_thing 32 rfl) ?_
        refine SW.iconst (pc := 53) (v := 1) g (dt dt_X11_thing 33 rfl) ki_1 ?_
        refine SW.iadd (pc := 54) g (dt dt_X11_thing 34 rfl) ?_
        obtain ⟨hb10, h⟩ := inbI h
        refine SW.iaload (pc := 55) g (dt dt_X11_thing 35 rfl) cell_70 hb10 ?_
        refine SW.goto (pc := 56) (t := 78) g (dt dt_X11_thing 36 rfl) rfl ?_
        exact SW.ireturn (pc := 78) g (leafW h ho) rfl (Nat.le_of_ble_eq_true rfl) (Nat.le_of_ble_eq_true rfl) (dt dt_X11_thing 48 rfl)
    · have h := iteT hc h
      refine SW.iconst (pc := 40) (v := 0) g (dt dt_X11_thing 24 rfl) ki_0 ?_
      exact SW.ireturn (pc := 41) g (leafW h ho) rfl (Nat.le_of_ble_eq_true rfl) (Nat.le_of_ble_eq_true rfl) (dt dt_X11_thing 25 rfl)
set_option maxRecDepth 100000 in
set_option maxHeartbeats 4000000 in
theorem mt_f_m_thing (l : Launch) (D : va_G) (cI cL : ClassId) (ad : Nat → Nat) (ν : sw_N)    (N : Nat) (μ : sw_M) (a1 : Int32) (a2 : Int32) (o : Int32 × sw_M) (h : f_m_thing N  μ a1 a2 = some o) : MetR l D cI cL yX11_thing cX11_thing 3 (some .int) 2 0 0 (fun a => a = ad) ad [.ref 63, .int a1, .int a2] lay0 μ ν (some (.int o.1)) lay0 o.2 ν :=
  MetR.of (n := 0) rfl (Nat.le_of_ble_eq_true rfl) (fun G g ho hm _ _ => ok_f_m_thing  g hm  μ ho a1 a2 h)
def f_m_person_73 (N : Nat)   (μ : sw_M) (x1 : Int32) (s0 : Int32) : Option (Int32 × sw_M) :=
  inb (s0 + x1) 49 (
    some (μ 81 (s0 + x1).toNatClampNeg, μ))
def f_m_person (N : Nat)  (μ : sw_M) (a1 : Int32) (a2 : Int32) : Option (Int32 × sw_M) :=
  wb (wr μ 63 0 0) (fun μ1 =>
    Option.bind (f_m_isPerson N  μ1 a1 1) (fun r2 =>
      if r2.1 = 0 then
        some (0, r2.2)
      else
        Option.bind (f_sm_within N  r2.2 a2 0 4) (fun r4 =>
          Option.bind (f_m_may N  r2.2 r4 2 1) (fun r6 =>
            if r6.1 = 0 then
              some (0, r6.2)
            else
              Option.bind (f_m_take N  r6.2 ) (fun r8 =>
                if 3 ≤ a2 then
                  if a2 = 3 then
                    Option.bind (f_m_loadOf N  r8 a1) (fun r12 =>
                      some (r12, r8))
                  else
                    Option.bind (f_m_heldBy N  r8 a1) (fun r10 =>
                      some (r10, r8))
                else
                  if a2 = 0 then
                    inb (((2 : Int32) * a1) + 1) 10 (
                      some (r8 71 (((2 : Int32) * a1) + 1).toNatClampNeg, r8))
                  else
                    if a2 = 1 then
                      f_m_person_73 N    r8 a1 36
                    else
                      f_m_person_73 N    r8 a1 41)))))
set_option maxRecDepth 100000 in
set_option maxHeartbeats 4000000 in
theorem ok_f_m_person_73 {G : sw_G} {ad : Nat → Nat} {ν : sw_N}   {N : Nat} {o : Int32 × sw_M} (g : sw_ok G cX11_person "DeadWiresModel" (some .int) 3 0 0 ad) (hm : G.2.2.1.2.1.maxLocals = 3)  (ho : sw_out G 0 0 (fun a => a = ad) (.inl (some (.int o.1))) lay0 o.2 ν)  (μ : sw_M) (x1 : Int32) (s0 : Int32) (h : f_m_person_73 N    μ x1 s0 = some o) : SW G ad lay0 ν 0 0 73 [none, some (.int x1), none] [.int s0, .ref 81] μ := by
  unfold f_m_person_73 at h
  refine SW.iload_n (pc := 73) g (dt dt_X11_person 43 rfl) rfl ?_
  refine SW.iadd (pc := 74) g (dt dt_X11_person 44 rfl) ?_
  obtain ⟨hb1, h⟩ := inbI h
  refine SW.iaload (pc := 75) g (dt dt_X11_person 45 rfl) cell_81 hb1 ?_
  exact SW.ireturn (pc := 76) g (leafW h ho) rfl (Nat.le_of_ble_eq_true rfl) (Nat.le_of_ble_eq_true rfl) (dt dt_X11_person 46 rfl)
set_option maxRecDepth 100000 in
set_option maxHeartbeats 4000000 in
theorem ok_f_m_person {G : sw_G} {ad : Nat → Nat} {ν : sw_N}   {N : Nat} {o : Int32 × sw_M} (g : sw_ok G cX11_person "DeadWiresModel" (some .int) 3 0 0 ad) (hm : G.2.2.1.2.1.maxLocals = 3)  (μ : sw_M) (ho : sw_out G 0 0 (fun a => a = ad) (.inl (some (.int o.1))) lay0 o.2 ν) (a1 : Int32) (a2 : Int32) (h : f_m_person N  μ a1 a2 = some o) : SW G ad lay0 ν 0 0 0 [some (.ref 63), some (.int a1), some (.int a2)] [] μ := by
  unfold f_m_person at h
  refine SW.aload_n (pc := 0) g (dt dt_X11_person 0 rfl) rfl ?_
  refine SW.iconst (pc := 1) (v := 0) g (dt dt_X11_person 1 rfl) ki_0 ?_
  refine SW.putI (pc := 2) g (dt dt_X11_person 2 rfl) fl_X11_3 cell_63 rfl ?_
  refine SW.genM h (fun μ1 h => ?_)
  refine SW.aload_n (pc := 5) g (dt dt_X11_person 3 rfl) rfl ?_
  refine SW.iload_n (pc := 6) g (dt dt_X11_person 4 rfl) rfl ?_
  refine SW.iconst (pc := 7) (v := 1) g (dt dt_X11_person 5 rfl) ki_1 ?_
  obtain ⟨r2, h3, h⟩ := bindI h
  refine SW.callVi (pc := 8) g (dt dt_X11_person 6 rfl) (mt_f_m_isPerson _ _ _ _ ad ν   N μ1 a1 1 r2 h3) me_X11_isPerson mv_X11_isPerson ml_X11_398 cell_63 rfl rfl (Nat.le_of_ble_eq_true rfl) (Nat.le_of_ble_eq_true rfl) (Nat.le_of_ble_eq_true rfl) (Nat.le_of_ble_eq_true rfl) rfl ?_
  refine SW.if_eq (pc := 11) (t := 29) g (dt dt_X11_person 7 rfl) rfl (fun hc => ?_) (fun hc => ?_)
  · have h := iteT hc h
    refine SW.iconst (pc := 29) (v := 0) g (dt dt_X11_person 17 rfl) ki_0 ?_
    exact SW.ireturn (pc := 30) g (leafW h ho) rfl (Nat.le_of_ble_eq_true rfl) (Nat.le_of_ble_eq_true rfl) (dt dt_X11_person 18 rfl)
  · have h := iteF hc h
    refine SW.aload_n (pc := 14) g (dt dt_X11_person 8 rfl) rfl ?_
    refine SW.iload_n (pc := 15) g (dt dt_X11_person 9 rfl) rfl ?_
    refine SW.iconst (pc := 16) (v := 0) g (dt dt_X11_person 10 rfl) ki_0 ?_
    refine SW.iconst (pc := 17) (v := 4) g (dt dt_X11_person 11 rfl) ki_4 ?_
    obtain ⟨r4, h5, h⟩ := bindI h
    refine SW.callSi (pc := 18) g (dt dt_X11_person 12 rfl) (mt_f_sm_within _ _ _ _ ad ν lay0   N r2.2 a2 0 4 r4 h5) me_X11_within ms_X11_within ml_X11_374 rfl (Nat.le_of_ble_eq_true rfl) (Nat.le_of_ble_eq_true rfl) (Nat.le_of_ble_eq_true rfl) (Nat.le_of_ble_eq_true rfl) rfl ?_
    refine SW.iconst (pc := 21) (v := 2) g (dt dt_X11_person 13 rfl) ki_2 ?_
    refine SW.iconst (pc := 22) (v := 1) g (dt dt_X11_person 14 rfl) ki_1 ?_
    obtain ⟨r6, h7, h⟩ := bindI h
    refine SW.callVi (pc := 23) g (dt dt_X11_person 15 rfl) (mt_f_m_may _ _ _ _ ad ν   N r2.2 r4 2 1 r6 h7) me_X11_may mv_X11_may ml_X11_204 cell_63 rfl rfl (Nat.le_of_ble_eq_true rfl) (Nat.le_of_ble_eq_true rfl) (Nat.le_of_ble_eq_true rfl) (Nat.le_of_ble_eq_true rfl) rfl ?_
    refine SW.if_ne (pc := 26) (t := 31) g (dt dt_X11_person 16 rfl) rfl (fun hc => ?_) (fun hc => ?_)
    · have h := iteF hc h
      refine SW.aload_n (pc := 31) g (dt dt_X11_person 19 rfl) rfl ?_
      obtain ⟨r8, h9, h⟩ := bindI h
      refine SW.callVv (pc := 32) g (dt dt_X11_person 20 rfl) (mt_f_m_take _ _ _ _ ad ν   N r6.2  r8 h9) me_X11_take mv_X11_take ml_X11_305 cell_63 rfl rfl (Nat.le_of_ble_eq_true rfl) (Nat.le_of_ble_eq_true rfl) (Nat.le_of_ble_eq_true rfl) (Nat.le_of_ble_eq_true rfl) rfl ?_
      refine SW.iload_n (pc := 35) g (dt dt_X11_person 21 rfl) rfl ?_
      refine SW.iconst (pc := 36) (v := 3) g (dt dt_X11_person 22 rfl) ki_3 ?_
      refine SW.icmp_ge (pc := 37) (t := 77) g (dt dt_X11_person 23 rfl) rfl (fun hc => ?_) (fun hc => ?_)
      · have h := iteT hc h
        refine SW.iload_n (pc := 77) g (dt dt_X11_person 47 rfl) rfl ?_
        refine SW.iconst (pc := 78) (v := 3) g (dt dt_X11_person 48 rfl) ki_3 ?_
        refine SW.icmp_ne (pc := 79) (t := 90) g (dt dt_X11_person 49 rfl) rfl (fun hc => ?_) (fun hc => ?_)
        · have h := iteF hc h
          refine SW.aload_n (pc := 90) g (dt dt_X11_person 54 rfl) rfl ?_
          refine SW.iload_n (pc := 91) g (dt dt_X11_person 55 rfl) rfl ?_
          obtain ⟨r10, h11, h⟩ := bindI h
          refine SW.callVi (pc := 92) g (dt dt_X11_person 56 rfl) (mt_f_m_heldBy _ _ _ _ ad ν   N r8 a1 r10 h11) me_X11_heldBy mv_X11_heldBy ml_X11_328 cell_63 rfl rfl (Nat.le_of_ble_eq_true rfl) (Nat.le_of_ble_eq_true rfl) (Nat.le_of_ble_eq_true rfl) (Nat.le_of_ble_eq_true rfl) rfl ?_
          exact SW.ireturn (pc := 95) g (leafW h ho) rfl (Nat.le_of_ble_eq_true rfl) (Nat.le_of_ble_eq_true rfl) (dt dt_X11_person 57 rfl)
        · have h := iteT hc h
          refine SW.aload_n (pc := 82) g (dt dt_X11_person 50 rfl) rfl ?_
          refine SW.iload_n (pc := 83) g (dt dt_X11_person 51 rfl) rfl ?_
          obtain ⟨r12, h13, h⟩ := bindI h
          refine SW.callVi (pc := 84) g (dt dt_X11_person 52 rfl) (mt_f_m_loadOf _ _ _ _ ad ν   N r8 a1 r12 h13) me_X11_loadOf mv_X11_loadOf ml_X11_337 cell_63 rfl rfl (Nat.le_of_ble_eq_true rfl) (Nat.le_of_ble_eq_true rfl) (Nat.le_of_ble_eq_true rfl) (Nat.le_of_ble_eq_true rfl) rfl ?_
          refine SW.goto (pc := 87) (t := 95) g (dt dt_X11_person 53 rfl) rfl ?_
          exact SW.ireturn (pc := 95) g (leafW h ho) rfl (Nat.le_of_ble_eq_true rfl) (Nat.le_of_ble_eq_true rfl) (dt dt_X11_person 57 rfl)
      · have h := iteF hc h
        refine SW.iload_n (pc := 40) g (dt dt_X11_person 24 rfl) rfl ?_
        refine SW.if_ne (pc := 41) (t := 57) g (dt dt_X11_person 25 rfl) rfl (fun hc => ?_) (fun hc => ?_)
        · have h := iteF hc h
          refine SW.aload_n (pc := 57) g (dt dt_X11_person 35 rfl) rfl ?_
          refine SW.getR (pc := 58) g (dt dt_X11_person 36 rfl) fl_X11_68 cell_63 rfl ?_
          refine SW.iload_n (pc := 61) g (dt dt_X11_person 37 rfl) rfl ?_
          refine SW.iconst (pc := 62) (v := 1) g (dt dt_X11_person 38 rfl) ki_1 ?_
          refine SW.icmp_ne (pc := 63) (t := 71) g (dt dt_X11_person 39 rfl) rfl (fun hc => ?_) (fun hc => ?_)
          · have h := iteF hc h
            refine SW.bipush (pc := 71) (v := 41) g (dt dt_X11_person 42 rfl) kb_41 ?_
            refine SW.msk [false, true, false] ?_
            exact ok_f_m_person_73  g hm  ho    r8 a1 41 h
          · have h := iteT hc h
            refine SW.bipush (pc := 66) (v := 36) g (dt dt_X11_person 40 rfl) kb_36 ?_
            refine SW.goto (pc := 68) (t := 73) g (dt dt_X11_person 41 rfl) rfl ?_
            refine SW.msk [false, true, false] ?_
            exact ok_f_m_person_73  g hm  ho    r8 a1 36 h
        · have h := iteT hc h
          refine SW.aload_n (pc := 44) g (dt dt_X11_person 26 rfl) rfl ?_
          refine SW.getR (pc := 45) g (dt dt_X11_person 27 rfl) fl_X11_38 cell_63 rfl ?_
          refine SW.iconst (pc := 48) (v := 2) g (dt dt_X11_person 28 rfl) ki_2 ?_
          refine SW.iload_n (pc := 49) g (dt dt_X11_person 29 rfl) rfl ?_
          refine SW.imul (pc := 50) g (dt dt_X11_person 30 rfl) ?_
          refine SW.iconst (pc := 51) (v := 1) g (dt dt_X11_person 31 rfl) ki_1 ?_
          refine SW.iadd (pc := 52) g (dt dt_X11_person 32 rfl) ?_
          obtain ⟨hb14, h⟩ := inbI h
          refine SW.iaload (pc := 53) g (dt dt_X11_person 33 rfl) cell_71 hb14 ?_
          refine SW.goto (pc := 54) (t := 76) g (dt dt_X11_person 34 rfl) rfl ?_
          exact SW.ireturn (pc := 76) g (leafW h ho) rfl (Nat.le_of_ble_eq_true rfl) (Nat.le_of_ble_eq_true rfl) (dt dt_X11_person 46 rfl)
    · have h := iteT hc h
      refine SW.iconst (pc := 29) (v := 0) g (dt dt_X11_person 17 rfl) ki_0 ?_
      exact SW.ireturn (pc := 30) g (leafW h ho) rfl (Nat.le_of_ble_eq_true rfl) (Nat.le_of_ble_eq_true rfl) (dt dt_X11_person 18 rfl)
set_option maxRecDepth 100000 in
set_option maxHeartbeats 4000000 in
theorem mt_f_m_person (l : Launch) (D : va_G) (cI cL : ClassId) (ad : Nat → Nat) (ν : sw_N)    (N : Nat) (μ : sw_M) (a1 : Int32) (a2 : Int32) (o : Int32 × sw_M) (h : f_m_person N  μ a1 a2 = some o) : MetR l D cI cL yX11_person cX11_person 3 (some .int) 3 0 0 (fun a => a = ad) ad [.ref 63, .int a1, .int a2] lay0 μ ν (some (.int o.1)) lay0 o.2 ν :=
  MetR.of (n := 0) rfl (Nat.le_of_ble_eq_true rfl) (fun G g ho hm _ _ => ok_f_m_person  g hm  μ ho a1 a2 h)
def f_m_toll (N : Nat)  (μ : sw_M) (a1 : Int32) (a2 : Int32) : Option (Int32 × sw_M) :=
  wb (wr μ 63 0 0) (fun μ1 =>
    Option.bind (f_m_isPerson N  μ1 a1 1) (fun r2 =>
      if r2.1 = 0 then
        some (0, r2.2)
      else
        Option.bind (f_m_isWire N  r2.2 a2 1) (fun r4 =>
          if r4.1 = 0 then
            some (0, r4.2)
          else
            Option.bind (f_m_take N  r4.2 ) (fun r6 =>
              Option.bind (f_m_tollBy N  r6 a1 a2) (fun r8 =>
                some (r8.1, r8.2))))))
set_option maxRecDepth 100000 in
set_option maxHeartbeats 4000000 in
theorem ok_f_m_toll {G : sw_G} {ad : Nat → Nat} {ν : sw_N}   {N : Nat} {o : Int32 × sw_M} (g : sw_ok G cX11_toll "DeadWiresModel" (some .int) 6 0 0 ad) (hm : G.2.2.1.2.1.maxLocals = 3)  (μ : sw_M) (ho : sw_out G 0 0 (fun a => a = ad) (.inl (some (.int o.1))) lay0 o.2 ν) (a1 : Int32) (a2 : Int32) (h : f_m_toll N  μ a1 a2 = some o) : SW G ad lay0 ν 0 0 0 [some (.ref 63), some (.int a1), some (.int a2)] [] μ := by
  unfold f_m_toll at h
  refine SW.aload_n (pc := 0) g (dt dt_X11_toll 0 rfl) rfl ?_
  refine SW.iconst (pc := 1) (v := 0) g (dt dt_X11_toll 1 rfl) ki_0 ?_
  refine SW.putI (pc := 2) g (dt dt_X11_toll 2 rfl) fl_X11_3 cell_63 rfl ?_
  refine SW.genM h (fun μ1 h => ?_)
  refine SW.aload_n (pc := 5) g (dt dt_X11_toll 3 rfl) rfl ?_
  refine SW.iload_n (pc := 6) g (dt dt_X11_toll 4 rfl) rfl ?_
  refine SW.iconst (pc := 7) (v := 1) g (dt dt_X11_toll 5 rfl) ki_1 ?_
  obtain ⟨r2, h3, h⟩ := bindI h
  refine SW.callVi (pc := 8) g (dt dt_X11_toll 6 rfl) (mt_f_m_isPerson _ _ _ _ ad ν   N μ1 a1 1 r2 h3) me_X11_isPerson mv_X11_isPerson ml_X11_398 cell_63 rfl rfl (Nat.le_of_ble_eq_true rfl) (Nat.le_of_ble_eq_true rfl) (Nat.le_of_ble_eq_true rfl) (Nat.le_of_ble_eq_true rfl) rfl ?_
  refine SW.if_eq (pc := 11) (t := 23) g (dt dt_X11_toll 7 rfl) rfl (fun hc => ?_) (fun hc => ?_)
  · have h := iteT hc h
    refine SW.iconst (pc := 23) (v := 0) g (dt dt_X11_toll 13 rfl) ki_0 ?_
    exact SW.ireturn (pc := 24) g (leafW h ho) rfl (Nat.le_of_ble_eq_true rfl) (Nat.le_of_ble_eq_true rfl) (dt dt_X11_toll 14 rfl)
  · have h := iteF hc h
    refine SW.aload_n (pc := 14) g (dt dt_X11_toll 8 rfl) rfl ?_
    refine SW.iload_n (pc := 15) g (dt dt_X11_toll 9 rfl) rfl ?_
    refine SW.iconst (pc := 16) (v := 1) g (dt dt_X11_toll 10 rfl) ki_1 ?_
    obtain ⟨r4, h5, h⟩ := bindI h
    refine SW.callVi (pc := 17) g (dt dt_X11_toll 11 rfl) (mt_f_m_isWire _ _ _ _ ad ν   N r2.2 a2 1 r4 h5) me_X11_isWire mv_X11_isWire ml_X11_395 cell_63 rfl rfl (Nat.le_of_ble_eq_true rfl) (Nat.le_of_ble_eq_true rfl) (Nat.le_of_ble_eq_true rfl) (Nat.le_of_ble_eq_true rfl) rfl ?_
    refine SW.if_ne (pc := 20) (t := 25) g (dt dt_X11_toll 12 rfl) rfl (fun hc => ?_) (fun hc => ?_)
    · have h := iteF hc h
      refine SW.aload_n (pc := 25) g (dt dt_X11_toll 15 rfl) rfl ?_
      obtain ⟨r6, h7, h⟩ := bindI h
      refine SW.callVv (pc := 26) g (dt dt_X11_toll 16 rfl) (mt_f_m_take _ _ _ _ ad ν   N r4.2  r6 h7) me_X11_take mv_X11_take ml_X11_305 cell_63 rfl rfl (Nat.le_of_ble_eq_true rfl) (Nat.le_of_ble_eq_true rfl) (Nat.le_of_ble_eq_true rfl) (Nat.le_of_ble_eq_true rfl) rfl ?_
      refine SW.aload_n (pc := 29) g (dt dt_X11_toll 17 rfl) rfl ?_
      refine SW.iload_n (pc := 30) g (dt dt_X11_toll 18 rfl) rfl ?_
      refine SW.iload_n (pc := 31) g (dt dt_X11_toll 19 rfl) rfl ?_
      obtain ⟨r8, h9, h⟩ := bindI h
      refine SW.callVi (pc := 32) g (dt dt_X11_toll 20 rfl) (mt_f_m_tollBy _ _ _ _ ad ν   N r6 a1 a2 r8 h9) me_X11_tollBy mv_X11_tollBy ml_X11_353 cell_63 rfl rfl (Nat.le_of_ble_eq_true rfl) (Nat.le_of_ble_eq_true rfl) (Nat.le_of_ble_eq_true rfl) (Nat.le_of_ble_eq_true rfl) rfl ?_
      exact SW.ireturn (pc := 35) g (leafW h ho) rfl (Nat.le_of_ble_eq_true rfl) (Nat.le_of_ble_eq_true rfl) (dt dt_X11_toll 21 rfl)
    · have h := iteT hc h
      refine SW.iconst (pc := 23) (v := 0) g (dt dt_X11_toll 13 rfl) ki_0 ?_
      exact SW.ireturn (pc := 24) g (leafW h ho) rfl (Nat.le_of_ble_eq_true rfl) (Nat.le_of_ble_eq_true rfl) (dt dt_X11_toll 14 rfl)
set_option maxRecDepth 100000 in
set_option maxHeartbeats 4000000 in
theorem mt_f_m_toll (l : Launch) (D : va_G) (cI cL : ClassId) (ad : Nat → Nat) (ν : sw_N)    (N : Nat) (μ : sw_M) (a1 : Int32) (a2 : Int32) (o : Int32 × sw_M) (h : f_m_toll N  μ a1 a2 = some o) : MetR l D cI cL yX11_toll cX11_toll 3 (some .int) 6 0 0 (fun a => a = ad) ad [.ref 63, .int a1, .int a2] lay0 μ ν (some (.int o.1)) lay0 o.2 ν :=
  MetR.of (n := 0) rfl (Nat.le_of_ble_eq_true rfl) (fun G g ho hm _ _ => ok_f_m_toll  g hm  μ ho a1 a2 h)
def f_m_would_86 (N : Nat)   (μ : sw_M) (x1 : Int32) (x2 : Int32) (x3 : Int32) (x4 : Int32) (x5 : Int32) (x6 : Int32) (x7 : Int32) (s0 : Int32) : Option (Int32 × sw_M) :=
  Option.bind (f_m_may N  μ s0 1 1) (fun r1 =>
    if r1.1 = 0 then
      some (0, r1.2)
    else
      Option.bind (f_m_tollOf N  r1.2 x1 x2 x3 x4 x5 x6 x7) (fun r3 =>
        some (r3.1, r3.2)))
def f_m_would_85 (N : Nat)   (μ : sw_M) (x1 : Int32) (x2 : Int32) (x3 : Int32) (x4 : Int32) (x5 : Int32) (x6 : Int32) (x7 : Int32) : Option (Int32 × sw_M) :=
  f_m_would_86 N    μ x1 x2 x3 x4 x5 x6 x7 0
def f_m_would (N : Nat)  (μ : sw_M) (a1 : Int32) (a2 : Int32) (a3 : Int32) (a4 : Int32) (a5 : Int32) (a6 : Int32) (a7 : Int32) : Option (Int32 × sw_M) :=
  wb (wr μ 63 0 0) (fun μ1 =>
    Option.bind (f_sm_within N  μ1 a1 0 180) (fun r2 =>
      if r2 = 0 then
        f_m_would_85 N    μ1 a1 a2 a3 a4 a5 a6 a7
      else
        Option.bind (f_sm_within N  μ1 a2 1 40) (fun r4 =>
          if r4 = 0 then
            f_m_would_85 N    μ1 a1 a2 a3 a4 a5 a6 a7
          else
            Option.bind (f_sm_within N  μ1 a3 0 60) (fun r6 =>
              if r6 = 0 then
                f_m_would_85 N    μ1 a1 a2 a3 a4 a5 a6 a7
              else
                Option.bind (f_sm_within N  μ1 a4 0 99) (fun r8 =>
                  if r8 = 0 then
                    f_m_would_85 N    μ1 a1 a2 a3 a4 a5 a6 a7
                  else
                    Option.bind (f_sm_within N  μ1 a5 0 400) (fun r10 =>
                      if r10 = 0 then
                        f_m_would_85 N    μ1 a1 a2 a3 a4 a5 a6 a7
                      else
                        Option.bind (f_sm_within N  μ1 a6 0 12) (fun r12 =>
                          if r12 = 0 then
                            f_m_would_85 N    μ1 a1 a2 a3 a4 a5 a6 a7
                          else
                            Option.bind (f_sm_within N  μ1 a7 0 4) (fun r14 =>
                              if r14 = 0 then
                                f_m_would_85 N    μ1 a1 a2 a3 a4 a5 a6 a7
                              else
                                f_m_would_86 N    μ1 a1 a2 a3 a4 a5 a6 a7 1))))))))
set_option maxRecDepth 100000 in
set_option maxHeartbeats 4000000 in
theorem ok_f_m_would_86 {G : sw_G} {ad : Nat → Nat} {ν : sw_N}   {N : Nat} {o : Int32 × sw_M} (g : sw_ok G cX11_would "DeadWiresModel" (some .int) 5 0 0 ad) (hm : G.2.2.1.2.1.maxLocals = 8)  (ho : sw_out G 0 0 (fun a => a = ad) (.inl (some (.int o.1))) lay0 o.2 ν)  (μ : sw_M) (x1 : Int32) (x2 : Int32) (x3 : Int32) (x4 : Int32) (x5 : Int32) (x6 : Int32) (x7 : Int32) (s0 : Int32) (h : f_m_would_86 N    μ x1 x2 x3 x4 x5 x6 x7 s0 = some o) : SW G ad lay0 ν 0 0 86 [some (.ref 63), some (.int x1), some (.int x2), some (.int x3), some (.int x4), some (.int x5), some (.int x6), some (.int x7)] [.int s0, .ref 63] μ := by
  unfold f_m_would_86 at h
  refine SW.iconst (pc := 86) (v := 1) g (dt dt_X11_would 42 rfl) ki_1 ?_
  refine SW.iconst (pc := 87) (v := 1) g (dt dt_X11_would 43 rfl) ki_1 ?_
  obtain ⟨r1, h2, h⟩ := bindI h
  refine SW.callVi (pc := 88) g (dt dt_X11_would 44 rfl) (mt_f_m_may _ _ _ _ ad ν   N μ s0 1 1 r1 h2) me_X11_may mv_X11_may ml_X11_204 cell_63 rfl rfl (Nat.le_of_ble_eq_true rfl) (Nat.le_of_ble_eq_true rfl) (Nat.le_of_ble_eq_true rfl) (Nat.le_of_ble_eq_true rfl) rfl ?_
  refine SW.if_ne (pc := 91) (t := 96) g (dt dt_X11_would 45 rfl) rfl (fun hc => ?_) (fun hc => ?_)
  · have h := iteF hc h
    refine SW.aload_n (pc := 96) g (dt dt_X11_would 48 rfl) rfl ?_
    refine SW.iload_n (pc := 97) g (dt dt_X11_would 49 rfl) rfl ?_
    refine SW.iload_n (pc := 98) g (dt dt_X11_would 50 rfl) rfl ?_
    refine SW.iload_n (pc := 99) g (dt dt_X11_would 51 rfl) rfl ?_
    refine SW.iload (pc := 100) g (dt dt_X11_would 52 rfl) rfl ?_
    refine SW.iload (pc := 102) g (dt dt_X11_would 53 rfl) rfl ?_
    refine SW.iload (pc := 104) g (dt dt_X11_would 54 rfl) rfl ?_
    refine SW.iload (pc := 106) g (dt dt_X11_would 55 rfl) rfl ?_
    obtain ⟨r3, h4, h⟩ := bindI h
    refine SW.callVi (pc := 108) g (dt dt_X11_would 56 rfl) (mt_f_m_tollOf _ _ _ _ ad ν   N r1.2 x1 x2 x3 x4 x5 x6 x7 r3 h4) me_X11_tollOf mv_X11_tollOf ml_X11_346 cell_63 rfl rfl (Nat.le_of_ble_eq_true rfl) (Nat.le_of_ble_eq_true rfl) (Nat.le_of_ble_eq_true rfl) (Nat.le_of_ble_eq_true rfl) rfl ?_
    exact SW.ireturn (pc := 111) g (leafW h ho) rfl (Nat.le_of_ble_eq_true rfl) (Nat.le_of_ble_eq_true rfl) (dt dt_X11_would 57 rfl)
  · have h := iteT hc h
    refine SW.iconst (pc := 94) (v := 0) g (dt dt_X11_would 46 rfl) ki_0 ?_
    exact SW.ireturn (pc := 95) g (leafW h ho) rfl (Nat.le_of_ble_eq_true rfl) (Nat.le_of_ble_eq_true rfl) (dt dt_X11_would 47 rfl)
set_option maxRecDepth 100000 in
set_option maxHeartbeats 4000000 in
theorem ok_f_m_would_85 {G : sw_G} {ad : Nat → Nat} {ν : sw_N}   {N : Nat} {o : Int32 × sw_M} (g : sw_ok G cX11_would "DeadWiresModel" (some .int) 5 0 0 ad) (hm : G.2.2.1.2.1.maxLocals = 8)  (ho : sw_out G 0 0 (fun a => a = ad) (.inl (some (.int o.1))) lay0 o.2 ν)  (μ : sw_M) (x1 : Int32) (x2 : Int32) (x3 : Int32) (x4 : Int32) (x5 : Int32) (x6 : Int32) (x7 : Int32) (h : f_m_would_85 N    μ x1 x2 x3 x4 x5 x6 x7 = some o) : SW G ad lay0 ν 0 0 85 [some (.ref 63), some (.int x1), some (.int x2), some (.int x3), some (.int x4), some (.int x5), some (.int x6), some (.int x7)] [.ref 63] μ := by
  unfold f_m_would_85 at h
  refine SW.iconst (pc := 85) (v := 0) g (dt dt_X11_would 41 rfl) ki_0 ?_
  refine SW.msk [true, true, true, true, true, true, true, true] ?_
  exact ok_f_m_would_86  g hm  ho    μ x1 x2 x3 x4 x5 x6 x7 0 h
set_option maxRecDepth 100000 in
set_option maxHeartbeats 4000000 in
theorem ok_f_m_would {G : sw_G} {ad : Nat → Nat} {ν : sw_N}   {N : Nat} {o : Int32 × sw_M} (g : sw_ok G cX11_would "DeadWiresModel" (some .int) 5 0 0 ad) (hm : G.2.2.1.2.1.maxLocals = 8)  (μ : sw_M) (ho : sw_out G 0 0 (fun a => a = ad) (.inl (some (.int o.1))) lay0 o.2 ν) (a1 : Int32) (a2 : Int32) (a3 : Int32) (a4 : Int32) (a5 : Int32) (a6 : Int32) (a7 : Int32) (h : f_m_would N  μ a1 a2 a3 a4 a5 a6 a7 = some o) : SW G ad lay0 ν 0 0 0 [some (.ref 63), some (.int a1), some (.int a2), some (.int a3), some (.int a4), some (.int a5), some (.int a6), some (.int a7)] [] μ := by
  unfold f_m_would at h
  refine SW.aload_n (pc := 0) g (dt dt_X11_would 0 rfl) rfl ?_
  refine SW.iconst (pc := 1) (v := 0) g (dt dt_X11_would 1 rfl) ki_0 ?_
  refine SW.putI (pc := 2) g (dt dt_X11_would 2 rfl) fl_X11_3 cell_63 rfl ?_
  refine SW.genM h (fun μ1 h => ?_)
  refine SW.aload_n (pc := 5) g (dt dt_X11_would 3 rfl) rfl ?_
  refine SW.iload_n (pc := 6) g (dt dt_X11_would 4 rfl) rfl ?_
  refine SW.iconst (pc := 7) (v := 0) g (dt dt_X11_would 5 rfl) ki_0 ?_
  refine SW.sipush (pc := 8) (v := 180) g (dt dt_X11_would 6 rfl) ks_180 ?_
  obtain ⟨r2, h3, h⟩ := bindI h
  refine SW.callSi (pc := 11) g (dt dt_X11_would 7 rfl) (mt_f_sm_within _ _ _ _ ad ν lay0   N μ1 a1 0 180 r2 h3) me_X11_within ms_X11_within ml_X11_374 rfl (Nat.le_of_ble_eq_true rfl) (Nat.le_of_ble_eq_true rfl) (Nat.le_of_ble_eq_true rfl) (Nat.le_of_ble_eq_true rfl) rfl ?_
  refine SW.if_eq (pc := 14) (t := 85) g (dt dt_X11_would 8 rfl) rfl (fun hc => ?_) (fun hc => ?_)
  · have h := iteT hc h
    refine SW.msk [true, true, true, true, true, true, true, true] ?_
    exact ok_f_m_would_85  g hm  ho    μ1 a1 a2 a3 a4 a5 a6 a7 h
  · have h := iteF hc h
    refine SW.iload_n (pc := 17) g (dt dt_X11_would 9 rfl) rfl ?_
    refine SW.iconst (pc := 18) (v := 1) g (dt dt_X11_would 10 rfl) ki_1 ?_
    refine SW.bipush (pc := 19) (v := 40) g (dt dt_X11_would 11 rfl) kb_40 ?_
    obtain ⟨r4, h5, h⟩ := bindI h
    refine SW.callSi (pc := 21) g (dt dt_X11_would 12 rfl) (mt_f_sm_within _ _ _ _ ad ν lay0   N μ1 a2 1 40 r4 h5) me_X11_within ms_X11_within ml_X11_374 rfl (Nat.le_of_ble_eq_true rfl) (Nat.le_of_ble_eq_true rfl) (Nat.le_of_ble_eq_true rfl) (Nat.le_of_ble_eq_true rfl) rfl ?_
    refine SW.if_eq (pc := 24) (t := 85) g (dt dt_X11_would 13 rfl) rfl (fun hc => ?_) (fun hc => ?_)
    · have h := iteT hc h
      refine SW.msk [true, true, true, true, true, true, true, true] ?_
      exact ok_f_m_would_85  g hm  ho    μ1 a1 a2 a3 a4 a5 a6 a7 h
    · have h := iteF hc h
      refine SW.iload_n (pc := 27) g (dt dt_X11_would 14 rfl) rfl ?_
      refine SW.iconst (pc := 28) (v := 0) g (dt dt_X11_would 15 rfl) ki_0 ?_
      refine SW.bipush (pc := 29) (v := 60) g (dt dt_X11_would 16 rfl) kb_60 ?_
      obtain ⟨r6, h7, h⟩ := bindI h
      refine SW.callSi (pc := 31) g (dt dt_X11_would 17 rfl) (mt_f_sm_within _ _ _ _ ad ν lay0   N μ1 a3 0 60 r6 h7) me_X11_within ms_X11_within ml_X11_374 rfl (Nat.le_of_ble_eq_true rfl) (Nat.le_of_ble_eq_true rfl) (Nat.le_of_ble_eq_true rfl) (Nat.le_of_ble_eq_true rfl) rfl ?_
      refine SW.if_eq (pc := 34) (t := 85) g (dt dt_X11_would 18 rfl) rfl (fun hc => ?_) (fun hc => ?_)
      · have h := iteT hc h
        refine SW.msk [true, true, true, true, true, true, true, true] ?_
        exact ok_f_m_would_85  g hm  ho    μ1 a1 a2 a3 a4 a5 a6 a7 h
      · have h := iteF hc h
        refine SW.iload (pc := 37) g (dt dt_X11_would 19 rfl) rfl ?_
        refine SW.iconst (pc := 39) (v := 0) g (dt dt_X11_would 20 rfl) ki_0 ?_
        refine SW.bipush (pc := 40) (v := 99) g (dt dt_X11_would 21 rfl) kb_99 ?_
        obtain ⟨r8, h9, h⟩ := bindI h
        refine SW.callSi (pc := 42) g (dt dt_X11_would 22 rfl) (mt_f_sm_within _ _ _ _ ad ν lay0   N μ1 a4 0 99 r8 h9) me_X11_within ms_X11_within ml_X11_374 rfl (Nat.le_of_ble_eq_true rfl) (Nat.le_of_ble_eq_true rfl) (Nat.le_of_ble_eq_true rfl) (Nat.le_of_ble_eq_true rfl) rfl ?_
        refine SW.if_eq (pc := 45) (t := 85) g (dt dt_X11_would 23 rfl) rfl (fun hc => ?_) (fun hc => ?_)
        · have h := iteT hc h
          refine SW.msk [true, true, true, true, true, true, true, true] ?_
          exact ok_f_m_would_85  g hm  ho    μ1 a1 a2 a3 a4 a5 a6 a7 h
        · have h := iteF hc h
          refine SW.iload (pc := 48) g (dt dt_X11_would 24 rfl) rfl ?_
          refine SW.iconst (pc := 50) (v := 0) g (dt dt_X11_would 25 rfl) ki_0 ?_
          refine SW.sipush (pc := 51) (v := 400) g (dt dt_X11_would 26 rfl) ks_400 ?_
          obtain ⟨r10, h11, h⟩ := bindI h
          refine SW.callSi (pc := 54) g (dt dt_X11_would 27 rfl) (mt_f_sm_within _ _ _ _ ad ν lay0   N μ1 a5 0 400 r10 h11) me_X11_within ms_X11_within ml_X11_374 rfl (Nat.le_of_ble_eq_true rfl) (Nat.le_of_ble_eq_true rfl) (Nat.le_of_ble_eq_true rfl) (Nat.le_of_ble_eq_true rfl) rfl ?_
          refine SW.if_eq (pc := 57) (t := 85) g (dt dt_X11_would 28 rfl) rfl (fun hc => ?_) (fun hc => ?_)
          · have h := iteT hc h
            refine SW.msk [true, true, true, true, true, true, true, true] ?_
            exact ok_f_m_would_85  g hm  ho    μ1 a1 a2 a3 a4 a5 a6 a7 h
          · have h := iteF hc h
            refine SW.iload (pc := 60) g (dt dt_X11_would 29 rfl) rfl ?_
            refine SW.iconst (pc := 62) (v := 0) g (dt dt_X11_would 30 rfl) ki_0 ?_
            refine SW.bipush (pc := 63) (v := 12) g (dt dt_X11_would 31 rfl) kb_12 ?_
            obtain ⟨r12, h13, h⟩ := bindI h
            refine SW.callSi (pc := 65) g (dt dt_X11_would 32 rfl) (mt_f_sm_within _ _ _ _ ad ν lay0   N μ1 a6 0 12 r12 h13) me_X11_within ms_X11_within ml_X11_374 rfl (Nat.le_of_ble_eq_true rfl) (Nat.le_of_ble_eq_true rfl) (Nat.le_of_ble_eq_true rfl) (Nat.le_of_ble_eq_true rfl) rfl ?_
            refine SW.if_eq (pc := 68) (t := 85) g (dt dt_X11_would 33 rfl) rfl (fun hc => ?_) (fun hc => ?_)
            · have h := iteT hc h
              refine SW.msk [true, true, true, true, true, true, true, true] ?_
              exact ok_f_m_would_85  g hm  ho    μ1 a1 a2 a3 a4 a5 a6 a7 h
            · have h := iteF hc h
              refine SW.iload (pc := 71) g (dt dt_X11_would 34 rfl) rfl ?_
              refine SW.iconst (pc := 73) (v := 0) g (dt dt_X11_would 35 rfl) ki_0 ?_
              refine SW.iconst (pc := 74) (v := 4) g (dt dt_X11_would 36 rfl) ki_4 ?_
              obtain ⟨r14, h15, h⟩ := bindI h
              refine SW.callSi (pc := 75) g (dt dt_X11_would 37 rfl) (mt_f_sm_within _ _ _ _ ad ν lay0   N μ1 a7 0 4 r14 h15) me_X11_within ms_X11_within ml_X11_374 rfl (Nat.le_of_ble_eq_true rfl) (Nat.le_of_ble_eq_true rfl) (Nat.le_of_ble_eq_true rfl) (Nat.le_of_ble_eq_true rfl) rfl ?_
              refine SW.if_eq (pc := 78) (t := 85) g (dt dt_X11_would 38 rfl) rfl (fun hc => ?_) (fun hc => ?_)
              · have h := iteT hc h
                refine SW.msk [true, true, true, true, true, true, true, true] ?_
                exact ok_f_m_would_85  g hm  ho    μ1 a1 a2 a3 a4 a5 a6 a7 h
              · have h := iteF hc h
                refine SW.iconst (pc := 81) (v := 1) g (dt dt_X11_would 39 rfl) ki_1 ?_
                refine SW.goto (pc := 82) (t := 86) g (dt dt_X11_would 40 rfl) rfl ?_
                refine SW.msk [true, true, true, true, true, true, true, true] ?_
                exact ok_f_m_would_86  g hm  ho    μ1 a1 a2 a3 a4 a5 a6 a7 1 h
set_option maxRecDepth 100000 in
set_option maxHeartbeats 4000000 in
theorem mt_f_m_would (l : Launch) (D : va_G) (cI cL : ClassId) (ad : Nat → Nat) (ν : sw_N)    (N : Nat) (μ : sw_M) (a1 : Int32) (a2 : Int32) (a3 : Int32) (a4 : Int32) (a5 : Int32) (a6 : Int32) (a7 : Int32) (o : Int32 × sw_M) (h : f_m_would N  μ a1 a2 a3 a4 a5 a6 a7 = some o) : MetR l D cI cL yX11_would cX11_would 8 (some .int) 5 0 0 (fun a => a = ad) ad [.ref 63, .int a1, .int a2, .int a3, .int a4, .int a5, .int a6, .int a7] lay0 μ ν (some (.int o.1)) lay0 o.2 ν :=
  MetR.of (n := 0) rfl (Nat.le_of_ble_eq_true rfl) (fun G g ho hm _ _ => ok_f_m_would  g hm  μ ho a1 a2 a3 a4 a5 a6 a7 h)
def f_m_can (N : Nat)  (μ : sw_M) (a1 : Int32) (a2 : Int32) : Option (Int32 × sw_M) :=
  wb (wr μ 63 0 0) (fun μ1 =>
    Option.bind (f_m_isPerson N  μ1 a1 1) (fun r2 =>
      if r2.1 = 0 then
        some (0, r2.2)
      else
        Option.bind (f_m_isWire N  r2.2 a2 1) (fun r4 =>
          if r4.1 = 0 then
            some (0, r4.2)
          else
            Option.bind (f_m_take N  r4.2 ) (fun r6 =>
              Option.bind (f_m_canCross N  r6 a1 a2) (fun r8 =>
                bl r8.1 (some (r8.1, r8.2)))))))
set_option maxRecDepth 100000 in
set_option maxHeartbeats 4000000 in
theorem ok_f_m_can {G : sw_G} {ad : Nat → Nat} {ν : sw_N}   {N : Nat} {o : Int32 × sw_M} (g : sw_ok G cX11_can "DeadWiresModel" (some .boolean) 7 0 0 ad) (hm : G.2.2.1.2.1.maxLocals = 3)  (μ : sw_M) (ho : sw_out G 0 0 (fun a => a = ad) (.inl (some (.int o.1))) lay0 o.2 ν) (a1 : Int32) (a2 : Int32) (h : f_m_can N  μ a1 a2 = some o) : SW G ad lay0 ν 0 0 0 [some (.ref 63), some (.int a1), some (.int a2)] [] μ := by
  unfold f_m_can at h
  refine SW.aload_n (pc := 0) g (dt dt_X11_can 0 rfl) rfl ?_
  refine SW.iconst (pc := 1) (v := 0) g (dt dt_X11_can 1 rfl) ki_0 ?_
  refine SW.putI (pc := 2) g (dt dt_X11_can 2 rfl) fl_X11_3 cell_63 rfl ?_
  refine SW.genM h (fun μ1 h => ?_)
  refine SW.aload_n (pc := 5) g (dt dt_X11_can 3 rfl) rfl ?_
  refine SW.iload_n (pc := 6) g (dt dt_X11_can 4 rfl) rfl ?_
  refine SW.iconst (pc := 7) (v := 1) g (dt dt_X11_can 5 rfl) ki_1 ?_
  obtain ⟨r2, h3, h⟩ := bindI h
  refine SW.callVi (pc := 8) g (dt dt_X11_can 6 rfl) (mt_f_m_isPerson _ _ _ _ ad ν   N μ1 a1 1 r2 h3) me_X11_isPerson mv_X11_isPerson ml_X11_398 cell_63 rfl rfl (Nat.le_of_ble_eq_true rfl) (Nat.le_of_ble_eq_true rfl) (Nat.le_of_ble_eq_true rfl) (Nat.le_of_ble_eq_true rfl) rfl ?_
  refine SW.if_eq (pc := 11) (t := 23) g (dt dt_X11_can 7 rfl) rfl (fun hc => ?_) (fun hc => ?_)
  · have h := iteT hc h
    refine SW.iconst (pc := 23) (v := 0) g (dt dt_X11_can 13 rfl) ki_0 ?_
    exact SW.zreturn (pc := 24) g (leafW h ho) rfl (Nat.le_of_ble_eq_true rfl) (Nat.le_of_ble_eq_true rfl) (by decide) (dt dt_X11_can 14 rfl)
  · have h := iteF hc h
    refine SW.aload_n (pc := 14) g (dt dt_X11_can 8 rfl) rfl ?_
    refine SW.iload_n (pc := 15) g (dt dt_X11_can 9 rfl) rfl ?_
    refine SW.iconst (pc := 16) (v := 1) g (dt dt_X11_can 10 rfl) ki_1 ?_
    obtain ⟨r4, h5, h⟩ := bindI h
    refine SW.callVi (pc := 17) g (dt dt_X11_can 11 rfl) (mt_f_m_isWire _ _ _ _ ad ν   N r2.2 a2 1 r4 h5) me_X11_isWire mv_X11_isWire ml_X11_395 cell_63 rfl rfl (Nat.le_of_ble_eq_true rfl) (Nat.le_of_ble_eq_true rfl) (Nat.le_of_ble_eq_true rfl) (Nat.le_of_ble_eq_true rfl) rfl ?_
    refine SW.if_ne (pc := 20) (t := 25) g (dt dt_X11_can 12 rfl) rfl (fun hc => ?_) (fun hc => ?_)
    · have h := iteF hc h
      refine SW.aload_n (pc := 25) g (dt dt_X11_can 15 rfl) rfl ?_
      obtain ⟨r6, h7, h⟩ := bindI h
      refine SW.callVv (pc := 26) g (dt dt_X11_can 16 rfl) (mt_f_m_take _ _ _ _ ad ν   N r4.2  r6 h7) me_X11_take mv_X11_take ml_X11_305 cell_63 rfl rfl (Nat.le_of_ble_eq_true rfl) (Nat.le_of_ble_eq_true rfl) (Nat.le_of_ble_eq_true rfl) (Nat.le_of_ble_eq_true rfl) rfl ?_
      refine SW.aload_n (pc := 29) g (dt dt_X11_can 17 rfl) rfl ?_
      refine SW.iload_n (pc := 30) g (dt dt_X11_can 18 rfl) rfl ?_
      refine SW.iload_n (pc := 31) g (dt dt_X11_can 19 rfl) rfl ?_
      obtain ⟨r8, h9, h⟩ := bindI h
      refine SW.callVi (pc := 32) g (dt dt_X11_can 20 rfl) (mt_f_m_canCross _ _ _ _ ad ν   N r6 a1 a2 r8 h9) me_X11_canCross mv_X11_canCross ml_X11_356 cell_63 rfl rfl (Nat.le_of_ble_eq_true rfl) (Nat.le_of_ble_eq_true rfl) (Nat.le_of_ble_eq_true rfl) (Nat.le_of_ble_eq_true rfl) rfl ?_
      obtain ⟨hn, h⟩ := blI h
      exact SW.zreturn (pc := 35) g (leafW h ho) rfl (Nat.le_of_ble_eq_true rfl) (Nat.le_of_ble_eq_true rfl) hn (dt dt_X11_can 21 rfl)
    · have h := iteT hc h
      refine SW.iconst (pc := 23) (v := 0) g (dt dt_X11_can 13 rfl) ki_0 ?_
      exact SW.zreturn (pc := 24) g (leafW h ho) rfl (Nat.le_of_ble_eq_true rfl) (Nat.le_of_ble_eq_true rfl) (by decide) (dt dt_X11_can 14 rfl)
set_option maxRecDepth 100000 in
set_option maxHeartbeats 4000000 in
theorem mt_f_m_can (l : Launch) (D : va_G) (cI cL : ClassId) (ad : Nat → Nat) (ν : sw_N)    (N : Nat) (μ : sw_M) (a1 : Int32) (a2 : Int32) (o : Int32 × sw_M) (h : f_m_can N  μ a1 a2 = some o) : MetR l D cI cL yX11_can cX11_can 3 (some .boolean) 7 0 0 (fun a => a = ad) ad [.ref 63, .int a1, .int a2] lay0 μ ν (some (.int o.1)) lay0 o.2 ν :=
  MetR.of (n := 0) rfl (Nat.le_of_ble_eq_true rfl) (fun G g ho hm _ _ => ok_f_m_can  g hm  μ ho a1 a2 h)
def f_m_tiredAll_4 (N : Nat)  (μ : sw_M)  : Nat → Int32 → Int32 → Option (Int32)
  | 0, _, _ => none
  | n + 1, x1, x2 =>
    if (μ 63 24) ≤ x2 then
      some x1
    else
      inb ((41 : Int32) + x2) 49 (
        ib (x1 + (μ 81 ((41 : Int32) + x2).toNatClampNeg)) (fun y2 =>
          f_m_tiredAll_4 N  μ  n y2 (x2 + 1)))
def f_m_tiredAll (N : Nat)  (μ : sw_M)  : Option (Int32) :=
  f_m_tiredAll_4 N  μ  N 0 0
set_option maxRecDepth 100000 in
set_option maxHeartbeats 4000000 in
theorem ok_f_m_tiredAll_4 {G : sw_G} {ad : Nat → Nat} {ν : sw_N}   {N : Nat} {o : Int32} (g : sw_ok G cX11_tiredAll "DeadWiresModel" (some .int) 1 0 0 ad) (hm : G.2.2.1.2.1.maxLocals = 3)  (μ : sw_M) (ho : sw_out G 0 0 (fun a => a = ad) (.inl (some (.int o))) lay0 μ ν)  : ∀ (n : Nat) (x1 : Int32) (x2 : Int32) (h : f_m_tiredAll_4 N  μ  n x1 x2 = some o), SW G ad lay0 ν 0 0 4 [some (.ref 63), some (.int x1), some (.int x2)] [] μ := by
  intro n
  induction n with
  | zero => intro x1 x2 h; simp only [f_m_tiredAll_4] at h; cases h
  | succ n ih =>
    intro x1 x2 h
    unfold f_m_tiredAll_4 at h
    refine SW.iload_n (pc := 4) g (dt dt_X11_tiredAll 4 rfl) rfl ?_
    refine SW.aload_n (pc := 5) g (dt dt_X11_tiredAll 5 rfl) rfl ?_
    refine SW.getI (pc := 6) g (dt dt_X11_tiredAll 6 rfl) fl_X11_162 cell_63 rfl ?_
    refine SW.icmp_ge (pc := 9) (t := 30) g (dt dt_X11_tiredAll 7 rfl) rfl (fun hc => ?_) (fun hc => ?_)
    · have h := iteT hc h
      refine SW.iload_n (pc := 30) g (dt dt_X11_tiredAll 19 rfl) rfl ?_
      exact SW.ireturn (pc := 31) g (leafI h ho) rfl (Nat.le_of_ble_eq_true rfl) (Nat.le_of_ble_eq_true rfl) (dt dt_X11_tiredAll 20 rfl)
    · have h := iteF hc h
      refine SW.iload_n (pc := 12) g (dt dt_X11_tiredAll 8 rfl) rfl ?_
      refine SW.aload_n (pc := 13) g (dt dt_X11_tiredAll 9 rfl) rfl ?_
      refine SW.getR (pc := 14) g (dt dt_X11_tiredAll 10 rfl) fl_X11_68 cell_63 rfl ?_
      refine SW.bipush (pc := 17) (v := 41) g (dt dt_X11_tiredAll 11 rfl) kb_41 ?_
      refine SW.iload_n (pc := 19) g (dt dt_X11_tiredAll 12 rfl) rfl ?_
      refine SW.iadd (pc := 20) g (dt dt_X11_tiredAll 13 rfl) ?_
      obtain ⟨hb1, h⟩ := inbI h
      refine SW.iaload (pc := 21) g (dt dt_X11_tiredAll 14 rfl) cell_81 hb1 ?_
      refine SW.iadd (pc := 22) g (dt dt_X11_tiredAll 15 rfl) ?_
      refine SW.istore_n (pc := 23) g (dt dt_X11_tiredAll 16 rfl) (sw_ltm hm (Nat.le_of_ble_eq_true rfl)) rfl ?_
      refine SW.genL h (fun y2 h => ?_)
      refine SW.iinc (pc := 24) (v := x2 + 1) g (dt dt_X11_tiredAll 17 rfl) rfl (kn_1 _) (sw_ltm hm (Nat.le_of_ble_eq_true rfl)) rfl ?_
      refine SW.goto (pc := 27) (t := 4) g (dt dt_X11_tiredAll 18 rfl) rfl ?_
      refine SW.msk [true, true, true] ?_
      exact ih  y2 (x2 + 1) h
set_option maxRecDepth 100000 in
set_option maxHeartbeats 4000000 in
theorem ok_f_m_tiredAll {G : sw_G} {ad : Nat → Nat} {ν : sw_N}   {N : Nat} {o : Int32} (g : sw_ok G cX11_tiredAll "DeadWiresModel" (some .int) 1 0 0 ad) (hm : G.2.2.1.2.1.maxLocals = 3)  (μ : sw_M) (ho : sw_out G 0 0 (fun a => a = ad) (.inl (some (.int o))) lay0 μ ν)  (h : f_m_tiredAll N  μ  = some o) : SW G ad lay0 ν 0 0 0 [some (.ref 63), none, none] [] μ := by
  unfold f_m_tiredAll at h
  refine SW.iconst (pc := 0) (v := 0) g (dt dt_X11_tiredAll 0 rfl) ki_0 ?_
  refine SW.istore_n (pc := 1) g (dt dt_X11_tiredAll 1 rfl) (sw_ltm hm (Nat.le_of_ble_eq_true rfl)) rfl ?_
  refine SW.iconst (pc := 2) (v := 0) g (dt dt_X11_tiredAll 2 rfl) ki_0 ?_
  refine SW.istore_n (pc := 3) g (dt dt_X11_tiredAll 3 rfl) (sw_ltm hm (Nat.le_of_ble_eq_true rfl)) rfl ?_
  refine SW.msk [true, true, true] ?_
  exact ok_f_m_tiredAll_4  g hm  μ ho   N 0 0 h
set_option maxRecDepth 100000 in
set_option maxHeartbeats 4000000 in
theorem mt_f_m_tiredAll (l : Launch) (D : va_G) (cI cL : ClassId) (ad : Nat → Nat) (ν : sw_N)    (N : Nat) (μ : sw_M)  (o : Int32) (h : f_m_tiredAll N  μ  = some o) : MetR l D cI cL yX11_tiredAll cX11_tiredAll 3 (some .int) 1 0 0 (fun a => a = ad) ad [.ref 63] lay0 μ ν (some (.int o)) lay0 μ ν :=
  MetR.of (n := 2) rfl (Nat.le_of_ble_eq_true rfl) (fun G g ho hm _ _ => ok_f_m_tiredAll  g hm  μ ho  h)
def f_m_ahead_136 (N : Nat)  (k_93 : sw_M → Int32 → Int32 → Option (Int32 × sw_M)) (μ : sw_M) (x4 : Int32) (s0 : Int32) : Option (Int32 × sw_M) :=
  k_93 μ s0 (x4 + (-1))
def f_m_ahead_135 (N : Nat)  (k_93 : sw_M → Int32 → Int32 → Option (Int32 × sw_M)) (μ : sw_M) (x3 : Int32) (x4 : Int32) : Option (Int32 × sw_M) :=
  f_m_ahead_136 N  k_93  μ x4 x3
def f_m_ahead_93 (N : Nat)   : Nat → sw_M → Int32 → Int32 → Option (Int32 × sw_M)
  | 0, _, _, _ => none
  | n + 1, μ, x3, x4 =>
    if x4 < 0 then
      some (x3, μ)
    else
      inb ((12 : Int32) + x4) 49 (
        if (μ 81 ((12 : Int32) + x4).toNatClampNeg) = 0 then
          inb ((0 : Int32) + x4) 49 (
            inb 48 49 (
              if (μ 81 ((0 : Int32) + x4).toNatClampNeg) = (μ 81 (48 : Int32).toNatClampNeg) then
                f_m_ahead_136 N  (f_m_ahead_93 N   n)  μ x4 x4
              else
                f_m_ahead_135 N  (f_m_ahead_93 N   n)  μ x3 x4))
        else
          f_m_ahead_135 N  (f_m_ahead_93 N   n)  μ x3 x4)
def f_m_ahead_46 (N : Nat)   : Nat → sw_M → Int32 → Int32 → Int32 → Option (Int32 × sw_M)
  | 0, _, _, _, _ => none
  | n + 1, μ, x1, x2, x3 =>
    if x1 ≤ x3 then
      if 2 ≤ x2 then
        ib ((μ 63 22) - 1) (fun y1 =>
          f_m_ahead_93 N   N μ (-1) y1)
      else
        if x2 = 0 then
          Option.bind (f_m_liveIn N  μ 0) (fun r4 =>
            some (r4, μ))
        else
          Option.bind (f_m_tiredAll N  μ ) (fun r2 =>
            some (r2, μ))
    else
      Option.bind (f_m_goesOn N  μ ) (fun r6 =>
        f_m_ahead_46 N   n r6 x1 x2 (x3 + 1))
def f_m_ahead_30 (N : Nat)   (μ : sw_M) (x1 : Int32) (x2 : Int32) (s0 : Int32) : Option (Int32 × sw_M) :=
  Option.bind (f_m_may N  μ s0 1 1) (fun r1 =>
    if r1.1 = 0 then
      some (0, r1.2)
    else
      Option.bind (f_m_take N  r1.2 ) (fun r3 =>
        f_m_ahead_46 N   N r3 x1 x2 0))
def f_m_ahead_29 (N : Nat)   (μ : sw_M) (x1 : Int32) (x2 : Int32) : Option (Int32 × sw_M) :=
  f_m_ahead_30 N    μ x1 x2 0
def f_m_ahead (N : Nat)  (μ : sw_M) (a1 : Int32) (a2 : Int32) : Option (Int32 × sw_M) :=
  wb (wr μ 63 0 0) (fun μ1 =>
    Option.bind (f_sm_within N  μ1 a1 0 99) (fun r2 =>
      if r2 = 0 then
        f_m_ahead_29 N    μ1 a1 a2
      else
        Option.bind (f_sm_within N  μ1 a2 0 2) (fun r4 =>
          if r4 = 0 then
            f_m_ahead_29 N    μ1 a1 a2
          else
            f_m_ahead_30 N    μ1 a1 a2 1)))
set_option maxRecDepth 100000 in
set_option maxHeartbeats 4000000 in
theorem ok_f_m_ahead_136 {G : sw_G} {ad : Nat → Nat} {ν : sw_N}   {N : Nat} {o : Int32 × sw_M} (g : sw_ok G cX11_ahead "DeadWiresModel" (some .int) 3 0 0 ad) (hm : G.2.2.1.2.1.maxLocals = 5)  (ho : sw_out G 0 0 (fun a => a = ad) (.inl (some (.int o.1))) lay0 o.2 ν) (k_93 : sw_M → Int32 → Int32 → Option (Int32 × sw_M)) (hk_93 : ∀ (μ : sw_M) (x3 : Int32) (x4 : Int32), k_93 μ x3 x4 = some o → SW G ad lay0 ν 0 0 93 [some (.ref 63), none, none, some (.int x3), some (.int x4)] [] μ) (μ : sw_M) (x4 : Int32) (s0 : Int32) (h : f_m_ahead_136 N  k_93  μ x4 s0 = some o) : SW G ad lay0 ν 0 0 136 [some (.ref 63), none, none, none, some (.int x4)] [.int s0] μ := by
  unfold f_m_ahead_136 at h
  refine SW.istore_n (pc := 136) g (dt dt_X11_ahead 76 rfl) (sw_ltm hm (Nat.le_of_ble_eq_true rfl)) rfl ?_
  refine SW.iinc (pc := 137) (v := x4 + (-1)) g (dt dt_X11_ahead 77 rfl) rfl (kn_m1 _) (sw_ltm hm (Nat.le_of_ble_eq_true rfl)) rfl ?_
  refine SW.goto (pc := 140) (t := 93) g (dt dt_X11_ahead 78 rfl) rfl ?_
  refine SW.msk [true, false, false, true, true] ?_
  exact hk_93 μ s0 (x4 + (-1)) h
set_option maxRecDepth 100000 in
set_option maxHeartbeats 4000000 in
theorem ok_f_m_ahead_135 {G : sw_G} {ad : Nat → Nat} {ν : sw_N}   {N : Nat} {o : Int32 × sw_M} (g : sw_ok G cX11_ahead "DeadWiresModel" (some .int) 3 0 0 ad) (hm : G.2.2.1.2.1.maxLocals = 5)  (ho : sw_out G 0 0 (fun a => a = ad) (.inl (some (.int o.1))) lay0 o.2 ν) (k_93 : sw_M → Int32 → Int32 → Option (Int32 × sw_M)) (hk_93 : ∀ (μ : sw_M) (x3 : Int32) (x4 : Int32), k_93 μ x3 x4 = some o → SW G ad lay0 ν 0 0 93 [some (.ref 63), none, none, some (.int x3), some (.int x4)] [] μ) (μ : sw_M) (x3 : Int32) (x4 : Int32) (h : f_m_ahead_135 N  k_93  μ x3 x4 = some o) : SW G ad lay0 ν 0 0 135 [some (.ref 63), none, none, some (.int x3), some (.int x4)] [] μ := by
  unfold f_m_ahead_135 at h
  refine SW.iload_n (pc := 135) g (dt dt_X11_ahead 75 rfl) rfl ?_
  refine SW.msk [true, false, false, false, true] ?_
  exact ok_f_m_ahead_136  g hm  ho k_93 hk_93  μ x4 x3 h
set_option maxRecDepth 100000 in
set_option maxHeartbeats 4000000 in
theorem ok_f_m_ahead_93 {G : sw_G} {ad : Nat → Nat} {ν : sw_N}   {N : Nat} {o : Int32 × sw_M} (g : sw_ok G cX11_ahead "DeadWiresModel" (some .int) 3 0 0 ad) (hm : G.2.2.1.2.1.maxLocals = 5)  (ho : sw_out G 0 0 (fun a => a = ad) (.inl (some (.int o.1))) lay0 o.2 ν)  : ∀ (n : Nat) (μ : sw_M) (x3 : Int32) (x4 : Int32) (h : f_m_ahead_93 N   n μ x3 x4 = some o), SW G ad lay0 ν 0 0 93 [some (.ref 63), none, none, some (.int x3), some (.int x4)] [] μ := by
  intro n
  induction n with
  | zero => intro μ x3 x4 h; simp only [f_m_ahead_93] at h; cases h
  | succ n ih =>
    intro μ x3 x4 h
    unfold f_m_ahead_93 at h
    refine SW.iload (pc := 93) g (dt dt_X11_ahead 53 rfl) rfl ?_
    refine SW.if_lt (pc := 95) (t := 143) g (dt dt_X11_ahead 54 rfl) rfl (fun hc => ?_) (fun hc => ?_)
    · have h := iteT hc h
      refine SW.iload_n (pc := 143) g (dt dt_X11_ahead 79 rfl) rfl ?_
      exact SW.ireturn (pc := 144) g (leafW h ho) rfl (Nat.le_of_ble_eq_true rfl) (Nat.le_of_ble_eq_true rfl) (dt dt_X11_ahead 80 rfl)
    · have h := iteF hc h
      refine SW.aload_n (pc := 98) g (dt dt_X11_ahead 55 rfl) rfl ?_
      refine SW.getR (pc := 99) g (dt dt_X11_ahead 56 rfl) fl_X11_68 cell_63 rfl ?_
      refine SW.bipush (pc := 102) (v := 12) g (dt dt_X11_ahead 57 rfl) kb_12 ?_
      refine SW.iload (pc := 104) g (dt dt_X11_ahead 58 rfl) rfl ?_
      refine SW.iadd (pc := 106) g (dt dt_X11_ahead 59 rfl) ?_
      obtain ⟨hb1, h⟩ := inbI h
      refine SW.iaload (pc := 107) g (dt dt_X11_ahead 60 rfl) cell_81 hb1 ?_
      refine SW.if_ne (pc := 108) (t := 135) g (dt dt_X11_ahead 61 rfl) rfl (fun hc => ?_) (fun hc => ?_)
      · have h := iteF hc h
        refine SW.msk [true, false, false, true, true] ?_
        exact ok_f_m_ahead_135  g hm  ho (f_m_ahead_93 N   n) ih  μ x3 x4 h
      · have h := iteT hc h
        refine SW.aload_n (pc := 111) g (dt dt_X11_ahead 62 rfl) rfl ?_
        refine SW.getR (pc := 112) g (dt dt_X11_ahead 63 rfl) fl_X11_68 cell_63 rfl ?_
        refine SW.iconst (pc := 115) (v := 0) g (dt dt_X11_ahead 64 rfl) ki_0 ?_
        refine SW.iload (pc := 116) g (dt dt_X11_ahead 65 rfl) rfl ?_
        refine SW.iadd (pc := 118) g (dt dt_X11_ahead 66 rfl) ?_
        obtain ⟨hb2, h⟩ := inbI h
        refine SW.iaload (pc := 119) g (dt dt_X11_ahead 67 rfl) cell_81 hb2 ?_
        refine SW.aload_n (pc := 120) g (dt dt_X11_ahead 68 rfl) rfl ?_
        refine SW.getR (pc := 121) g (dt dt_X11_ahead 69 rfl) fl_X11_68 cell_63 rfl ?_
        refine SW.bipush (pc := 124) (v := 48) g (dt dt_X11_ahead 70 rfl) kb_48 ?_
        obtain ⟨hb3, h⟩ := inbI h
        refine SW.iaload (pc := 126) g (dt dt_X11_ahead 71 rfl) cell_81 hb3 ?_
        refine SW.icmp_ne (pc := 127) (t := 135) g (dt dt_X11_ahead 72 rfl) rfl (fun hc => ?_) (fun hc => ?_)
        · have h := iteF hc h
          refine SW.msk [true, false, false, true, true] ?_
          exact ok_f_m_ahead_135  g hm  ho (f_m_ahead_93 N   n) ih  μ x3 x4 h
        · have h := iteT hc h
          refine SW.iload (pc := 130) g (dt dt_X11_ahead 73 rfl) rfl ?_
          refine SW.goto (pc := 132) (t := 136) g (dt dt_X11_ahead 74 rfl) rfl ?_
          refine SW.msk [true, false, false, false, true] ?_
          exact ok_f_m_ahead_136  g hm  ho (f_m_ahead_93 N   n) ih  μ x4 x4 h
set_option maxRecDepth 100000 in
set_option maxHeartbeats 4000000 in
theorem ok_f_m_ahead_46 {G : sw_G} {ad : Nat → Nat} {ν : sw_N}   {N : Nat} {o : Int32 × sw_M} (g : sw_ok G cX11_ahead "DeadWiresModel" (some .int) 3 0 0 ad) (hm : G.2.2.1.2.1.maxLocals = 5)  (ho : sw_out G 0 0 (fun a => a = ad) (.inl (some (.int o.1))) lay0 o.2 ν)  : ∀ (n : Nat) (μ : sw_M) (x1 : Int32) (x2 : Int32) (x3 : Int32) (h : f_m_ahead_46 N   n μ x1 x2 x3 = some o), SW G ad lay0 ν 0 0 46 [some (.ref 63), some (.int x1), some (.int x2), some (.int x3), none] [] μ := by
  intro n
  induction n with
  | zero => intro μ x1 x2 x3 h; simp only [f_m_ahead_46] at h; cases h
  | succ n ih =>
    intro μ x1 x2 x3 h
    unfold f_m_ahead_46 at h
    refine SW.iload_n (pc := 46) g (dt dt_X11_ahead 27 rfl) rfl ?_
    refine SW.iload_n (pc := 47) g (dt dt_X11_ahead 28 rfl) rfl ?_
    refine SW.icmp_ge (pc := 48) (t := 61) g (dt dt_X11_ahead 29 rfl) rfl (fun hc => ?_) (fun hc => ?_)
    · have h := iteT hc h
      refine SW.iload_n (pc := 61) g (dt dt_X11_ahead 34 rfl) rfl ?_
      refine SW.iconst (pc := 62) (v := 2) g (dt dt_X11_ahead 35 rfl) ki_2 ?_
      refine SW.icmp_ge (pc := 63) (t := 83) g (dt dt_X11_ahead 36 rfl) rfl (fun hc => ?_) (fun hc => ?_)
      · have h := iteT hc h
        refine SW.iconst (pc := 83) (v := (-1)) g (dt dt_X11_ahead 46 rfl) ki_m1 ?_
        refine SW.istore_n (pc := 84) g (dt dt_X11_ahead 47 rfl) (sw_ltm hm (Nat.le_of_ble_eq_true rfl)) rfl ?_
        refine SW.aload_n (pc := 85) g (dt dt_X11_ahead 48 rfl) rfl ?_
        refine SW.getI (pc := 86) g (dt dt_X11_ahead 49 rfl) fl_X11_156 cell_63 rfl ?_
        refine SW.iconst (pc := 89) (v := 1) g (dt dt_X11_ahead 50 rfl) ki_1 ?_
        refine SW.isub (pc := 90) g (dt dt_X11_ahead 51 rfl) ?_
        refine SW.istore (pc := 91) g (dt dt_X11_ahead 52 rfl) (sw_ltm hm (Nat.le_of_ble_eq_true rfl)) rfl ?_
        refine SW.genL h (fun y1 h => ?_)
        refine SW.msk [true, false, false, true, true] ?_
        exact ok_f_m_ahead_93  g hm  ho   N μ (-1) y1 h
      · have h := iteF hc h
        refine SW.iload_n (pc := 66) g (dt dt_X11_ahead 37 rfl) rfl ?_
        refine SW.if_ne (pc := 67) (t := 78) g (dt dt_X11_ahead 38 rfl) rfl (fun hc => ?_) (fun hc => ?_)
        · have h := iteF hc h
          refine SW.aload_n (pc := 78) g (dt dt_X11_ahead 43 rfl) rfl ?_
          obtain ⟨r2, h3, h⟩ := bindI h
          refine SW.callVi (pc := 79) g (dt dt_X11_ahead 44 rfl) (mt_f_m_tiredAll _ _ _ _ ad ν   N μ  r2 h3) me_X11_tiredAll mv_X11_tiredAll ml_X11_401 cell_63 rfl rfl (Nat.le_of_ble_eq_true rfl) (Nat.le_of_ble_eq_true rfl) (Nat.le_of_ble_eq_true rfl) (Nat.le_of_ble_eq_true rfl) rfl ?_
          exact SW.ireturn (pc := 82) g (leafW h ho) rfl (Nat.le_of_ble_eq_true rfl) (Nat.le_of_ble_eq_true rfl) (dt dt_X11_ahead 45 rfl)
        · have h := iteT hc h
          refine SW.aload_n (pc := 70) g (dt dt_X11_ahead 39 rfl) rfl ?_
          refine SW.iconst (pc := 71) (v := 0) g (dt dt_X11_ahead 40 rfl) ki_0 ?_
          obtain ⟨r4, h5, h⟩ := bindI h
          refine SW.callVi (pc := 72) g (dt dt_X11_ahead 41 rfl) (mt_f_m_liveIn _ _ _ _ ad ν   N μ 0 r4 h5) me_X11_liveIn mv_X11_liveIn ml_X11_377 cell_63 rfl rfl (Nat.le_of_ble_eq_true rfl) (Nat.le_of_ble_eq_true rfl) (Nat.le_of_ble_eq_true rfl) (Nat.le_of_ble_eq_true rfl) rfl ?_
          refine SW.goto (pc := 75) (t := 82) g (dt dt_X11_ahead 42 rfl) rfl ?_
          exact SW.ireturn (pc := 82) g (leafW h ho) rfl (Nat.le_of_ble_eq_true rfl) (Nat.le_of_ble_eq_true rfl) (dt dt_X11_ahead 45 rfl)
    · have h := iteF hc h
      refine SW.aload_n (pc := 51) g (dt dt_X11_ahead 30 rfl) rfl ?_
      obtain ⟨r6, h7, h⟩ := bindI h
      refine SW.callVv (pc := 52) g (dt dt_X11_ahead 31 rfl) (mt_f_m_goesOn _ _ _ _ ad ν   N μ  r6 h7) me_X11_goesOn mv_X11_goesOn ml_X11_371 cell_63 rfl rfl (Nat.le_of_ble_eq_true rfl) (Nat.le_of_ble_eq_true rfl) (Nat.le_of_ble_eq_true rfl) (Nat.le_of_ble_eq_true rfl) rfl ?_
      refine SW.iinc (pc := 55) (v := x3 + 1) g (dt dt_X11_ahead 32 rfl) rfl (kn_1 _) (sw_ltm hm (Nat.le_of_ble_eq_true rfl)) rfl ?_
      refine SW.goto (pc := 58) (t := 46) g (dt dt_X11_ahead 33 rfl) rfl ?_
      refine SW.msk [true, true, true, true, false] ?_
      exact ih r6 x1 x2 (x3 + 1) h
set_option maxRecDepth 100000 in
set_option maxHeartbeats 4000000 in
theorem ok_f_m_ahead_30 {G : sw_G} {ad : Nat → Nat} {ν : sw_N}   {N : Nat} {o : Int32 × sw_M} (g : sw_ok G cX11_ahead "DeadWiresModel" (some .int) 3 0 0 ad) (hm : G.2.2.1.2.1.maxLocals = 5)  (ho : sw_out G 0 0 (fun a => a = ad) (.inl (some (.int o.1))) lay0 o.2 ν)  (μ : sw_M) (x1 : Int32) (x2 : Int32) (s0 : Int32) (h : f_m_ahead_30 N    μ x1 x2 s0 = some o) : SW G ad lay0 ν 0 0 30 [some (.ref 63), some (.int x1), some (.int x2), none, none] [.int s0, .ref 63] μ := by
  unfold f_m_ahead_30 at h
  refine SW.iconst (pc := 30) (v := 1) g (dt dt_X11_ahead 17 rfl) ki_1 ?_
  refine SW.iconst (pc := 31) (v := 1) g (dt dt_X11_ahead 18 rfl) ki_1 ?_
  obtain ⟨r1, h2, h⟩ := bindI h
  refine SW.callVi (pc := 32) g (dt dt_X11_ahead 19 rfl) (mt_f_m_may _ _ _ _ ad ν   N μ s0 1 1 r1 h2) me_X11_may mv_X11_may ml_X11_204 cell_63 rfl rfl (Nat.le_of_ble_eq_true rfl) (Nat.le_of_ble_eq_true rfl) (Nat.le_of_ble_eq_true rfl) (Nat.le_of_ble_eq_true rfl) rfl ?_
  refine SW.if_ne (pc := 35) (t := 40) g (dt dt_X11_ahead 20 rfl) rfl (fun hc => ?_) (fun hc => ?_)
  · have h := iteF hc h
    refine SW.aload_n (pc := 40) g (dt dt_X11_ahead 23 rfl) rfl ?_
    obtain ⟨r3, h4, h⟩ := bindI h
    refine SW.callVv (pc := 41) g (dt dt_X11_ahead 24 rfl) (mt_f_m_take _ _ _ _ ad ν   N r1.2  r3 h4) me_X11_take mv_X11_take ml_X11_305 cell_63 rfl rfl (Nat.le_of_ble_eq_true rfl) (Nat.le_of_ble_eq_true rfl) (Nat.le_of_ble_eq_true rfl) (Nat.le_of_ble_eq_true rfl) rfl ?_
    refine SW.iconst (pc := 44) (v := 0) g (dt dt_X11_ahead 25 rfl) ki_0 ?_
    refine SW.istore_n (pc := 45) g (dt dt_X11_ahead 26 rfl) (sw_ltm hm (Nat.le_of_ble_eq_true rfl)) rfl ?_
    refine SW.msk [true, true, true, true, false] ?_
    exact ok_f_m_ahead_46  g hm  ho   N r3 x1 x2 0 h
  · have h := iteT hc h
    refine SW.iconst (pc := 38) (v := 0) g (dt dt_X11_ahead 21 rfl) ki_0 ?_
    exact SW.ireturn (pc := 39) g (leafW h ho) rfl (Nat.le_of_ble_eq_true rfl) (Nat.le_of_ble_eq_true rfl) (dt dt_X11_ahead 22 rfl)
set_option maxRecDepth 100000 in
set_option maxHeartbeats 4000000 in
theorem ok_f_m_ahead_29 {G : sw_G} {ad : Nat → Nat} {ν : sw_N}   {N : Nat} {o : Int32 × sw_M} (g : sw_ok G cX11_ahead "DeadWiresModel" (some .int) 3 0 0 ad) (hm : G.2.2.1.2.1.maxLocals = 5)  (ho : sw_out G 0 0 (fun a => a = ad) (.inl (some (.int o.1))) lay0 o.2 ν)  (μ : sw_M) (x1 : Int32) (x2 : Int32) (h : f_m_ahead_29 N    μ x1 x2 = some o) : SW G ad lay0 ν 0 0 29 [some (.ref 63), some (.int x1), some (.int x2), none, none] [.ref 63] μ := by
  unfold f_m_ahead_29 at h
  refine SW.iconst (pc := 29) (v := 0) g (dt dt_X11_ahead 16 rfl) ki_0 ?_
  refine SW.msk [true, true, true, false, false] ?_
  exact ok_f_m_ahead_30  g hm  ho    μ x1 x2 0 h
set_option maxRecDepth 100000 in
set_option maxHeartbeats 4000000 in
theorem ok_f_m_ahead {G : sw_G} {ad : Nat → Nat} {ν : sw_N}   {N : Nat} {o : Int32 × sw_M} (g : sw_ok G cX11_ahead "DeadWiresModel" (some .int) 3 0 0 ad) (hm : G.2.2.1.2.1.maxLocals = 5)  (μ : sw_M) (ho : sw_out G 0 0 (fun a => a = ad) (.inl (some (.int o.1))) lay0 o.2 ν) (a1 : Int32) (a2 : Int32) (h : f_m_ahead N  μ a1 a2 = some o) : SW G ad lay0 ν 0 0 0 [some (.ref 63), some (.int a1), some (.int a2), none, none] [] μ := by
  unfold f_m_ahead at h
  refine SW.aload_n (pc := 0) g (dt dt_X11_ahead 0 rfl) rfl ?_
  refine SW.iconst (pc := 1) (v := 0) g (dt dt_X11_ahead 1 rfl) ki_0 ?_
  refine SW.putI (pc := 2) g (dt dt_X11_ahead 2 rfl) fl_X11_3 cell_63 rfl ?_
  refine SW.genM h (fun μ1 h => ?_)
  refine SW.aload_n (pc := 5) g (dt dt_X11_ahead 3 rfl) rfl ?_
  refine SW.iload_n (pc := 6) g (dt dt_X11_ahead 4 rfl) rfl ?_
  refine SW.iconst (pc := 7) (v := 0) g (dt dt_X11_ahead 5 rfl) ki_0 ?_
  refine SW.bipush (pc := 8) (v := 99) g (dt dt_X11_ahead 6 rfl) kb_99 ?_
  obtain ⟨r2, h3, h⟩ := bindI h
  refine SW.callSi (pc := 10) g (dt dt_X11_ahead 7 rfl) (mt_f_sm_within _ _ _ _ ad ν lay0   N μ1 a1 0 99 r2 h3) me_X11_within ms_X11_within ml_X11_374 rfl (Nat.le_of_ble_eq_true rfl) (Nat.le_of_ble_eq_true rfl) (Nat.le_of_ble_eq_true rfl) (Nat.le_of_ble_eq_true rfl) rfl ?_
  refine SW.if_eq (pc := 13) (t := 29) g (dt dt_X11_ahead 8 rfl) rfl (fun hc => ?_) (fun hc => ?_)
  · have h := iteT hc h
    refine SW.msk [true, true, true, false, false] ?_
    exact ok_f_m_ahead_29  g hm  ho    μ1 a1 a2 h
  · have h := iteF hc h
    refine SW.iload_n (pc := 16) g (dt dt_X11_ahead 9 rfl) rfl ?_
    refine SW.iconst (pc := 17) (v := 0) g (dt dt_X11_ahead 10 rfl) ki_0 ?_
    refine SW.iconst (pc := 18) (v := 2) g (dt dt_X11_ahead 11 rfl) ki_2 ?_
    obtain ⟨r4, h5, h⟩ := bindI h
    refine SW.callSi (pc := 19) g (dt dt_X11_ahead 12 rfl) (mt_f_sm_within _ _ _ _ ad ν lay0   N μ1 a2 0 2 r4 h5) me_X11_within ms_X11_within ml_X11_374 rfl (Nat.le_of_ble_eq_true rfl) (Nat.le_of_ble_eq_true rfl) (Nat.le_of_ble_eq_true rfl) (Nat.le_of_ble_eq_true rfl) rfl ?_
    refine SW.if_eq (pc := 22) (t := 29) g (dt dt_X11_ahead 13 rfl) rfl (fun hc => ?_) (fun hc => ?_)
    · have h := iteT hc h
      refine SW.msk [true, true, true, false, false] ?_
      exact ok_f_m_ahead_29  g hm  ho    μ1 a1 a2 h
    · have h := iteF hc h
      refine SW.iconst (pc := 25) (v := 1) g (dt dt_X11_ahead 14 rfl) ki_1 ?_
      refine SW.goto (pc := 26) (t := 30) g (dt dt_X11_ahead 15 rfl) rfl ?_
      refine SW.msk [true, true, true, false, false] ?_
      exact ok_f_m_ahead_30  g hm  ho    μ1 a1 a2 1 h
set_option maxRecDepth 100000 in
set_option maxHeartbeats 4000000 in
theorem mt_f_m_ahead (l : Launch) (D : va_G) (cI cL : ClassId) (ad : Nat → Nat) (ν : sw_N)    (N : Nat) (μ : sw_M) (a1 : Int32) (a2 : Int32) (o : Int32 × sw_M) (h : f_m_ahead N  μ a1 a2 = some o) : MetR l D cI cL yX11_ahead cX11_ahead 5 (some .int) 3 0 0 (fun a => a = ad) ad [.ref 63, .int a1, .int a2] lay0 μ ν (some (.int o.1)) lay0 o.2 ν :=
  MetR.of (n := 2) rfl (Nat.le_of_ble_eq_true rfl) (fun G g ho hm _ _ => ok_f_m_ahead  g hm  μ ho a1 a2 h)
def f_m_comesIn_8 (N : Nat)  (μ : sw_M)  : Nat → Int32 → Int32 → Int32 → Int32 → Int32 → Option (Int32)
  | 0, _, _, _, _, _ => none
  | n + 1, x2, x3, x4, x5, x6 =>
    if 8 ≤ x6 then
      some (-1)
    else
      if ((x5 >>> (x2 &&& 31)) &&& 1) = 1 then
        some x6
      else
        Option.bind (f_m_onFrom N  μ x5 (x3 + x6) x4) (fun r1 =>
          f_m_comesIn_8 N  μ  n x2 x3 x4 r1 (x6 + 1))
def f_m_comesIn (N : Nat)  (μ : sw_M) (a1 : Int32) (a2 : Int32) (a3 : Int32) (a4 : Int32) : Option (Int32) :=
  ib ((1 : Int32) <<< (a1 &&& 31)) (fun y1 =>
    f_m_comesIn_8 N  μ  N a2 a3 a4 y1 0)
set_option maxRecDepth 100000 in
set_option maxHeartbeats 4000000 in
theorem ok_f_m_comesIn_8 {G : sw_G} {ad : Nat → Nat} {ν : sw_N}   {N : Nat} {o : Int32} (g : sw_ok G cX11_comesIn "DeadWiresModel" (some .int) 3 0 0 ad) (hm : G.2.2.1.2.1.maxLocals = 7)  (μ : sw_M) (ho : sw_out G 0 0 (fun a => a = ad) (.inl (some (.int o))) lay0 μ ν)  : ∀ (n : Nat) (x2 : Int32) (x3 : Int32) (x4 : Int32) (x5 : Int32) (x6 : Int32) (h : f_m_comesIn_8 N  μ  n x2 x3 x4 x5 x6 = some o), SW G ad lay0 ν 0 0 8 [some (.ref 63), none, some (.int x2), some (.int x3), some (.int x4), some (.int x5), some (.int x6)] [] μ := by
  intro n
  induction n with
  | zero => intro x2 x3 x4 x5 x6 h; simp only [f_m_comesIn_8] at h; cases h
  | succ n ih =>
    intro x2 x3 x4 x5 x6 h
    unfold f_m_comesIn_8 at h
    refine SW.iload (pc := 8) g (dt dt_X11_comesIn 6 rfl) rfl ?_
    refine SW.bipush (pc := 10) (v := 8) g (dt dt_X11_comesIn 7 rfl) kb_8 ?_
    refine SW.icmp_ge (pc := 12) (t := 48) g (dt dt_X11_comesIn 8 rfl) rfl (fun hc => ?_) (fun hc => ?_)
    · have h := iteT hc h
      refine SW.iconst (pc := 48) (v := (-1)) g (dt dt_X11_comesIn 28 rfl) ki_m1 ?_
      exact SW.ireturn (pc := 49) g (leafI h ho) rfl (Nat.le_of_ble_eq_true rfl) (Nat.le_of_ble_eq_true rfl) (dt dt_X11_comesIn 29 rfl)
    · have h := iteF hc h
      refine SW.iload (pc := 15) g (dt dt_X11_comesIn 9 rfl) rfl ?_
      refine SW.iload_n (pc := 17) g (dt dt_X11_comesIn 10 rfl) rfl ?_
      refine SW.ishr (pc := 18) g (dt dt_X11_comesIn 11 rfl) ?_
      refine SW.iconst (pc := 19) (v := 1) g (dt dt_X11_comesIn 12 rfl) ki_1 ?_
      refine SW.iand (pc := 20) g (dt dt_X11_comesIn 13 rfl) ?_
      refine SW.iconst (pc := 21) (v := 1) g (dt dt_X11_comesIn 14 rfl) ki_1 ?_
      refine SW.icmp_ne (pc := 22) (t := 28) g (dt dt_X11_comesIn 15 rfl) rfl (fun hc => ?_) (fun hc => ?_)
      · have h := iteF hc h
        refine SW.aload_n (pc := 28) g (dt dt_X11_comesIn 18 rfl) rfl ?_
        refine SW.iload (pc := 29) g (dt dt_X11_comesIn 19 rfl) rfl ?_
        refine SW.iload_n (pc := 31) g (dt dt_X11_comesIn 20 rfl) rfl ?_
        refine SW.iload (pc := 32) g (dt dt_X11_comesIn 21 rfl) rfl ?_
        refine SW.iadd (pc := 34) g (dt dt_X11_comesIn 22 rfl) ?_
        refine SW.iload (pc := 35) g (dt dt_X11_comesIn 23 rfl) rfl ?_
        obtain ⟨r1, h2, h⟩ := bindI h
        refine SW.callVi (pc := 37) g (dt dt_X11_comesIn 24 rfl) (mt_f_m_onFrom _ _ _ _ ad ν   N μ x5 (x3 + x6) x4 r1 h2) me_X11_onFrom mv_X11_onFrom ml_X11_392 cell_63 rfl rfl (Nat.le_of_ble_eq_true rfl) (Nat.le_of_ble_eq_true rfl) (Nat.le_of_ble_eq_true rfl) (Nat.le_of_ble_eq_true rfl) rfl ?_
        refine SW.istore (pc := 40) g (dt dt_X11_comesIn 25 rfl) (sw_ltm hm (Nat.le_of_ble_eq_true rfl)) rfl ?_
        refine SW.iinc (pc := 42) (v := x6 + 1) g (dt dt_X11_comesIn 26 rfl) rfl (kn_1 _) (sw_ltm hm (Nat.le_of_ble_eq_true rfl)) rfl ?_
        refine SW.goto (pc := 45) (t := 8) g (dt dt_X11_comesIn 27 rfl) rfl ?_
        refine SW.msk [true, false, true, true, true, true, true] ?_
        exact ih  x2 x3 x4 r1 (x6 + 1) h
      · have h := iteT hc h
        refine SW.iload (pc := 25) g (dt dt_X11_comesIn 16 rfl) rfl ?_
        exact SW.ireturn (pc := 27) g (leafI h ho) rfl (Nat.le_of_ble_eq_true rfl) (Nat.le_of_ble_eq_true rfl) (dt dt_X11_comesIn 17 rfl)
set_option maxRecDepth 100000 in
set_option maxHeartbeats 4000000 in
theorem ok_f_m_comesIn {G : sw_G} {ad : Nat → Nat} {ν : sw_N}   {N : Nat} {o : Int32} (g : sw_ok G cX11_comesIn "DeadWiresModel" (some .int) 3 0 0 ad) (hm : G.2.2.1.2.1.maxLocals = 7)  (μ : sw_M) (ho : sw_out G 0 0 (fun a => a = ad) (.inl (some (.int o))) lay0 μ ν) (a1 : Int32) (a2 : Int32) (a3 : Int32) (a4 : Int32) (h : f_m_comesIn N  μ a1 a2 a3 a4 = some o) : SW G ad lay0 ν 0 0 0 [some (.ref 63), some (.int a1), some (.int a2), some (.int a3), some (.int a4), none, none] [] μ := by
  unfold f_m_comesIn at h
  refine SW.iconst (pc := 0) (v := 1) g (dt dt_X11_comesIn 0 rfl) ki_1 ?_
  refine SW.iload_n (pc := 1) g (dt dt_X11_comesIn 1 rfl) rfl ?_
  refine SW.ishl (pc := 2) g (dt dt_X11_comesIn 2 rfl) ?_
  refine SW.istore (pc := 3) g (dt dt_X11_comesIn 3 rfl) (sw_ltm hm (Nat.le_of_ble_eq_true rfl)) rfl ?_
  refine SW.genL h (fun y1 h => ?_)
  refine SW.iconst (pc := 5) (v := 0) g (dt dt_X11_comesIn 4 rfl) ki_0 ?_
  refine SW.istore (pc := 6) g (dt dt_X11_comesIn 5 rfl) (sw_ltm hm (Nat.le_of_ble_eq_true rfl)) rfl ?_
  refine SW.msk [true, false, true, true, true, true, true] ?_
  exact ok_f_m_comesIn_8  g hm  μ ho   N a2 a3 a4 y1 0 h
set_option maxRecDepth 100000 in
set_option maxHeartbeats 4000000 in
theorem mt_f_m_comesIn (l : Launch) (D : va_G) (cI cL : ClassId) (ad : Nat → Nat) (ν : sw_N)    (N : Nat) (μ : sw_M) (a1 : Int32) (a2 : Int32) (a3 : Int32) (a4 : Int32) (o : Int32) (h : f_m_comesIn N  μ a1 a2 a3 a4 = some o) : MetR l D cI cL yX11_comesIn cX11_comesIn 7 (some .int) 3 0 0 (fun a => a = ad) ad [.ref 63, .int a1, .int a2, .int a3, .int a4] lay0 μ ν (some (.int o)) lay0 μ ν :=
  MetR.of (n := 2) rfl (Nat.le_of_ble_eq_true rfl) (fun G g ho hm _ _ => ok_f_m_comesIn  g hm  μ ho a1 a2 a3 a4 h)
def f_m_arrives (N : Nat)  (μ : sw_M) (a1 : Int32) (a2 : Int32) : Option (Int32 × sw_M) :=
  wb (wr μ 63 0 0) (fun μ1 =>
    Option.bind (f_m_isField N  μ1 a1 1) (fun r2 =>
      if r2.1 = 0 then
        some (0, r2.2)
      else
        Option.bind (f_m_isField N  r2.2 a2 1) (fun r4 =>
          if r4.1 = 0 then
            some (0, r4.2)
          else
            Option.bind (f_m_take N  r4.2 ) (fun r6 =>
              Option.bind (f_m_comesIn N  r6 a1 a2 0 0) (fun r8 =>
                some (r8, r6))))))
set_option maxRecDepth 100000 in
set_option maxHeartbeats 4000000 in
theorem ok_f_m_arrives {G : sw_G} {ad : Nat → Nat} {ν : sw_N}   {N : Nat} {o : Int32 × sw_M} (g : sw_ok G cX11_arrives "DeadWiresModel" (some .int) 4 0 0 ad) (hm : G.2.2.1.2.1.maxLocals = 3)  (μ : sw_M) (ho : sw_out G 0 0 (fun a => a = ad) (.inl (some (.int o.1))) lay0 o.2 ν) (a1 : Int32) (a2 : Int32) (h : f_m_arrives N  μ a1 a2 = some o) : SW G ad lay0 ν 0 0 0 [some (.ref 63), some (.int a1), some (.int a2)] [] μ := by
  unfold f_m_arrives at h
  refine SW.aload_n (pc := 0) g (dt dt_X11_arrives 0 rfl) rfl ?_
  refine SW.iconst (pc := 1) (v := 0) g (dt dt_X11_arrives 1 rfl) ki_0 ?_
  refine SW.putI (pc := 2) g (dt dt_X11_arrives 2 rfl) fl_X11_3 cell_63 rfl ?_
  refine SW.genM h (fun μ1 h => ?_)
  refine SW.aload_n (pc := 5) g (dt dt_X11_arrives 3 rfl) rfl ?_
  refine SW.iload_n (pc := 6) g (dt dt_X11_arrives 4 rfl) rfl ?_
  refine SW.iconst (pc := 7) (v := 1) g (dt dt_X11_arrives 5 rfl) ki_1 ?_
  obtain ⟨r2, h3, h⟩ := bindI h
  refine SW.callVi (pc := 8) g (dt dt_X11_arrives 6 rfl) (mt_f_m_isField _ _ _ _ ad ν   N μ1 a1 1 r2 h3) me_X11_isField mv_X11_isField ml_X11_386 cell_63 rfl rfl (Nat.le_of_ble_eq_true rfl) (Nat.le_of_ble_eq_true rfl) (Nat.le_of_ble_eq_true rfl) (Nat.le_of_ble_eq_true rfl) rfl ?_
  refine SW.if_eq (pc := 11) (t := 23) g (dt dt_X11_arrives 7 rfl) rfl (fun hc => ?_) (fun hc => ?_)
  · have h := iteT hc h
    refine SW.iconst (pc := 23) (v := 0) g (dt dt_X11_arrives 13 rfl) ki_0 ?_
    exact SW.ireturn (pc := 24) g (leafW h ho) rfl (Nat.le_of_ble_eq_true rfl) (Nat.le_of_ble_eq_true rfl) (dt dt_X11_arrives 14 rfl)
  · have h := iteF hc h
    refine SW.aload_n (pc := 14) g (dt dt_X11_arrives 8 rfl) rfl ?_
    refine SW.iload_n (pc := 15) g (dt dt_X11_arrives 9 rfl) rfl ?_
    refine SW.iconst (pc := 16) (v := 1) g (dt dt_X11_arrives 10 rfl) ki_1 ?_
    obtain ⟨r4, h5, h⟩ := bindI h
    refine SW.callVi (pc := 17) g (dt dt_X11_arrives 11 rfl) (mt_f_m_isField _ _ _ _ ad ν   N r2.2 a2 1 r4 h5) me_X11_isField mv_X11_isField ml_X11_386 cell_63 rfl rfl (Nat.le_of_ble_eq_true rfl) (Nat.le_of_ble_eq_true rfl) (Nat.le_of_ble_eq_true rfl) (Nat.le_of_ble_eq_true rfl) rfl ?_
    refine SW.if_ne (pc := 20) (t := 25) g (dt dt_X11_arrives 12 rfl) rfl (fun hc => ?_) (fun hc => ?_)
    · have h := iteF hc h
      refine SW.aload_n (pc := 25) g (dt dt_X11_arrives 15 rfl) rfl ?_
      obtain ⟨r6, h7, h⟩ := bindI h
      refine SW.callVv (pc := 26) g (dt dt_X11_arrives 16 rfl) (mt_f_m_take _ _ _ _ ad ν   N r4.2  r6 h7) me_X11_take mv_X11_take ml_X11_305 cell_63 rfl rfl (Nat.le_of_ble_eq_true rfl) (Nat.le_of_ble_eq_true rfl) (Nat.le_of_ble_eq_true rfl) (Nat.le_of_ble_eq_true rfl) rfl ?_
      refine SW.aload_n (pc := 29) g (dt dt_X11_arrives 17 rfl) rfl ?_
      refine SW.iload_n (pc := 30) g (dt dt_X11_arrives 18 rfl) rfl ?_
      refine SW.iload_n (pc := 31) g (dt dt_X11_arrives 19 rfl) rfl ?_
      refine SW.iconst (pc := 32) (v := 0) g (dt dt_X11_arrives 20 rfl) ki_0 ?_
      refine SW.iconst (pc := 33) (v := 0) g (dt dt_X11_arrives 21 rfl) ki_0 ?_
      obtain ⟨r8, h9, h⟩ := bindI h
      refine SW.callVi (pc := 34) g (dt dt_X11_arrives 22 rfl) (mt_f_m_comesIn _ _ _ _ ad ν   N r6 a1 a2 0 0 r8 h9) me_X11_comesIn mv_X11_comesIn ml_X11_404 cell_63 rfl rfl (Nat.le_of_ble_eq_true rfl) (Nat.le_of_ble_eq_true rfl) (Nat.le_of_ble_eq_true rfl) (Nat.le_of_ble_eq_true rfl) rfl ?_
      exact SW.ireturn (pc := 37) g (leafW h ho) rfl (Nat.le_of_ble_eq_true rfl) (Nat.le_of_ble_eq_true rfl) (dt dt_X11_arrives 23 rfl)
    · have h := iteT hc h
      refine SW.iconst (pc := 23) (v := 0) g (dt dt_X11_arrives 13 rfl) ki_0 ?_
      exact SW.ireturn (pc := 24) g (leafW h ho) rfl (Nat.le_of_ble_eq_true rfl) (Nat.le_of_ble_eq_true rfl) (dt dt_X11_arrives 14 rfl)
set_option maxRecDepth 100000 in
set_option maxHeartbeats 4000000 in
theorem mt_f_m_arrives (l : Launch) (D : va_G) (cI cL : ClassId) (ad : Nat → Nat) (ν : sw_N)    (N : Nat) (μ : sw_M) (a1 : Int32) (a2 : Int32) (o : Int32 × sw_M) (h : f_m_arrives N  μ a1 a2 = some o) : MetR l D cI cL yX11_arrives cX11_arrives 3 (some .int) 4 0 0 (fun a => a = ad) ad [.ref 63, .int a1, .int a2] lay0 μ ν (some (.int o.1)) lay0 o.2 ν :=
  MetR.of (n := 0) rfl (Nat.le_of_ble_eq_true rfl) (fun G g ho hm _ _ => ok_f_m_arrives  g hm  μ ho a1 a2 h)
def f_m_waits_33 (N : Nat)   : Nat → sw_M → Int32 → Int32 → Int32 → Option (Int32 × sw_M)
  | 0, _, _, _, _ => none
  | n + 1, μ, x1, x2, x3 =>
    if x3 < 0 then
      some (x3, μ)
    else
      Option.bind (f_m_comesIn N  μ x1 x2 x3 0) (fun r1 =>
        if r1 = (-1) then
          f_m_waits_33 N   n μ x1 x2 (x3 + (-1))
        else
          some (x3, μ))
def f_m_waits (N : Nat)  (μ : sw_M) (a1 : Int32) (a2 : Int32) : Option (Int32 × sw_M) :=
  wb (wr μ 63 0 0) (fun μ1 =>
    Option.bind (f_m_isField N  μ1 a1 1) (fun r2 =>
      if r2.1 = 0 then
        some (0, r2.2)
      else
        Option.bind (f_m_isField N  r2.2 a2 1) (fun r4 =>
          if r4.1 = 0 then
            some (0, r4.2)
          else
            Option.bind (f_m_take N  r4.2 ) (fun r6 =>
              f_m_waits_33 N   N r6 a1 a2 200))))
set_option maxRecDepth 100000 in
set_option maxHeartbeats 4000000 in
theorem ok_f_m_waits_33 {G : sw_G} {ad : Nat → Nat} {ν : sw_N}   {N : Nat} {o : Int32 × sw_M} (g : sw_ok G cX11_waits "DeadWiresModel" (some .int) 4 0 0 ad) (hm : G.2.2.1.2.1.maxLocals = 4)  (ho : sw_out G 0 0 (fun a => a = ad) (.inl (some (.int o.1))) lay0 o.2 ν)  : ∀ (n : Nat) (μ : sw_M) (x1 : Int32) (x2 : Int32) (x3 : Int32) (h : f_m_waits_33 N   n μ x1 x2 x3 = some o), SW G ad lay0 ν 0 0 33 [some (.ref 63), some (.int x1), some (.int x2), some (.int x3)] [] μ := by
  intro n
  induction n with
  | zero => intro μ x1 x2 x3 h; simp only [f_m_waits_33] at h; cases h
  | succ n ih =>
    intro μ x1 x2 x3 h
    unfold f_m_waits_33 at h
    refine SW.iload_n (pc := 33) g (dt dt_X11_waits 19 rfl) rfl ?_
    refine SW.if_lt (pc := 34) (t := 55) g (dt dt_X11_waits 20 rfl) rfl (fun hc => ?_) (fun hc => ?_)
    · have h := iteT hc h
      refine SW.iload_n (pc := 55) g (dt dt_X11_waits 31 rfl) rfl ?_
      exact SW.ireturn (pc := 56) g (leafW h ho) rfl (Nat.le_of_ble_eq_true rfl) (Nat.le_of_ble_eq_true rfl) (dt dt_X11_waits 32 rfl)
    · have h := iteF hc h
      refine SW.aload_n (pc := 37) g (dt dt_X11_waits 21 rfl) rfl ?_
      refine SW.iload_n (pc := 38) g (dt dt_X11_waits 22 rfl) rfl ?_
      refine SW.iload_n (pc := 39) g (dt dt_X11_waits 23 rfl) rfl ?_
      refine SW.iload_n (pc := 40) g (dt dt_X11_waits 24 rfl) rfl ?_
      refine SW.iconst (pc := 41) (v := 0) g (dt dt_X11_waits 25 rfl) ki_0 ?_
      obtain ⟨r1, h2, h⟩ := bindI h
      refine SW.callVi (pc := 42) g (dt dt_X11_waits 26 rfl) (mt_f_m_comesIn _ _ _ _ ad ν   N μ x1 x2 x3 0 r1 h2) me_X11_comesIn mv_X11_comesIn ml_X11_404 cell_63 rfl rfl (Nat.le_of_ble_eq_true rfl) (Nat.le_of_ble_eq_true rfl) (Nat.le_of_ble_eq_true rfl) (Nat.le_of_ble_eq_true rfl) rfl ?_
      refine SW.iconst (pc := 45) (v := (-1)) g (dt dt_X11_waits 27 rfl) ki_m1 ?_
      refine SW.icmp_ne (pc := 46) (t := 55) g (dt dt_X11_waits 28 rfl) rfl (fun hc => ?_) (fun hc => ?_)
      · have h := iteF hc h
        refine SW.iload_n (pc := 55) g (dt dt_X11_waits 31 rfl) rfl ?_
        exact SW.ireturn (pc := 56) g (leafW h ho) rfl (Nat.le_of_ble_eq_true rfl) (Nat.le_of_ble_eq_true rfl) (dt dt_X11_waits 32 rfl)
      · have h := iteT hc h
        refine SW.iinc (pc := 49) (v := x3 + (-1)) g (dt dt_X11_waits 29 rfl) rfl (kn_m1 _) (sw_ltm hm (Nat.le_of_ble_eq_true rfl)) rfl ?_
        refine SW.goto (pc := 52) (t := 33) g (dt dt_X11_waits 30 rfl) rfl ?_
        refine SW.msk [true, true, true, true] ?_
        exact ih μ x1 x2 (x3 + (-1)) h
set_option maxRecDepth 100000 in
set_option maxHeartbeats 4000000 in
theorem ok_f_m_waits {G : sw_G} {ad : Nat → Nat} {ν : sw_N}   {N : Nat} {o : Int32 × sw_M} (g : sw_ok G cX11_waits "DeadWiresModel" (some .int) 4 0 0 ad) (hm : G.2.2.1.2.1.maxLocals = 4)  (μ : sw_M) (ho : sw_out G 0 0 (fun a => a = ad) (.inl (some (.int o.1))) lay0 o.2 ν) (a1 : Int32) (a2 : Int32) (h : f_m_waits N  μ a1 a2 = some o) : SW G ad lay0 ν 0 0 0 [some (.ref 63), some (.int a1), some (.int a2), none] [] μ := by
  unfold f_m_waits at h
  refine SW.aload_n (pc := 0) g (dt dt_X11_waits 0 rfl) rfl ?_
  refine SW.iconst (pc := 1) (v := 0) g (dt dt_X11_waits 1 rfl) ki_0 ?_
  refine SW.putI (pc := 2) g (dt dt_X11_waits 2 rfl) fl_X11_3 cell_63 rfl ?_
  refine SW.genM h (fun μ1 h => ?_)
  refine SW.aload_n (pc := 5) g (dt dt_X11_waits 3 rfl) rfl ?_
  refine SW.iload_n (pc := 6) g (dt dt_X11_waits 4 rfl) rfl ?_
  refine SW.iconst (pc := 7) (v := 1) g (dt dt_X11_waits 5 rfl) ki_1 ?_
  obtain ⟨r2, h3, h⟩ := bindI h
  refine SW.callVi (pc := 8) g (dt dt_X11_waits 6 rfl) (mt_f_m_isField _ _ _ _ ad ν   N μ1 a1 1 r2 h3) me_X11_isField mv_X11_isField ml_X11_386 cell_63 rfl rfl (Nat.le_of_ble_eq_true rfl) (Nat.le_of_ble_eq_true rfl) (Nat.le_of_ble_eq_true rfl) (Nat.le_of_ble_eq_true rfl) rfl ?_
  refine SW.if_eq (pc := 11) (t := 23) g (dt dt_X11_waits 7 rfl) rfl (fun hc => ?_) (fun hc => ?_)
  · have h := iteT hc h
    refine SW.iconst (pc := 23) (v := 0) g (dt dt_X11_waits 13 rfl) ki_0 ?_
    exact SW.ireturn (pc := 24) g (leafW h ho) rfl (Nat.le_of_ble_eq_true rfl) (Nat.le_of_ble_eq_true rfl) (dt dt_X11_waits 14 rfl)
  · have h := iteF hc h
    refine SW.aload_n (pc := 14) g (dt dt_X11_waits 8 rfl) rfl ?_
    refine SW.iload_n (pc := 15) g (dt dt_X11_waits 9 rfl) rfl ?_
    refine SW.iconst (pc := 16) (v := 1) g (dt dt_X11_waits 10 rfl) ki_1 ?_
    obtain ⟨r4, h5, h⟩ := bindI h
    refine SW.callVi (pc := 17) g (dt dt_X11_waits 11 rfl) (mt_f_m_isField _ _ _ _ ad ν   N r2.2 a2 1 r4 h5) me_X11_isField mv_X11_isField ml_X11_386 cell_63 rfl rfl (Nat.le_of_ble_eq_true rfl) (Nat.le_of_ble_eq_true rfl) (Nat.le_of_ble_eq_true rfl) (Nat.le_of_ble_eq_true rfl) rfl ?_
    refine SW.if_ne (pc := 20) (t := 25) g (dt dt_X11_waits 12 rfl) rfl (fun hc => ?_) (fun hc => ?_)
    · have h := iteF hc h
      refine SW.aload_n (pc := 25) g (dt dt_X11_waits 15 rfl) rfl ?_
      obtain ⟨r6, h7, h⟩ := bindI h
      refine SW.callVv (pc := 26) g (dt dt_X11_waits 16 rfl) (mt_f_m_take _ _ _ _ ad ν   N r4.2  r6 h7) me_X11_take mv_X11_take ml_X11_305 cell_63 rfl rfl (Nat.le_of_ble_eq_true rfl) (Nat.le_of_ble_eq_true rfl) (Nat.le_of_ble_eq_true rfl) (Nat.le_of_ble_eq_true rfl) rfl ?_
      refine SW.sipush (pc := 29) (v := 200) g (dt dt_X11_waits 17 rfl) ks_200 ?_
      refine SW.istore_n (pc := 32) g (dt dt_X11_waits 18 rfl) (sw_ltm hm (Nat.le_of_ble_eq_true rfl)) rfl ?_
      refine SW.msk [true, true, true, true] ?_
      exact ok_f_m_waits_33  g hm  ho   N r6 a1 a2 200 h
    · have h := iteT hc h
      refine SW.iconst (pc := 23) (v := 0) g (dt dt_X11_waits 13 rfl) ki_0 ?_
      exact SW.ireturn (pc := 24) g (leafW h ho) rfl (Nat.le_of_ble_eq_true rfl) (Nat.le_of_ble_eq_true rfl) (dt dt_X11_waits 14 rfl)
set_option maxRecDepth 100000 in
set_option maxHeartbeats 4000000 in
theorem mt_f_m_waits (l : Launch) (D : va_G) (cI cL : ClassId) (ad : Nat → Nat) (ν : sw_N)    (N : Nat) (μ : sw_M) (a1 : Int32) (a2 : Int32) (o : Int32 × sw_M) (h : f_m_waits N  μ a1 a2 = some o) : MetR l D cI cL yX11_waits cX11_waits 4 (some .int) 4 0 0 (fun a => a = ad) ad [.ref 63, .int a1, .int a2] lay0 μ ν (some (.int o.1)) lay0 o.2 ν :=
  MetR.of (n := 1) rfl (Nat.le_of_ble_eq_true rfl) (fun G g ho hm _ _ => ok_f_m_waits  g hm  μ ho a1 a2 h)
def f_m_grant_31 (N : Nat)   : Nat → sw_M → Int32 → Int32 → Int32 → Option (Int32 × sw_M)
  | 0, _, _, _, _ => none
  | n + 1, μ, x1, x2, x3 =>
    if 200 < x3 then
      some ((-1), μ)
    else
      Option.bind (f_m_comesIn N  μ x1 x2 0 x3) (fun r1 =>
        if r1 = (-1) then
          f_m_grant_31 N   n μ x1 x2 (x3 + 1)
        else
          some (x3, μ))
def f_m_grant (N : Nat)  (μ : sw_M) (a1 : Int32) (a2 : Int32) : Option (Int32 × sw_M) :=
  wb (wr μ 63 0 0) (fun μ1 =>
    Option.bind (f_m_isField N  μ1 a1 1) (fun r2 =>
      if r2.1 = 0 then
        some (0, r2.2)
      else
        Option.bind (f_m_isField N  r2.2 a2 1) (fun r4 =>
          if r4.1 = 0 then
            some (0, r4.2)
          else
            Option.bind (f_m_take N  r4.2 ) (fun r6 =>
              f_m_grant_31 N   N r6 a1 a2 0))))
set_option maxRecDepth 100000 in
set_option maxHeartbeats 4000000 in
theorem ok_f_m_grant_31 {G : sw_G} {ad : Nat → Nat} {ν : sw_N}   {N : Nat} {o : Int32 × sw_M} (g : sw_ok G cX11_grant "DeadWiresModel" (some .int) 4 0 0 ad) (hm : G.2.2.1.2.1.maxLocals = 4)  (ho : sw_out G 0 0 (fun a => a = ad) (.inl (some (.int o.1))) lay0 o.2 ν)  : ∀ (n : Nat) (μ : sw_M) (x1 : Int32) (x2 : Int32) (x3 : Int32) (h : f_m_grant_31 N   n μ x1 x2 x3 = some o), SW G ad lay0 ν 0 0 31 [some (.ref 63), some (.int x1), some (.int x2), some (.int x3)] [] μ := by
  intro n
  induction n with
  | zero => intro μ x1 x2 x3 h; simp only [f_m_grant_31] at h; cases h
  | succ n ih =>
    intro μ x1 x2 x3 h
    unfold f_m_grant_31 at h
    refine SW.iload_n (pc := 31) g (dt dt_X11_grant 19 rfl) rfl ?_
    refine SW.sipush (pc := 32) (v := 200) g (dt dt_X11_grant 20 rfl) ks_200 ?_
    refine SW.icmp_gt (pc := 35) (t := 58) g (dt dt_X11_grant 21 rfl) rfl (fun hc => ?_) (fun hc => ?_)
    · have h := iteT hc h
      refine SW.iconst (pc := 58) (v := (-1)) g (dt dt_X11_grant 34 rfl) ki_m1 ?_
      exact SW.ireturn (pc := 59) g (leafW h ho) rfl (Nat.le_of_ble_eq_true rfl) (Nat.le_of_ble_eq_true rfl) (dt dt_X11_grant 35 rfl)
    · have h := iteF hc h
      refine SW.aload_n (pc := 38) g (dt dt_X11_grant 22 rfl) rfl ?_
      refine SW.iload_n (pc := 39) g (dt dt_X11_grant 23 rfl) rfl ?_
      refine SW.iload_n (pc := 40) g (dt dt_X11_grant 24 rfl) rfl ?_
      refine SW.iconst (pc := 41) (v := 0) g (dt dt_X11_grant 25 rfl) ki_0 ?_
      refine SW.iload_n (pc := 42) g (dt dt_X11_grant 26 rfl) rfl ?_
      obtain ⟨r1, h2, h⟩ := bindI h
      refine SW.callVi (pc := 43) g (dt dt_X11_grant 27 rfl) (mt_f_m_comesIn _ _ _ _ ad ν   N μ x1 x2 0 x3 r1 h2) me_X11_comesIn mv_X11_comesIn ml_X11_404 cell_63 rfl rfl (Nat.le_of_ble_eq_true rfl) (Nat.le_of_ble_eq_true rfl) (Nat.le_of_ble_eq_true rfl) (Nat.le_of_ble_eq_true rfl) rfl ?_
      refine SW.iconst (pc := 46) (v := (-1)) g (dt dt_X11_grant 28 rfl) ki_m1 ?_
      refine SW.icmp_eq (pc := 47) (t := 52) g (dt dt_X11_grant 29 rfl) rfl (fun hc => ?_) (fun hc => ?_)
      · have h := iteT hc h
        refine SW.iinc (pc := 52) (v := x3 + 1) g (dt dt_X11_grant 32 rfl) rfl (kn_1 _) (sw_ltm hm (Nat.le_of_ble_eq_true rfl)) rfl ?_
        refine SW.goto (pc := 55) (t := 31) g (dt dt_X11_grant 33 rfl) rfl ?_
        refine SW.msk [true, true, true, true] ?_
        exact ih μ x1 x2 (x3 + 1) h
      · have h := iteF hc h
        refine SW.iload_n (pc := 50) g (dt dt_X11_grant 30 rfl) rfl ?_
        exact SW.ireturn (pc := 51) g (leafW h ho) rfl (Nat.le_of_ble_eq_true rfl) (Nat.le_of_ble_eq_true rfl) (dt dt_X11_grant 31 rfl)
set_option maxRecDepth 100000 in
set_option maxHeartbeats 4000000 in
theorem ok_f_m_grant {G : sw_G} {ad : Nat → Nat} {ν : sw_N}   {N : Nat} {o : Int32 × sw_M} (g : sw_ok G cX11_grant "DeadWiresModel" (some .int) 4 0 0 ad) (hm : G.2.2.1.2.1.maxLocals = 4)  (μ : sw_M) (ho : sw_out G 0 0 (fun a => a = ad) (.inl (some (.int o.1))) lay0 o.2 ν) (a1 : Int32) (a2 : Int32) (h : f_m_grant N  μ a1 a2 = some o) : SW G ad lay0 ν 0 0 0 [some (.ref 63), some (.int a1), some (.int a2), none] [] μ := by
  unfold f_m_grant at h
  refine SW.aload_n (pc := 0) g (dt dt_X11_grant 0 rfl) rfl ?_
  refine SW.iconst (pc := 1) (v := 0) g (dt dt_X11_grant 1 rfl) ki_0 ?_
  refine SW.putI (pc := 2) g (dt dt_X11_grant 2 rfl) fl_X11_3 cell_63 rfl ?_
  refine SW.genM h (fun μ1 h => ?_)
  refine SW.aload_n (pc := 5) g (dt dt_X11_grant 3 rfl) rfl ?_
  refine SW.iload_n (pc := 6) g (dt dt_X11_grant 4 rfl) rfl ?_
  refine SW.iconst (pc := 7) (v := 1) g (dt dt_X11_grant 5 rfl) ki_1 ?_
  obtain ⟨r2, h3, h⟩ := bindI h
  refine SW.callVi (pc := 8) g (dt dt_X11_grant 6 rfl) (mt_f_m_isField _ _ _ _ ad ν   N μ1 a1 1 r2 h3) me_X11_isField mv_X11_isField ml_X11_386 cell_63 rfl rfl (Nat.le_of_ble_eq_true rfl) (Nat.le_of_ble_eq_true rfl) (Nat.le_of_ble_eq_true rfl) (Nat.le_of_ble_eq_true rfl) rfl ?_
  refine SW.if_eq (pc := 11) (t := 23) g (dt dt_X11_grant 7 rfl) rfl (fun hc => ?_) (fun hc => ?_)
  · have h := iteT hc h
    refine SW.iconst (pc := 23) (v := 0) g (dt dt_X11_grant 13 rfl) ki_0 ?_
    exact SW.ireturn (pc := 24) g (leafW h ho) rfl (Nat.le_of_ble_eq_true rfl) (Nat.le_of_ble_eq_true rfl) (dt dt_X11_grant 14 rfl)
  · have h := iteF hc h
    refine SW.aload_n (pc := 14) g (dt dt_X11_grant 8 rfl) rfl ?_
    refine SW.iload_n (pc := 15) g (dt dt_X11_grant 9 rfl) rfl ?_
    refine SW.iconst (pc := 16) (v := 1) g (dt dt_X11_grant 10 rfl) ki_1 ?_
    obtain ⟨r4, h5, h⟩ := bindI h
    refine SW.callVi (pc := 17) g (dt dt_X11_grant 11 rfl) (mt_f_m_isField _ _ _ _ ad ν   N r2.2 a2 1 r4 h5) me_X11_isField mv_X11_isField ml_X11_386 cell_63 rfl rfl (Nat.le_of_ble_eq_true rfl) (Nat.le_of_ble_eq_true rfl) (Nat.le_of_ble_eq_true rfl) (Nat.le_of_ble_eq_true rfl) rfl ?_
    refine SW.if_ne (pc := 20) (t := 25) g (dt dt_X11_grant 12 rfl) rfl (fun hc => ?_) (fun hc => ?_)
    · have h := iteF hc h
      refine SW.aload_n (pc := 25) g (dt dt_X11_grant 15 rfl) rfl ?_
      obtain ⟨r6, h7, h⟩ := bindI h
      refine SW.callVv (pc := 26) g (dt dt_X11_grant 16 rfl) (mt_f_m_take _ _ _ _ ad ν   N r4.2  r6 h7) me_X11_take mv_X11_take ml_X11_305 cell_63 rfl rfl (Nat.le_of_ble_eq_true rfl) (Nat.le_of_ble_eq_true rfl) (Nat.le_of_ble_eq_true rfl) (Nat.le_of_ble_eq_true rfl) rfl ?_
      refine SW.iconst (pc := 29) (v := 0) g (dt dt_X11_grant 17 rfl) ki_0 ?_
      refine SW.istore_n (pc := 30) g (dt dt_X11_grant 18 rfl) (sw_ltm hm (Nat.le_of_ble_eq_true rfl)) rfl ?_
      refine SW.msk [true, true, true, true] ?_
      exact ok_f_m_grant_31  g hm  ho   N r6 a1 a2 0 h
    · have h := iteT hc h
      refine SW.iconst (pc := 23) (v := 0) g (dt dt_X11_grant 13 rfl) ki_0 ?_
      exact SW.ireturn (pc := 24) g (leafW h ho) rfl (Nat.le_of_ble_eq_true rfl) (Nat.le_of_ble_eq_true rfl) (dt dt_X11_grant 14 rfl)
set_option maxRecDepth 100000 in
set_option maxHeartbeats 4000000 in
theorem mt_f_m_grant (l : Launch) (D : va_G) (cI cL : ClassId) (ad : Nat → Nat) (ν : sw_N)    (N : Nat) (μ : sw_M) (a1 : Int32) (a2 : Int32) (o : Int32 × sw_M) (h : f_m_grant N  μ a1 a2 = some o) : MetR l D cI cL yX11_grant cX11_grant 4 (some .int) 4 0 0 (fun a => a = ad) ad [.ref 63, .int a1, .int a2] lay0 μ ν (some (.int o.1)) lay0 o.2 ν :=
  MetR.of (n := 1) rfl (Nat.le_of_ble_eq_true rfl) (fun G g ho hm _ _ => ok_f_m_grant  g hm  μ ho a1 a2 h)
def f_sm_ones_4 (N : Nat)  (μ : sw_M)  : Nat → Int32 → Int32 → Int32 → Option (Int32)
  | 0, _, _, _ => none
  | n + 1, x0, x1, x2 =>
    if 12 ≤ x2 then
      some x1
    else
      ib (x1 + ((x0 >>> (x2 &&& 31)) &&& 1)) (fun y1 =>
        f_sm_ones_4 N  μ  n x0 y1 (x2 + 1))
def f_sm_ones (N : Nat)  (μ : sw_M) (a0 : Int32) : Option (Int32) :=
  f_sm_ones_4 N  μ  N a0 0 0
set_option maxRecDepth 100000 in
set_option maxHeartbeats 4000000 in
theorem ok_f_sm_ones_4 {G : sw_G} {ad : Nat → Nat} {ν : sw_N} {L : sw_L}  {N : Nat} {o : Int32} (g : sw_ok G cX11_ones "DeadWiresModel" (some .int) 1 0 0 ad) (hm : G.2.2.1.2.1.maxLocals = 3)  (μ : sw_M) (ho : sw_out G 0 0 (fun a => a = ad) (.inl (some (.int o))) L μ ν)  : ∀ (n : Nat) (x0 : Int32) (x1 : Int32) (x2 : Int32) (h : f_sm_ones_4 N  μ  n x0 x1 x2 = some o), SW G ad L ν 0 0 4 [some (.int x0), some (.int x1), some (.int x2)] [] μ := by
  intro n
  induction n with
  | zero => intro x0 x1 x2 h; simp only [f_sm_ones_4] at h; cases h
  | succ n ih =>
    intro x0 x1 x2 h
    unfold f_sm_ones_4 at h
    refine SW.iload_n (pc := 4) g (dt dt_X11_ones 4 rfl) rfl ?_
    refine SW.bipush (pc := 5) (v := 12) g (dt dt_X11_ones 5 rfl) kb_12 ?_
    refine SW.icmp_ge (pc := 7) (t := 24) g (dt dt_X11_ones 6 rfl) rfl (fun hc => ?_) (fun hc => ?_)
    · have h := iteT hc h
      refine SW.iload_n (pc := 24) g (dt dt_X11_ones 17 rfl) rfl ?_
      exact SW.ireturn (pc := 25) g (leafI h ho) rfl (Nat.le_of_ble_eq_true rfl) (Nat.le_of_ble_eq_true rfl) (dt dt_X11_ones 18 rfl)
    · have h := iteF hc h
      refine SW.iload_n (pc := 10) g (dt dt_X11_ones 7 rfl) rfl ?_
      refine SW.iload_n (pc := 11) g (dt dt_X11_ones 8 rfl) rfl ?_
      refine SW.iload_n (pc := 12) g (dt dt_X11_ones 9 rfl) rfl ?_
      refine SW.ishr (pc := 13) g (dt dt_X11_ones 10 rfl) ?_
      refine SW.iconst (pc := 14) (v := 1) g (dt dt_X11_ones 11 rfl) ki_1 ?_
      refine SW.iand (pc := 15) g (dt dt_X11_ones 12 rfl) ?_
      refine SW.iadd (pc := 16) g (dt dt_X11_ones 13 rfl) ?_
      refine SW.istore_n (pc := 17) g (dt dt_X11_ones 14 rfl) (sw_ltm hm (Nat.le_of_ble_eq_true rfl)) rfl ?_
      refine SW.genL h (fun y1 h => ?_)
      refine SW.iinc (pc := 18) (v := x2 + 1) g (dt dt_X11_ones 15 rfl) rfl (kn_1 _) (sw_ltm hm (Nat.le_of_ble_eq_true rfl)) rfl ?_
      refine SW.goto (pc := 21) (t := 4) g (dt dt_X11_ones 16 rfl) rfl ?_
      refine SW.msk [true, true, true] ?_
      exact ih  x0 y1 (x2 + 1) h
set_option maxRecDepth 100000 in
set_option maxHeartbeats 4000000 in
theorem ok_f_sm_ones {G : sw_G} {ad : Nat → Nat} {ν : sw_N} {L : sw_L}  {N : Nat} {o : Int32} (g : sw_ok G cX11_ones "DeadWiresModel" (some .int) 1 0 0 ad) (hm : G.2.2.1.2.1.maxLocals = 3)  (μ : sw_M) (ho : sw_out G 0 0 (fun a => a = ad) (.inl (some (.int o))) L μ ν) (a0 : Int32) (h : f_sm_ones N  μ a0 = some o) : SW G ad L ν 0 0 0 [some (.int a0), none, none] [] μ := by
  unfold f_sm_ones at h
  refine SW.iconst (pc := 0) (v := 0) g (dt dt_X11_ones 0 rfl) ki_0 ?_
  refine SW.istore_n (pc := 1) g (dt dt_X11_ones 1 rfl) (sw_ltm hm (Nat.le_of_ble_eq_true rfl)) rfl ?_
  refine SW.iconst (pc := 2) (v := 0) g (dt dt_X11_ones 2 rfl) ki_0 ?_
  refine SW.istore_n (pc := 3) g (dt dt_X11_ones 3 rfl) (sw_ltm hm (Nat.le_of_ble_eq_true rfl)) rfl ?_
  refine SW.msk [true, true, true] ?_
  exact ok_f_sm_ones_4  g hm  μ ho   N a0 0 0 h
set_option maxRecDepth 100000 in
set_option maxHeartbeats 4000000 in
theorem mt_f_sm_ones (l : Launch) (D : va_G) (cI cL : ClassId) (ad : Nat → Nat) (ν : sw_N) (L : sw_L)   (N : Nat) (μ : sw_M) (a0 : Int32) (o : Int32) (h : f_sm_ones N  μ a0 = some o) : MetR l D cI cL yX11_ones cX11_ones 3 (some .int) 1 0 0 (fun a => a = ad) ad [.int a0] L μ ν (some (.int o)) L μ ν :=
  MetR.of (n := 2) rfl (Nat.le_of_ble_eq_true rfl) (fun G g ho hm _ _ => ok_f_sm_ones  g hm  μ ho a0 h)
def f_m_partOf_17 (N : Nat)  (μ : sw_M) (k_7 : Int32 → Int32 → Int32 → Option (Int32)) : Nat → Int32 → Int32 → Int32 → Int32 → Option (Int32)
  | 0, _, _, _, _ => none
  | n + 1, x2, x3, x4, x5 =>
    if (μ 63 22) ≤ x5 then
      k_7  x2 x3 (x4 + 1)
    else
      inb ((3 : Int32) * x5) 36 (
        inb (((3 : Int32) * x5) + 1) 36 (
          ib (((1 : Int32) <<< ((μ 69 ((3 : Int32) * x5).toNatClampNeg) &&& 31)) ||| ((1 : Int32) <<< ((μ 69 (((3 : Int32) * x5) + 1).toNatClampNeg) &&& 31))) (fun y3 =>
            if ((x2 >>> (x5 &&& 31)) &&& 1) = 1 then
              if (x3 &&& y3) = 0 then
                f_m_partOf_17 N  μ k_7 n x2 x3 x4 (x5 + 1)
              else
                ib (x3 ||| y3) (fun y4 =>
                  f_m_partOf_17 N  μ k_7 n x2 y4 x4 (x5 + 1))
            else
              f_m_partOf_17 N  μ k_7 n x2 x3 x4 (x5 + 1))))
def f_m_partOf_7 (N : Nat)  (μ : sw_M)  : Nat → Int32 → Int32 → Int32 → Option (Int32)
  | 0, _, _, _ => none
  | n + 1, x2, x3, x4 =>
    if 8 ≤ x4 then
      some x3
    else
      f_m_partOf_17 N  μ (f_m_partOf_7 N  μ  n) N x2 x3 x4 0
def f_m_partOf (N : Nat)  (μ : sw_M) (a1 : Int32) (a2 : Int32) : Option (Int32) :=
  ib ((1 : Int32) <<< (a1 &&& 31)) (fun y1 =>
    f_m_partOf_7 N  μ  N a2 y1 0)
set_option maxRecDepth 100000 in
set_option maxHeartbeats 4000000 in
theorem ok_f_m_partOf_17 {G : sw_G} {ad : Nat → Nat} {ν : sw_N}   {N : Nat} {o : Int32} (g : sw_ok G cX11_partOf "DeadWiresModel" (some .int) 1 0 0 ad) (hm : G.2.2.1.2.1.maxLocals = 7)  (μ : sw_M) (ho : sw_out G 0 0 (fun a => a = ad) (.inl (some (.int o))) lay0 μ ν) (k_7 : Int32 → Int32 → Int32 → Option (Int32)) (hk_7 : ∀ (x2 : Int32) (x3 : Int32) (x4 : Int32), k_7 x2 x3 x4 = some o → SW G ad lay0 ν 0 0 7 [some (.ref 63), none, some (.int x2), some (.int x3), some (.int x4), none, none] [] μ) : ∀ (n : Nat) (x2 : Int32) (x3 : Int32) (x4 : Int32) (x5 : Int32) (h : f_m_partOf_17 N  μ k_7 n x2 x3 x4 x5 = some o), SW G ad lay0 ν 0 0 17 [some (.ref 63), none, some (.int x2), some (.int x3), some (.int x4), some (.int x5), none] [] μ := by
  intro n
  induction n with
  | zero => intro x2 x3 x4 x5 h; simp only [f_m_partOf_17] at h; cases h
  | succ n ih =>
    intro x2 x3 x4 x5 h
    unfold f_m_partOf_17 at h
    refine SW.iload (pc := 17) g (dt dt_X11_partOf 11 rfl) rfl ?_
    refine SW.aload_n (pc := 19) g (dt dt_X11_partOf 12 rfl) rfl ?_
    refine SW.getI (pc := 20) g (dt dt_X11_partOf 13 rfl) fl_X11_156 cell_63 rfl ?_
    refine SW.icmp_ge (pc := 23) (t := 81) g (dt dt_X11_partOf 14 rfl) rfl (fun hc => ?_) (fun hc => ?_)
    · have h := iteT hc h
      refine SW.iinc (pc := 81) (v := x4 + 1) g (dt dt_X11_partOf 52 rfl) rfl (kn_1 _) (sw_ltm hm (Nat.le_of_ble_eq_true rfl)) rfl ?_
      refine SW.goto (pc := 84) (t := 7) g (dt dt_X11_partOf 53 rfl) rfl ?_
      refine SW.msk [true, false, true, true, true, false, false] ?_
      exact hk_7  x2 x3 (x4 + 1) h
    · have h := iteF hc h
      refine SW.iconst (pc := 26) (v := 1) g (dt dt_X11_partOf 15 rfl) ki_1 ?_
      refine SW.aload_n (pc := 27) g (dt dt_X11_partOf 16 rfl) rfl ?_
      refine SW.getR (pc := 28) g (dt dt_X11_partOf 17 rfl) fl_X11_32 cell_63 rfl ?_
      refine SW.iconst (pc := 31) (v := 3) g (dt dt_X11_partOf 18 rfl) ki_3 ?_
      refine SW.iload (pc := 32) g (dt dt_X11_partOf 19 rfl) rfl ?_
      refine SW.imul (pc := 34) g (dt dt_X11_partOf 20 rfl) ?_
      obtain ⟨hb1, h⟩ := inbI h
      refine SW.iaload (pc := 35) g (dt dt_X11_partOf 21 rfl) cell_69 hb1 ?_
      refine SW.ishl (pc := 36) g (dt dt_X11_partOf 22 rfl) ?_
      refine SW.iconst (pc := 37) (v := 1) g (dt dt_X11_partOf 23 rfl) ki_1 ?_
      refine SW.aload_n (pc := 38) g (dt dt_X11_partOf 24 rfl) rfl ?_
      refine SW.getR (pc := 39) g (dt dt_X11_partOf 25 rfl) fl_X11_32 cell_63 rfl ?_
      refine SW.iconst (pc := 42) (v := 3) g (dt dt_X11_partOf 26 rfl) ki_3 ?_
      refine SW.iload (pc := 43) g (dt dt_X11_partOf 27 rfl) rfl ?_
      refine SW.imul (pc := 45) g (dt dt_X11_partOf 28 rfl) ?_
      refine SW.iconst (pc := 46) (v := 1) g (dt dt_X11_partOf 29 rfl) ki_1 ?_
      refine SW.iadd (pc := 47) g (dt dt_X11_partOf 30 rfl) ?_
      obtain ⟨hb2, h⟩ := inbI h
      refine SW.iaload (pc := 48) g (dt dt_X11_partOf 31 rfl) cell_69 hb2 ?_
      refine SW.ishl (pc := 49) g (dt dt_X11_partOf 32 rfl) ?_
      refine SW.ior (pc := 50) g (dt dt_X11_partOf 33 rfl) ?_
      refine SW.istore (pc := 51) g (dt dt_X11_partOf 34 rfl) (sw_ltm hm (Nat.le_of_ble_eq_true rfl)) rfl ?_
      refine SW.genL h (fun y3 h => ?_)
      refine SW.iload_n (pc := 53) g (dt dt_X11_partOf 35 rfl) rfl ?_
      refine SW.iload (pc := 54) g (dt dt_X11_partOf 36 rfl) rfl ?_
      refine SW.ishr (pc := 56) g (dt dt_X11_partOf 37 rfl) ?_
      refine SW.iconst (pc := 57) (v := 1) g (dt dt_X11_partOf 38 rfl) ki_1 ?_
      refine SW.iand (pc := 58) g (dt dt_X11_partOf 39 rfl) ?_
      refine SW.iconst (pc := 59) (v := 1) g (dt dt_X11_partOf 40 rfl) ki_1 ?_
      refine SW.icmp_ne (pc := 60) (t := 75) g (dt dt_X11_partOf 41 rfl) rfl (fun hc => ?_) (fun hc => ?_)
      · have h := iteF hc h
        refine SW.iinc (pc := 75) (v := x5 + 1) g (dt dt_X11_partOf 50 rfl) rfl (kn_1 _) (sw_ltm hm (Nat.le_of_ble_eq_true rfl)) rfl ?_
        refine SW.goto (pc := 78) (t := 17) g (dt dt_X11_partOf 51 rfl) rfl ?_
        refine SW.msk [true, false, true, true, true, true, false] ?_
        exact ih  x2 x3 x4 (x5 + 1) h
      · have h := iteT hc h
        refine SW.iload_n (pc := 63) g (dt dt_X11_partOf 42 rfl) rfl ?_
        refine SW.iload (pc := 64) g (dt dt_X11_partOf 43 rfl) rfl ?_
        refine SW.iand (pc := 66) g (dt dt_X11_partOf 44 rfl) ?_
        refine SW.if_eq (pc := 67) (t := 75) g (dt dt_X11_partOf 45 rfl) rfl (fun hc => ?_) (fun hc => ?_)
        · have h := iteT hc h
          refine SW.iinc (pc := 75) (v := x5 + 1) g (dt dt_X11_partOf 50 rfl) rfl (kn_1 _) (sw_ltm hm (Nat.le_of_ble_eq_true rfl)) rfl ?_
          refine SW.goto (pc := 78) (t := 17) g (dt dt_X11_partOf 51 rfl) rfl ?_
          refine SW.msk [true, false, true, true, true, true, false] ?_
          exact ih  x2 x3 x4 (x5 + 1) h
        · have h := iteF hc h
          refine SW.iload_n (pc := 70) g (dt dt_X11_partOf 46 rfl) rfl ?_
          refine SW.iload (pc := 71) g (dt dt_X11_partOf 47 rfl) rfl ?_
          refine SW.ior (pc := 73) g (dt dt_X11_partOf 48 rfl) ?_
          refine SW.istore_n (pc := 74) g (dt dt_X11_partOf 49 rfl) (sw_ltm hm (Nat.le_of_ble_eq_true rfl)) rfl ?_
          refine SW.genL h (fun y4 h => ?_)
          refine SW.iinc (pc := 75) (v := x5 + 1) g (dt dt_X11_partOf 50 rfl) rfl (kn_1 _) (sw_ltm hm (Nat.le_of_ble_eq_true rfl)) rfl ?_
          refine SW.goto (pc := 78) (t := 17) g (dt dt_X11_partOf 51 rfl) rfl ?_
          refine SW.msk [true, false, true, true, true, true, false] ?_
          exact ih  x2 y4 x4 (x5 + 1) h
set_option maxRecDepth 100000 in
set_option maxHeartbeats 4000000 in
theorem ok_f_m_partOf_7 {G : sw_G} {ad : Nat → Nat} {ν : sw_N}   {N : Nat} {o : Int32} (g : sw_ok G cX11_partOf "DeadWiresModel" (some .int) 1 0 0 ad) (hm : G.2.2.1.2.1.maxLocals = 7)  (μ : sw_M) (ho : sw_out G 0 0 (fun a => a = ad) (.inl (some (.int o))) lay0 μ ν)  : ∀ (n : Nat) (x2 : Int32) (x3 : Int32) (x4 : Int32) (h : f_m_partOf_7 N  μ  n x2 x3 x4 = some o), SW G ad lay0 ν 0 0 7 [some (.ref 63), none, some (.int x2), some (.int x3), some (.int x4), none, none] [] μ := by
  intro n
  induction n with
  | zero => intro x2 x3 x4 h; simp only [f_m_partOf_7] at h; cases h
  | succ n ih =>
    intro x2 x3 x4 h
    unfold f_m_partOf_7 at h
    refine SW.iload (pc := 7) g (dt dt_X11_partOf 6 rfl) rfl ?_
    refine SW.bipush (pc := 9) (v := 8) g (dt dt_X11_partOf 7 rfl) kb_8 ?_
    refine SW.icmp_ge (pc := 11) (t := 87) g (dt dt_X11_partOf 8 rfl) rfl (fun hc => ?_) (fun hc => ?_)
    · have h := iteT hc h
      refine SW.iload_n (pc := 87) g (dt dt_X11_partOf 54 rfl) rfl ?_
      exact SW.ireturn (pc := 88) g (leafI h ho) rfl (Nat.le_of_ble_eq_true rfl) (Nat.le_of_ble_eq_true rfl) (dt dt_X11_partOf 55 rfl)
    · have h := iteF hc h
      refine SW.iconst (pc := 14) (v := 0) g (dt dt_X11_partOf 9 rfl) ki_0 ?_
      refine SW.istore (pc := 15) g (dt dt_X11_partOf 10 rfl) (sw_ltm hm (Nat.le_of_ble_eq_true rfl)) rfl ?_
      refine SW.msk [true, false, true, true, true, true, false] ?_
      exact ok_f_m_partOf_17  g hm  μ ho (f_m_partOf_7 N  μ  n) ih N x2 x3 x4 0 h
set_option maxRecDepth 100000 in
set_option maxHeartbeats 4000000 in
theorem ok_f_m_partOf {G : sw_G} {ad : Nat → Nat} {ν : sw_N}   {N : Nat} {o : Int32} (g : sw_ok G cX11_partOf "DeadWiresModel" (some .int) 1 0 0 ad) (hm : G.2.2.1.2.1.maxLocals = 7)  (μ : sw_M) (ho : sw_out G 0 0 (fun a => a = ad) (.inl (some (.int o))) lay0 μ ν) (a1 : Int32) (a2 : Int32) (h : f_m_partOf N  μ a1 a2 = some o) : SW G ad lay0 ν 0 0 0 [some (.ref 63), some (.int a1), some (.int a2), none, none, none, none] [] μ := by
  unfold f_m_partOf at h
  refine SW.iconst (pc := 0) (v := 1) g (dt dt_X11_partOf 0 rfl) ki_1 ?_
  refine SW.iload_n (pc := 1) g (dt dt_X11_partOf 1 rfl) rfl ?_
  refine SW.ishl (pc := 2) g (dt dt_X11_partOf 2 rfl) ?_
  refine SW.istore_n (pc := 3) g (dt dt_X11_partOf 3 rfl) (sw_ltm hm (Nat.le_of_ble_eq_true rfl)) rfl ?_
  refine SW.genL h (fun y1 h => ?_)
  refine SW.iconst (pc := 4) (v := 0) g (dt dt_X11_partOf 4 rfl) ki_0 ?_
  refine SW.istore (pc := 5) g (dt dt_X11_partOf 5 rfl) (sw_ltm hm (Nat.le_of_ble_eq_true rfl)) rfl ?_
  refine SW.msk [true, false, true, true, true, false, false] ?_
  exact ok_f_m_partOf_7  g hm  μ ho   N a2 y1 0 h
set_option maxRecDepth 100000 in
set_option maxHeartbeats 4000000 in
theorem mt_f_m_partOf (l : Launch) (D : va_G) (cI cL : ClassId) (ad : Nat → Nat) (ν : sw_N)    (N : Nat) (μ : sw_M) (a1 : Int32) (a2 : Int32) (o : Int32) (h : f_m_partOf N  μ a1 a2 = some o) : MetR l D cI cL yX11_partOf cX11_partOf 7 (some .int) 1 0 0 (fun a => a = ad) ad [.ref 63, .int a1, .int a2] lay0 μ ν (some (.int o)) lay0 μ ν :=
  MetR.of (n := 4) rfl (Nat.le_of_ble_eq_true rfl) (fun G g ho hm _ _ => ok_f_m_partOf  g hm  μ ho a1 a2 h)
def f_m_pliers_80 (N : Nat)  (k_40 : sw_M → Int32 → Int32 → Int32 → Int32 → Int32 → Option (Int32 × sw_M)) (μ : sw_M) (x1 : Int32) (x2 : Int32) (x3 : Int32) (x4 : Int32) (x5 : Int32) : Option (Int32 × sw_M) :=
  Option.bind (f_m_partOf N  μ x1 (x5 ||| x3)) (fun r1 =>
    if ((r1 >>> (x2 &&& 31)) &&& 1) = 1 then
      k_40 μ x1 x2 x3 x5 (x5 + 1)
    else
      k_40 μ x1 x2 x3 x4 (x5 + 1))
def f_m_pliers_40 (N : Nat)   : Nat → sw_M → Int32 → Int32 → Int32 → Int32 → Int32 → Option (Int32 × sw_M)
  | 0, _, _, _, _, _, _ => none
  | n + 1, μ, x1, x2, x3, x4, x5 =>
    if ((1 : Int32) <<< ((μ 63 22) &&& 31)) ≤ x5 then
      some (x4, μ)
    else
      if (x5 &&& x3) = 0 then
        if x4 = (-1) then
          f_m_pliers_80 N  (f_m_pliers_40 N   n)  μ x1 x2 x3 x4 x5
        else
          Option.bind (f_sm_ones N  μ x5) (fun r1 =>
            Option.bind (f_sm_ones N  μ x4) (fun r3 =>
              if r1 < r3 then
                f_m_pliers_80 N  (f_m_pliers_40 N   n)  μ x1 x2 x3 x4 x5
              else
                f_m_pliers_40 N   n μ x1 x2 x3 x4 (x5 + 1)))
      else
        f_m_pliers_40 N   n μ x1 x2 x3 x4 (x5 + 1)
def f_m_pliers (N : Nat)  (μ : sw_M) (a1 : Int32) (a2 : Int32) : Option (Int32 × sw_M) :=
  wb (wr μ 63 0 0) (fun μ1 =>
    Option.bind (f_m_isField N  μ1 a1 1) (fun r2 =>
      if r2.1 = 0 then
        some (0, r2.2)
      else
        Option.bind (f_m_isField N  r2.2 a2 1) (fun r4 =>
          if r4.1 = 0 then
            some (0, r4.2)
          else
            Option.bind (f_m_take N  r4.2 ) (fun r6 =>
              Option.bind (f_m_cutNow N  r6 ) (fun r8 =>
                f_m_pliers_40 N   N r6 a1 a2 r8 (-1) 0)))))
set_option maxRecDepth 100000 in
set_option maxHeartbeats 4000000 in
theorem ok_f_m_pliers_80 {G : sw_G} {ad : Nat → Nat} {ν : sw_N}   {N : Nat} {o : Int32 × sw_M} (g : sw_ok G cX11_pliers "DeadWiresModel" (some .int) 3 0 0 ad) (hm : G.2.2.1.2.1.maxLocals = 6)  (ho : sw_out G 0 0 (fun a => a = ad) (.inl (some (.int o.1))) lay0 o.2 ν) (k_40 : sw_M → Int32 → Int32 → Int32 → Int32 → Int32 → Option (Int32 × sw_M)) (hk_40 : ∀ (μ : sw_M) (x1 : Int32) (x2 : Int32) (x3 : Int32) (x4 : Int32) (x5 : Int32), k_40 μ x1 x2 x3 x4 x5 = some o → SW G ad lay0 ν 0 0 40 [some (.ref 63), some (.int x1), some (.int x2), some (.int x3), some (.int x4), some (.int x5)] [] μ) (μ : sw_M) (x1 : Int32) (x2 : Int32) (x3 : Int32) (x4 : Int32) (x5 : Int32) (h : f_m_pliers_80 N  k_40  μ x1 x2 x3 x4 x5 = some o) : SW G ad lay0 ν 0 0 80 [some (.ref 63), some (.int x1), some (.int x2), some (.int x3), some (.int x4), some (.int x5)] [] μ := by
  unfold f_m_pliers_80 at h
  refine SW.aload_n (pc := 80) g (dt dt_X11_pliers 43 rfl) rfl ?_
  refine SW.iload_n (pc := 81) g (dt dt_X11_pliers 44 rfl) rfl ?_
  refine SW.iload (pc := 82) g (dt dt_X11_pliers 45 rfl) rfl ?_
  refine SW.iload_n (pc := 84) g (dt dt_X11_pliers 46 rfl) rfl ?_
  refine SW.ior (pc := 85) g (dt dt_X11_pliers 47 rfl) ?_
  obtain ⟨r1, h2, h⟩ := bindI h
  refine SW.callVi (pc := 86) g (dt dt_X11_pliers 48 rfl) (mt_f_m_partOf _ _ _ _ ad ν   N μ x1 (x5 ||| x3) r1 h2) me_X11_partOf mv_X11_partOf ml_X11_411 cell_63 rfl rfl (Nat.le_of_ble_eq_true rfl) (Nat.le_of_ble_eq_true rfl) (Nat.le_of_ble_eq_true rfl) (Nat.le_of_ble_eq_true rfl) rfl ?_
  refine SW.iload_n (pc := 89) g (dt dt_X11_pliers 49 rfl) rfl ?_
  refine SW.ishr (pc := 90) g (dt dt_X11_pliers 50 rfl) ?_
  refine SW.iconst (pc := 91) (v := 1) g (dt dt_X11_pliers 51 rfl) ki_1 ?_
  refine SW.iand (pc := 92) g (dt dt_X11_pliers 52 rfl) ?_
  refine SW.iconst (pc := 93) (v := 1) g (dt dt_X11_pliers 53 rfl) ki_1 ?_
  refine SW.icmp_ne (pc := 94) (t := 101) g (dt dt_X11_pliers 54 rfl) rfl (fun hc => ?_) (fun hc => ?_)
  · have h := iteF hc h
    refine SW.iinc (pc := 101) (v := x5 + 1) g (dt dt_X11_pliers 57 rfl) rfl (kn_1 _) (sw_ltm hm (Nat.le_of_ble_eq_true rfl)) rfl ?_
    refine SW.goto (pc := 104) (t := 40) g (dt dt_X11_pliers 58 rfl) rfl ?_
    refine SW.msk [true, true, true, true, true, true] ?_
    exact hk_40 μ x1 x2 x3 x4 (x5 + 1) h
  · have h := iteT hc h
    refine SW.iload (pc := 97) g (dt dt_X11_pliers 55 rfl) rfl ?_
    refine SW.istore (pc := 99) g (dt dt_X11_pliers 56 rfl) (sw_ltm hm (Nat.le_of_ble_eq_true rfl)) rfl ?_
    refine SW.iinc (pc := 101) (v := x5 + 1) g (dt dt_X11_pliers 57 rfl) rfl (kn_1 _) (sw_ltm hm (Nat.le_of_ble_eq_true rfl)) rfl ?_
    refine SW.goto (pc := 104) (t := 40) g (dt dt_X11_pliers 58 rfl) rfl ?_
    refine SW.msk [true, true, true, true, true, true] ?_
    exact hk_40 μ x1 x2 x3 x5 (x5 + 1) h
set_option maxRecDepth 100000 in
set_option maxHeartbeats 4000000 in
theorem ok_f_m_pliers_40 {G : sw_G} {ad : Nat → Nat} {ν : sw_N}   {N : Nat} {o : Int32 × sw_M} (g : sw_ok G cX11_pliers "DeadWiresModel" (some .int) 3 0 0 ad) (hm : G.2.2.1.2.1.maxLocals = 6)  (ho : sw_out G 0 0 (fun a => a = ad) (.inl (some (.int o.1))) lay0 o.2 ν)  : ∀ (n : Nat) (μ : sw_M) (x1 : Int32) (x2 : Int32) (x3 : Int32) (x4 : Int32) (x5 : Int32) (h : f_m_pliers_40 N   n μ x1 x2 x3 x4 x5 = some o), SW G ad lay0 ν 0 0 40 [some (.ref 63), some (.int x1), some (.int x2), some (.int x3), some (.int x4), some (.int x5)] [] μ := by
  intro n
  induction n with
  | zero => intro μ x1 x2 x3 x4 x5 h; simp only [f_m_pliers_40] at h; cases h
  | succ n ih =>
    intro μ x1 x2 x3 x4 x5 h
    unfold f_m_pliers_40 at h
    refine SW.iload (pc := 40) g (dt dt_X11_pliers 24 rfl) rfl ?_
    refine SW.iconst (pc := 42) (v := 1) g (dt dt_X11_pliers 25 rfl) ki_1 ?_
    refine SW.aload_n (pc := 43) g (dt dt_X11_pliers 26 rfl) rfl ?_
    refine SW.getI (pc := 44) g (dt dt_X11_pliers 27 rfl) fl_X11_156 cell_63 rfl ?_
    refine SW.ishl (pc := 47) g (dt dt_X11_pliers 28 rfl) ?_
    refine SW.icmp_ge (pc := 48) (t := 107) g (dt dt_X11_pliers 29 rfl) rfl (fun hc => ?_) (fun hc => ?_)
    · have h := iteT hc h
      refine SW.iload (pc := 107) g (dt dt_X11_pliers 59 rfl) rfl ?_
      exact SW.ireturn (pc := 109) g (leafW h ho) rfl (Nat.le_of_ble_eq_true rfl) (Nat.le_of_ble_eq_true rfl) (dt dt_X11_pliers 60 rfl)
    · have h := iteF hc h
      refine SW.iload (pc := 51) g (dt dt_X11_pliers 30 rfl) rfl ?_
      refine SW.iload_n (pc := 53) g (dt dt_X11_pliers 31 rfl) rfl ?_
      refine SW.iand (pc := 54) g (dt dt_X11_pliers 32 rfl) ?_
      refine SW.if_ne (pc := 55) (t := 101) g (dt dt_X11_pliers 33 rfl) rfl (fun hc => ?_) (fun hc => ?_)
      · have h := iteF hc h
        refine SW.iinc (pc := 101) (v := x5 + 1) g (dt dt_X11_pliers 57 rfl) rfl (kn_1 _) (sw_ltm hm (Nat.le_of_ble_eq_true rfl)) rfl ?_
        refine SW.goto (pc := 104) (t := 40) g (dt dt_X11_pliers 58 rfl) rfl ?_
        refine SW.msk [true, true, true, true, true, true] ?_
        exact ih μ x1 x2 x3 x4 (x5 + 1) h
      · have h := iteT hc h
        refine SW.iload (pc := 58) g (dt dt_X11_pliers 34 rfl) rfl ?_
        refine SW.iconst (pc := 60) (v := (-1)) g (dt dt_X11_pliers 35 rfl) ki_m1 ?_
        refine SW.icmp_eq (pc := 61) (t := 80) g (dt dt_X11_pliers 36 rfl) rfl (fun hc => ?_) (fun hc => ?_)
        · have h := iteT hc h
          refine SW.msk [true, true, true, true, true, true] ?_
          exact ok_f_m_pliers_80  g hm  ho (f_m_pliers_40 N   n) ih  μ x1 x2 x3 x4 x5 h
        · have h := iteF hc h
          refine SW.iload (pc := 64) g (dt dt_X11_pliers 37 rfl) rfl ?_
          obtain ⟨r1, h2, h⟩ := bindI h
          refine SW.callSi (pc := 66) g (dt dt_X11_pliers 38 rfl) (mt_f_sm_ones _ _ _ _ ad ν lay0   N μ x5 r1 h2) me_X11_ones ms_X11_ones ml_X11_408 rfl (Nat.le_of_ble_eq_true rfl) (Nat.le_of_ble_eq_true rfl) (Nat.le_of_ble_eq_true rfl) (Nat.le_of_ble_eq_true rfl) rfl ?_
          refine SW.iload (pc := 69) g (dt dt_X11_pliers 39 rfl) rfl ?_
          obtain ⟨r3, h4, h⟩ := bindI h
          refine SW.callSi (pc := 71) g (dt dt_X11_pliers 40 rfl) (mt_f_sm_ones _ _ _ _ ad ν lay0   N μ x4 r3 h4) me_X11_ones ms_X11_ones ml_X11_408 rfl (Nat.le_of_ble_eq_true rfl) (Nat.le_of_ble_eq_true rfl) (Nat.le_of_ble_eq_true rfl) (Nat.le_of_ble_eq_true rfl) rfl ?_
          refine SW.icmp_lt (pc := 74) (t := 80) g (dt dt_X11_pliers 41 rfl) rfl (fun hc => ?_) (fun hc => ?_)
          · have h := iteT hc h
            refine SW.msk [true, true, true, true, true, true] ?_
            exact ok_f_m_pliers_80  g hm  ho (f_m_pliers_40 N   n) ih  μ x1 x2 x3 x4 x5 h
          · have h := iteF hc h
            refine SW.goto (pc := 77) (t := 101) g (dt dt_X11_pliers 42 rfl) rfl ?_
            refine SW.iinc (pc := 101) (v := x5 + 1) g (dt dt_X11_pliers 57 rfl) rfl (kn_1 _) (sw_ltm hm (Nat.le_of_ble_eq_true rfl)) rfl ?_
            refine SW.goto (pc := 104) (t := 40) g (dt dt_X11_pliers 58 rfl) rfl ?_
            refine SW.msk [true, true, true, true, true, true] ?_
            exact ih μ x1 x2 x3 x4 (x5 + 1) h
set_option maxRecDepth 100000 in
set_option maxHeartbeats 4000000 in
theorem ok_f_m_pliers {G : sw_G} {ad : Nat → Nat} {ν : sw_N}   {N : Nat} {o : Int32 × sw_M} (g : sw_ok G cX11_pliers "DeadWiresModel" (some .int) 3 0 0 ad) (hm : G.2.2.1.2.1.maxLocals = 6)  (μ : sw_M) (ho : sw_out G 0 0 (fun a => a = ad) (.inl (some (.int o.1))) lay0 o.2 ν) (a1 : Int32) (a2 : Int32) (h : f_m_pliers N  μ a1 a2 = some o) : SW G ad lay0 ν 0 0 0 [some (.ref 63), some (.int a1), some (.int a2), none, none, none] [] μ := by
  unfold f_m_pliers at h
  refine SW.aload_n (pc := 0) g (dt dt_X11_pliers 0 rfl) rfl ?_
  refine SW.iconst (pc := 1) (v := 0) g (dt dt_X11_pliers 1 rfl) ki_0 ?_
  refine SW.putI (pc := 2) g (dt dt_X11_pliers 2 rfl) fl_X11_3 cell_63 rfl ?_
  refine SW.genM h (fun μ1 h => ?_)
  refine SW.aload_n (pc := 5) g (dt dt_X11_pliers 3 rfl) rfl ?_
  refine SW.iload_n (pc := 6) g (dt dt_X11_pliers 4 rfl) rfl ?_
  refine SW.iconst (pc := 7) (v := 1) g (dt dt_X11_pliers 5 rfl) ki_1 ?_
  obtain ⟨r2, h3, h⟩ := bindI h
  refine SW.callVi (pc := 8) g (dt dt_X11_pliers 6 rfl) (mt_f_m_isField _ _ _ _ ad ν   N μ1 a1 1 r2 h3) me_X11_isField mv_X11_isField ml_X11_386 cell_63 rfl rfl (Nat.le_of_ble_eq_true rfl) (Nat.le_of_ble_eq_true rfl) (Nat.le_of_ble_eq_true rfl) (Nat.le_of_ble_eq_true rfl) rfl ?_
  refine SW.if_eq (pc := 11) (t := 23) g (dt dt_X11_pliers 7 rfl) rfl (fun hc => ?_) (fun hc => ?_)
  · have h := iteT hc h
    refine SW.iconst (pc := 23) (v := 0) g (dt dt_X11_pliers 13 rfl) ki_0 ?_
    exact SW.ireturn (pc := 24) g (leafW h ho) rfl (Nat.le_of_ble_eq_true rfl) (Nat.le_of_ble_eq_true rfl) (dt dt_X11_pliers 14 rfl)
  · have h := iteF hc h
    refine SW.aload_n (pc := 14) g (dt dt_X11_pliers 8 rfl) rfl ?_
    refine SW.iload_n (pc := 15) g (dt dt_X11_pliers 9 rfl) rfl ?_
    refine SW.iconst (pc := 16) (v := 1) g (dt dt_X11_pliers 10 rfl) ki_1 ?_
    obtain ⟨r4, h5, h⟩ := bindI h
    refine SW.callVi (pc := 17) g (dt dt_X11_pliers 11 rfl) (mt_f_m_isField _ _ _ _ ad ν   N r2.2 a2 1 r4 h5) me_X11_isField mv_X11_isField ml_X11_386 cell_63 rfl rfl (Nat.le_of_ble_eq_true rfl) (Nat.le_of_ble_eq_true rfl) (Nat.le_of_ble_eq_true rfl) (Nat.le_of_ble_eq_true rfl) rfl ?_
    refine SW.if_ne (pc := 20) (t := 25) g (dt dt_X11_pliers 12 rfl) rfl (fun hc => ?_) (fun hc => ?_)
    · have h := iteF hc h
      refine SW.aload_n (pc := 25) g (dt dt_X11_pliers 15 rfl) rfl ?_
      obtain ⟨r6, h7, h⟩ := bindI h
      refine SW.callVv (pc := 26) g (dt dt_X11_pliers 16 rfl) (mt_f_m_take _ _ _ _ ad ν   N r4.2  r6 h7) me_X11_take mv_X11_take ml_X11_305 cell_63 rfl rfl (Nat.le_of_ble_eq_true rfl) (Nat.le_of_ble_eq_true rfl) (Nat.le_of_ble_eq_true rfl) (Nat.le_of_ble_eq_true rfl) rfl ?_
      refine SW.aload_n (pc := 29) g (dt dt_X11_pliers 17 rfl) rfl ?_
      obtain ⟨r8, h9, h⟩ := bindI h
      refine SW.callVi (pc := 30) g (dt dt_X11_pliers 18 rfl) (mt_f_m_cutNow _ _ _ _ ad ν   N r6  r8 h9) me_X11_cutNow mv_X11_cutNow ml_X11_380 cell_63 rfl rfl (Nat.le_of_ble_eq_true rfl) (Nat.le_of_ble_eq_true rfl) (Nat.le_of_ble_eq_true rfl) (Nat.le_of_ble_eq_true rfl) rfl ?_
      refine SW.istore_n (pc := 33) g (dt dt_X11_pliers 19 rfl) (sw_ltm hm (Nat.le_of_ble_eq_true rfl)) rfl ?_
      refine SW.iconst (pc := 34) (v := (-1)) g (dt dt_X11_pliers 20 rfl) ki_m1 ?_
      refine SW.istore (pc := 35) g (dt dt_X11_pliers 21 rfl) (sw_ltm hm (Nat.le_of_ble_eq_true rfl)) rfl ?_
      refine SW.iconst (pc := 37) (v := 0) g (dt dt_X11_pliers 22 rfl) ki_0 ?_
      refine SW.istore (pc := 38) g (dt dt_X11_pliers 23 rfl) (sw_ltm hm (Nat.le_of_ble_eq_true rfl)) rfl ?_
      refine SW.msk [true, true, true, true, true, true] ?_
      exact ok_f_m_pliers_40  g hm  ho   N r6 a1 a2 r8 (-1) 0 h
    · have h := iteT hc h
      refine SW.iconst (pc := 23) (v := 0) g (dt dt_X11_pliers 13 rfl) ki_0 ?_
      exact SW.ireturn (pc := 24) g (leafW h ho) rfl (Nat.le_of_ble_eq_true rfl) (Nat.le_of_ble_eq_true rfl) (dt dt_X11_pliers 14 rfl)
set_option maxRecDepth 100000 in
set_option maxHeartbeats 4000000 in
theorem mt_f_m_pliers (l : Launch) (D : va_G) (cI cL : ClassId) (ad : Nat → Nat) (ν : sw_N)    (N : Nat) (μ : sw_M) (a1 : Int32) (a2 : Int32) (o : Int32 × sw_M) (h : f_m_pliers N  μ a1 a2 = some o) : MetR l D cI cL yX11_pliers cX11_pliers 6 (some .int) 3 0 0 (fun a => a = ad) ad [.ref 63, .int a1, .int a2] lay0 μ ν (some (.int o.1)) lay0 o.2 ν :=
  MetR.of (n := 3) rfl (Nat.le_of_ble_eq_true rfl) (fun G g ho hm _ _ => ok_f_m_pliers  g hm  μ ho a1 a2 h)
def f_m_parts_77 (N : Nat)  (k_52 : sw_M → Int32 → Int32 → Int32 → Int32 → Option (Int32 × sw_M)) (μ : sw_M) (x2 : Int32) (x3 : Int32) (x5 : Int32) (s0 : Int32) (s1 : Int32) : Option (Int32 × sw_M) :=
  ib (s1 + s0) (fun y1 =>
    Option.bind (f_m_partOf N  μ x5 x2) (fun r2 =>
      ib (x3 ||| r2) (fun y4 =>
        k_52 μ x2 y4 y1 (x5 + 1))))
def f_m_parts_52 (N : Nat)   : Nat → sw_M → Int32 → Int32 → Int32 → Int32 → Option (Int32 × sw_M)
  | 0, _, _, _, _, _ => none
  | n + 1, μ, x2, x3, x4, x5 =>
    if (μ 63 21) ≤ x5 then
      some (x4, μ)
    else
      if ((x3 >>> (x5 &&& 31)) &&& 1) = 0 then
        f_m_parts_77 N  (f_m_parts_52 N   n)  μ x2 x3 x5 1 x4
      else
        f_m_parts_77 N  (f_m_parts_52 N   n)  μ x2 x3 x5 0 x4
def f_m_parts (N : Nat)  (μ : sw_M) (a1 : Int32) : Option (Int32 × sw_M) :=
  wb (wr μ 63 0 0) (fun μ1 =>
    Option.bind (f_sm_within N  μ1 a1 0 99) (fun r2 =>
      Option.bind (f_m_may N  μ1 r2 1 1) (fun r4 =>
        if r4.1 = 0 then
          some (0, r4.2)
        else
          Option.bind (f_m_take N  r4.2 ) (fun r6 =>
            Option.bind (f_m_liveIn N  r6 a1) (fun r8 =>
              ib ((((1 : Int32) <<< ((r6 63 22) &&& 31)) - 1) &&& (r8 ^^^ (-1))) (fun y10 =>
                f_m_parts_52 N   N r6 y10 0 0 0))))))
set_option maxRecDepth 100000 in
set_option maxHeartbeats 4000000 in
theorem ok_f_m_parts_77 {G : sw_G} {ad : Nat → Nat} {ν : sw_N}   {N : Nat} {o : Int32 × sw_M} (g : sw_ok G cX11_parts "DeadWiresModel" (some .int) 3 0 0 ad) (hm : G.2.2.1.2.1.maxLocals = 6)  (ho : sw_out G 0 0 (fun a => a = ad) (.inl (some (.int o.1))) lay0 o.2 ν) (k_52 : sw_M → Int32 → Int32 → Int32 → Int32 → Option (Int32 × sw_M)) (hk_52 : ∀ (μ : sw_M) (x2 : Int32) (x3 : Int32) (x4 : Int32) (x5 : Int32), k_52 μ x2 x3 x4 x5 = some o → SW G ad lay0 ν 0 0 52 [some (.ref 63), none, some (.int x2), some (.int x3), some (.int x4), some (.int x5)] [] μ) (μ : sw_M) (x2 : Int32) (x3 : Int32) (x5 : Int32) (s0 : Int32) (s1 : Int32) (h : f_m_parts_77 N  k_52  μ x2 x3 x5 s0 s1 = some o) : SW G ad lay0 ν 0 0 77 [some (.ref 63), none, some (.int x2), some (.int x3), none, some (.int x5)] [.int s0, .int s1] μ := by
  unfold f_m_parts_77 at h
  refine SW.iadd (pc := 77) g (dt dt_X11_parts 49 rfl) ?_
  refine SW.istore (pc := 78) g (dt dt_X11_parts 50 rfl) (sw_ltm hm (Nat.le_of_ble_eq_true rfl)) rfl ?_
  refine SW.genL h (fun y1 h => ?_)
  refine SW.iload_n (pc := 80) g (dt dt_X11_parts 51 rfl) rfl ?_
  refine SW.aload_n (pc := 81) g (dt dt_X11_parts 52 rfl) rfl ?_
  refine SW.iload (pc := 82) g (dt dt_X11_parts 53 rfl) rfl ?_
  refine SW.iload_n (pc := 84) g (dt dt_X11_parts 54 rfl) rfl ?_
  obtain ⟨r2, h3, h⟩ := bindI h
  refine SW.callVi (pc := 85) g (dt dt_X11_parts 55 rfl) (mt_f_m_partOf _ _ _ _ ad ν   N μ x5 x2 r2 h3) me_X11_partOf mv_X11_partOf ml_X11_411 cell_63 rfl rfl (Nat.le_of_ble_eq_true rfl) (Nat.le_of_ble_eq_true rfl) (Nat.le_of_ble_eq_true rfl) (Nat.le_of_ble_eq_true rfl) rfl ?_
  refine SW.ior (pc := 88) g (dt dt_X11_parts 56 rfl) ?_
  refine SW.istore_n (pc := 89) g (dt dt_X11_parts 57 rfl) (sw_ltm hm (Nat.le_of_ble_eq_true rfl)) rfl ?_
  refine SW.genL h (fun y4 h => ?_)
  refine SW.iinc (pc := 90) (v := x5 + 1) g (dt dt_X11_parts 58 rfl) rfl (kn_1 _) (sw_ltm hm (Nat.le_of_ble_eq_true rfl)) rfl ?_
  refine SW.goto (pc := 93) (t := 52) g (dt dt_X11_parts 59 rfl) rfl ?_
  refine SW.msk [true, false, true, true, true, true] ?_
  exact hk_52 μ x2 y4 y1 (x5 + 1) h
set_option maxRecDepth 100000 in
set_option maxHeartbeats 4000000 in
theorem ok_f_m_parts_52 {G : sw_G} {ad : Nat → Nat} {ν : sw_N}   {N : Nat} {o : Int32 × sw_M} (g : sw_ok G cX11_parts "DeadWiresModel" (some .int) 3 0 0 ad) (hm : G.2.2.1.2.1.maxLocals = 6)  (ho : sw_out G 0 0 (fun a => a = ad) (.inl (some (.int o.1))) lay0 o.2 ν)  : ∀ (n : Nat) (μ : sw_M) (x2 : Int32) (x3 : Int32) (x4 : Int32) (x5 : Int32) (h : f_m_parts_52 N   n μ x2 x3 x4 x5 = some o), SW G ad lay0 ν 0 0 52 [some (.ref 63), none, some (.int x2), some (.int x3), some (.int x4), some (.int x5)] [] μ := by
  intro n
  induction n with
  | zero => intro μ x2 x3 x4 x5 h; simp only [f_m_parts_52] at h; cases h
  | succ n ih =>
    intro μ x2 x3 x4 x5 h
    unfold f_m_parts_52 at h
    refine SW.iload (pc := 52) g (dt dt_X11_parts 35 rfl) rfl ?_
    refine SW.aload_n (pc := 54) g (dt dt_X11_parts 36 rfl) rfl ?_
    refine SW.getI (pc := 55) g (dt dt_X11_parts 37 rfl) fl_X11_153 cell_63 rfl ?_
    refine SW.icmp_ge (pc := 58) (t := 96) g (dt dt_X11_parts 38 rfl) rfl (fun hc => ?_) (fun hc => ?_)
    · have h := iteT hc h
      refine SW.iload (pc := 96) g (dt dt_X11_parts 60 rfl) rfl ?_
      exact SW.ireturn (pc := 98) g (leafW h ho) rfl (Nat.le_of_ble_eq_true rfl) (Nat.le_of_ble_eq_true rfl) (dt dt_X11_parts 61 rfl)
    · have h := iteF hc h
      refine SW.iload (pc := 61) g (dt dt_X11_parts 39 rfl) rfl ?_
      refine SW.iload_n (pc := 63) g (dt dt_X11_parts 40 rfl) rfl ?_
      refine SW.iload (pc := 64) g (dt dt_X11_parts 41 rfl) rfl ?_
      refine SW.ishr (pc := 66) g (dt dt_X11_parts 42 rfl) ?_
      refine SW.iconst (pc := 67) (v := 1) g (dt dt_X11_parts 43 rfl) ki_1 ?_
      refine SW.iand (pc := 68) g (dt dt_X11_parts 44 rfl) ?_
      refine SW.if_ne (pc := 69) (t := 76) g (dt dt_X11_parts 45 rfl) rfl (fun hc => ?_) (fun hc => ?_)
      · have h := iteF hc h
        refine SW.iconst (pc := 76) (v := 0) g (dt dt_X11_parts 48 rfl) ki_0 ?_
        refine SW.msk [true, false, true, true, false, true] ?_
        exact ok_f_m_parts_77  g hm  ho (f_m_parts_52 N   n) ih  μ x2 x3 x5 0 x4 h
      · have h := iteT hc h
        refine SW.iconst (pc := 72) (v := 1) g (dt dt_X11_parts 46 rfl) ki_1 ?_
        refine SW.goto (pc := 73) (t := 77) g (dt dt_X11_parts 47 rfl) rfl ?_
        refine SW.msk [true, false, true, true, false, true] ?_
        exact ok_f_m_parts_77  g hm  ho (f_m_parts_52 N   n) ih  μ x2 x3 x5 1 x4 h
set_option maxRecDepth 100000 in
set_option maxHeartbeats 4000000 in
theorem ok_f_m_parts {G : sw_G} {ad : Nat → Nat} {ν : sw_N}   {N : Nat} {o : Int32 × sw_M} (g : sw_ok G cX11_parts "DeadWiresModel" (some .int) 3 0 0 ad) (hm : G.2.2.1.2.1.maxLocals = 6)  (μ : sw_M) (ho : sw_out G 0 0 (fun a => a = ad) (.inl (some (.int o.1))) lay0 o.2 ν) (a1 : Int32) (h : f_m_parts N  μ a1 = some o) : SW G ad lay0 ν 0 0 0 [some (.ref 63), some (.int a1), none, none, none, none] [] μ := by
  unfold f_m_parts at h
  refine SW.aload_n (pc := 0) g (dt dt_X11_parts 0 rfl) rfl ?_
  refine SW.iconst (pc := 1) (v := 0) g (dt dt_X11_parts 1 rfl) ki_0 ?_
  refine SW.putI (pc := 2) g (dt dt_X11_parts 2 rfl) fl_X11_3 cell_63 rfl ?_
  refine SW.genM h (fun μ1 h => ?_)
  refine SW.aload_n (pc := 5) g (dt dt_X11_parts 3 rfl) rfl ?_
  refine SW.iload_n (pc := 6) g (dt dt_X11_parts 4 rfl) rfl ?_
  refine SW.iconst (pc := 7) (v := 0) g (dt dt_X11_parts 5 rfl) ki_0 ?_
  refine SW.bipush (pc := 8) (v := 99) g (dt dt_X11_parts 6 rfl) kb_99 ?_
  obtain ⟨r2, h3, h⟩ := bindI h
  refine SW.callSi (pc := 10) g (dt dt_X11_parts 7 rfl) (mt_f_sm_within _ _ _ _ ad ν lay0   N μ1 a1 0 99 r2 h3) me_X11_within ms_X11_within ml_X11_374 rfl (Nat.le_of_ble_eq_true rfl) (Nat.le_of_ble_eq_true rfl) (Nat.le_of_ble_eq_true rfl) (Nat.le_of_ble_eq_true rfl) rfl ?_
  refine SW.iconst (pc := 13) (v := 1) g (dt dt_X11_parts 8 rfl) ki_1 ?_
  refine SW.iconst (pc := 14) (v := 1) g (dt dt_X11_parts 9 rfl) ki_1 ?_
  obtain ⟨r4, h5, h⟩ := bindI h
  refine SW.callVi (pc := 15) g (dt dt_X11_parts 10 rfl) (mt_f_m_may _ _ _ _ ad ν   N μ1 r2 1 1 r4 h5) me_X11_may mv_X11_may ml_X11_204 cell_63 rfl rfl (Nat.le_of_ble_eq_true rfl) (Nat.le_of_ble_eq_true rfl) (Nat.le_of_ble_eq_true rfl) (Nat.le_of_ble_eq_true rfl) rfl ?_
  refine SW.if_ne (pc := 18) (t := 23) g (dt dt_X11_parts 11 rfl) rfl (fun hc => ?_) (fun hc => ?_)
  · have h := iteF hc h
    refine SW.aload_n (pc := 23) g (dt dt_X11_parts 14 rfl) rfl ?_
    obtain ⟨r6, h7, h⟩ := bindI h
    refine SW.callVv (pc := 24) g (dt dt_X11_parts 15 rfl) (mt_f_m_take _ _ _ _ ad ν   N r4.2  r6 h7) me_X11_take mv_X11_take ml_X11_305 cell_63 rfl rfl (Nat.le_of_ble_eq_true rfl) (Nat.le_of_ble_eq_true rfl) (Nat.le_of_ble_eq_true rfl) (Nat.le_of_ble_eq_true rfl) rfl ?_
    refine SW.iconst (pc := 27) (v := 1) g (dt dt_X11_parts 16 rfl) ki_1 ?_
    refine SW.aload_n (pc := 28) g (dt dt_X11_parts 17 rfl) rfl ?_
    refine SW.getI (pc := 29) g (dt dt_X11_parts 18 rfl) fl_X11_156 cell_63 rfl ?_
    refine SW.ishl (pc := 32) g (dt dt_X11_parts 19 rfl) ?_
    refine SW.iconst (pc := 33) (v := 1) g (dt dt_X11_parts 20 rfl) ki_1 ?_
    refine SW.isub (pc := 34) g (dt dt_X11_parts 21 rfl) ?_
    refine SW.aload_n (pc := 35) g (dt dt_X11_parts 22 rfl) rfl ?_
    refine SW.iload_n (pc := 36) g (dt dt_X11_parts 23 rfl) rfl ?_
    obtain ⟨r8, h9, h⟩ := bindI h
    refine SW.callVi (pc := 37) g (dt dt_X11_parts 24 rfl) (mt_f_m_liveIn _ _ _ _ ad ν   N r6 a1 r8 h9) me_X11_liveIn mv_X11_liveIn ml_X11_377 cell_63 rfl rfl (Nat.le_of_ble_eq_true rfl) (Nat.le_of_ble_eq_true rfl) (Nat.le_of_ble_eq_true rfl) (Nat.le_of_ble_eq_true rfl) rfl ?_
    refine SW.iconst (pc := 40) (v := (-1)) g (dt dt_X11_parts 25 rfl) ki_m1 ?_
    refine SW.ixor (pc := 41) g (dt dt_X11_parts 26 rfl) ?_
    refine SW.iand (pc := 42) g (dt dt_X11_parts 27 rfl) ?_
    refine SW.istore_n (pc := 43) g (dt dt_X11_parts 28 rfl) (sw_ltm hm (Nat.le_of_ble_eq_true rfl)) rfl ?_
    refine SW.genL h (fun y10 h => ?_)
    refine SW.iconst (pc := 44) (v := 0) g (dt dt_X11_parts 29 rfl) ki_0 ?_
    refine SW.istore_n (pc := 45) g (dt dt_X11_parts 30 rfl) (sw_ltm hm (Nat.le_of_ble_eq_true rfl)) rfl ?_
    refine SW.iconst (pc := 46) (v := 0) g (dt dt_X11_parts 31 rfl) ki_0 ?_
    refine SW.istore (pc := 47) g (dt dt_X11_parts 32 rfl) (sw_ltm hm (Nat.le_of_ble_eq_true rfl)) rfl ?_
    refine SW.iconst (pc := 49) (v := 0) g (dt dt_X11_parts 33 rfl) ki_0 ?_
    refine SW.istore (pc := 50) g (dt dt_X11_parts 34 rfl) (sw_ltm hm (Nat.le_of_ble_eq_true rfl)) rfl ?_
    refine SW.msk [true, false, true, true, true, true] ?_
    exact ok_f_m_parts_52  g hm  ho   N r6 y10 0 0 0 h
  · have h := iteT hc h
    refine SW.iconst (pc := 21) (v := 0) g (dt dt_X11_parts 12 rfl) ki_0 ?_
    exact SW.ireturn (pc := 22) g (leafW h ho) rfl (Nat.le_of_ble_eq_true rfl) (Nat.le_of_ble_eq_true rfl) (dt dt_X11_parts 13 rfl)
set_option maxRecDepth 100000 in
set_option maxHeartbeats 4000000 in
theorem mt_f_m_parts (l : Launch) (D : va_G) (cI cL : ClassId) (ad : Nat → Nat) (ν : sw_N)    (N : Nat) (μ : sw_M) (a1 : Int32) (o : Int32 × sw_M) (h : f_m_parts N  μ a1 = some o) : MetR l D cI cL yX11_parts cX11_parts 6 (some .int) 3 0 0 (fun a => a = ad) ad [.ref 63, .int a1] lay0 μ ν (some (.int o.1)) lay0 o.2 ν :=
  MetR.of (n := 4) rfl (Nat.le_of_ble_eq_true rfl) (fun G g ho hm _ _ => ok_f_m_parts  g hm  μ ho a1 h)
def f_m_haul_73 (N : Nat)   : Nat → sw_M → Int32 → Int32 → Int32 → Int32 → Int32 → Option (Int32 × sw_M)
  | 0, _, _, _, _, _, _ => none
  | n + 1, μ, x2, x3, x4, x5, x6 =>
    if ((1 : Int32) <<< ((μ 63 23) &&& 31)) ≤ x6 then
      if x2 = 0 then
        Option.bind (f_m_weightOf N  μ x5) (fun r1 =>
          some (r1, μ))
      else
        some (x5, μ)
    else
      if (x6 &&& (x3 ^^^ (-1))) = 0 then
        Option.bind (f_m_weightOf N  μ x6) (fun r3 =>
          if x4 < r3 then
            f_m_haul_73 N   n μ x2 x3 x4 x5 (x6 + 1)
          else
            Option.bind (f_m_weightOf N  μ x6) (fun r5 =>
              Option.bind (f_m_weightOf N  μ x5) (fun r7 =>
                if r5 ≤ r7 then
                  f_m_haul_73 N   n μ x2 x3 x4 x5 (x6 + 1)
                else
                  f_m_haul_73 N   n μ x2 x3 x4 x6 (x6 + 1))))
      else
        f_m_haul_73 N   n μ x2 x3 x4 x5 (x6 + 1)
def f_m_haul (N : Nat)  (μ : sw_M) (a1 : Int32) (a2 : Int32) : Option (Int32 × sw_M) :=
  wb (wr μ 63 0 0) (fun μ1 =>
    Option.bind (f_m_isPerson N  μ1 a1 1) (fun r2 =>
      if r2.1 = 0 then
        some (0, r2.2)
      else
        Option.bind (f_sm_within N  r2.2 a2 0 1) (fun r4 =>
          Option.bind (f_m_may N  r2.2 r4 2 1) (fun r6 =>
            if r6.1 = 0 then
              some (0, r6.2)
            else
              Option.bind (f_m_take N  r6.2 ) (fun r8 =>
                inb ((36 : Int32) + a1) 49 (
                  Option.bind (f_m_lyingIn N  r8 (r8 81 ((36 : Int32) + a1).toNatClampNeg)) (fun r11 =>
                    inb (((2 : Int32) * a1) + 1) 10 (
                      Option.bind (f_m_loadOf N  r8 a1) (fun r14 =>
                        ib ((r8 71 (((2 : Int32) * a1) + 1).toNatClampNeg) - r14) (fun y16 =>
                          f_m_haul_73 N   N r8 a2 r11 y16 0 1))))))))))
set_option maxRecDepth 100000 in
set_option maxHeartbeats 4000000 in
theorem ok_f_m_haul_73 {G : sw_G} {ad : Nat → Nat} {ν : sw_N}   {N : Nat} {o : Int32 × sw_M} (g : sw_ok G cX11_haul "DeadWiresModel" (some .int) 3 0 0 ad) (hm : G.2.2.1.2.1.maxLocals = 7)  (ho : sw_out G 0 0 (fun a => a = ad) (.inl (some (.int o.1))) lay0 o.2 ν)  : ∀ (n : Nat) (μ : sw_M) (x2 : Int32) (x3 : Int32) (x4 : Int32) (x5 : Int32) (x6 : Int32) (h : f_m_haul_73 N   n μ x2 x3 x4 x5 x6 = some o), SW G ad lay0 ν 0 0 73 [some (.ref 63), none, some (.int x2), some (.int x3), some (.int x4), some (.int x5), some (.int x6)] [] μ := by
  intro n
  induction n with
  | zero => intro μ x2 x3 x4 x5 x6 h; simp only [f_m_haul_73] at h; cases h
  | succ n ih =>
    intro μ x2 x3 x4 x5 x6 h
    unfold f_m_haul_73 at h
    refine SW.iload (pc := 73) g (dt dt_X11_haul 47 rfl) rfl ?_
    refine SW.iconst (pc := 75) (v := 1) g (dt dt_X11_haul 48 rfl) ki_1 ?_
    refine SW.aload_n (pc := 76) g (dt dt_X11_haul 49 rfl) rfl ?_
    refine SW.getI (pc := 77) g (dt dt_X11_haul 50 rfl) fl_X11_159 cell_63 rfl ?_
    refine SW.ishl (pc := 80) g (dt dt_X11_haul 51 rfl) ?_
    refine SW.icmp_ge (pc := 81) (t := 129) g (dt dt_X11_haul 52 rfl) rfl (fun hc => ?_) (fun hc => ?_)
    · have h := iteT hc h
      refine SW.iload_n (pc := 129) g (dt dt_X11_haul 75 rfl) rfl ?_
      refine SW.if_ne (pc := 130) (t := 142) g (dt dt_X11_haul 76 rfl) rfl (fun hc => ?_) (fun hc => ?_)
      · have h := iteF hc h
        refine SW.iload (pc := 142) g (dt dt_X11_haul 81 rfl) rfl ?_
        exact SW.ireturn (pc := 144) g (leafW h ho) rfl (Nat.le_of_ble_eq_true rfl) (Nat.le_of_ble_eq_true rfl) (dt dt_X11_haul 82 rfl)
      · have h := iteT hc h
        refine SW.aload_n (pc := 133) g (dt dt_X11_haul 77 rfl) rfl ?_
        refine SW.iload (pc := 134) g (dt dt_X11_haul 78 rfl) rfl ?_
        obtain ⟨r1, h2, h⟩ := bindI h
        refine SW.callVi (pc := 136) g (dt dt_X11_haul 79 rfl) (mt_f_m_weightOf _ _ _ _ ad ν   N μ x5 r1 h2) me_X11_weightOf mv_X11_weightOf ml_X11_331 cell_63 rfl rfl (Nat.le_of_ble_eq_true rfl) (Nat.le_of_ble_eq_true rfl) (Nat.le_of_ble_eq_true rfl) (Nat.le_of_ble_eq_true rfl) rfl ?_
        refine SW.goto (pc := 139) (t := 144) g (dt dt_X11_haul 80 rfl) rfl ?_
        exact SW.ireturn (pc := 144) g (leafW h ho) rfl (Nat.le_of_ble_eq_true rfl) (Nat.le_of_ble_eq_true rfl) (dt dt_X11_haul 82 rfl)
    · have h := iteF hc h
      refine SW.iload (pc := 84) g (dt dt_X11_haul 53 rfl) rfl ?_
      refine SW.iload_n (pc := 86) g (dt dt_X11_haul 54 rfl) rfl ?_
      refine SW.iconst (pc := 87) (v := (-1)) g (dt dt_X11_haul 55 rfl) ki_m1 ?_
      refine SW.ixor (pc := 88) g (dt dt_X11_haul 56 rfl) ?_
      refine SW.iand (pc := 89) g (dt dt_X11_haul 57 rfl) ?_
      refine SW.if_ne (pc := 90) (t := 123) g (dt dt_X11_haul 58 rfl) rfl (fun hc => ?_) (fun hc => ?_)
      · have h := iteF hc h
        refine SW.iinc (pc := 123) (v := x6 + 1) g (dt dt_X11_haul 73 rfl) rfl (kn_1 _) (sw_ltm hm (Nat.le_of_ble_eq_true rfl)) rfl ?_
        refine SW.goto (pc := 126) (t := 73) g (dt dt_X11_haul 74 rfl) rfl ?_
        refine SW.msk [true, false, true, true, true, true, true] ?_
        exact ih μ x2 x3 x4 x5 (x6 + 1) h
      · have h := iteT hc h
        refine SW.aload_n (pc := 93) g (dt dt_X11_haul 59 rfl) rfl ?_
        refine SW.iload (pc := 94) g (dt dt_X11_haul 60 rfl) rfl ?_
        obtain ⟨r3, h4, h⟩ := bindI h
        refine SW.callVi (pc := 96) g (dt dt_X11_haul 61 rfl) (mt_f_m_weightOf _ _ _ _ ad ν   N μ x6 r3 h4) me_X11_weightOf mv_X11_weightOf ml_X11_331 cell_63 rfl rfl (Nat.le_of_ble_eq_true rfl) (Nat.le_of_ble_eq_true rfl) (Nat.le_of_ble_eq_true rfl) (Nat.le_of_ble_eq_true rfl) rfl ?_
        refine SW.iload (pc := 99) g (dt dt_X11_haul 62 rfl) rfl ?_
        refine SW.icmp_gt (pc := 101) (t := 123) g (dt dt_X11_haul 63 rfl) rfl (fun hc => ?_) (fun hc => ?_)
        · have h := iteT hc h
          refine SW.iinc (pc := 123) (v := x6 + 1) g (dt dt_X11_haul 73 rfl) rfl (kn_1 _) (sw_ltm hm (Nat.le_of_ble_eq_true rfl)) rfl ?_
          refine SW.goto (pc := 126) (t := 73) g (dt dt_X11_haul 74 rfl) rfl ?_
          refine SW.msk [true, false, true, true, true, true, true] ?_
          exact ih μ x2 x3 x4 x5 (x6 + 1) h
        · have h := iteF hc h
          refine SW.aload_n (pc := 104) g (dt dt_X11_haul 64 rfl) rfl ?_
          refine SW.iload (pc := 105) g (dt dt_X11_haul 65 rfl) rfl ?_
          obtain ⟨r5, h6, h⟩ := bindI h
          refine SW.callVi (pc := 107) g (dt dt_X11_haul 66 rfl) (mt_f_m_weightOf _ _ _ _ ad ν   N μ x6 r5 h6) me_X11_weightOf mv_X11_weightOf ml_X11_331 cell_63 rfl rfl (Nat.le_of_ble_eq_true rfl) (Nat.le_of_ble_eq_true rfl) (Nat.le_of_ble_eq_true rfl) (Nat.le_of_ble_eq_true rfl) rfl ?_
          refine SW.aload_n (pc := 110) g (dt dt_X11_haul 67 rfl) rfl ?_
          refine SW.iload (pc := 111) g (dt dt_X11_haul 68 rfl) rfl ?_
          obtain ⟨r7, h8, h⟩ := bindI h
          refine SW.callVi (pc := 113) g (dt dt_X11_haul 69 rfl) (mt_f_m_weightOf _ _ _ _ ad ν   N μ x5 r7 h8) me_X11_weightOf mv_X11_weightOf ml_X11_331 cell_63 rfl rfl (Nat.le_of_ble_eq_true rfl) (Nat.le_of_ble_eq_true rfl) (Nat.le_of_ble_eq_true rfl) (Nat.le_of_ble_eq_true rfl) rfl ?_
          refine SW.icmp_le (pc := 116) (t := 123) g (dt dt_X11_haul 70 rfl) rfl (fun hc => ?_) (fun hc => ?_)
          · have h := iteT hc h
            refine SW.iinc (pc := 123) (v := x6 + 1) g (dt dt_X11_haul 73 rfl) rfl (kn_1 _) (sw_ltm hm (Nat.le_of_ble_eq_true rfl)) rfl ?_
            refine SW.goto (pc := 126) (t := 73) g (dt dt_X11_haul 74 rfl) rfl ?_
            refine SW.msk [true, false, true, true, true, true, true] ?_
            exact ih μ x2 x3 x4 x5 (x6 + 1) h
          · have h := iteF hc h
            refine SW.iload (pc := 119) g (dt dt_X11_haul 71 rfl) rfl ?_
            refine SW.istore (pc := 121) g (dt dt_X11_haul 72 rfl) (sw_ltm hm (Nat.le_of_ble_eq_true rfl)) rfl ?_
            refine SW.iinc (pc := 123) (v := x6 + 1) g (dt dt_X11_haul 73 rfl) rfl (kn_1 _) (sw_ltm hm (Nat.le_of_ble_eq_true rfl)) rfl ?_
            refine SW.goto (pc := 126) (t := 73) g (dt dt_X11_haul 74 rfl) rfl ?_
            refine SW.msk [true, false, true, true, true, true, true] ?_
            exact ih μ x2 x3 x4 x6 (x6 + 1) h
set_option maxRecDepth 100000 in
set_option maxHeartbeats 4000000 in
theorem ok_f_m_haul {G : sw_G} {ad : Nat → Nat} {ν : sw_N}   {N : Nat} {o : Int32 × sw_M} (g : sw_ok G cX11_haul "DeadWiresModel" (some .int) 3 0 0 ad) (hm : G.2.2.1.2.1.maxLocals = 7)  (μ : sw_M) (ho : sw_out G 0 0 (fun a => a = ad) (.inl (some (.int o.1))) lay0 o.2 ν) (a1 : Int32) (a2 : Int32) (h : f_m_haul N  μ a1 a2 = some o) : SW G ad lay0 ν 0 0 0 [some (.ref 63), some (.int a1), some (.int a2), none, none, none, none] [] μ := by
  unfold f_m_haul at h
  refine SW.aload_n (pc := 0) g (dt dt_X11_haul 0 rfl) rfl ?_
  refine SW.iconst (pc := 1) (v := 0) g (dt dt_X11_haul 1 rfl) ki_0 ?_
  refine SW.putI (pc := 2) g (dt dt_X11_haul 2 rfl) fl_X11_3 cell_63 rfl ?_
  refine SW.genM h (fun μ1 h => ?_)
  refine SW.aload_n (pc := 5) g (dt dt_X11_haul 3 rfl) rfl ?_
  refine SW.iload_n (pc := 6) g (dt dt_X11_haul 4 rfl) rfl ?_
  refine SW.iconst (pc := 7) (v := 1) g (dt dt_X11_haul 5 rfl) ki_1 ?_
  obtain ⟨r2, h3, h⟩ := bindI h
  refine SW.callVi (pc := 8) g (dt dt_X11_haul 6 rfl) (mt_f_m_isPerson _ _ _ _ ad ν   N μ1 a1 1 r2 h3) me_X11_isPerson mv_X11_isPerson ml_X11_398 cell_63 rfl rfl (Nat.le_of_ble_eq_true rfl) (Nat.le_of_ble_eq_true rfl) (Nat.le_of_ble_eq_true rfl) (Nat.le_of_ble_eq_true rfl) rfl ?_
  refine SW.if_eq (pc := 11) (t := 29) g (dt dt_X11_haul 7 rfl) rfl (fun hc => ?_) (fun hc => ?_)
  · have h := iteT hc h
    refine SW.iconst (pc := 29) (v := 0) g (dt dt_X11_haul 17 rfl) ki_0 ?_
    exact SW.ireturn (pc := 30) g (leafW h ho) rfl (Nat.le_of_ble_eq_true rfl) (Nat.le_of_ble_eq_true rfl) (dt dt_X11_haul 18 rfl)
  · have h := iteF hc h
    refine SW.aload_n (pc := 14) g (dt dt_X11_haul 8 rfl) rfl ?_
    refine SW.iload_n (pc := 15) g (dt dt_X11_haul 9 rfl) rfl ?_
    refine SW.iconst (pc := 16) (v := 0) g (dt dt_X11_haul 10 rfl) ki_0 ?_
    refine SW.iconst (pc := 17) (v := 1) g (dt dt_X11_haul 11 rfl) ki_1 ?_
    obtain ⟨r4, h5, h⟩ := bindI h
    refine SW.callSi (pc := 18) g (dt dt_X11_haul 12 rfl) (mt_f_sm_within _ _ _ _ ad ν lay0   N r2.2 a2 0 1 r4 h5) me_X11_within ms_X11_within ml_X11_374 rfl (Nat.le_of_ble_eq_true rfl) (Nat.le_of_ble_eq_true rfl) (Nat.le_of_ble_eq_true rfl) (Nat.le_of_ble_eq_true rfl) rfl ?_
    refine SW.iconst (pc := 21) (v := 2) g (dt dt_X11_haul 13 rfl) ki_2 ?_
    refine SW.iconst (pc := 22) (v := 1) g (dt dt_X11_haul 14 rfl) ki_1 ?_
    obtain ⟨r6, h7, h⟩ := bindI h
    refine SW.callVi (pc := 23) g (dt dt_X11_haul 15 rfl) (mt_f_m_may _ _ _ _ ad ν   N r2.2 r4 2 1 r6 h7) me_X11_may mv_X11_may ml_X11_204 cell_63 rfl rfl (Nat.le_of_ble_eq_true rfl) (Nat.le_of_ble_eq_true rfl) (Nat.le_of_ble_eq_true rfl) (Nat.le_of_ble_eq_true rfl) rfl ?_
    refine SW.if_ne (pc := 26) (t := 31) g (dt dt_X11_haul 16 rfl) rfl (fun hc => ?_) (fun hc => ?_)
    · have h := iteF hc h
      refine SW.aload_n (pc := 31) g (dt dt_X11_haul 19 rfl) rfl ?_
      obtain ⟨r8, h9, h⟩ := bindI h
      refine SW.callVv (pc := 32) g (dt dt_X11_haul 20 rfl) (mt_f_m_take _ _ _ _ ad ν   N r6.2  r8 h9) me_X11_take mv_X11_take ml_X11_305 cell_63 rfl rfl (Nat.le_of_ble_eq_true rfl) (Nat.le_of_ble_eq_true rfl) (Nat.le_of_ble_eq_true rfl) (Nat.le_of_ble_eq_true rfl) rfl ?_
      refine SW.aload_n (pc := 35) g (dt dt_X11_haul 21 rfl) rfl ?_
      refine SW.aload_n (pc := 36) g (dt dt_X11_haul 22 rfl) rfl ?_
      refine SW.getR (pc := 37) g (dt dt_X11_haul 23 rfl) fl_X11_68 cell_63 rfl ?_
      refine SW.bipush (pc := 40) (v := 36) g (dt dt_X11_haul 24 rfl) kb_36 ?_
      refine SW.iload_n (pc := 42) g (dt dt_X11_haul 25 rfl) rfl ?_
      refine SW.iadd (pc := 43) g (dt dt_X11_haul 26 rfl) ?_
      obtain ⟨hb10, h⟩ := inbI h
      refine SW.iaload (pc := 44) g (dt dt_X11_haul 27 rfl) cell_81 hb10 ?_
      obtain ⟨r11, h12, h⟩ := bindI h
      refine SW.callVi (pc := 45) g (dt dt_X11_haul 28 rfl) (mt_f_m_lyingIn _ _ _ _ ad ν   N r8 (r8 81 ((36 : Int32) + a1).toNatClampNeg) r11 h12) me_X11_lyingIn mv_X11_lyingIn ml_X11_389 cell_63 rfl rfl (Nat.le_of_ble_eq_true rfl) (Nat.le_of_ble_eq_true rfl) (Nat.le_of_ble_eq_true rfl) (Nat.le_of_ble_eq_true rfl) rfl ?_
      refine SW.istore_n (pc := 48) g (dt dt_X11_haul 29 rfl) (sw_ltm hm (Nat.le_of_ble_eq_true rfl)) rfl ?_
      refine SW.aload_n (pc := 49) g (dt dt_X11_haul 30 rfl) rfl ?_
      refine SW.getR (pc := 50) g (dt dt_X11_haul 31 rfl) fl_X11_38 cell_63 rfl ?_
      refine SW.iconst (pc := 53) (v := 2) g (dt dt_X11_haul 32 rfl) ki_2 ?_
      refine SW.iload_n (pc := 54) g (dt dt_X11_haul 33 rfl) rfl ?_
      refine SW.imul (pc := 55) g (dt dt_X11_haul 34 rfl) ?_
      refine SW.iconst (pc := 56) (v := 1) g (dt dt_X11_haul 35 rfl) ki_1 ?_
      refine SW.iadd (pc := 57) g (dt dt_X11_haul 36 rfl) ?_
      obtain ⟨hb13, h⟩ := inbI h
      refine SW.iaload (pc := 58) g (dt dt_X11_haul 37 rfl) cell_71 hb13 ?_
      refine SW.aload_n (pc := 59) g (dt dt_X11_haul 38 rfl) rfl ?_
      refine SW.iload_n (pc := 60) g (dt dt_X11_haul 39 rfl) rfl ?_
      obtain ⟨r14, h15, h⟩ := bindI h
      refine SW.callVi (pc := 61) g (dt dt_X11_haul 40 rfl) (mt_f_m_loadOf _ _ _ _ ad ν   N r8 a1 r14 h15) me_X11_loadOf mv_X11_loadOf ml_X11_337 cell_63 rfl rfl (Nat.le_of_ble_eq_true rfl) (Nat.le_of_ble_eq_true rfl) (Nat.le_of_ble_eq_true rfl) (Nat.le_of_ble_eq_true rfl) rfl ?_
      refine SW.isub (pc := 64) g (dt dt_X11_haul 41 rfl) ?_
      refine SW.istore (pc := 65) g (dt dt_X11_haul 42 rfl) (sw_ltm hm (Nat.le_of_ble_eq_true rfl)) rfl ?_
      refine SW.genL h (fun y16 h => ?_)
      refine SW.iconst (pc := 67) (v := 0) g (dt dt_X11_haul 43 rfl) ki_0 ?_
      refine SW.istore (pc := 68) g (dt dt_X11_haul 44 rfl) (sw_ltm hm (Nat.le_of_ble_eq_true rfl)) rfl ?_
      refine SW.iconst (pc := 70) (v := 1) g (dt dt_X11_haul 45 rfl) ki_1 ?_
      refine SW.istore (pc := 71) g (dt dt_X11_haul 46 rfl) (sw_ltm hm (Nat.le_of_ble_eq_true rfl)) rfl ?_
      refine SW.msk [true, false, true, true, true, true, true] ?_
      exact ok_f_m_haul_73  g hm  ho   N r8 a2 r11 y16 0 1 h
    · have h := iteT hc h
      refine SW.iconst (pc := 29) (v := 0) g (dt dt_X11_haul 17 rfl) ki_0 ?_
      exact SW.ireturn (pc := 30) g (leafW h ho) rfl (Nat.le_of_ble_eq_true rfl) (Nat.le_of_ble_eq_true rfl) (dt dt_X11_haul 18 rfl)
set_option maxRecDepth 100000 in
set_option maxHeartbeats 4000000 in
theorem mt_f_m_haul (l : Launch) (D : va_G) (cI cL : ClassId) (ad : Nat → Nat) (ν : sw_N)    (N : Nat) (μ : sw_M) (a1 : Int32) (a2 : Int32) (o : Int32 × sw_M) (h : f_m_haul N  μ a1 a2 = some o) : MetR l D cI cL yX11_haul cX11_haul 7 (some .int) 3 0 0 (fun a => a = ad) ad [.ref 63, .int a1, .int a2] lay0 μ ν (some (.int o.1)) lay0 o.2 ν :=
  MetR.of (n := 4) rfl (Nat.le_of_ble_eq_true rfl) (fun G g ho hm _ _ => ok_f_m_haul  g hm  μ ho a1 a2 h)
def f_m_manyLive_43 (N : Nat)  (μ : sw_M) (k_6 : Int32 → Int32 → Int32 → Int32 → Int32 → Option (Int32)) (x1 : Int32) (x2 : Int32) (x3 : Int32) (x5 : Int32) (s0 : Int32) (s1 : Int32) : Option (Int32) :=
  ib (s1 + s0) (fun y1 =>
    k_6  x1 x2 x3 y1 (x5 + 1))
def f_m_manyLive_32 (N : Nat)  (μ : sw_M) (k_6 : Int32 → Int32 → Int32 → Int32 → Int32 → Option (Int32)) (x1 : Int32) (x2 : Int32) (x3 : Int32) (x5 : Int32) (s0 : Int32) (s1 : Int32) (s2 : Int32) (s4 : Int32) : Option (Int32) :=
  Option.bind (f_m_isLive N  μ s2 s1 s0) (fun r1 =>
    if r1 = 0 then
      f_m_manyLive_43 N  μ k_6  x1 x2 x3 x5 0 s4
    else
      f_m_manyLive_43 N  μ k_6  x1 x2 x3 x5 1 s4)
def f_m_manyLive_6 (N : Nat)  (μ : sw_M)  : Nat → Int32 → Int32 → Int32 → Int32 → Int32 → Option (Int32)
  | 0, _, _, _, _, _ => none
  | n + 1, x1, x2, x3, x4, x5 =>
    if (μ 63 22) ≤ x5 then
      some x4
    else
      if x5 = x2 then
        f_m_manyLive_32 N  μ (f_m_manyLive_6 N  μ  n)  x1 x2 x3 x5 x3 x1 x5 x4
      else
        f_m_manyLive_32 N  μ (f_m_manyLive_6 N  μ  n)  x1 x2 x3 x5 0 x1 x5 x4
def f_m_manyLive (N : Nat)  (μ : sw_M) (a1 : Int32) (a2 : Int32) (a3 : Int32) : Option (Int32) :=
  f_m_manyLive_6 N  μ  N a1 a2 a3 0 0
set_option maxRecDepth 100000 in
set_option maxHeartbeats 4000000 in
theorem ok_f_m_manyLive_43 {G : sw_G} {ad : Nat → Nat} {ν : sw_N}   {N : Nat} {o : Int32} (g : sw_ok G cX11_manyLive "DeadWiresModel" (some .int) 2 0 0 ad) (hm : G.2.2.1.2.1.maxLocals = 6)  (μ : sw_M) (ho : sw_out G 0 0 (fun a => a = ad) (.inl (some (.int o))) lay0 μ ν) (k_6 : Int32 → Int32 → Int32 → Int32 → Int32 → Option (Int32)) (hk_6 : ∀ (x1 : Int32) (x2 : Int32) (x3 : Int32) (x4 : Int32) (x5 : Int32), k_6 x1 x2 x3 x4 x5 = some o → SW G ad lay0 ν 0 0 6 [some (.ref 63), some (.int x1), some (.int x2), some (.int x3), some (.int x4), some (.int x5)] [] μ) (x1 : Int32) (x2 : Int32) (x3 : Int32) (x5 : Int32) (s0 : Int32) (s1 : Int32) (h : f_m_manyLive_43 N  μ k_6  x1 x2 x3 x5 s0 s1 = some o) : SW G ad lay0 ν 0 0 43 [some (.ref 63), some (.int x1), some (.int x2), some (.int x3), none, some (.int x5)] [.int s0, .int s1] μ := by
  unfold f_m_manyLive_43 at h
  refine SW.iadd (pc := 43) g (dt dt_X11_manyLive 23 rfl) ?_
  refine SW.istore (pc := 44) g (dt dt_X11_manyLive 24 rfl) (sw_ltm hm (Nat.le_of_ble_eq_true rfl)) rfl ?_
  refine SW.genL h (fun y1 h => ?_)
  refine SW.iinc (pc := 46) (v := x5 + 1) g (dt dt_X11_manyLive 25 rfl) rfl (kn_1 _) (sw_ltm hm (Nat.le_of_ble_eq_true rfl)) rfl ?_
  refine SW.goto (pc := 49) (t := 6) g (dt dt_X11_manyLive 26 rfl) rfl ?_
  refine SW.msk [true, true, true, true, true, true] ?_
  exact hk_6  x1 x2 x3 y1 (x5 + 1) h
set_option maxRecDepth 100000 in
set_option maxHeartbeats 4000000 in
theorem ok_f_m_manyLive_32 {G : sw_G} {ad : Nat → Nat} {ν : sw_N}   {N : Nat} {o : Int32} (g : sw_ok G cX11_manyLive "DeadWiresModel" (some .int) 2 0 0 ad) (hm : G.2.2.1.2.1.maxLocals = 6)  (μ : sw_M) (ho : sw_out G 0 0 (fun a => a = ad) (.inl (some (.int o))) lay0 μ ν) (k_6 : Int32 → Int32 → Int32 → Int32 → Int32 → Option (Int32)) (hk_6 : ∀ (x1 : Int32) (x2 : Int32) (x3 : Int32) (x4 : Int32) (x5 : Int32), k_6 x1 x2 x3 x4 x5 = some o → SW G ad lay0 ν 0 0 6 [some (.ref 63), some (.int x1), some (.int x2), some (.int x3), some (.int x4), some (.int x5)] [] μ) (x1 : Int32) (x2 : Int32) (x3 : Int32) (x5 : Int32) (s0 : Int32) (s1 : Int32) (s2 : Int32) (s4 : Int32) (h : f_m_manyLive_32 N  μ k_6  x1 x2 x3 x5 s0 s1 s2 s4 = some o) : SW G ad lay0 ν 0 0 32 [some (.ref 63), some (.int x1), some (.int x2), some (.int x3), none, some (.int x5)] [.int s0, .int s1, .int s2, .ref 63, .int s4] μ := by
  unfold f_m_manyLive_32 at h
  obtain ⟨r1, h2, h⟩ := bindI h
  refine SW.callVi (pc := 32) g (dt dt_X11_manyLive 18 rfl) (mt_f_m_isLive _ _ _ _ ad ν   N μ s2 s1 s0 r1 h2) me_X11_isLive mv_X11_isLive ml_X11_350 cell_63 rfl rfl (Nat.le_of_ble_eq_true rfl) (Nat.le_of_ble_eq_true rfl) (Nat.le_of_ble_eq_true rfl) (Nat.le_of_ble_eq_true rfl) rfl ?_
  refine SW.if_eq (pc := 35) (t := 42) g (dt dt_X11_manyLive 19 rfl) rfl (fun hc => ?_) (fun hc => ?_)
  · have h := iteT hc h
    refine SW.iconst (pc := 42) (v := 0) g (dt dt_X11_manyLive 22 rfl) ki_0 ?_
    refine SW.msk [true, true, true, true, false, true] ?_
    exact ok_f_m_manyLive_43  g hm  μ ho k_6 hk_6  x1 x2 x3 x5 0 s4 h
  · have h := iteF hc h
    refine SW.iconst (pc := 38) (v := 1) g (dt dt_X11_manyLive 20 rfl) ki_1 ?_
    refine SW.goto (pc := 39) (t := 43) g (dt dt_X11_manyLive 21 rfl) rfl ?_
    refine SW.msk [true, true, true, true, false, true] ?_
    exact ok_f_m_manyLive_43  g hm  μ ho k_6 hk_6  x1 x2 x3 x5 1 s4 h
set_option maxRecDepth 100000 in
set_option maxHeartbeats 4000000 in
theorem ok_f_m_manyLive_6 {G : sw_G} {ad : Nat → Nat} {ν : sw_N}   {N : Nat} {o : Int32} (g : sw_ok G cX11_manyLive "DeadWiresModel" (some .int) 2 0 0 ad) (hm : G.2.2.1.2.1.maxLocals = 6)  (μ : sw_M) (ho : sw_out G 0 0 (fun a => a = ad) (.inl (some (.int o))) lay0 μ ν)  : ∀ (n : Nat) (x1 : Int32) (x2 : Int32) (x3 : Int32) (x4 : Int32) (x5 : Int32) (h : f_m_manyLive_6 N  μ  n x1 x2 x3 x4 x5 = some o), SW G ad lay0 ν 0 0 6 [some (.ref 63), some (.int x1), some (.int x2), some (.int x3), some (.int x4), some (.int x5)] [] μ := by
  intro n
  induction n with
  | zero => intro x1 x2 x3 x4 x5 h; simp only [f_m_manyLive_6] at h; cases h
  | succ n ih =>
    intro x1 x2 x3 x4 x5 h
    unfold f_m_manyLive_6 at h
    refine SW.iload (pc := 6) g (dt dt_X11_manyLive 4 rfl) rfl ?_
    refine SW.aload_n (pc := 8) g (dt dt_X11_manyLive 5 rfl) rfl ?_
    refine SW.getI (pc := 9) g (dt dt_X11_manyLive 6 rfl) fl_X11_156 cell_63 rfl ?_
    refine SW.icmp_ge (pc := 12) (t := 52) g (dt dt_X11_manyLive 7 rfl) rfl (fun hc => ?_) (fun hc => ?_)
    · have h := iteT hc h
      refine SW.iload (pc := 52) g (dt dt_X11_manyLive 27 rfl) rfl ?_
      exact SW.ireturn (pc := 54) g (leafI h ho) rfl (Nat.le_of_ble_eq_true rfl) (Nat.le_of_ble_eq_true rfl) (dt dt_X11_manyLive 28 rfl)
    · have h := iteF hc h
      refine SW.iload (pc := 15) g (dt dt_X11_manyLive 8 rfl) rfl ?_
      refine SW.aload_n (pc := 17) g (dt dt_X11_manyLive 9 rfl) rfl ?_
      refine SW.iload (pc := 18) g (dt dt_X11_manyLive 10 rfl) rfl ?_
      refine SW.iload_n (pc := 20) g (dt dt_X11_manyLive 11 rfl) rfl ?_
      refine SW.iload (pc := 21) g (dt dt_X11_manyLive 12 rfl) rfl ?_
      refine SW.iload_n (pc := 23) g (dt dt_X11_manyLive 13 rfl) rfl ?_
      refine SW.icmp_ne (pc := 24) (t := 31) g (dt dt_X11_manyLive 14 rfl) rfl (fun hc => ?_) (fun hc => ?_)
      · have h := iteF hc h
        refine SW.iconst (pc := 31) (v := 0) g (dt dt_X11_manyLive 17 rfl) ki_0 ?_
        refine SW.msk [true, true, true, true, false, true] ?_
        exact ok_f_m_manyLive_32  g hm  μ ho (f_m_manyLive_6 N  μ  n) ih  x1 x2 x3 x5 0 x1 x5 x4 h
      · have h := iteT hc h
        refine SW.iload_n (pc := 27) g (dt dt_X11_manyLive 15 rfl) rfl ?_
        refine SW.goto (pc := 28) (t := 32) g (dt dt_X11_manyLive 16 rfl) rfl ?_
        refine SW.msk [true, true, true, true, false, true] ?_
        exact ok_f_m_manyLive_32  g hm  μ ho (f_m_manyLive_6 N  μ  n) ih  x1 x2 x3 x5 x3 x1 x5 x4 h
set_option maxRecDepth 100000 in
set_option maxHeartbeats 4000000 in
theorem ok_f_m_manyLive {G : sw_G} {ad : Nat → Nat} {ν : sw_N}   {N : Nat} {o : Int32} (g : sw_ok G cX11_manyLive "DeadWiresModel" (some .int) 2 0 0 ad) (hm : G.2.2.1.2.1.maxLocals = 6)  (μ : sw_M) (ho : sw_out G 0 0 (fun a => a = ad) (.inl (some (.int o))) lay0 μ ν) (a1 : Int32) (a2 : Int32) (a3 : Int32) (h : f_m_manyLive N  μ a1 a2 a3 = some o) : SW G ad lay0 ν 0 0 0 [some (.ref 63), some (.int a1), some (.int a2), some (.int a3), none, none] [] μ := by
  unfold f_m_manyLive at h
  refine SW.iconst (pc := 0) (v := 0) g (dt dt_X11_manyLive 0 rfl) ki_0 ?_
  refine SW.istore (pc := 1) g (dt dt_X11_manyLive 1 rfl) (sw_ltm hm (Nat.le_of_ble_eq_true rfl)) rfl ?_
  refine SW.iconst (pc := 3) (v := 0) g (dt dt_X11_manyLive 2 rfl) ki_0 ?_
  refine SW.istore (pc := 4) g (dt dt_X11_manyLive 3 rfl) (sw_ltm hm (Nat.le_of_ble_eq_true rfl)) rfl ?_
  refine SW.msk [true, true, true, true, true, true] ?_
  exact ok_f_m_manyLive_6  g hm  μ ho   N a1 a2 a3 0 0 h
set_option maxRecDepth 100000 in
set_option maxHeartbeats 4000000 in
theorem mt_f_m_manyLive (l : Launch) (D : va_G) (cI cL : ClassId) (ad : Nat → Nat) (ν : sw_N)    (N : Nat) (μ : sw_M) (a1 : Int32) (a2 : Int32) (a3 : Int32) (o : Int32) (h : f_m_manyLive N  μ a1 a2 a3 = some o) : MetR l D cI cL yX11_manyLive cX11_manyLive 6 (some .int) 2 0 0 (fun a => a = ad) ad [.ref 63, .int a1, .int a2, .int a3] lay0 μ ν (some (.int o)) lay0 μ ν :=
  MetR.of (n := 2) rfl (Nat.le_of_ble_eq_true rfl) (fun G g ho hm _ _ => ok_f_m_manyLive  g hm  μ ho a1 a2 a3 h)
def f_m_isFit_66 (N : Nat)  (μ : sw_M) (k_21 : Int32 → Int32 → Int32 → Int32 → Option (Int32)) (x1 : Int32) (x2 : Int32) (x4 : Int32) (s0 : Int32) : Option (Int32) :=
  k_21  x1 x2 s0 (x4 + 1)
def f_m_isFit_61 (N : Nat)  (μ : sw_M) (k_21 : Int32 → Int32 → Int32 → Int32 → Option (Int32)) (x1 : Int32) (x2 : Int32) (x4 : Int32) : Option (Int32) :=
  f_m_isFit_66 N  μ k_21  x1 x2 x4 1
def f_m_isFit_21 (N : Nat)  (μ : sw_M)  : Nat → Int32 → Int32 → Int32 → Int32 → Option (Int32)
  | 0, _, _, _, _ => none
  | n + 1, x1, x2, x3, x4 =>
    if 40 < x4 then
      bl x3 (some x3)
    else
      if x3 = 0 then
        bl x3 (some x3)
      else
        inb x4 41 (
          if (μ 84 x4.toNatClampNeg) = (-1) then
            f_m_isFit_61 N  μ (f_m_isFit_21 N  μ  n)  x1 x2 x4
          else
            Option.bind (f_m_manyLive N  μ x4 x1 x2) (fun r2 =>
              inb x4 41 (
                if r2 = (μ 84 x4.toNatClampNeg) then
                  f_m_isFit_61 N  μ (f_m_isFit_21 N  μ  n)  x1 x2 x4
                else
                  f_m_isFit_66 N  μ (f_m_isFit_21 N  μ  n)  x1 x2 x4 0)))
def f_m_isFit_17 (N : Nat)  (μ : sw_M)  (x1 : Int32) (x2 : Int32) (s0 : Int32) : Option (Int32) :=
  f_m_isFit_21 N  μ  N x1 x2 s0 0
def f_m_isFit (N : Nat)  (μ : sw_M) (a1 : Int32) (a2 : Int32) : Option (Int32) :=
  inb ((12 : Int32) + a1) 49 (
    if (μ 81 ((12 : Int32) + a1).toNatClampNeg) = 0 then
      f_m_isFit_17 N  μ   a1 a2 1
    else
      f_m_isFit_17 N  μ   a1 a2 0)
set_option maxRecDepth 100000 in
set_option maxHeartbeats 4000000 in
theorem ok_f_m_isFit_66 {G : sw_G} {ad : Nat → Nat} {ν : sw_N}   {N : Nat} {o : Int32} (g : sw_ok G cX11_isFit "DeadWiresModel" (some .boolean) 3 0 0 ad) (hm : G.2.2.1.2.1.maxLocals = 5)  (μ : sw_M) (ho : sw_out G 0 0 (fun a => a = ad) (.inl (some (.int o))) lay0 μ ν) (k_21 : Int32 → Int32 → Int32 → Int32 → Option (Int32)) (hk_21 : ∀ (x1 : Int32) (x2 : Int32) (x3 : Int32) (x4 : Int32), k_21 x1 x2 x3 x4 = some o → SW G ad lay0 ν 0 0 21 [some (.ref 63), some (.int x1), some (.int x2), some (.int x3), some (.int x4)] [] μ) (x1 : Int32) (x2 : Int32) (x4 : Int32) (s0 : Int32) (h : f_m_isFit_66 N  μ k_21  x1 x2 x4 s0 = some o) : SW G ad lay0 ν 0 0 66 [some (.ref 63), some (.int x1), some (.int x2), none, some (.int x4)] [.int s0] μ := by
  unfold f_m_isFit_66 at h
  refine SW.istore_n (pc := 66) g (dt dt_X11_isFit 37 rfl) (sw_ltm hm (Nat.le_of_ble_eq_true rfl)) rfl ?_
  refine SW.iinc (pc := 67) (v := x4 + 1) g (dt dt_X11_isFit 38 rfl) rfl (kn_1 _) (sw_ltm hm (Nat.le_of_ble_eq_true rfl)) rfl ?_
  refine SW.goto (pc := 70) (t := 21) g (dt dt_X11_isFit 39 rfl) rfl ?_
  refine SW.msk [true, true, true, true, true] ?_
  exact hk_21  x1 x2 s0 (x4 + 1) h
set_option maxRecDepth 100000 in
set_option maxHeartbeats 4000000 in
theorem ok_f_m_isFit_61 {G : sw_G} {ad : Nat → Nat} {ν : sw_N}   {N : Nat} {o : Int32} (g : sw_ok G cX11_isFit "DeadWiresModel" (some .boolean) 3 0 0 ad) (hm : G.2.2.1.2.1.maxLocals = 5)  (μ : sw_M) (ho : sw_out G 0 0 (fun a => a = ad) (.inl (some (.int o))) lay0 μ ν) (k_21 : Int32 → Int32 → Int32 → Int32 → Option (Int32)) (hk_21 : ∀ (x1 : Int32) (x2 : Int32) (x3 : Int32) (x4 : Int32), k_21 x1 x2 x3 x4 = some o → SW G ad lay0 ν 0 0 21 [some (.ref 63), some (.int x1), some (.int x2), some (.int x3), some (.int x4)] [] μ) (x1 : Int32) (x2 : Int32) (x4 : Int32) (h : f_m_isFit_61 N  μ k_21  x1 x2 x4 = some o) : SW G ad lay0 ν 0 0 61 [some (.ref 63), some (.int x1), some (.int x2), none, some (.int x4)] [] μ := by
  unfold f_m_isFit_61 at h
  refine SW.iconst (pc := 61) (v := 1) g (dt dt_X11_isFit 34 rfl) ki_1 ?_
  refine SW.goto (pc := 62) (t := 66) g (dt dt_X11_isFit 35 rfl) rfl ?_
  refine SW.msk [true, true, true, false, true] ?_
  exact ok_f_m_isFit_66  g hm  μ ho k_21 hk_21  x1 x2 x4 1 h
set_option maxRecDepth 100000 in
set_option maxHeartbeats 4000000 in
theorem ok_f_m_isFit_21 {G : sw_G} {ad : Nat → Nat} {ν : sw_N}   {N : Nat} {o : Int32} (g : sw_ok G cX11_isFit "DeadWiresModel" (some .boolean) 3 0 0 ad) (hm : G.2.2.1.2.1.maxLocals = 5)  (μ : sw_M) (ho : sw_out G 0 0 (fun a => a = ad) (.inl (some (.int o))) lay0 μ ν)  : ∀ (n : Nat) (x1 : Int32) (x2 : Int32) (x3 : Int32) (x4 : Int32) (h : f_m_isFit_21 N  μ  n x1 x2 x3 x4 = some o), SW G ad lay0 ν 0 0 21 [some (.ref 63), some (.int x1), some (.int x2), some (.int x3), some (.int x4)] [] μ := by
  intro n
  induction n with
  | zero => intro x1 x2 x3 x4 h; simp only [f_m_isFit_21] at h; cases h
  | succ n ih =>
    intro x1 x2 x3 x4 h
    unfold f_m_isFit_21 at h
    refine SW.iload (pc := 21) g (dt dt_X11_isFit 13 rfl) rfl ?_
    refine SW.bipush (pc := 23) (v := 40) g (dt dt_X11_isFit 14 rfl) kb_40 ?_
    refine SW.icmp_gt (pc := 25) (t := 73) g (dt dt_X11_isFit 15 rfl) rfl (fun hc => ?_) (fun hc => ?_)
    · have h := iteT hc h
      refine SW.iload_n (pc := 73) g (dt dt_X11_isFit 40 rfl) rfl ?_
      obtain ⟨hn, h⟩ := blI h
      exact SW.zreturn (pc := 74) g (leafI h ho) rfl (Nat.le_of_ble_eq_true rfl) (Nat.le_of_ble_eq_true rfl) hn (dt dt_X11_isFit 41 rfl)
    · have h := iteF hc h
      refine SW.iload_n (pc := 28) g (dt dt_X11_isFit 16 rfl) rfl ?_
      refine SW.if_eq (pc := 29) (t := 73) g (dt dt_X11_isFit 17 rfl) rfl (fun hc => ?_) (fun hc => ?_)
      · have h := iteT hc h
        refine SW.iload_n (pc := 73) g (dt dt_X11_isFit 40 rfl) rfl ?_
        obtain ⟨hn, h⟩ := blI h
        exact SW.zreturn (pc := 74) g (leafI h ho) rfl (Nat.le_of_ble_eq_true rfl) (Nat.le_of_ble_eq_true rfl) hn (dt dt_X11_isFit 41 rfl)
      · have h := iteF hc h
        refine SW.aload_n (pc := 32) g (dt dt_X11_isFit 18 rfl) rfl ?_
        refine SW.getR (pc := 33) g (dt dt_X11_isFit 19 rfl) fl_X11_77 cell_63 rfl ?_
        refine SW.iload (pc := 36) g (dt dt_X11_isFit 20 rfl) rfl ?_
        obtain ⟨hb1, h⟩ := inbI h
        refine SW.iaload (pc := 38) g (dt dt_X11_isFit 21 rfl) cell_84 hb1 ?_
        refine SW.iconst (pc := 39) (v := (-1)) g (dt dt_X11_isFit 22 rfl) ki_m1 ?_
        refine SW.icmp_eq (pc := 40) (t := 61) g (dt dt_X11_isFit 23 rfl) rfl (fun hc => ?_) (fun hc => ?_)
        · have h := iteT hc h
          refine SW.msk [true, true, true, false, true] ?_
          exact ok_f_m_isFit_61  g hm  μ ho (f_m_isFit_21 N  μ  n) ih  x1 x2 x4 h
        · have h := iteF hc h
          refine SW.aload_n (pc := 43) g (dt dt_X11_isFit 24 rfl) rfl ?_
          refine SW.iload (pc := 44) g (dt dt_X11_isFit 25 rfl) rfl ?_
          refine SW.iload_n (pc := 46) g (dt dt_X11_isFit 26 rfl) rfl ?_
          refine SW.iload_n (pc := 47) g (dt dt_X11_isFit 27 rfl) rfl ?_
          obtain ⟨r2, h3, h⟩ := bindI h
          refine SW.callVi (pc := 48) g (dt dt_X11_isFit 28 rfl) (mt_f_m_manyLive _ _ _ _ ad ν   N μ x4 x1 x2 r2 h3) me_X11_manyLive mv_X11_manyLive ml_X11_414 cell_63 rfl rfl (Nat.le_of_ble_eq_true rfl) (Nat.le_of_ble_eq_true rfl) (Nat.le_of_ble_eq_true rfl) (Nat.le_of_ble_eq_true rfl) rfl ?_
          refine SW.aload_n (pc := 51) g (dt dt_X11_isFit 29 rfl) rfl ?_
          refine SW.getR (pc := 52) g (dt dt_X11_isFit 30 rfl) fl_X11_77 cell_63 rfl ?_
          refine SW.iload (pc := 55) g (dt dt_X11_isFit 31 rfl) rfl ?_
          obtain ⟨hb4, h⟩ := inbI h
          refine SW.iaload (pc := 57) g (dt dt_X11_isFit 32 rfl) cell_84 hb4 ?_
          refine SW.icmp_ne (pc := 58) (t := 65) g (dt dt_X11_isFit 33 rfl) rfl (fun hc => ?_) (fun hc => ?_)
          · have h := iteF hc h
            refine SW.iconst (pc := 65) (v := 0) g (dt dt_X11_isFit 36 rfl) ki_0 ?_
            refine SW.msk [true, true, true, false, true] ?_
            exact ok_f_m_isFit_66  g hm  μ ho (f_m_isFit_21 N  μ  n) ih  x1 x2 x4 0 h
          · have h := iteT hc h
            refine SW.msk [true, true, true, false, true] ?_
            exact ok_f_m_isFit_61  g hm  μ ho (f_m_isFit_21 N  μ  n) ih  x1 x2 x4 h
set_option maxRecDepth 100000 in
set_option maxHeartbeats 4000000 in
theorem ok_f_m_isFit_17 {G : sw_G} {ad : Nat → Nat} {ν : sw_N}   {N : Nat} {o : Int32} (g : sw_ok G cX11_isFit "DeadWiresModel" (some .boolean) 3 0 0 ad) (hm : G.2.2.1.2.1.maxLocals = 5)  (μ : sw_M) (ho : sw_out G 0 0 (fun a => a = ad) (.inl (some (.int o))) lay0 μ ν)  (x1 : Int32) (x2 : Int32) (s0 : Int32) (h : f_m_isFit_17 N  μ   x1 x2 s0 = some o) : SW G ad lay0 ν 0 0 17 [some (.ref 63), some (.int x1), some (.int x2), none, none] [.int s0] μ := by
  unfold f_m_isFit_17 at h
  refine SW.istore_n (pc := 17) g (dt dt_X11_isFit 10 rfl) (sw_ltm hm (Nat.le_of_ble_eq_true rfl)) rfl ?_
  refine SW.iconst (pc := 18) (v := 0) g (dt dt_X11_isFit 11 rfl) ki_0 ?_
  refine SW.istore (pc := 19) g (dt dt_X11_isFit 12 rfl) (sw_ltm hm (Nat.le_of_ble_eq_true rfl)) rfl ?_
  refine SW.msk [true, true, true, true, true] ?_
  exact ok_f_m_isFit_21  g hm  μ ho   N x1 x2 s0 0 h
set_option maxRecDepth 100000 in
set_option maxHeartbeats 4000000 in
theorem ok_f_m_isFit {G : sw_G} {ad : Nat → Nat} {ν : sw_N}   {N : Nat} {o : Int32} (g : sw_ok G cX11_isFit "DeadWiresModel" (some .boolean) 3 0 0 ad) (hm : G.2.2.1.2.1.maxLocals = 5)  (μ : sw_M) (ho : sw_out G 0 0 (fun a => a = ad) (.inl (some (.int o))) lay0 μ ν) (a1 : Int32) (a2 : Int32) (h : f_m_isFit N  μ a1 a2 = some o) : SW G ad lay0 ν 0 0 0 [some (.ref 63), some (.int a1), some (.int a2), none, none] [] μ := by
  unfold f_m_isFit at h
  refine SW.aload_n (pc := 0) g (dt dt_X11_isFit 0 rfl) rfl ?_
  refine SW.getR (pc := 1) g (dt dt_X11_isFit 1 rfl) fl_X11_68 cell_63 rfl ?_
  refine SW.bipush (pc := 4) (v := 12) g (dt dt_X11_isFit 2 rfl) kb_12 ?_
  refine SW.iload_n (pc := 6) g (dt dt_X11_isFit 3 rfl) rfl ?_
  refine SW.iadd (pc := 7) g (dt dt_X11_isFit 4 rfl) ?_
  obtain ⟨hb1, h⟩ := inbI h
  refine SW.iaload (pc := 8) g (dt dt_X11_isFit 5 rfl) cell_81 hb1 ?_
  refine SW.if_ne (pc := 9) (t := 16) g (dt dt_X11_isFit 6 rfl) rfl (fun hc => ?_) (fun hc => ?_)
  · have h := iteF hc h
    refine SW.iconst (pc := 16) (v := 0) g (dt dt_X11_isFit 9 rfl) ki_0 ?_
    refine SW.msk [true, true, true, false, false] ?_
    exact ok_f_m_isFit_17  g hm  μ ho    a1 a2 0 h
  · have h := iteT hc h
    refine SW.iconst (pc := 12) (v := 1) g (dt dt_X11_isFit 7 rfl) ki_1 ?_
    refine SW.goto (pc := 13) (t := 17) g (dt dt_X11_isFit 8 rfl) rfl ?_
    refine SW.msk [true, true, true, false, false] ?_
    exact ok_f_m_isFit_17  g hm  μ ho    a1 a2 1 h
set_option maxRecDepth 100000 in
set_option maxHeartbeats 4000000 in
theorem mt_f_m_isFit (l : Launch) (D : va_G) (cI cL : ClassId) (ad : Nat → Nat) (ν : sw_N)    (N : Nat) (μ : sw_M) (a1 : Int32) (a2 : Int32) (o : Int32) (h : f_m_isFit N  μ a1 a2 = some o) : MetR l D cI cL yX11_isFit cX11_isFit 5 (some .boolean) 3 0 0 (fun a => a = ad) ad [.ref 63, .int a1, .int a2] lay0 μ ν (some (.int o)) lay0 μ ν :=
  MetR.of (n := 2) rfl (Nat.le_of_ble_eq_true rfl) (fun G g ho hm _ _ => ok_f_m_isFit  g hm  μ ho a1 a2 h)
def f_m_fits_86 (N : Nat)  (k_33 : sw_M → Int32 → Int32 → Int32 → Int32 → Option (Int32 × sw_M)) (k_45 : sw_M → Int32 → Int32 → Int32 → Int32 → Int32 → Option (Int32 × sw_M)) (μ : sw_M) (x1 : Int32) (x2 : Int32) (x4 : Int32) (x5 : Int32) (s0 : Int32) : Option (Int32 × sw_M) :=
  k_45 μ x1 x2 s0 x4 (x5 + 1)
def f_m_fits_45 (N : Nat)  (k_33 : sw_M → Int32 → Int32 → Int32 → Int32 → Option (Int32 × sw_M)) : Nat → sw_M → Int32 → Int32 → Int32 → Int32 → Int32 → Option (Int32 × sw_M)
  | 0, _, _, _, _, _, _ => none
  | n + 1, μ, x1, x2, x3, x4, x5 =>
    if 20 < x5 then
      k_33 μ x1 x2 x3 (x4 + 1)
    else
      Option.bind (f_m_isFit N  μ x4 x5) (fun r1 =>
        if r1 = 0 then
          f_m_fits_45 N  k_33 n μ x1 x2 x3 x4 (x5 + 1)
        else
          ib (x2 + 1) (fun y3 =>
            if x3 = (-1) then
              f_m_fits_86 N  k_33 (f_m_fits_45 N  k_33 n)  μ x1 y3 x4 x5 (((100 : Int32) * x4) + x5)
            else
              f_m_fits_86 N  k_33 (f_m_fits_45 N  k_33 n)  μ x1 y3 x4 x5 x3))
def f_m_fits_33 (N : Nat)   : Nat → sw_M → Int32 → Int32 → Int32 → Int32 → Option (Int32 × sw_M)
  | 0, _, _, _, _, _ => none
  | n + 1, μ, x1, x2, x3, x4 =>
    if (μ 63 22) ≤ x4 then
      if x1 = 0 then
        some (x2, μ)
      else
        some (x3, μ)
    else
      f_m_fits_45 N  (f_m_fits_33 N   n) N μ x1 x2 x3 x4 1
def f_m_fits (N : Nat)  (μ : sw_M) (a1 : Int32) : Option (Int32 × sw_M) :=
  wb (wr μ 63 0 0) (fun μ1 =>
    Option.bind (f_sm_within N  μ1 a1 0 1) (fun r2 =>
      Option.bind (f_m_may N  μ1 r2 1 1) (fun r4 =>
        if r4.1 = 0 then
          some (0, r4.2)
        else
          Option.bind (f_m_take N  r4.2 ) (fun r6 =>
            f_m_fits_33 N   N r6 a1 0 (-1) 0))))
set_option maxRecDepth 100000 in
set_option maxHeartbeats 4000000 in
theorem ok_f_m_fits_86 {G : sw_G} {ad : Nat → Nat} {ν : sw_N}   {N : Nat} {o : Int32 × sw_M} (g : sw_ok G cX11_fits "DeadWiresModel" (some .int) 4 0 0 ad) (hm : G.2.2.1.2.1.maxLocals = 6)  (ho : sw_out G 0 0 (fun a => a = ad) (.inl (some (.int o.1))) lay0 o.2 ν) (k_33 : sw_M → Int32 → Int32 → Int32 → Int32 → Option (Int32 × sw_M)) (k_45 : sw_M → Int32 → Int32 → Int32 → Int32 → Int32 → Option (Int32 × sw_M)) (hk_33 : ∀ (μ : sw_M) (x1 : Int32) (x2 : Int32) (x3 : Int32) (x4 : Int32), k_33 μ x1 x2 x3 x4 = some o → SW G ad lay0 ν 0 0 33 [some (.ref 63), some (.int x1), some (.int x2), some (.int x3), some (.int x4), none] [] μ) (hk_45 : ∀ (μ : sw_M) (x1 : Int32) (x2 : Int32) (x3 : Int32) (x4 : Int32) (x5 : Int32), k_45 μ x1 x2 x3 x4 x5 = some o → SW G ad lay0 ν 0 0 45 [some (.ref 63), some (.int x1), some (.int x2), some (.int x3), some (.int x4), some (.int x5)] [] μ) (μ : sw_M) (x1 : Int32) (x2 : Int32) (x4 : Int32) (x5 : Int32) (s0 : Int32) (h : f_m_fits_86 N  k_33 k_45  μ x1 x2 x4 x5 s0 = some o) : SW G ad lay0 ν 0 0 86 [some (.ref 63), some (.int x1), some (.int x2), none, some (.int x4), some (.int x5)] [.int s0] μ := by
  unfold f_m_fits_86 at h
  refine SW.istore_n (pc := 86) g (dt dt_X11_fits 48 rfl) (sw_ltm hm (Nat.le_of_ble_eq_true rfl)) rfl ?_
  refine SW.iinc (pc := 87) (v := x5 + 1) g (dt dt_X11_fits 49 rfl) rfl (kn_1 _) (sw_ltm hm (Nat.le_of_ble_eq_true rfl)) rfl ?_
  refine SW.goto (pc := 90) (t := 45) g (dt dt_X11_fits 50 rfl) rfl ?_
  refine SW.msk [true, true, true, true, true, true] ?_
  exact hk_45 μ x1 x2 s0 x4 (x5 + 1) h
set_option maxRecDepth 100000 in
set_option maxHeartbeats 4000000 in
theorem ok_f_m_fits_45 {G : sw_G} {ad : Nat → Nat} {ν : sw_N}   {N : Nat} {o : Int32 × sw_M} (g : sw_ok G cX11_fits "DeadWiresModel" (some .int) 4 0 0 ad) (hm : G.2.2.1.2.1.maxLocals = 6)  (ho : sw_out G 0 0 (fun a => a = ad) (.inl (some (.int o.1))) lay0 o.2 ν) (k_33 : sw_M → Int32 → Int32 → Int32 → Int32 → Option (Int32 × sw_M)) (hk_33 : ∀ (μ : sw_M) (x1 : Int32) (x2 : Int32) (x3 : Int32) (x4 : Int32), k_33 μ x1 x2 x3 x4 = some o → SW G ad lay0 ν 0 0 33 [some (.ref 63), some (.int x1), some (.int x2), some (.int x3), some (.int x4), none] [] μ) : ∀ (n : Nat) (μ : sw_M) (x1 : Int32) (x2 : Int32) (x3 : Int32) (x4 : Int32) (x5 : Int32) (h : f_m_fits_45 N  k_33 n μ x1 x2 x3 x4 x5 = some o), SW G ad lay0 ν 0 0 45 [some (.ref 63), some (.int x1), some (.int x2), some (.int x3), some (.int x4), some (.int x5)] [] μ := by
  intro n
  induction n with
  | zero => intro μ x1 x2 x3 x4 x5 h; simp only [f_m_fits_45] at h; cases h
  | succ n ih =>
    intro μ x1 x2 x3 x4 x5 h
    unfold f_m_fits_45 at h
    refine SW.iload (pc := 45) g (dt dt_X11_fits 28 rfl) rfl ?_
    refine SW.bipush (pc := 47) (v := 20) g (dt dt_X11_fits 29 rfl) kb_20 ?_
    refine SW.icmp_gt (pc := 49) (t := 93) g (dt dt_X11_fits 30 rfl) rfl (fun hc => ?_) (fun hc => ?_)
    · have h := iteT hc h
      refine SW.iinc (pc := 93) (v := x4 + 1) g (dt dt_X11_fits 51 rfl) rfl (kn_1 _) (sw_ltm hm (Nat.le_of_ble_eq_true rfl)) rfl ?_
      refine SW.goto (pc := 96) (t := 33) g (dt dt_X11_fits 52 rfl) rfl ?_
      refine SW.msk [true, true, true, true, true, false] ?_
      exact hk_33 μ x1 x2 x3 (x4 + 1) h
    · have h := iteF hc h
      refine SW.aload_n (pc := 52) g (dt dt_X11_fits 31 rfl) rfl ?_
      refine SW.iload (pc := 53) g (dt dt_X11_fits 32 rfl) rfl ?_
      refine SW.iload (pc := 55) g (dt dt_X11_fits 33 rfl) rfl ?_
      obtain ⟨r1, h2, h⟩ := bindI h
      refine SW.callVi (pc := 57) g (dt dt_X11_fits 34 rfl) (mt_f_m_isFit _ _ _ _ ad ν   N μ x4 x5 r1 h2) me_X11_isFit mv_X11_isFit ml_X11_417 cell_63 rfl rfl (Nat.le_of_ble_eq_true rfl) (Nat.le_of_ble_eq_true rfl) (Nat.le_of_ble_eq_true rfl) (Nat.le_of_ble_eq_true rfl) rfl ?_
      refine SW.if_ne (pc := 60) (t := 66) g (dt dt_X11_fits 35 rfl) rfl (fun hc => ?_) (fun hc => ?_)
      · have h := iteF hc h
        refine SW.iinc (pc := 66) (v := x2 + 1) g (dt dt_X11_fits 37 rfl) rfl (kn_1 _) (sw_ltm hm (Nat.le_of_ble_eq_true rfl)) rfl ?_
        refine SW.genL h (fun y3 h => ?_)
        refine SW.iload_n (pc := 69) g (dt dt_X11_fits 38 rfl) rfl ?_
        refine SW.iconst (pc := 70) (v := (-1)) g (dt dt_X11_fits 39 rfl) ki_m1 ?_
        refine SW.icmp_ne (pc := 71) (t := 85) g (dt dt_X11_fits 40 rfl) rfl (fun hc => ?_) (fun hc => ?_)
        · have h := iteF hc h
          refine SW.iload_n (pc := 85) g (dt dt_X11_fits 47 rfl) rfl ?_
          refine SW.msk [true, true, true, false, true, true] ?_
          exact ok_f_m_fits_86  g hm  ho k_33 (f_m_fits_45 N  k_33 n) hk_33 ih  μ x1 y3 x4 x5 x3 h
        · have h := iteT hc h
          refine SW.bipush (pc := 74) (v := 100) g (dt dt_X11_fits 41 rfl) kb_100 ?_
          refine SW.iload (pc := 76) g (dt dt_X11_fits 42 rfl) rfl ?_
          refine SW.imul (pc := 78) g (dt dt_X11_fits 43 rfl) ?_
          refine SW.iload (pc := 79) g (dt dt_X11_fits 44 rfl) rfl ?_
          refine SW.iadd (pc := 81) g (dt dt_X11_fits 45 rfl) ?_
          refine SW.goto (pc := 82) (t := 86) g (dt dt_X11_fits 46 rfl) rfl ?_
          refine SW.msk [true, true, true, false, true, true] ?_
          exact ok_f_m_fits_86  g hm  ho k_33 (f_m_fits_45 N  k_33 n) hk_33 ih  μ x1 y3 x4 x5 (((100 : Int32) * x4) + x5) h
      · have h := iteT hc h
        refine SW.goto (pc := 63) (t := 87) g (dt dt_X11_fits 36 rfl) rfl ?_
        refine SW.iinc (pc := 87) (v := x5 + 1) g (dt dt_X11_fits 49 rfl) rfl (kn_1 _) (sw_ltm hm (Nat.le_of_ble_eq_true rfl)) rfl ?_
        refine SW.goto (pc := 90) (t := 45) g (dt dt_X11_fits 50 rfl) rfl ?_
        refine SW.msk [true, true, true, true, true, true] ?_
        exact ih μ x1 x2 x3 x4 (x5 + 1) h
set_option maxRecDepth 100000 in
set_option maxHeartbeats 4000000 in
theorem ok_f_m_fits_33 {G : sw_G} {ad : Nat → Nat} {ν : sw_N}   {N : Nat} {o : Int32 × sw_M} (g : sw_ok G cX11_fits "DeadWiresModel" (some .int) 4 0 0 ad) (hm : G.2.2.1.2.1.maxLocals = 6)  (ho : sw_out G 0 0 (fun a => a = ad) (.inl (some (.int o.1))) lay0 o.2 ν)  : ∀ (n : Nat) (μ : sw_M) (x1 : Int32) (x2 : Int32) (x3 : Int32) (x4 : Int32) (h : f_m_fits_33 N   n μ x1 x2 x3 x4 = some o), SW G ad lay0 ν 0 0 33 [some (.ref 63), some (.int x1), some (.int x2), some (.int x3), some (.int x4), none] [] μ := by
  intro n
  induction n with
  | zero => intro μ x1 x2 x3 x4 h; simp only [f_m_fits_33] at h; cases h
  | succ n ih =>
    intro μ x1 x2 x3 x4 h
    unfold f_m_fits_33 at h
    refine SW.iload (pc := 33) g (dt dt_X11_fits 22 rfl) rfl ?_
    refine SW.aload_n (pc := 35) g (dt dt_X11_fits 23 rfl) rfl ?_
    refine SW.getI (pc := 36) g (dt dt_X11_fits 24 rfl) fl_X11_156 cell_63 rfl ?_
    refine SW.icmp_ge (pc := 39) (t := 99) g (dt dt_X11_fits 25 rfl) rfl (fun hc => ?_) (fun hc => ?_)
    · have h := iteT hc h
      refine SW.iload_n (pc := 99) g (dt dt_X11_fits 53 rfl) rfl ?_
      refine SW.if_ne (pc := 100) (t := 107) g (dt dt_X11_fits 54 rfl) rfl (fun hc => ?_) (fun hc => ?_)
      · have h := iteF hc h
        refine SW.iload_n (pc := 107) g (dt dt_X11_fits 57 rfl) rfl ?_
        exact SW.ireturn (pc := 108) g (leafW h ho) rfl (Nat.le_of_ble_eq_true rfl) (Nat.le_of_ble_eq_true rfl) (dt dt_X11_fits 58 rfl)
      · have h := iteT hc h
        refine SW.iload_n (pc := 103) g (dt dt_X11_fits 55 rfl) rfl ?_
        refine SW.goto (pc := 104) (t := 108) g (dt dt_X11_fits 56 rfl) rfl ?_
        exact SW.ireturn (pc := 108) g (leafW h ho) rfl (Nat.le_of_ble_eq_true rfl) (Nat.le_of_ble_eq_true rfl) (dt dt_X11_fits 58 rfl)
    · have h := iteF hc h
      refine SW.iconst (pc := 42) (v := 1) g (dt dt_X11_fits 26 rfl) ki_1 ?_
      refine SW.istore (pc := 43) g (dt dt_X11_fits 27 rfl) (sw_ltm hm (Nat.le_of_ble_eq_true rfl)) rfl ?_
      refine SW.msk [true, true, true, true, true, true] ?_
      exact ok_f_m_fits_45  g hm  ho (f_m_fits_33 N   n) ih N μ x1 x2 x3 x4 1 h
set_option maxRecDepth 100000 in
set_option maxHeartbeats 4000000 in
theorem ok_f_m_fits {G : sw_G} {ad : Nat → Nat} {ν : sw_N}   {N : Nat} {o : Int32 × sw_M} (g : sw_ok G cX11_fits "DeadWiresModel" (some .int) 4 0 0 ad) (hm : G.2.2.1.2.1.maxLocals = 6)  (μ : sw_M) (ho : sw_out G 0 0 (fun a => a = ad) (.inl (some (.int o.1))) lay0 o.2 ν) (a1 : Int32) (h : f_m_fits N  μ a1 = some o) : SW G ad lay0 ν 0 0 0 [some (.ref 63), some (.int a1), none, none, none, none] [] μ := by
  unfold f_m_fits at h
  refine SW.aload_n (pc := 0) g (dt dt_X11_fits 0 rfl) rfl ?_
  refine SW.iconst (pc := 1) (v := 0) g (dt dt_X11_fits 1 rfl) ki_0 ?_
  refine SW.putI (pc := 2) g (dt dt_X11_fits 2 rfl) fl_X11_3 cell_63 rfl ?_
  refine SW.genM h (fun μ1 h => ?_)
  refine SW.aload_n (pc := 5) g (dt dt_X11_fits 3 rfl) rfl ?_
  refine SW.iload_n (pc := 6) g (dt dt_X11_fits 4 rfl) rfl ?_
  refine SW.iconst (pc := 7) (v := 0) g (dt dt_X11_fits 5 rfl) ki_0 ?_
  refine SW.iconst (pc := 8) (v := 1) g (dt dt_X11_fits 6 rfl) ki_1 ?_
  obtain ⟨r2, h3, h⟩ := bindI h
  refine SW.callSi (pc := 9) g (dt dt_X11_fits 7 rfl) (mt_f_sm_within _ _ _ _ ad ν lay0   N μ1 a1 0 1 r2 h3) me_X11_within ms_X11_within ml_X11_374 rfl (Nat.le_of_ble_eq_true rfl) (Nat.le_of_ble_eq_true rfl) (Nat.le_of_ble_eq_true rfl) (Nat.le_of_ble_eq_true rfl) rfl ?_
  refine SW.iconst (pc := 12) (v := 1) g (dt dt_X11_fits 8 rfl) ki_1 ?_
  refine SW.iconst (pc := 13) (v := 1) g (dt dt_X11_fits 9 rfl) ki_1 ?_
  obtain ⟨r4, h5, h⟩ := bindI h
  refine SW.callVi (pc := 14) g (dt dt_X11_fits 10 rfl) (mt_f_m_may _ _ _ _ ad ν   N μ1 r2 1 1 r4 h5) me_X11_may mv_X11_may ml_X11_204 cell_63 rfl rfl (Nat.le_of_ble_eq_true rfl) (Nat.le_of_ble_eq_true rfl) (Nat.le_of_ble_eq_true rfl) (Nat.le_of_ble_eq_true rfl) rfl ?_
  refine SW.if_ne (pc := 17) (t := 22) g (dt dt_X11_fits 11 rfl) rfl (fun hc => ?_) (fun hc => ?_)
  · have h := iteF hc h
    refine SW.aload_n (pc := 22) g (dt dt_X11_fits 14 rfl) rfl ?_
    obtain ⟨r6, h7, h⟩ := bindI h
    refine SW.callVv (pc := 23) g (dt dt_X11_fits 15 rfl) (mt_f_m_take _ _ _ _ ad ν   N r4.2  r6 h7) me_X11_take mv_X11_take ml_X11_305 cell_63 rfl rfl (Nat.le_of_ble_eq_true rfl) (Nat.le_of_ble_eq_true rfl) (Nat.le_of_ble_eq_true rfl) (Nat.le_of_ble_eq_true rfl) rfl ?_
    refine SW.iconst (pc := 26) (v := 0) g (dt dt_X11_fits 16 rfl) ki_0 ?_
    refine SW.istore_n (pc := 27) g (dt dt_X11_fits 17 rfl) (sw_ltm hm (Nat.le_of_ble_eq_true rfl)) rfl ?_
    refine SW.iconst (pc := 28) (v := (-1)) g (dt dt_X11_fits 18 rfl) ki_m1 ?_
    refine SW.istore_n (pc := 29) g (dt dt_X11_fits 19 rfl) (sw_ltm hm (Nat.le_of_ble_eq_true rfl)) rfl ?_
    refine SW.iconst (pc := 30) (v := 0) g (dt dt_X11_fits 20 rfl) ki_0 ?_
    refine SW.istore (pc := 31) g (dt dt_X11_fits 21 rfl) (sw_ltm hm (Nat.le_of_ble_eq_true rfl)) rfl ?_
    refine SW.msk [true, true, true, true, true, false] ?_
    exact ok_f_m_fits_33  g hm  ho   N r6 a1 0 (-1) 0 h
  · have h := iteT hc h
    refine SW.iconst (pc := 20) (v := 0) g (dt dt_X11_fits 12 rfl) ki_0 ?_
    exact SW.ireturn (pc := 21) g (leafW h ho) rfl (Nat.le_of_ble_eq_true rfl) (Nat.le_of_ble_eq_true rfl) (dt dt_X11_fits 13 rfl)
set_option maxRecDepth 100000 in
set_option maxHeartbeats 4000000 in
theorem mt_f_m_fits (l : Launch) (D : va_G) (cI cL : ClassId) (ad : Nat → Nat) (ν : sw_N)    (N : Nat) (μ : sw_M) (a1 : Int32) (o : Int32 × sw_M) (h : f_m_fits N  μ a1 = some o) : MetR l D cI cL yX11_fits cX11_fits 6 (some .int) 4 0 0 (fun a => a = ad) ad [.ref 63, .int a1] lay0 μ ν (some (.int o.1)) lay0 o.2 ν :=
  MetR.of (n := 4) rfl (Nat.le_of_ble_eq_true rfl) (fun G g ho hm _ _ => ok_f_m_fits  g hm  μ ho a1 h)
def f_m_look_228 (N : Nat)  (k_136 : sw_M → Int32 → Int32 → Int32 → Int32 → Option (Int32 × sw_M)) (μ : sw_M) (x1 : Int32) (x4 : Int32) (x5 : Int32) : Option (Int32 × sw_M) :=
  k_136 μ x1 x4 x5 (x4 + 1)
def f_m_look_206 (N : Nat)  (k_136 : sw_M → Int32 → Int32 → Int32 → Int32 → Option (Int32 × sw_M)) (k_163 : sw_M → Int32 → Int32 → Int32 → Int32 → Int32 → Int32 → Option (Int32 × sw_M)) (μ : sw_M) (x1 : Int32) (x2 : Int32) (x3 : Int32) (x4 : Int32) (x6 : Int32) (s0 : Int32) : Option (Int32 × sw_M) :=
  k_163 μ x1 x2 x3 x4 s0 (x6 + 1)
def f_m_look_163 (N : Nat)  (k_136 : sw_M → Int32 → Int32 → Int32 → Int32 → Option (Int32 × sw_M)) : Nat → sw_M → Int32 → Int32 → Int32 → Int32 → Int32 → Int32 → Option (Int32 × sw_M)
  | 0, _, _, _, _, _, _, _ => none
  | n + 1, μ, x1, x2, x3, x4, x5, x6 =>
    if 12 < x6 then
      if x2 = (-1) then
        f_m_look_228 N  k_136  μ x1 x4 x5
      else
        if x5 < x3 then
          f_m_look_228 N  k_136  μ x1 x4 x5
        else
          k_136 μ x1 x2 x3 (x4 + 1)
    else
      inb (((13 : Int32) * x4) + x6) 533 (
        if (μ 85 (((13 : Int32) * x4) + x6).toNatClampNeg) ≤ x5 then
          f_m_look_206 N  k_136 (f_m_look_163 N  k_136 n)  μ x1 x2 x3 x4 x6 x5
        else
          inb (((13 : Int32) * x4) + x6) 533 (
            f_m_look_206 N  k_136 (f_m_look_163 N  k_136 n)  μ x1 x2 x3 x4 x6 (μ 85 (((13 : Int32) * x4) + x6).toNatClampNeg)))
def f_m_look_136 (N : Nat)   : Nat → sw_M → Int32 → Int32 → Int32 → Int32 → Option (Int32 × sw_M)
  | 0, _, _, _, _, _ => none
  | n + 1, μ, x1, x2, x3, x4 =>
    if 40 < x4 then
      if x1 = 0 then
        some (x2, μ)
      else
        some (x3, μ)
    else
      inb x4 41 (
        if (μ 84 x4.toNatClampNeg) = (-1) then
          f_m_look_163 N  (f_m_look_136 N   n) N μ x1 x2 x3 x4 0 0
        else
          f_m_look_136 N   n μ x1 x2 x3 (x4 + 1))
def f_m_look_81 (N : Nat)  (k_50 : sw_M → Int32 → Int32 → Option (Int32 × sw_M)) (k_60 : sw_M → Int32 → Int32 → Int32 → Option (Int32 × sw_M)) : Nat → sw_M → Int32 → Int32 → Int32 → Int32 → Option (Int32 × sw_M)
  | 0, _, _, _, _, _ => none
  | n + 1, μ, x1, x2, x3, x4 =>
    if 40 < x4 then
      k_60 μ x1 x2 (x3 + 1)
    else
      Option.bind (f_m_manyLive N  μ x4 x2 x3) (fun r1 =>
        inb (((13 : Int32) * x4) + r1) 533 (
          inb (((13 : Int32) * x4) + r1) 533 (wb (wr μ 85 (((13 : Int32) * x4) + r1).toNatClampNeg ((μ 85 (((13 : Int32) * x4) + r1).toNatClampNeg) + 1)) (fun μ5 =>
            f_m_look_81 N  k_50 k_60 n μ5 x1 x2 x3 (x4 + 1)))))
def f_m_look_60 (N : Nat)  (k_50 : sw_M → Int32 → Int32 → Option (Int32 × sw_M)) : Nat → sw_M → Int32 → Int32 → Int32 → Option (Int32 × sw_M)
  | 0, _, _, _, _ => none
  | n + 1, μ, x1, x2, x3 =>
    if 20 < x3 then
      k_50 μ x1 (x2 + 1)
    else
      Option.bind (f_m_isFit N  μ x2 x3) (fun r1 =>
        if r1 = 0 then
          f_m_look_60 N  k_50 n μ x1 x2 (x3 + 1)
        else
          f_m_look_81 N  k_50 (f_m_look_60 N  k_50 n) N μ x1 x2 x3 0)
def f_m_look_50 (N : Nat)   : Nat → sw_M → Int32 → Int32 → Option (Int32 × sw_M)
  | 0, _, _, _ => none
  | n + 1, μ, x1, x2 =>
    if (μ 63 22) ≤ x2 then
      f_m_look_136 N   N μ x1 (-1) (-1) 0
    else
      f_m_look_60 N  (f_m_look_50 N   n) N μ x1 x2 1
def f_m_look_28 (N : Nat)   : Nat → sw_M → Int32 → Int32 → Option (Int32 × sw_M)
  | 0, _, _, _ => none
  | n + 1, μ, x1, x2 =>
    if 533 ≤ x2 then
      f_m_look_50 N   N μ x1 0
    else
      inb x2 533 (wb (wr μ 85 x2.toNatClampNeg 0) (fun μ2 =>
        f_m_look_28 N   n μ2 x1 (x2 + 1)))
def f_m_look (N : Nat)  (μ : sw_M) (a1 : Int32) : Option (Int32 × sw_M) :=
  wb (wr μ 63 0 0) (fun μ1 =>
    Option.bind (f_sm_within N  μ1 a1 0 1) (fun r2 =>
      Option.bind (f_m_may N  μ1 r2 1 1) (fun r4 =>
        if r4.1 = 0 then
          some (0, r4.2)
        else
          Option.bind (f_m_take N  r4.2 ) (fun r6 =>
            f_m_look_28 N   N r6 a1 0))))
set_option maxRecDepth 100000 in
set_option maxHeartbeats 4000000 in
theorem ok_f_m_look_228 {G : sw_G} {ad : Nat → Nat} {ν : sw_N}   {N : Nat} {o : Int32 × sw_M} (g : sw_ok G cX11_look "DeadWiresModel" (some .int) 4 0 0 ad) (hm : G.2.2.1.2.1.maxLocals = 7)  (ho : sw_out G 0 0 (fun a => a = ad) (.inl (some (.int o.1))) lay0 o.2 ν) (k_136 : sw_M → Int32 → Int32 → Int32 → Int32 → Option (Int32 × sw_M)) (hk_136 : ∀ (μ : sw_M) (x1 : Int32) (x2 : Int32) (x3 : Int32) (x4 : Int32), k_136 μ x1 x2 x3 x4 = some o → SW G ad lay0 ν 0 0 136 [some (.ref 63), some (.int x1), some (.int x2), some (.int x3), some (.int x4), none, none] [] μ) (μ : sw_M) (x1 : Int32) (x4 : Int32) (x5 : Int32) (h : f_m_look_228 N  k_136  μ x1 x4 x5 = some o) : SW G ad lay0 ν 0 0 228 [some (.ref 63), some (.int x1), none, none, some (.int x4), some (.int x5), none] [] μ := by
  unfold f_m_look_228 at h
  refine SW.iload (pc := 228) g (dt dt_X11_look 125 rfl) rfl ?_
  refine SW.istore_n (pc := 230) g (dt dt_X11_look 126 rfl) (sw_ltm hm (Nat.le_of_ble_eq_true rfl)) rfl ?_
  refine SW.iload (pc := 231) g (dt dt_X11_look 127 rfl) rfl ?_
  refine SW.istore_n (pc := 233) g (dt dt_X11_look 128 rfl) (sw_ltm hm (Nat.le_of_ble_eq_true rfl)) rfl ?_
  refine SW.iinc (pc := 234) (v := x4 + 1) g (dt dt_X11_look 129 rfl) rfl (kn_1 _) (sw_ltm hm (Nat.le_of_ble_eq_true rfl)) rfl ?_
  refine SW.goto (pc := 237) (t := 136) g (dt dt_X11_look 130 rfl) rfl ?_
  refine SW.msk [true, true, true, true, true, false, false] ?_
  exact hk_136 μ x1 x4 x5 (x4 + 1) h
set_option maxRecDepth 100000 in
set_option maxHeartbeats 4000000 in
theorem ok_f_m_look_206 {G : sw_G} {ad : Nat → Nat} {ν : sw_N}   {N : Nat} {o : Int32 × sw_M} (g : sw_ok G cX11_look "DeadWiresModel" (some .int) 4 0 0 ad) (hm : G.2.2.1.2.1.maxLocals = 7)  (ho : sw_out G 0 0 (fun a => a = ad) (.inl (some (.int o.1))) lay0 o.2 ν) (k_136 : sw_M → Int32 → Int32 → Int32 → Int32 → Option (Int32 × sw_M)) (k_163 : sw_M → Int32 → Int32 → Int32 → Int32 → Int32 → Int32 → Option (Int32 × sw_M)) (hk_136 : ∀ (μ : sw_M) (x1 : Int32) (x2 : Int32) (x3 : Int32) (x4 : Int32), k_136 μ x1 x2 x3 x4 = some o → SW G ad lay0 ν 0 0 136 [some (.ref 63), some (.int x1), some (.int x2), some (.int x3), some (.int x4), none, none] [] μ) (hk_163 : ∀ (μ : sw_M) (x1 : Int32) (x2 : Int32) (x3 : Int32) (x4 : Int32) (x5 : Int32) (x6 : Int32), k_163 μ x1 x2 x3 x4 x5 x6 = some o → SW G ad lay0 ν 0 0 163 [some (.ref 63), some (.int x1), some (.int x2), some (.int x3), some (.int x4), some (.int x5), some (.int x6)] [] μ) (μ : sw_M) (x1 : Int32) (x2 : Int32) (x3 : Int32) (x4 : Int32) (x6 : Int32) (s0 : Int32) (h : f_m_look_206 N  k_136 k_163  μ x1 x2 x3 x4 x6 s0 = some o) : SW G ad lay0 ν 0 0 206 [some (.ref 63), some (.int x1), some (.int x2), some (.int x3), some (.int x4), none, some (.int x6)] [.int s0] μ := by
  unfold f_m_look_206 at h
  refine SW.istore (pc := 206) g (dt dt_X11_look 115 rfl) (sw_ltm hm (Nat.le_of_ble_eq_true rfl)) rfl ?_
  refine SW.iinc (pc := 208) (v := x6 + 1) g (dt dt_X11_look 116 rfl) rfl (kn_1 _) (sw_ltm hm (Nat.le_of_ble_eq_true rfl)) rfl ?_
  refine SW.goto (pc := 211) (t := 163) g (dt dt_X11_look 117 rfl) rfl ?_
  refine SW.msk [true, true, true, true, true, true, true] ?_
  exact hk_163 μ x1 x2 x3 x4 s0 (x6 + 1) h
set_option maxRecDepth 100000 in
set_option maxHeartbeats 4000000 in
theorem ok_f_m_look_163 {G : sw_G} {ad : Nat → Nat} {ν : sw_N}   {N : Nat} {o : Int32 × sw_M} (g : sw_ok G cX11_look "DeadWiresModel" (some .int) 4 0 0 ad) (hm : G.2.2.1.2.1.maxLocals = 7)  (ho : sw_out G 0 0 (fun a => a = ad) (.inl (some (.int o.1))) lay0 o.2 ν) (k_136 : sw_M → Int32 → Int32 → Int32 → Int32 → Option (Int32 × sw_M)) (hk_136 : ∀ (μ : sw_M) (x1 : Int32) (x2 : Int32) (x3 : Int32) (x4 : Int32), k_136 μ x1 x2 x3 x4 = some o → SW G ad lay0 ν 0 0 136 [some (.ref 63), some (.int x1), some (.int x2), some (.int x3), some (.int x4), none, none] [] μ) : ∀ (n : Nat) (μ : sw_M) (x1 : Int32) (x2 : Int32) (x3 : Int32) (x4 : Int32) (x5 : Int32) (x6 : Int32) (h : f_m_look_163 N  k_136 n μ x1 x2 x3 x4 x5 x6 = some o), SW G ad lay0 ν 0 0 163 [some (.ref 63), some (.int x1), some (.int x2), some (.int x3), some (.int x4), some (.int x5), some (.int x6)] [] μ := by
  intro n
  induction n with
  | zero => intro μ x1 x2 x3 x4 x5 x6 h; simp only [f_m_look_163] at h; cases h
  | succ n ih =>
    intro μ x1 x2 x3 x4 x5 x6 h
    unfold f_m_look_163 at h
    refine SW.iload (pc := 163) g (dt dt_X11_look 92 rfl) rfl ?_
    refine SW.bipush (pc := 165) (v := 12) g (dt dt_X11_look 93 rfl) kb_12 ?_
    refine SW.icmp_gt (pc := 167) (t := 214) g (dt dt_X11_look 94 rfl) rfl (fun hc => ?_) (fun hc => ?_)
    · have h := iteT hc h
      refine SW.iload_n (pc := 214) g (dt dt_X11_look 118 rfl) rfl ?_
      refine SW.iconst (pc := 215) (v := (-1)) g (dt dt_X11_look 119 rfl) ki_m1 ?_
      refine SW.icmp_eq (pc := 216) (t := 228) g (dt dt_X11_look 120 rfl) rfl (fun hc => ?_) (fun hc => ?_)
      · have h := iteT hc h
        refine SW.msk [true, true, false, false, true, true, false] ?_
        exact ok_f_m_look_228  g hm  ho k_136 hk_136  μ x1 x4 x5 h
      · have h := iteF hc h
        refine SW.iload (pc := 219) g (dt dt_X11_look 121 rfl) rfl ?_
        refine SW.iload_n (pc := 221) g (dt dt_X11_look 122 rfl) rfl ?_
        refine SW.icmp_lt (pc := 222) (t := 228) g (dt dt_X11_look 123 rfl) rfl (fun hc => ?_) (fun hc => ?_)
        · have h := iteT hc h
          refine SW.msk [true, true, false, false, true, true, false] ?_
          exact ok_f_m_look_228  g hm  ho k_136 hk_136  μ x1 x4 x5 h
        · have h := iteF hc h
          refine SW.goto (pc := 225) (t := 234) g (dt dt_X11_look 124 rfl) rfl ?_
          refine SW.iinc (pc := 234) (v := x4 + 1) g (dt dt_X11_look 129 rfl) rfl (kn_1 _) (sw_ltm hm (Nat.le_of_ble_eq_true rfl)) rfl ?_
          refine SW.goto (pc := 237) (t := 136) g (dt dt_X11_look 130 rfl) rfl ?_
          refine SW.msk [true, true, true, true, true, false, false] ?_
          exact hk_136 μ x1 x2 x3 (x4 + 1) h
    · have h := iteF hc h
      refine SW.aload_n (pc := 170) g (dt dt_X11_look 95 rfl) rfl ?_
      refine SW.getR (pc := 171) g (dt dt_X11_look 96 rfl) fl_X11_80 cell_63 rfl ?_
      refine SW.bipush (pc := 174) (v := 13) g (dt dt_X11_look 97 rfl) kb_13 ?_
      refine SW.iload (pc := 176) g (dt dt_X11_look 98 rfl) rfl ?_
      refine SW.imul (pc := 178) g (dt dt_X11_look 99 rfl) ?_
      refine SW.iload (pc := 179) g (dt dt_X11_look 100 rfl) rfl ?_
      refine SW.iadd (pc := 181) g (dt dt_X11_look 101 rfl) ?_
      obtain ⟨hb1, h⟩ := inbI h
      refine SW.iaload (pc := 182) g (dt dt_X11_look 102 rfl) cell_85 hb1 ?_
      refine SW.iload (pc := 183) g (dt dt_X11_look 103 rfl) rfl ?_
      refine SW.icmp_le (pc := 185) (t := 204) g (dt dt_X11_look 104 rfl) rfl (fun hc => ?_) (fun hc => ?_)
      · have h := iteT hc h
        refine SW.iload (pc := 204) g (dt dt_X11_look 114 rfl) rfl ?_
        refine SW.msk [true, true, true, true, true, false, true] ?_
        exact ok_f_m_look_206  g hm  ho k_136 (f_m_look_163 N  k_136 n) hk_136 ih  μ x1 x2 x3 x4 x6 x5 h
      · have h := iteF hc h
        refine SW.aload_n (pc := 188) g (dt dt_X11_look 105 rfl) rfl ?_
        refine SW.getR (pc := 189) g (dt dt_X11_look 106 rfl) fl_X11_80 cell_63 rfl ?_
        refine SW.bipush (pc := 192) (v := 13) g (dt dt_X11_look 107 rfl) kb_13 ?_
        refine SW.iload (pc := 194) g (dt dt_X11_look 108 rfl) rfl ?_
        refine SW.imul (pc := 196) g (dt dt_X11_look 109 rfl) ?_
        refine SW.iload (pc := 197) g (dt dt_X11_look 110 rfl) rfl ?_
        refine SW.iadd (pc := 199) g (dt dt_X11_look 111 rfl) ?_
        obtain ⟨hb2, h⟩ := inbI h
        refine SW.iaload (pc := 200) g (dt dt_X11_look 112 rfl) cell_85 hb2 ?_
        refine SW.goto (pc := 201) (t := 206) g (dt dt_X11_look 113 rfl) rfl ?_
        refine SW.msk [true, true, true, true, true, false, true] ?_
        exact ok_f_m_look_206  g hm  ho k_136 (f_m_look_163 N  k_136 n) hk_136 ih  μ x1 x2 x3 x4 x6 (μ 85 (((13 : Int32) * x4) + x6).toNatClampNeg) h
set_option maxRecDepth 100000 in
set_option maxHeartbeats 4000000 in
theorem ok_f_m_look_136 {G : sw_G} {ad : Nat → Nat} {ν : sw_N}   {N : Nat} {o : Int32 × sw_M} (g : sw_ok G cX11_look "DeadWiresModel" (some .int) 4 0 0 ad) (hm : G.2.2.1.2.1.maxLocals = 7)  (ho : sw_out G 0 0 (fun a => a = ad) (.inl (some (.int o.1))) lay0 o.2 ν)  : ∀ (n : Nat) (μ : sw_M) (x1 : Int32) (x2 : Int32) (x3 : Int32) (x4 : Int32) (h : f_m_look_136 N   n μ x1 x2 x3 x4 = some o), SW G ad lay0 ν 0 0 136 [some (.ref 63), some (.int x1), some (.int x2), some (.int x3), some (.int x4), none, none] [] μ := by
  intro n
  induction n with
  | zero => intro μ x1 x2 x3 x4 h; simp only [f_m_look_136] at h; cases h
  | succ n ih =>
    intro μ x1 x2 x3 x4 h
    unfold f_m_look_136 at h
    refine SW.iload (pc := 136) g (dt dt_X11_look 78 rfl) rfl ?_
    refine SW.bipush (pc := 138) (v := 40) g (dt dt_X11_look 79 rfl) kb_40 ?_
    refine SW.icmp_gt (pc := 140) (t := 240) g (dt dt_X11_look 80 rfl) rfl (fun hc => ?_) (fun hc => ?_)
    · have h := iteT hc h
      refine SW.iload_n (pc := 240) g (dt dt_X11_look 131 rfl) rfl ?_
      refine SW.if_ne (pc := 241) (t := 248) g (dt dt_X11_look 132 rfl) rfl (fun hc => ?_) (fun hc => ?_)
      · have h := iteF hc h
        refine SW.iload_n (pc := 248) g (dt dt_X11_look 135 rfl) rfl ?_
        exact SW.ireturn (pc := 249) g (leafW h ho) rfl (Nat.le_of_ble_eq_true rfl) (Nat.le_of_ble_eq_true rfl) (dt dt_X11_look 136 rfl)
      · have h := iteT hc h
        refine SW.iload_n (pc := 244) g (dt dt_X11_look 133 rfl) rfl ?_
        refine SW.goto (pc := 245) (t := 249) g (dt dt_X11_look 134 rfl) rfl ?_
        exact SW.ireturn (pc := 249) g (leafW h ho) rfl (Nat.le_of_ble_eq_true rfl) (Nat.le_of_ble_eq_true rfl) (dt dt_X11_look 136 rfl)
    · have h := iteF hc h
      refine SW.aload_n (pc := 143) g (dt dt_X11_look 81 rfl) rfl ?_
      refine SW.getR (pc := 144) g (dt dt_X11_look 82 rfl) fl_X11_77 cell_63 rfl ?_
      refine SW.iload (pc := 147) g (dt dt_X11_look 83 rfl) rfl ?_
      obtain ⟨hb1, h⟩ := inbI h
      refine SW.iaload (pc := 149) g (dt dt_X11_look 84 rfl) cell_84 hb1 ?_
      refine SW.iconst (pc := 150) (v := (-1)) g (dt dt_X11_look 85 rfl) ki_m1 ?_
      refine SW.icmp_eq (pc := 151) (t := 157) g (dt dt_X11_look 86 rfl) rfl (fun hc => ?_) (fun hc => ?_)
      · have h := iteT hc h
        refine SW.iconst (pc := 157) (v := 0) g (dt dt_X11_look 88 rfl) ki_0 ?_
        refine SW.istore (pc := 158) g (dt dt_X11_look 89 rfl) (sw_ltm hm (Nat.le_of_ble_eq_true rfl)) rfl ?_
        refine SW.iconst (pc := 160) (v := 0) g (dt dt_X11_look 90 rfl) ki_0 ?_
        refine SW.istore (pc := 161) g (dt dt_X11_look 91 rfl) (sw_ltm hm (Nat.le_of_ble_eq_true rfl)) rfl ?_
        refine SW.msk [true, true, true, true, true, true, true] ?_
        exact ok_f_m_look_163  g hm  ho (f_m_look_136 N   n) ih N μ x1 x2 x3 x4 0 0 h
      · have h := iteF hc h
        refine SW.goto (pc := 154) (t := 234) g (dt dt_X11_look 87 rfl) rfl ?_
        refine SW.iinc (pc := 234) (v := x4 + 1) g (dt dt_X11_look 129 rfl) rfl (kn_1 _) (sw_ltm hm (Nat.le_of_ble_eq_true rfl)) rfl ?_
        refine SW.goto (pc := 237) (t := 136) g (dt dt_X11_look 130 rfl) rfl ?_
        refine SW.msk [true, true, true, true, true, false, false] ?_
        exact ih μ x1 x2 x3 (x4 + 1) h
set_option maxRecDepth 100000 in
set_option maxHeartbeats 4000000 in
theorem ok_f_m_look_81 {G : sw_G} {ad : Nat → Nat} {ν : sw_N}   {N : Nat} {o : Int32 × sw_M} (g : sw_ok G cX11_look "DeadWiresModel" (some .int) 4 0 0 ad) (hm : G.2.2.1.2.1.maxLocals = 7)  (ho : sw_out G 0 0 (fun a => a = ad) (.inl (some (.int o.1))) lay0 o.2 ν) (k_50 : sw_M → Int32 → Int32 → Option (Int32 × sw_M)) (k_60 : sw_M → Int32 → Int32 → Int32 → Option (Int32 × sw_M)) (hk_50 : ∀ (μ : sw_M) (x1 : Int32) (x2 : Int32), k_50 μ x1 x2 = some o → SW G ad lay0 ν 0 0 50 [some (.ref 63), some (.int x1), some (.int x2), none, none, none, none] [] μ) (hk_60 : ∀ (μ : sw_M) (x1 : Int32) (x2 : Int32) (x3 : Int32), k_60 μ x1 x2 x3 = some o → SW G ad lay0 ν 0 0 60 [some (.ref 63), some (.int x1), some (.int x2), some (.int x3), none, none, none] [] μ) : ∀ (n : Nat) (μ : sw_M) (x1 : Int32) (x2 : Int32) (x3 : Int32) (x4 : Int32) (h : f_m_look_81 N  k_50 k_60 n μ x1 x2 x3 x4 = some o), SW G ad lay0 ν 0 0 81 [some (.ref 63), some (.int x1), some (.int x2), some (.int x3), some (.int x4), none, none] [] μ := by
  intro n
  induction n with
  | zero => intro μ x1 x2 x3 x4 h; simp only [f_m_look_81] at h; cases h
  | succ n ih =>
    intro μ x1 x2 x3 x4 h
    unfold f_m_look_81 at h
    refine SW.iload (pc := 81) g (dt dt_X11_look 47 rfl) rfl ?_
    refine SW.bipush (pc := 83) (v := 40) g (dt dt_X11_look 48 rfl) kb_40 ?_
    refine SW.icmp_gt (pc := 85) (t := 117) g (dt dt_X11_look 49 rfl) rfl (fun hc => ?_) (fun hc => ?_)
    · have h := iteT hc h
      refine SW.iinc (pc := 117) (v := x3 + 1) g (dt dt_X11_look 68 rfl) rfl (kn_1 _) (sw_ltm hm (Nat.le_of_ble_eq_true rfl)) rfl ?_
      refine SW.goto (pc := 120) (t := 60) g (dt dt_X11_look 69 rfl) rfl ?_
      refine SW.msk [true, true, true, true, false, false, false] ?_
      exact hk_60 μ x1 x2 (x3 + 1) h
    · have h := iteF hc h
      refine SW.aload_n (pc := 88) g (dt dt_X11_look 50 rfl) rfl ?_
      refine SW.getR (pc := 89) g (dt dt_X11_look 51 rfl) fl_X11_80 cell_63 rfl ?_
      refine SW.bipush (pc := 92) (v := 13) g (dt dt_X11_look 52 rfl) kb_13 ?_
      refine SW.iload (pc := 94) g (dt dt_X11_look 53 rfl) rfl ?_
      refine SW.imul (pc := 96) g (dt dt_X11_look 54 rfl) ?_
      refine SW.aload_n (pc := 97) g (dt dt_X11_look 55 rfl) rfl ?_
      refine SW.iload (pc := 98) g (dt dt_X11_look 56 rfl) rfl ?_
      refine SW.iload_n (pc := 100) g (dt dt_X11_look 57 rfl) rfl ?_
      refine SW.iload_n (pc := 101) g (dt dt_X11_look 58 rfl) rfl ?_
      obtain ⟨r1, h2, h⟩ := bindI h
      refine SW.callVi (pc := 102) g (dt dt_X11_look 59 rfl) (mt_f_m_manyLive _ _ _ _ ad ν   N μ x4 x2 x3 r1 h2) me_X11_manyLive mv_X11_manyLive ml_X11_414 cell_63 rfl rfl (Nat.le_of_ble_eq_true rfl) (Nat.le_of_ble_eq_true rfl) (Nat.le_of_ble_eq_true rfl) (Nat.le_of_ble_eq_true rfl) rfl ?_
      refine SW.iadd (pc := 105) g (dt dt_X11_look 60 rfl) ?_
      refine SW.dup2 (pc := 106) g (dt dt_X11_look 61 rfl) rfl rfl ?_
      obtain ⟨hb3, h⟩ := inbI h
      refine SW.iaload (pc := 107) g (dt dt_X11_look 62 rfl) cell_85 hb3 ?_
      refine SW.iconst (pc := 108) (v := 1) g (dt dt_X11_look 63 rfl) ki_1 ?_
      refine SW.iadd (pc := 109) g (dt dt_X11_look 64 rfl) ?_
      obtain ⟨hb4, h⟩ := inbI h
      refine SW.iastore (pc := 110) g (dt dt_X11_look 65 rfl) cell_85 hb4 ?_
      refine SW.genM h (fun μ5 h => ?_)
      refine SW.iinc (pc := 111) (v := x4 + 1) g (dt dt_X11_look 66 rfl) rfl (kn_1 _) (sw_ltm hm (Nat.le_of_ble_eq_true rfl)) rfl ?_
      refine SW.goto (pc := 114) (t := 81) g (dt dt_X11_look 67 rfl) rfl ?_
      refine SW.msk [true, true, true, true, true, false, false] ?_
      exact ih μ5 x1 x2 x3 (x4 + 1) h
set_option maxRecDepth 100000 in
set_option maxHeartbeats 4000000 in
theorem ok_f_m_look_60 {G : sw_G} {ad : Nat → Nat} {ν : sw_N}   {N : Nat} {o : Int32 × sw_M} (g : sw_ok G cX11_look "DeadWiresModel" (some .int) 4 0 0 ad) (hm : G.2.2.1.2.1.maxLocals = 7)  (ho : sw_out G 0 0 (fun a => a = ad) (.inl (some (.int o.1))) lay0 o.2 ν) (k_50 : sw_M → Int32 → Int32 → Option (Int32 × sw_M)) (hk_50 : ∀ (μ : sw_M) (x1 : Int32) (x2 : Int32), k_50 μ x1 x2 = some o → SW G ad lay0 ν 0 0 50 [some (.ref 63), some (.int x1), some (.int x2), none, none, none, none] [] μ) : ∀ (n : Nat) (μ : sw_M) (x1 : Int32) (x2 : Int32) (x3 : Int32) (h : f_m_look_60 N  k_50 n μ x1 x2 x3 = some o), SW G ad lay0 ν 0 0 60 [some (.ref 63), some (.int x1), some (.int x2), some (.int x3), none, none, none] [] μ := by
  intro n
  induction n with
  | zero => intro μ x1 x2 x3 h; simp only [f_m_look_60] at h; cases h
  | succ n ih =>
    intro μ x1 x2 x3 h
    unfold f_m_look_60 at h
    refine SW.iload_n (pc := 60) g (dt dt_X11_look 36 rfl) rfl ?_
    refine SW.bipush (pc := 61) (v := 20) g (dt dt_X11_look 37 rfl) kb_20 ?_
    refine SW.icmp_gt (pc := 63) (t := 123) g (dt dt_X11_look 38 rfl) rfl (fun hc => ?_) (fun hc => ?_)
    · have h := iteT hc h
      refine SW.iinc (pc := 123) (v := x2 + 1) g (dt dt_X11_look 70 rfl) rfl (kn_1 _) (sw_ltm hm (Nat.le_of_ble_eq_true rfl)) rfl ?_
      refine SW.goto (pc := 126) (t := 50) g (dt dt_X11_look 71 rfl) rfl ?_
      refine SW.msk [true, true, true, false, false, false, false] ?_
      exact hk_50 μ x1 (x2 + 1) h
    · have h := iteF hc h
      refine SW.aload_n (pc := 66) g (dt dt_X11_look 39 rfl) rfl ?_
      refine SW.iload_n (pc := 67) g (dt dt_X11_look 40 rfl) rfl ?_
      refine SW.iload_n (pc := 68) g (dt dt_X11_look 41 rfl) rfl ?_
      obtain ⟨r1, h2, h⟩ := bindI h
      refine SW.callVi (pc := 69) g (dt dt_X11_look 42 rfl) (mt_f_m_isFit _ _ _ _ ad ν   N μ x2 x3 r1 h2) me_X11_isFit mv_X11_isFit ml_X11_417 cell_63 rfl rfl (Nat.le_of_ble_eq_true rfl) (Nat.le_of_ble_eq_true rfl) (Nat.le_of_ble_eq_true rfl) (Nat.le_of_ble_eq_true rfl) rfl ?_
      refine SW.if_ne (pc := 72) (t := 78) g (dt dt_X11_look 43 rfl) rfl (fun hc => ?_) (fun hc => ?_)
      · have h := iteF hc h
        refine SW.iconst (pc := 78) (v := 0) g (dt dt_X11_look 45 rfl) ki_0 ?_
        refine SW.istore (pc := 79) g (dt dt_X11_look 46 rfl) (sw_ltm hm (Nat.le_of_ble_eq_true rfl)) rfl ?_
        refine SW.msk [true, true, true, true, true, false, false] ?_
        exact ok_f_m_look_81  g hm  ho k_50 (f_m_look_60 N  k_50 n) hk_50 ih N μ x1 x2 x3 0 h
      · have h := iteT hc h
        refine SW.goto (pc := 75) (t := 117) g (dt dt_X11_look 44 rfl) rfl ?_
        refine SW.iinc (pc := 117) (v := x3 + 1) g (dt dt_X11_look 68 rfl) rfl (kn_1 _) (sw_ltm hm (Nat.le_of_ble_eq_true rfl)) rfl ?_
        refine SW.goto (pc := 120) (t := 60) g (dt dt_X11_look 69 rfl) rfl ?_
        refine SW.msk [true, true, true, true, false, false, false] ?_
        exact ih μ x1 x2 (x3 + 1) h
set_option maxRecDepth 100000 in
set_option maxHeartbeats 4000000 in
theorem ok_f_m_look_50 {G : sw_G} {ad : Nat → Nat} {ν : sw_N}   {N : Nat} {o : Int32 × sw_M} (g : sw_ok G cX11_look "DeadWiresModel" (some .int) 4 0 0 ad) (hm : G.2.2.1.2.1.maxLocals = 7)  (ho : sw_out G 0 0 (fun a => a = ad) (.inl (some (.int o.1))) lay0 o.2 ν)  : ∀ (n : Nat) (μ : sw_M) (x1 : Int32) (x2 : Int32) (h : f_m_look_50 N   n μ x1 x2 = some o), SW G ad lay0 ν 0 0 50 [some (.ref 63), some (.int x1), some (.int x2), none, none, none, none] [] μ := by
  intro n
  induction n with
  | zero => intro μ x1 x2 h; simp only [f_m_look_50] at h; cases h
  | succ n ih =>
    intro μ x1 x2 h
    unfold f_m_look_50 at h
    refine SW.iload_n (pc := 50) g (dt dt_X11_look 30 rfl) rfl ?_
    refine SW.aload_n (pc := 51) g (dt dt_X11_look 31 rfl) rfl ?_
    refine SW.getI (pc := 52) g (dt dt_X11_look 32 rfl) fl_X11_156 cell_63 rfl ?_
    refine SW.icmp_ge (pc := 55) (t := 129) g (dt dt_X11_look 33 rfl) rfl (fun hc => ?_) (fun hc => ?_)
    · have h := iteT hc h
      refine SW.iconst (pc := 129) (v := (-1)) g (dt dt_X11_look 72 rfl) ki_m1 ?_
      refine SW.istore_n (pc := 130) g (dt dt_X11_look 73 rfl) (sw_ltm hm (Nat.le_of_ble_eq_true rfl)) rfl ?_
      refine SW.iconst (pc := 131) (v := (-1)) g (dt dt_X11_look 74 rfl) ki_m1 ?_
      refine SW.istore_n (pc := 132) g (dt dt_X11_look 75 rfl) (sw_ltm hm (Nat.le_of_ble_eq_true rfl)) rfl ?_
      refine SW.iconst (pc := 133) (v := 0) g (dt dt_X11_look 76 rfl) ki_0 ?_
      refine SW.istore (pc := 134) g (dt dt_X11_look 77 rfl) (sw_ltm hm (Nat.le_of_ble_eq_true rfl)) rfl ?_
      refine SW.msk [true, true, true, true, true, false, false] ?_
      exact ok_f_m_look_136  g hm  ho   N μ x1 (-1) (-1) 0 h
    · have h := iteF hc h
      refine SW.iconst (pc := 58) (v := 1) g (dt dt_X11_look 34 rfl) ki_1 ?_
      refine SW.istore_n (pc := 59) g (dt dt_X11_look 35 rfl) (sw_ltm hm (Nat.le_of_ble_eq_true rfl)) rfl ?_
      refine SW.msk [true, true, true, true, false, false, false] ?_
      exact ok_f_m_look_60  g hm  ho (f_m_look_50 N   n) ih N μ x1 x2 1 h
set_option maxRecDepth 100000 in
set_option maxHeartbeats 4000000 in
theorem ok_f_m_look_28 {G : sw_G} {ad : Nat → Nat} {ν : sw_N}   {N : Nat} {o : Int32 × sw_M} (g : sw_ok G cX11_look "DeadWiresModel" (some .int) 4 0 0 ad) (hm : G.2.2.1.2.1.maxLocals = 7)  (ho : sw_out G 0 0 (fun a => a = ad) (.inl (some (.int o.1))) lay0 o.2 ν)  : ∀ (n : Nat) (μ : sw_M) (x1 : Int32) (x2 : Int32) (h : f_m_look_28 N   n μ x1 x2 = some o), SW G ad lay0 ν 0 0 28 [some (.ref 63), some (.int x1), some (.int x2), none, none, none, none] [] μ := by
  intro n
  induction n with
  | zero => intro μ x1 x2 h; simp only [f_m_look_28] at h; cases h
  | succ n ih =>
    intro μ x1 x2 h
    unfold f_m_look_28 at h
    refine SW.iload_n (pc := 28) g (dt dt_X11_look 18 rfl) rfl ?_
    refine SW.sipush (pc := 29) (v := 533) g (dt dt_X11_look 19 rfl) ks_533 ?_
    refine SW.icmp_ge (pc := 32) (t := 48) g (dt dt_X11_look 20 rfl) rfl (fun hc => ?_) (fun hc => ?_)
    · have h := iteT hc h
      refine SW.iconst (pc := 48) (v := 0) g (dt dt_X11_look 28 rfl) ki_0 ?_
      refine SW.istore_n (pc := 49) g (dt dt_X11_look 29 rfl) (sw_ltm hm (Nat.le_of_ble_eq_true rfl)) rfl ?_
      refine SW.msk [true, true, true, false, false, false, false] ?_
      exact ok_f_m_look_50  g hm  ho   N μ x1 0 h
    · have h := iteF hc h
      refine SW.aload_n (pc := 35) g (dt dt_X11_look 21 rfl) rfl ?_
      refine SW.getR (pc := 36) g (dt dt_X11_look 22 rfl) fl_X11_80 cell_63 rfl ?_
      refine SW.iload_n (pc := 39) g (dt dt_X11_look 23 rfl) rfl ?_
      refine SW.iconst (pc := 40) (v := 0) g (dt dt_X11_look 24 rfl) ki_0 ?_
      obtain ⟨hb1, h⟩ := inbI h
      refine SW.iastore (pc := 41) g (dt dt_X11_look 25 rfl) cell_85 hb1 ?_
      refine SW.genM h (fun μ2 h => ?_)
      refine SW.iinc (pc := 42) (v := x2 + 1) g (dt dt_X11_look 26 rfl) rfl (kn_1 _) (sw_ltm hm (Nat.le_of_ble_eq_true rfl)) rfl ?_
      refine SW.goto (pc := 45) (t := 28) g (dt dt_X11_look 27 rfl) rfl ?_
      refine SW.msk [true, true, true, false, false, false, false] ?_
      exact ih μ2 x1 (x2 + 1) h
set_option maxRecDepth 100000 in
set_option maxHeartbeats 4000000 in
theorem ok_f_m_look {G : sw_G} {ad : Nat → Nat} {ν : sw_N}   {N : Nat} {o : Int32 × sw_M} (g : sw_ok G cX11_look "DeadWiresModel" (some .int) 4 0 0 ad) (hm : G.2.2.1.2.1.maxLocals = 7)  (μ : sw_M) (ho : sw_out G 0 0 (fun a => a = ad) (.inl (some (.int o.1))) lay0 o.2 ν) (a1 : Int32) (h : f_m_look N  μ a1 = some o) : SW G ad lay0 ν 0 0 0 [some (.ref 63), some (.int a1), none, none, none, none, none] [] μ := by
  unfold f_m_look at h
  refine SW.aload_n (pc := 0) g (dt dt_X11_look 0 rfl) rfl ?_
  refine SW.iconst (pc := 1) (v := 0) g (dt dt_X11_look 1 rfl) ki_0 ?_
  refine SW.putI (pc := 2) g (dt dt_X11_look 2 rfl) fl_X11_3 cell_63 rfl ?_
  refine SW.genM h (fun μ1 h => ?_)
  refine SW.aload_n (pc := 5) g (dt dt_X11_look 3 rfl) rfl ?_
  refine SW.iload_n (pc := 6) g (dt dt_X11_look 4 rfl) rfl ?_
  refine SW.iconst (pc := 7) (v := 0) g (dt dt_X11_look 5 rfl) ki_0 ?_
  refine SW.iconst (pc := 8) (v := 1) g (dt dt_X11_look 6 rfl) ki_1 ?_
  obtain ⟨r2, h3, h⟩ := bindI h
  refine SW.callSi (pc := 9) g (dt dt_X11_look 7 rfl) (mt_f_sm_within _ _ _ _ ad ν lay0   N μ1 a1 0 1 r2 h3) me_X11_within ms_X11_within ml_X11_374 rfl (Nat.le_of_ble_eq_true rfl) (Nat.le_of_ble_eq_true rfl) (Nat.le_of_ble_eq_true rfl) (Nat.le_of_ble_eq_true rfl) rfl ?_
  refine SW.iconst (pc := 12) (v := 1) g (dt dt_X11_look 8 rfl) ki_1 ?_
  refine SW.iconst (pc := 13) (v := 1) g (dt dt_X11_look 9 rfl) ki_1 ?_
  obtain ⟨r4, h5, h⟩ := bindI h
  refine SW.callVi (pc := 14) g (dt dt_X11_look 10 rfl) (mt_f_m_may _ _ _ _ ad ν   N μ1 r2 1 1 r4 h5) me_X11_may mv_X11_may ml_X11_204 cell_63 rfl rfl (Nat.le_of_ble_eq_true rfl) (Nat.le_of_ble_eq_true rfl) (Nat.le_of_ble_eq_true rfl) (Nat.le_of_ble_eq_true rfl) rfl ?_
  refine SW.if_ne (pc := 17) (t := 22) g (dt dt_X11_look 11 rfl) rfl (fun hc => ?_) (fun hc => ?_)
  · have h := iteF hc h
    refine SW.aload_n (pc := 22) g (dt dt_X11_look 14 rfl) rfl ?_
    obtain ⟨r6, h7, h⟩ := bindI h
    refine SW.callVv (pc := 23) g (dt dt_X11_look 15 rfl) (mt_f_m_take _ _ _ _ ad ν   N r4.2  r6 h7) me_X11_take mv_X11_take ml_X11_305 cell_63 rfl rfl (Nat.le_of_ble_eq_true rfl) (Nat.le_of_ble_eq_true rfl) (Nat.le_of_ble_eq_true rfl) (Nat.le_of_ble_eq_true rfl) rfl ?_
    refine SW.iconst (pc := 26) (v := 0) g (dt dt_X11_look 16 rfl) ki_0 ?_
    refine SW.istore_n (pc := 27) g (dt dt_X11_look 17 rfl) (sw_ltm hm (Nat.le_of_ble_eq_true rfl)) rfl ?_
    refine SW.msk [true, true, true, false, false, false, false] ?_
    exact ok_f_m_look_28  g hm  ho   N r6 a1 0 h
  · have h := iteT hc h
    refine SW.iconst (pc := 20) (v := 0) g (dt dt_X11_look 12 rfl) ki_0 ?_
    exact SW.ireturn (pc := 21) g (leafW h ho) rfl (Nat.le_of_ble_eq_true rfl) (Nat.le_of_ble_eq_true rfl) (dt dt_X11_look 13 rfl)
set_option maxRecDepth 100000 in
set_option maxHeartbeats 4000000 in
theorem mt_f_m_look (l : Launch) (D : va_G) (cI cL : ClassId) (ad : Nat → Nat) (ν : sw_N)    (N : Nat) (μ : sw_M) (a1 : Int32) (o : Int32 × sw_M) (h : f_m_look N  μ a1 = some o) : MetR l D cI cL yX11_look cX11_look 7 (some .int) 4 0 0 (fun a => a = ad) ad [.ref 63, .int a1] lay0 μ ν (some (.int o.1)) lay0 o.2 ν :=
  MetR.of (n := 5) rfl (Nat.le_of_ble_eq_true rfl) (fun G g ho hm _ _ => ok_f_m_look  g hm  μ ho a1 h)
def f_sm_least_41 (N : Nat)  (μ : sw_M)  (x5 : Int64) (s0 : Int64) : Option (Int64) :=
  nzL x5
    (some (s0 / x5))
def f_sm_least_6 (N : Nat)  (μ : sw_M)  : Nat → Int64 → Int64 → Int32 → Int64 → Int64 → Option (Int64)
  | 0, _, _, _, _, _ => none
  | n + 1, x0, x2, x4, x5, x7 =>
    if (lg_cmp x7 0) = 0 then
      if x4 = 0 then
        f_sm_least_41 N  μ   x5 x0
      else
        f_sm_least_41 N  μ   x5 x2
    else
      nzL x7
        (ibL (x5 - x5 / x7 * x7) (fun y2 =>
          f_sm_least_6 N  μ  n x0 x2 x4 x7 y2))
def f_sm_least (N : Nat)  (μ : sw_M) (a0 : Int64) (a2 : Int64) (a4 : Int32) : Option (Int64) :=
  f_sm_least_6 N  μ  N a0 a2 a4 a0 a2
set_option maxRecDepth 100000 in
set_option maxHeartbeats 4000000 in
theorem ok_f_sm_least_41 {G : sw_G} {ad : Nat → Nat} {ν : sw_N} {L : sw_L}  {N : Nat} {o : Int64} (g : sw_ok G cX11_least "DeadWiresModel" (some .long) 1 0 0 ad) (hm : G.2.2.1.2.1.maxLocals = 11)  (μ : sw_M) (ho : sw_out G 0 0 (fun a => a = ad) (.inl (some (.long o))) L μ ν)  (x5 : Int64) (s0 : Int64) (h : f_sm_least_41 N  μ   x5 s0 = some o) : SW G ad L ν 0 0 41 [none, none, none, none, none, some (.long x5), none, none, none, none, none] [.long s0] μ := by
  unfold f_sm_least_41 at h
  refine SW.lload (pc := 41) g (dt dt_X11_least 22 rfl) rfl ?_
  obtain ⟨hz1, h⟩ := nzLI h
  refine SW.ldiv (pc := 43) g (dt dt_X11_least 23 rfl) hz1 ?_
  exact SW.lreturn (pc := 44) g (leafJ h ho) rfl (Nat.le_of_ble_eq_true rfl) (Nat.le_of_ble_eq_true rfl) (dt dt_X11_least 24 rfl)
set_option maxRecDepth 100000 in
set_option maxHeartbeats 4000000 in
theorem ok_f_sm_least_6 {G : sw_G} {ad : Nat → Nat} {ν : sw_N} {L : sw_L}  {N : Nat} {o : Int64} (g : sw_ok G cX11_least "DeadWiresModel" (some .long) 1 0 0 ad) (hm : G.2.2.1.2.1.maxLocals = 11)  (μ : sw_M) (ho : sw_out G 0 0 (fun a => a = ad) (.inl (some (.long o))) L μ ν)  : ∀ (n : Nat) (x0 : Int64) (x2 : Int64) (x4 : Int32) (x5 : Int64) (x7 : Int64) (h : f_sm_least_6 N  μ  n x0 x2 x4 x5 x7 = some o), SW G ad L ν 0 0 6 [some (.long x0), none, some (.long x2), none, some (.int x4), some (.long x5), none, some (.long x7), none, none, none] [] μ := by
  intro n
  induction n with
  | zero => intro x0 x2 x4 x5 x7 h; simp only [f_sm_least_6] at h; cases h
  | succ n ih =>
    intro x0 x2 x4 x5 x7 h
    unfold f_sm_least_6 at h
    refine SW.lload (pc := 6) g (dt dt_X11_least 4 rfl) rfl ?_
    refine SW.lconst (pc := 8) (v := 0) g (dt dt_X11_least 5 rfl) rfl ?_
    refine SW.lcmp (pc := 9) g (dt dt_X11_least 6 rfl) ?_
    refine SW.if_eq (pc := 10) (t := 31) g (dt dt_X11_least 7 rfl) rfl (fun hc => ?_) (fun hc => ?_)
    · have h := iteT hc h
      refine SW.iload (pc := 31) g (dt dt_X11_least 17 rfl) rfl ?_
      refine SW.if_ne (pc := 33) (t := 40) g (dt dt_X11_least 18 rfl) rfl (fun hc => ?_) (fun hc => ?_)
      · have h := iteF hc h
        refine SW.lload_n (pc := 40) g (dt dt_X11_least 21 rfl) rfl ?_
        refine SW.msk [false, false, false, false, false, true, false, false, false, false, false] ?_
        exact ok_f_sm_least_41  g hm  μ ho    x5 x2 h
      · have h := iteT hc h
        refine SW.lload_n (pc := 36) g (dt dt_X11_least 19 rfl) rfl ?_
        refine SW.goto (pc := 37) (t := 41) g (dt dt_X11_least 20 rfl) rfl ?_
        refine SW.msk [false, false, false, false, false, true, false, false, false, false, false] ?_
        exact ok_f_sm_least_41  g hm  μ ho    x5 x0 h
    · have h := iteF hc h
      refine SW.lload (pc := 13) g (dt dt_X11_least 8 rfl) rfl ?_
      refine SW.lload (pc := 15) g (dt dt_X11_least 9 rfl) rfl ?_
      obtain ⟨hz1, h⟩ := nzLI h
      refine SW.lrem (pc := 17) g (dt dt_X11_least 10 rfl) hz1 ?_
      refine SW.lstore (pc := 18) g (dt dt_X11_least 11 rfl) (sw_ltm hm (Nat.le_of_ble_eq_true rfl)) rfl ?_
      refine SW.genJ h (fun y2 h => ?_)
      refine SW.lload (pc := 20) g (dt dt_X11_least 12 rfl) rfl ?_
      refine SW.lstore (pc := 22) g (dt dt_X11_least 13 rfl) (sw_ltm hm (Nat.le_of_ble_eq_true rfl)) rfl ?_
      refine SW.lload (pc := 24) g (dt dt_X11_least 14 rfl) rfl ?_
      refine SW.lstore (pc := 26) g (dt dt_X11_least 15 rfl) (sw_ltm hm (Nat.le_of_ble_eq_true rfl)) rfl ?_
      refine SW.goto (pc := 28) (t := 6) g (dt dt_X11_least 16 rfl) rfl ?_
      refine SW.msk [true, false, true, false, true, true, false, true, false, false, false] ?_
      exact ih  x0 x2 x4 x7 y2 h
set_option maxRecDepth 100000 in
set_option maxHeartbeats 4000000 in
theorem ok_f_sm_least {G : sw_G} {ad : Nat → Nat} {ν : sw_N} {L : sw_L}  {N : Nat} {o : Int64} (g : sw_ok G cX11_least "DeadWiresModel" (some .long) 1 0 0 ad) (hm : G.2.2.1.2.1.maxLocals = 11)  (μ : sw_M) (ho : sw_out G 0 0 (fun a => a = ad) (.inl (some (.long o))) L μ ν) (a0 : Int64) (a2 : Int64) (a4 : Int32) (h : f_sm_least N  μ a0 a2 a4 = some o) : SW G ad L ν 0 0 0 [some (.long a0), none, some (.long a2), none, some (.int a4), none, none, none, none, none, none] [] μ := by
  unfold f_sm_least at h
  refine SW.lload_n (pc := 0) g (dt dt_X11_least 0 rfl) rfl ?_
  refine SW.lstore (pc := 1) g (dt dt_X11_least 1 rfl) (sw_ltm hm (Nat.le_of_ble_eq_true rfl)) rfl ?_
  refine SW.lload_n (pc := 3) g (dt dt_X11_least 2 rfl) rfl ?_
  refine SW.lstore (pc := 4) g (dt dt_X11_least 3 rfl) (sw_ltm hm (Nat.le_of_ble_eq_true rfl)) rfl ?_
  refine SW.msk [true, false, true, false, true, true, false, true, false, false, false] ?_
  exact ok_f_sm_least_6  g hm  μ ho   N a0 a2 a4 a0 a2 h
set_option maxRecDepth 100000 in
set_option maxHeartbeats 4000000 in
theorem mt_f_sm_least (l : Launch) (D : va_G) (cI cL : ClassId) (ad : Nat → Nat) (ν : sw_N) (L : sw_L)   (N : Nat) (μ : sw_M) (a0 : Int64) (a2 : Int64) (a4 : Int32) (o : Int64) (h : f_sm_least N  μ a0 a2 a4 = some o) : MetR l D cI cL yX11_least cX11_least 11 (some .long) 1 0 0 (fun a => a = ad) ad [.long a0, .long a2, .int a4] L μ ν (some (.long o)) L μ ν :=
  MetR.of (n := 6) rfl (Nat.le_of_ble_eq_true rfl) (fun G g ho hm _ _ => ok_f_sm_least  g hm  μ ho a0 a2 a4 h)
def f_m_tingle_73 (N : Nat)   : Nat → sw_M → Int32 → Int32 → Int32 → Int64 → Int64 → Int32 → Option (Int64 × sw_M)
  | 0, _, _, _, _, _, _, _ => none
  | n + 1, μ, x1, x2, x3, x4, x6, x8 =>
    if x1 ≤ x8 then
      Option.bind (f_sm_least N  μ x4 x6 x3) (fun r1 =>
        some (r1, μ))
    else
      ibL (x4 * (((16 : Int32) - x2).toInt64)) (fun y3 =>
        ibL (x6 * 16) (fun y4 =>
          f_m_tingle_73 N   n μ x1 x2 x3 y3 y4 (x8 + 1)))
def f_m_tingle_68 (N : Nat)   (μ : sw_M) (x1 : Int32) (x2 : Int32) (x3 : Int32) (x4 : Int64) (s0 : Int64) : Option (Int64 × sw_M) :=
  f_m_tingle_73 N   N μ x1 x2 x3 x4 s0 1
def f_m_tingle_40 (N : Nat)   (μ : sw_M) (x1 : Int32) (x2 : Int32) (x3 : Int32) (s0 : Int32) : Option (Int64 × sw_M) :=
  Option.bind (f_m_may N  μ s0 1 1) (fun r1 =>
    if r1.1 = 0 then
      some (0, r1.2)
    else
      ibL ((x1.toInt64) * (x2.toInt64)) (fun y3 =>
        if x1 = 0 then
          f_m_tingle_68 N    r1.2 x1 x2 x3 y3 1
        else
          f_m_tingle_68 N    r1.2 x1 x2 x3 y3 16))
def f_m_tingle_39 (N : Nat)   (μ : sw_M) (x1 : Int32) (x2 : Int32) (x3 : Int32) : Option (Int64 × sw_M) :=
  f_m_tingle_40 N    μ x1 x2 x3 0
def f_m_tingle (N : Nat)  (μ : sw_M) (a1 : Int32) (a2 : Int32) (a3 : Int32) : Option (Int64 × sw_M) :=
  wb (wr μ 63 0 0) (fun μ1 =>
    Option.bind (f_sm_within N  μ1 a1 0 12) (fun r2 =>
      if r2 = 0 then
        f_m_tingle_39 N    μ1 a1 a2 a3
      else
        Option.bind (f_sm_within N  μ1 a2 0 16) (fun r4 =>
          if r4 = 0 then
            f_m_tingle_39 N    μ1 a1 a2 a3
          else
            Option.bind (f_sm_within N  μ1 a3 0 1) (fun r6 =>
              if r6 = 0 then
                f_m_tingle_39 N    μ1 a1 a2 a3
              else
                f_m_tingle_40 N    μ1 a1 a2 a3 1))))
set_option maxRecDepth 100000 in
set_option maxHeartbeats 4000000 in
theorem ok_f_m_tingle_73 {G : sw_G} {ad : Nat → Nat} {ν : sw_N}   {N : Nat} {o : Int64 × sw_M} (g : sw_ok G cX11_tingle "DeadWiresModel" (some .long) 2 0 0 ad) (hm : G.2.2.1.2.1.maxLocals = 9)  (ho : sw_out G 0 0 (fun a => a = ad) (.inl (some (.long o.1))) lay0 o.2 ν)  : ∀ (n : Nat) (μ : sw_M) (x1 : Int32) (x2 : Int32) (x3 : Int32) (x4 : Int64) (x6 : Int64) (x8 : Int32) (h : f_m_tingle_73 N   n μ x1 x2 x3 x4 x6 x8 = some o), SW G ad lay0 ν 0 0 73 [none, some (.int x1), some (.int x2), some (.int x3), some (.long x4), none, some (.long x6), none, some (.int x8)] [] μ := by
  intro n
  induction n with
  | zero => intro μ x1 x2 x3 x4 x6 x8 h; simp only [f_m_tingle_73] at h; cases h
  | succ n ih =>
    intro μ x1 x2 x3 x4 x6 x8 h
    unfold f_m_tingle_73 at h
    refine SW.iload (pc := 73) g (dt dt_X11_tingle 42 rfl) rfl ?_
    refine SW.iload_n (pc := 75) g (dt dt_X11_tingle 43 rfl) rfl ?_
    refine SW.icmp_ge (pc := 76) (t := 103) g (dt dt_X11_tingle 44 rfl) rfl (fun hc => ?_) (fun hc => ?_)
    · have h := iteT hc h
      refine SW.lload (pc := 103) g (dt dt_X11_tingle 58 rfl) rfl ?_
      refine SW.lload (pc := 105) g (dt dt_X11_tingle 59 rfl) rfl ?_
      refine SW.iload_n (pc := 107) g (dt dt_X11_tingle 60 rfl) rfl ?_
      obtain ⟨r1, h2, h⟩ := bindI h
      refine SW.callSl (pc := 108) g (dt dt_X11_tingle 61 rfl) (mt_f_sm_least _ _ _ _ ad ν lay0   N μ x4 x6 x3 r1 h2) me_X11_least ms_X11_least ml_X11_422 rfl (Nat.le_of_ble_eq_true rfl) (Nat.le_of_ble_eq_true rfl) (Nat.le_of_ble_eq_true rfl) (Nat.le_of_ble_eq_true rfl) rfl ?_
      exact SW.lreturn (pc := 111) g (leafWJ h ho) rfl (Nat.le_of_ble_eq_true rfl) (Nat.le_of_ble_eq_true rfl) (dt dt_X11_tingle 62 rfl)
    · have h := iteF hc h
      refine SW.lload (pc := 79) g (dt dt_X11_tingle 45 rfl) rfl ?_
      refine SW.bipush (pc := 81) (v := 16) g (dt dt_X11_tingle 46 rfl) kb_16 ?_
      refine SW.iload_n (pc := 83) g (dt dt_X11_tingle 47 rfl) rfl ?_
      refine SW.isub (pc := 84) g (dt dt_X11_tingle 48 rfl) ?_
      refine SW.i2l (pc := 85) g (dt dt_X11_tingle 49 rfl) ?_
      refine SW.lmul (pc := 86) g (dt dt_X11_tingle 50 rfl) ?_
      refine SW.lstore (pc := 87) g (dt dt_X11_tingle 51 rfl) (sw_ltm hm (Nat.le_of_ble_eq_true rfl)) rfl ?_
      refine SW.genJ h (fun y3 h => ?_)
      refine SW.lload (pc := 89) g (dt dt_X11_tingle 52 rfl) rfl ?_
      refine SW.ldc2 (pc := 91) g (dt dt_X11_tingle 53 rfl) ko_X11_420 ?_
      refine SW.lmul (pc := 94) g (dt dt_X11_tingle 54 rfl) ?_
      refine SW.lstore (pc := 95) g (dt dt_X11_tingle 55 rfl) (sw_ltm hm (Nat.le_of_ble_eq_true rfl)) rfl ?_
      refine SW.genJ h (fun y4 h => ?_)
      refine SW.iinc (pc := 97) (v := x8 + 1) g (dt dt_X11_tingle 56 rfl) rfl (kn_1 _) (sw_ltm hm (Nat.le_of_ble_eq_true rfl)) rfl ?_
      refine SW.goto (pc := 100) (t := 73) g (dt dt_X11_tingle 57 rfl) rfl ?_
      refine SW.msk [false, true, true, true, true, false, true, false, true] ?_
      exact ih μ x1 x2 x3 y3 y4 (x8 + 1) h
set_option maxRecDepth 100000 in
set_option maxHeartbeats 4000000 in
theorem ok_f_m_tingle_68 {G : sw_G} {ad : Nat → Nat} {ν : sw_N}   {N : Nat} {o : Int64 × sw_M} (g : sw_ok G cX11_tingle "DeadWiresModel" (some .long) 2 0 0 ad) (hm : G.2.2.1.2.1.maxLocals = 9)  (ho : sw_out G 0 0 (fun a => a = ad) (.inl (some (.long o.1))) lay0 o.2 ν)  (μ : sw_M) (x1 : Int32) (x2 : Int32) (x3 : Int32) (x4 : Int64) (s0 : Int64) (h : f_m_tingle_68 N    μ x1 x2 x3 x4 s0 = some o) : SW G ad lay0 ν 0 0 68 [none, some (.int x1), some (.int x2), some (.int x3), some (.long x4), none, none, none, none] [.long s0] μ := by
  unfold f_m_tingle_68 at h
  refine SW.lstore (pc := 68) g (dt dt_X11_tingle 39 rfl) (sw_ltm hm (Nat.le_of_ble_eq_true rfl)) rfl ?_
  refine SW.iconst (pc := 70) (v := 1) g (dt dt_X11_tingle 40 rfl) ki_1 ?_
  refine SW.istore (pc := 71) g (dt dt_X11_tingle 41 rfl) (sw_ltm hm (Nat.le_of_ble_eq_true rfl)) rfl ?_
  refine SW.msk [false, true, true, true, true, false, true, false, true] ?_
  exact ok_f_m_tingle_73  g hm  ho   N μ x1 x2 x3 x4 s0 1 h
set_option maxRecDepth 100000 in
set_option maxHeartbeats 4000000 in
theorem ok_f_m_tingle_40 {G : sw_G} {ad : Nat → Nat} {ν : sw_N}   {N : Nat} {o : Int64 × sw_M} (g : sw_ok G cX11_tingle "DeadWiresModel" (some .long) 2 0 0 ad) (hm : G.2.2.1.2.1.maxLocals = 9)  (ho : sw_out G 0 0 (fun a => a = ad) (.inl (some (.long o.1))) lay0 o.2 ν)  (μ : sw_M) (x1 : Int32) (x2 : Int32) (x3 : Int32) (s0 : Int32) (h : f_m_tingle_40 N    μ x1 x2 x3 s0 = some o) : SW G ad lay0 ν 0 0 40 [none, some (.int x1), some (.int x2), some (.int x3), none, none, none, none, none] [.int s0, .ref 63] μ := by
  unfold f_m_tingle_40 at h
  refine SW.iconst (pc := 40) (v := 1) g (dt dt_X11_tingle 22 rfl) ki_1 ?_
  refine SW.iconst (pc := 41) (v := 1) g (dt dt_X11_tingle 23 rfl) ki_1 ?_
  obtain ⟨r1, h2, h⟩ := bindI h
  refine SW.callVi (pc := 42) g (dt dt_X11_tingle 24 rfl) (mt_f_m_may _ _ _ _ ad ν   N μ s0 1 1 r1 h2) me_X11_may mv_X11_may ml_X11_204 cell_63 rfl rfl (Nat.le_of_ble_eq_true rfl) (Nat.le_of_ble_eq_true rfl) (Nat.le_of_ble_eq_true rfl) (Nat.le_of_ble_eq_true rfl) rfl ?_
  refine SW.if_ne (pc := 45) (t := 50) g (dt dt_X11_tingle 25 rfl) rfl (fun hc => ?_) (fun hc => ?_)
  · have h := iteF hc h
    refine SW.iload_n (pc := 50) g (dt dt_X11_tingle 28 rfl) rfl ?_
    refine SW.i2l (pc := 51) g (dt dt_X11_tingle 29 rfl) ?_
    refine SW.iload_n (pc := 52) g (dt dt_X11_tingle 30 rfl) rfl ?_
    refine SW.i2l (pc := 53) g (dt dt_X11_tingle 31 rfl) ?_
    refine SW.lmul (pc := 54) g (dt dt_X11_tingle 32 rfl) ?_
    refine SW.lstore (pc := 55) g (dt dt_X11_tingle 33 rfl) (sw_ltm hm (Nat.le_of_ble_eq_true rfl)) rfl ?_
    refine SW.genJ h (fun y3 h => ?_)
    refine SW.iload_n (pc := 57) g (dt dt_X11_tingle 34 rfl) rfl ?_
    refine SW.if_ne (pc := 58) (t := 65) g (dt dt_X11_tingle 35 rfl) rfl (fun hc => ?_) (fun hc => ?_)
    · have h := iteF hc h
      refine SW.ldc2 (pc := 65) g (dt dt_X11_tingle 38 rfl) ko_X11_420 ?_
      refine SW.msk [false, true, true, true, true, false, false, false, false] ?_
      exact ok_f_m_tingle_68  g hm  ho    r1.2 x1 x2 x3 y3 16 h
    · have h := iteT hc h
      refine SW.lconst (pc := 61) (v := 1) g (dt dt_X11_tingle 36 rfl) rfl ?_
      refine SW.goto (pc := 62) (t := 68) g (dt dt_X11_tingle 37 rfl) rfl ?_
      refine SW.msk [false, true, true, true, true, false, false, false, false] ?_
      exact ok_f_m_tingle_68  g hm  ho    r1.2 x1 x2 x3 y3 1 h
  · have h := iteT hc h
    refine SW.lconst (pc := 48) (v := 0) g (dt dt_X11_tingle 26 rfl) rfl ?_
    exact SW.lreturn (pc := 49) g (leafWJ h ho) rfl (Nat.le_of_ble_eq_true rfl) (Nat.le_of_ble_eq_true rfl) (dt dt_X11_tingle 27 rfl)
set_option maxRecDepth 100000 in
set_option maxHeartbeats 4000000 in
theorem ok_f_m_tingle_39 {G : sw_G} {ad : Nat → Nat} {ν : sw_N}   {N : Nat} {o : Int64 × sw_M} (g : sw_ok G cX11_tingle "DeadWiresModel" (some .long) 2 0 0 ad) (hm : G.2.2.1.2.1.maxLocals = 9)  (ho : sw_out G 0 0 (fun a => a = ad) (.inl (some (.long o.1))) lay0 o.2 ν)  (μ : sw_M) (x1 : Int32) (x2 : Int32) (x3 : Int32) (h : f_m_tingle_39 N    μ x1 x2 x3 = some o) : SW G ad lay0 ν 0 0 39 [none, some (.int x1), some (.int x2), some (.int x3), none, none, none, none, none] [.ref 63] μ := by
  unfold f_m_tingle_39 at h
  refine SW.iconst (pc := 39) (v := 0) g (dt dt_X11_tingle 21 rfl) ki_0 ?_
  refine SW.msk [false, true, true, true, false, false, false, false, false] ?_
  exact ok_f_m_tingle_40  g hm  ho    μ x1 x2 x3 0 h
set_option maxRecDepth 100000 in
set_option maxHeartbeats 4000000 in
theorem ok_f_m_tingle {G : sw_G} {ad : Nat → Nat} {ν : sw_N}   {N : Nat} {o : Int64 × sw_M} (g : sw_ok G cX11_tingle "DeadWiresModel" (some .long) 2 0 0 ad) (hm : G.2.2.1.2.1.maxLocals = 9)  (μ : sw_M) (ho : sw_out G 0 0 (fun a => a = ad) (.inl (some (.long o.1))) lay0 o.2 ν) (a1 : Int32) (a2 : Int32) (a3 : Int32) (h : f_m_tingle N  μ a1 a2 a3 = some o) : SW G ad lay0 ν 0 0 0 [some (.ref 63), some (.int a1), some (.int a2), some (.int a3), none, none, none, none, none] [] μ := by
  unfold f_m_tingle at h
  refine SW.aload_n (pc := 0) g (dt dt_X11_tingle 0 rfl) rfl ?_
  refine SW.iconst (pc := 1) (v := 0) g (dt dt_X11_tingle 1 rfl) ki_0 ?_
  refine SW.putI (pc := 2) g (dt dt_X11_tingle 2 rfl) fl_X11_3 cell_63 rfl ?_
  refine SW.genM h (fun μ1 h => ?_)
  refine SW.aload_n (pc := 5) g (dt dt_X11_tingle 3 rfl) rfl ?_
  refine SW.iload_n (pc := 6) g (dt dt_X11_tingle 4 rfl) rfl ?_
  refine SW.iconst (pc := 7) (v := 0) g (dt dt_X11_tingle 5 rfl) ki_0 ?_
  refine SW.bipush (pc := 8) (v := 12) g (dt dt_X11_tingle 6 rfl) kb_12 ?_
  obtain ⟨r2, h3, h⟩ := bindI h
  refine SW.callSi (pc := 10) g (dt dt_X11_tingle 7 rfl) (mt_f_sm_within _ _ _ _ ad ν lay0   N μ1 a1 0 12 r2 h3) me_X11_within ms_X11_within ml_X11_374 rfl (Nat.le_of_ble_eq_true rfl) (Nat.le_of_ble_eq_true rfl) (Nat.le_of_ble_eq_true rfl) (Nat.le_of_ble_eq_true rfl) rfl ?_
  refine SW.if_eq (pc := 13) (t := 39) g (dt dt_X11_tingle 8 rfl) rfl (fun hc => ?_) (fun hc => ?_)
  · have h := iteT hc h
    refine SW.msk [false, true, true, true, false, false, false, false, false] ?_
    exact ok_f_m_tingle_39  g hm  ho    μ1 a1 a2 a3 h
  · have h := iteF hc h
    refine SW.iload_n (pc := 16) g (dt dt_X11_tingle 9 rfl) rfl ?_
    refine SW.iconst (pc := 17) (v := 0) g (dt dt_X11_tingle 10 rfl) ki_0 ?_
    refine SW.bipush (pc := 18) (v := 16) g (dt dt_X11_tingle 11 rfl) kb_16 ?_
    obtain ⟨r4, h5, h⟩ := bindI h
    refine SW.callSi (pc := 20) g (dt dt_X11_tingle 12 rfl) (mt_f_sm_within _ _ _ _ ad ν lay0   N μ1 a2 0 16 r4 h5) me_X11_within ms_X11_within ml_X11_374 rfl (Nat.le_of_ble_eq_true rfl) (Nat.le_of_ble_eq_true rfl) (Nat.le_of_ble_eq_true rfl) (Nat.le_of_ble_eq_true rfl) rfl ?_
    refine SW.if_eq (pc := 23) (t := 39) g (dt dt_X11_tingle 13 rfl) rfl (fun hc => ?_) (fun hc => ?_)
    · have h := iteT hc h
      refine SW.msk [false, true, true, true, false, false, false, false, false] ?_
      exact ok_f_m_tingle_39  g hm  ho    μ1 a1 a2 a3 h
    · have h := iteF hc h
      refine SW.iload_n (pc := 26) g (dt dt_X11_tingle 14 rfl) rfl ?_
      refine SW.iconst (pc := 27) (v := 0) g (dt dt_X11_tingle 15 rfl) ki_0 ?_
      refine SW.iconst (pc := 28) (v := 1) g (dt dt_X11_tingle 16 rfl) ki_1 ?_
      obtain ⟨r6, h7, h⟩ := bindI h
      refine SW.callSi (pc := 29) g (dt dt_X11_tingle 17 rfl) (mt_f_sm_within _ _ _ _ ad ν lay0   N μ1 a3 0 1 r6 h7) me_X11_within ms_X11_within ml_X11_374 rfl (Nat.le_of_ble_eq_true rfl) (Nat.le_of_ble_eq_true rfl) (Nat.le_of_ble_eq_true rfl) (Nat.le_of_ble_eq_true rfl) rfl ?_
      refine SW.if_eq (pc := 32) (t := 39) g (dt dt_X11_tingle 18 rfl) rfl (fun hc => ?_) (fun hc => ?_)
      · have h := iteT hc h
        refine SW.msk [false, true, true, true, false, false, false, false, false] ?_
        exact ok_f_m_tingle_39  g hm  ho    μ1 a1 a2 a3 h
      · have h := iteF hc h
        refine SW.iconst (pc := 35) (v := 1) g (dt dt_X11_tingle 19 rfl) ki_1 ?_
        refine SW.goto (pc := 36) (t := 40) g (dt dt_X11_tingle 20 rfl) rfl ?_
        refine SW.msk [false, true, true, true, false, false, false, false, false] ?_
        exact ok_f_m_tingle_40  g hm  ho    μ1 a1 a2 a3 1 h
set_option maxRecDepth 100000 in
set_option maxHeartbeats 4000000 in
theorem mt_f_m_tingle (l : Launch) (D : va_G) (cI cL : ClassId) (ad : Nat → Nat) (ν : sw_N)    (N : Nat) (μ : sw_M) (a1 : Int32) (a2 : Int32) (a3 : Int32) (o : Int64 × sw_M) (h : f_m_tingle N  μ a1 a2 a3 = some o) : MetR l D cI cL yX11_tingle cX11_tingle 9 (some .long) 2 0 0 (fun a => a = ad) ad [.ref 63, .int a1, .int a2, .int a3] lay0 μ ν (some (.long o.1)) lay0 o.2 ν :=
  MetR.of (n := 5) rfl (Nat.le_of_ble_eq_true rfl) (fun G g ho hm _ _ => ok_f_m_tingle  g hm  μ ho a1 a2 a3 h)
def f_sm_hasBy (N : Nat)  (μ : sw_M) (a0 : Int32) (a1 : Int32) (a2 : Int32) (a3 : Int32) : Option (Int32) :=
  if a0 = 1 then
    some 0
  else
    if a1 = 0 then
      some a2
    else
      some (-a3)
set_option maxRecDepth 100000 in
set_option maxHeartbeats 4000000 in
theorem ok_f_sm_hasBy {G : sw_G} {ad : Nat → Nat} {ν : sw_N} {L : sw_L}  {N : Nat} {o : Int32} (g : sw_ok G cX11_hasBy "DeadWiresModel" (some .int) 1 0 0 ad) (hm : G.2.2.1.2.1.maxLocals = 4)  (μ : sw_M) (ho : sw_out G 0 0 (fun a => a = ad) (.inl (some (.int o))) L μ ν) (a0 : Int32) (a1 : Int32) (a2 : Int32) (a3 : Int32) (h : f_sm_hasBy N  μ a0 a1 a2 a3 = some o) : SW G ad L ν 0 0 0 [some (.int a0), some (.int a1), some (.int a2), some (.int a3)] [] μ := by
  unfold f_sm_hasBy at h
  refine SW.iload_n (pc := 0) g (dt dt_X11_hasBy 0 rfl) rfl ?_
  refine SW.iconst (pc := 1) (v := 1) g (dt dt_X11_hasBy 1 rfl) ki_1 ?_
  refine SW.icmp_ne (pc := 2) (t := 9) g (dt dt_X11_hasBy 2 rfl) rfl (fun hc => ?_) (fun hc => ?_)
  · have h := iteF hc h
    refine SW.iload_n (pc := 9) g (dt dt_X11_hasBy 5 rfl) rfl ?_
    refine SW.if_ne (pc := 10) (t := 17) g (dt dt_X11_hasBy 6 rfl) rfl (fun hc => ?_) (fun hc => ?_)
    · have h := iteF hc h
      refine SW.iload_n (pc := 17) g (dt dt_X11_hasBy 9 rfl) rfl ?_
      refine SW.ineg (pc := 18) g (dt dt_X11_hasBy 10 rfl) ?_
      exact SW.ireturn (pc := 19) g (leafI h ho) rfl (Nat.le_of_ble_eq_true rfl) (Nat.le_of_ble_eq_true rfl) (dt dt_X11_hasBy 11 rfl)
    · have h := iteT hc h
      refine SW.iload_n (pc := 13) g (dt dt_X11_hasBy 7 rfl) rfl ?_
      refine SW.goto (pc := 14) (t := 19) g (dt dt_X11_hasBy 8 rfl) rfl ?_
      exact SW.ireturn (pc := 19) g (leafI h ho) rfl (Nat.le_of_ble_eq_true rfl) (Nat.le_of_ble_eq_true rfl) (dt dt_X11_hasBy 11 rfl)
  · have h := iteT hc h
    refine SW.iconst (pc := 5) (v := 0) g (dt dt_X11_hasBy 3 rfl) ki_0 ?_
    refine SW.goto (pc := 6) (t := 19) g (dt dt_X11_hasBy 4 rfl) rfl ?_
    exact SW.ireturn (pc := 19) g (leafI h ho) rfl (Nat.le_of_ble_eq_true rfl) (Nat.le_of_ble_eq_true rfl) (dt dt_X11_hasBy 11 rfl)
set_option maxRecDepth 100000 in
set_option maxHeartbeats 4000000 in
theorem mt_f_sm_hasBy (l : Launch) (D : va_G) (cI cL : ClassId) (ad : Nat → Nat) (ν : sw_N) (L : sw_L)   (N : Nat) (μ : sw_M) (a0 : Int32) (a1 : Int32) (a2 : Int32) (a3 : Int32) (o : Int32) (h : f_sm_hasBy N  μ a0 a1 a2 a3 = some o) : MetR l D cI cL yX11_hasBy cX11_hasBy 4 (some .int) 1 0 0 (fun a => a = ad) ad [.int a0, .int a1, .int a2, .int a3] L μ ν (some (.int o)) L μ ν :=
  MetR.of (n := 0) rfl (Nat.le_of_ble_eq_true rfl) (fun G g ho hm _ _ => ok_f_sm_hasBy  g hm  μ ho a0 a1 a2 a3 h)
def f_m_lean_148 (N : Nat)  (k_59 : sw_M → Int32 → Int32 → Int32 → Int32 → Int32 → Int32 → Option (Int32 × sw_M)) (μ : sw_M) (x1 : Int32) (x2 : Int32) (x3 : Int32) (x4 : Int32) (x6 : Int32) (s0 : Int32) : Option (Int32 × sw_M) :=
  k_59 μ x1 x2 x3 x4 s0 (x6 + 1)
def f_m_lean_59 (N : Nat)   : Nat → sw_M → Int32 → Int32 → Int32 → Int32 → Int32 → Int32 → Option (Int32 × sw_M)
  | 0, _, _, _, _, _, _, _ => none
  | n + 1, μ, x1, x2, x3, x4, x5, x6 =>
    if 4 ≤ x6 then
      if x3 = 0 then
        some (x4, μ)
      else
        if x3 = 1 then
          some (x5, μ)
        else
          if x5 = (-1) then
            some (0, μ)
          else
            nz 10
              (nz 10
                (Option.bind (f_sm_hasBy N  μ (x5 / 10) (x5 - x5 / 10 * 10) x1 x2) (fun r3 =>
                  nz 10
                    (nz 10
                      (Option.bind (f_sm_hasBy N  μ (x5 - x5 / 10 * 10) (x5 / 10) x1 x2) (fun r7 =>
                        some (r3 + r7, μ)))))))
    else
      nz 2
        (ib (x6 / 2) (fun y10 =>
          nz 2
            (ib (x6 - x6 / 2 * 2) (fun y12 =>
              Option.bind (f_sm_hasBy N  μ ((1 : Int32) - y10) y12 x1 x2) (fun r13 =>
                Option.bind (f_sm_hasBy N  μ y10 y12 x1 x2) (fun r15 =>
                  if r15 < r13 then
                    f_m_lean_59 N   n μ x1 x2 x3 x4 x5 (x6 + 1)
                  else
                    Option.bind (f_sm_hasBy N  μ ((1 : Int32) - y12) y10 x1 x2) (fun r17 =>
                      Option.bind (f_sm_hasBy N  μ y12 y10 x1 x2) (fun r19 =>
                        if r17 ≤ r19 then
                          ib (x4 + 1) (fun y21 =>
                            if x5 = (-1) then
                              f_m_lean_148 N  (f_m_lean_59 N   n)  μ x1 x2 x3 y21 x6 (((10 : Int32) * y10) + y12)
                            else
                              f_m_lean_148 N  (f_m_lean_59 N   n)  μ x1 x2 x3 y21 x6 x5)
                        else
                          f_m_lean_59 N   n μ x1 x2 x3 x4 x5 (x6 + 1)))))))))
def f_m_lean_40 (N : Nat)   (μ : sw_M) (x1 : Int32) (x2 : Int32) (x3 : Int32) (s0 : Int32) : Option (Int32 × sw_M) :=
  Option.bind (f_m_may N  μ s0 1 1) (fun r1 =>
    if r1.1 = 0 then
      some (0, r1.2)
    else
      f_m_lean_59 N   N r1.2 x1 x2 x3 0 (-1) 0)
def f_m_lean_39 (N : Nat)   (μ : sw_M) (x1 : Int32) (x2 : Int32) (x3 : Int32) : Option (Int32 × sw_M) :=
  f_m_lean_40 N    μ x1 x2 x3 0
def f_m_lean (N : Nat)  (μ : sw_M) (a1 : Int32) (a2 : Int32) (a3 : Int32) : Option (Int32 × sw_M) :=
  wb (wr μ 63 0 0) (fun μ1 =>
    Option.bind (f_sm_within N  μ1 a1 0 99) (fun r2 =>
      if r2 = 0 then
        f_m_lean_39 N    μ1 a1 a2 a3
      else
        Option.bind (f_sm_within N  μ1 a2 0 99) (fun r4 =>
          if r4 = 0 then
            f_m_lean_39 N    μ1 a1 a2 a3
          else
            Option.bind (f_sm_within N  μ1 a3 0 2) (fun r6 =>
              if r6 = 0 then
                f_m_lean_39 N    μ1 a1 a2 a3
              else
                f_m_lean_40 N    μ1 a1 a2 a3 1))))
set_option maxRecDepth 100000 in
set_option maxHeartbeats 4000000 in
theorem ok_f_m_lean_148 {G : sw_G} {ad : Nat → Nat} {ν : sw_N}   {N : Nat} {o : Int32 × sw_M} (g : sw_ok G cX11_lean "DeadWiresModel" (some .int) 2 0 0 ad) (hm : G.2.2.1.2.1.maxLocals = 9)  (ho : sw_out G 0 0 (fun a => a = ad) (.inl (some (.int o.1))) lay0 o.2 ν) (k_59 : sw_M → Int32 → Int32 → Int32 → Int32 → Int32 → Int32 → Option (Int32 × sw_M)) (hk_59 : ∀ (μ : sw_M) (x1 : Int32) (x2 : Int32) (x3 : Int32) (x4 : Int32) (x5 : Int32) (x6 : Int32), k_59 μ x1 x2 x3 x4 x5 x6 = some o → SW G ad lay0 ν 0 0 59 [none, some (.int x1), some (.int x2), some (.int x3), some (.int x4), some (.int x5), some (.int x6), none, none] [] μ) (μ : sw_M) (x1 : Int32) (x2 : Int32) (x3 : Int32) (x4 : Int32) (x6 : Int32) (s0 : Int32) (h : f_m_lean_148 N  k_59  μ x1 x2 x3 x4 x6 s0 = some o) : SW G ad lay0 ν 0 0 148 [none, some (.int x1), some (.int x2), some (.int x3), some (.int x4), none, some (.int x6), none, none] [.int s0] μ := by
  unfold f_m_lean_148 at h
  refine SW.istore (pc := 148) g (dt dt_X11_lean 83 rfl) (sw_ltm hm (Nat.le_of_ble_eq_true rfl)) rfl ?_
  refine SW.iinc (pc := 150) (v := x6 + 1) g (dt dt_X11_lean 84 rfl) rfl (kn_1 _) (sw_ltm hm (Nat.le_of_ble_eq_true rfl)) rfl ?_
  refine SW.goto (pc := 153) (t := 59) g (dt dt_X11_lean 85 rfl) rfl ?_
  refine SW.msk [false, true, true, true, true, true, true, false, false] ?_
  exact hk_59 μ x1 x2 x3 x4 s0 (x6 + 1) h
set_option maxRecDepth 100000 in
set_option maxHeartbeats 4000000 in
theorem ok_f_m_lean_59 {G : sw_G} {ad : Nat → Nat} {ν : sw_N}   {N : Nat} {o : Int32 × sw_M} (g : sw_ok G cX11_lean "DeadWiresModel" (some .int) 2 0 0 ad) (hm : G.2.2.1.2.1.maxLocals = 9)  (ho : sw_out G 0 0 (fun a => a = ad) (.inl (some (.int o.1))) lay0 o.2 ν)  : ∀ (n : Nat) (μ : sw_M) (x1 : Int32) (x2 : Int32) (x3 : Int32) (x4 : Int32) (x5 : Int32) (x6 : Int32) (h : f_m_lean_59 N   n μ x1 x2 x3 x4 x5 x6 = some o), SW G ad lay0 ν 0 0 59 [none, some (.int x1), some (.int x2), some (.int x3), some (.int x4), some (.int x5), some (.int x6), none, none] [] μ := by
  intro n
  induction n with
  | zero => intro μ x1 x2 x3 x4 x5 x6 h; simp only [f_m_lean_59] at h; cases h
  | succ n ih =>
    intro μ x1 x2 x3 x4 x5 x6 h
    unfold f_m_lean_59 at h
    refine SW.iload (pc := 59) g (dt dt_X11_lean 34 rfl) rfl ?_
    refine SW.iconst (pc := 61) (v := 4) g (dt dt_X11_lean 35 rfl) ki_4 ?_
    refine SW.icmp_ge (pc := 62) (t := 156) g (dt dt_X11_lean 36 rfl) rfl (fun hc => ?_) (fun hc => ?_)
    · have h := iteT hc h
      refine SW.iload_n (pc := 156) g (dt dt_X11_lean 86 rfl) rfl ?_
      refine SW.if_ne (pc := 157) (t := 165) g (dt dt_X11_lean 87 rfl) rfl (fun hc => ?_) (fun hc => ?_)
      · have h := iteF hc h
        refine SW.iload_n (pc := 165) g (dt dt_X11_lean 90 rfl) rfl ?_
        refine SW.iconst (pc := 166) (v := 1) g (dt dt_X11_lean 91 rfl) ki_1 ?_
        refine SW.icmp_ne (pc := 167) (t := 175) g (dt dt_X11_lean 92 rfl) rfl (fun hc => ?_) (fun hc => ?_)
        · have h := iteF hc h
          refine SW.iload (pc := 175) g (dt dt_X11_lean 95 rfl) rfl ?_
          refine SW.iconst (pc := 177) (v := (-1)) g (dt dt_X11_lean 96 rfl) ki_m1 ?_
          refine SW.icmp_ne (pc := 178) (t := 185) g (dt dt_X11_lean 97 rfl) rfl (fun hc => ?_) (fun hc => ?_)
          · have h := iteF hc h
            refine SW.iload (pc := 185) g (dt dt_X11_lean 100 rfl) rfl ?_
            refine SW.bipush (pc := 187) (v := 10) g (dt dt_X11_lean 101 rfl) kb_10 ?_
            obtain ⟨hz1, h⟩ := nzI h
            refine SW.idiv (pc := 189) g (dt dt_X11_lean 102 rfl) hz1 ?_
            refine SW.iload (pc := 190) g (dt dt_X11_lean 103 rfl) rfl ?_
            refine SW.bipush (pc := 192) (v := 10) g (dt dt_X11_lean 104 rfl) kb_10 ?_
            obtain ⟨hz2, h⟩ := nzI h
            refine SW.irem (pc := 194) g (dt dt_X11_lean 105 rfl) hz2 ?_
            refine SW.iload_n (pc := 195) g (dt dt_X11_lean 106 rfl) rfl ?_
            refine SW.iload_n (pc := 196) g (dt dt_X11_lean 107 rfl) rfl ?_
            obtain ⟨r3, h4, h⟩ := bindI h
            refine SW.callSi (pc := 197) g (dt dt_X11_lean 108 rfl) (mt_f_sm_hasBy _ _ _ _ ad ν lay0   N μ (x5 / 10) (x5 - x5 / 10 * 10) x1 x2 r3 h4) me_X11_hasBy ms_X11_hasBy ml_X11_425 rfl (Nat.le_of_ble_eq_true rfl) (Nat.le_of_ble_eq_true rfl) (Nat.le_of_ble_eq_true rfl) (Nat.le_of_ble_eq_true rfl) rfl ?_
            refine SW.iload (pc := 200) g (dt dt_X11_lean 109 rfl) rfl ?_
            refine SW.bipush (pc := 202) (v := 10) g (dt dt_X11_lean 110 rfl) kb_10 ?_
            obtain ⟨hz5, h⟩ := nzI h
            refine SW.irem (pc := 204) g (dt dt_X11_lean 111 rfl) hz5 ?_
            refine SW.iload (pc := 205) g (dt dt_X11_lean 112 rfl) rfl ?_
            refine SW.bipush (pc := 207) (v := 10) g (dt dt_X11_lean 113 rfl) kb_10 ?_
            obtain ⟨hz6, h⟩ := nzI h
            refine SW.idiv (pc := 209) g (dt dt_X11_lean 114 rfl) hz6 ?_
            refine SW.iload_n (pc := 210) g (dt dt_X11_lean 115 rfl) rfl ?_
            refine SW.iload_n (pc := 211) g (dt dt_X11_lean 116 rfl) rfl ?_
            obtain ⟨r7, h8, h⟩ := bindI h
            refine SW.callSi (pc := 212) g (dt dt_X11_lean 117 rfl) (mt_f_sm_hasBy _ _ _ _ ad ν lay0   N μ (x5 - x5 / 10 * 10) (x5 / 10) x1 x2 r7 h8) me_X11_hasBy ms_X11_hasBy ml_X11_425 rfl (Nat.le_of_ble_eq_true rfl) (Nat.le_of_ble_eq_true rfl) (Nat.le_of_ble_eq_true rfl) (Nat.le_of_ble_eq_true rfl) rfl ?_
            refine SW.iadd (pc := 215) g (dt dt_X11_lean 118 rfl) ?_
            exact SW.ireturn (pc := 216) g (leafW h ho) rfl (Nat.le_of_ble_eq_true rfl) (Nat.le_of_ble_eq_true rfl) (dt dt_X11_lean 119 rfl)
          · have h := iteT hc h
            refine SW.iconst (pc := 181) (v := 0) g (dt dt_X11_lean 98 rfl) ki_0 ?_
            refine SW.goto (pc := 182) (t := 216) g (dt dt_X11_lean 99 rfl) rfl ?_
            exact SW.ireturn (pc := 216) g (leafW h ho) rfl (Nat.le_of_ble_eq_true rfl) (Nat.le_of_ble_eq_true rfl) (dt dt_X11_lean 119 rfl)
        · have h := iteT hc h
          refine SW.iload (pc := 170) g (dt dt_X11_lean 93 rfl) rfl ?_
          refine SW.goto (pc := 172) (t := 216) g (dt dt_X11_lean 94 rfl) rfl ?_
          exact SW.ireturn (pc := 216) g (leafW h ho) rfl (Nat.le_of_ble_eq_true rfl) (Nat.le_of_ble_eq_true rfl) (dt dt_X11_lean 119 rfl)
      · have h := iteT hc h
        refine SW.iload (pc := 160) g (dt dt_X11_lean 88 rfl) rfl ?_
        refine SW.goto (pc := 162) (t := 216) g (dt dt_X11_lean 89 rfl) rfl ?_
        exact SW.ireturn (pc := 216) g (leafW h ho) rfl (Nat.le_of_ble_eq_true rfl) (Nat.le_of_ble_eq_true rfl) (dt dt_X11_lean 119 rfl)
    · have h := iteF hc h
      refine SW.iload (pc := 65) g (dt dt_X11_lean 37 rfl) rfl ?_
      refine SW.iconst (pc := 67) (v := 2) g (dt dt_X11_lean 38 rfl) ki_2 ?_
      obtain ⟨hz9, h⟩ := nzI h
      refine SW.idiv (pc := 68) g (dt dt_X11_lean 39 rfl) hz9 ?_
      refine SW.istore (pc := 69) g (dt dt_X11_lean 40 rfl) (sw_ltm hm (Nat.le_of_ble_eq_true rfl)) rfl ?_
      refine SW.genL h (fun y10 h => ?_)
      refine SW.iload (pc := 71) g (dt dt_X11_lean 41 rfl) rfl ?_
      refine SW.iconst (pc := 73) (v := 2) g (dt dt_X11_lean 42 rfl) ki_2 ?_
      obtain ⟨hz11, h⟩ := nzI h
      refine SW.irem (pc := 74) g (dt dt_X11_lean 43 rfl) hz11 ?_
      refine SW.istore (pc := 75) g (dt dt_X11_lean 44 rfl) (sw_ltm hm (Nat.le_of_ble_eq_true rfl)) rfl ?_
      refine SW.genL h (fun y12 h => ?_)
      refine SW.iconst (pc := 77) (v := 1) g (dt dt_X11_lean 45 rfl) ki_1 ?_
      refine SW.iload (pc := 78) g (dt dt_X11_lean 46 rfl) rfl ?_
      refine SW.isub (pc := 80) g (dt dt_X11_lean 47 rfl) ?_
      refine SW.iload (pc := 81) g (dt dt_X11_lean 48 rfl) rfl ?_
      refine SW.iload_n (pc := 83) g (dt dt_X11_lean 49 rfl) rfl ?_
      refine SW.iload_n (pc := 84) g (dt dt_X11_lean 50 rfl) rfl ?_
      obtain ⟨r13, h14, h⟩ := bindI h
      refine SW.callSi (pc := 85) g (dt dt_X11_lean 51 rfl) (mt_f_sm_hasBy _ _ _ _ ad ν lay0   N μ ((1 : Int32) - y10) y12 x1 x2 r13 h14) me_X11_hasBy ms_X11_hasBy ml_X11_425 rfl (Nat.le_of_ble_eq_true rfl) (Nat.le_of_ble_eq_true rfl) (Nat.le_of_ble_eq_true rfl) (Nat.le_of_ble_eq_true rfl) rfl ?_
      refine SW.iload (pc := 88) g (dt dt_X11_lean 52 rfl) rfl ?_
      refine SW.iload (pc := 90) g (dt dt_X11_lean 53 rfl) rfl ?_
      refine SW.iload_n (pc := 92) g (dt dt_X11_lean 54 rfl) rfl ?_
      refine SW.iload_n (pc := 93) g (dt dt_X11_lean 55 rfl) rfl ?_
      obtain ⟨r15, h16, h⟩ := bindI h
      refine SW.callSi (pc := 94) g (dt dt_X11_lean 56 rfl) (mt_f_sm_hasBy _ _ _ _ ad ν lay0   N μ y10 y12 x1 x2 r15 h16) me_X11_hasBy ms_X11_hasBy ml_X11_425 rfl (Nat.le_of_ble_eq_true rfl) (Nat.le_of_ble_eq_true rfl) (Nat.le_of_ble_eq_true rfl) (Nat.le_of_ble_eq_true rfl) rfl ?_
      refine SW.icmp_gt (pc := 97) (t := 150) g (dt dt_X11_lean 57 rfl) rfl (fun hc => ?_) (fun hc => ?_)
      · have h := iteT hc h
        refine SW.iinc (pc := 150) (v := x6 + 1) g (dt dt_X11_lean 84 rfl) rfl (kn_1 _) (sw_ltm hm (Nat.le_of_ble_eq_true rfl)) rfl ?_
        refine SW.goto (pc := 153) (t := 59) g (dt dt_X11_lean 85 rfl) rfl ?_
        refine SW.msk [false, true, true, true, true, true, true, false, false] ?_
        exact ih μ x1 x2 x3 x4 x5 (x6 + 1) h
      · have h := iteF hc h
        refine SW.iconst (pc := 100) (v := 1) g (dt dt_X11_lean 58 rfl) ki_1 ?_
        refine SW.iload (pc := 101) g (dt dt_X11_lean 59 rfl) rfl ?_
        refine SW.isub (pc := 103) g (dt dt_X11_lean 60 rfl) ?_
        refine SW.iload (pc := 104) g (dt dt_X11_lean 61 rfl) rfl ?_
        refine SW.iload_n (pc := 106) g (dt dt_X11_lean 62 rfl) rfl ?_
        refine SW.iload_n (pc := 107) g (dt dt_X11_lean 63 rfl) rfl ?_
        obtain ⟨r17, h18, h⟩ := bindI h
        refine SW.callSi (pc := 108) g (dt dt_X11_lean 64 rfl) (mt_f_sm_hasBy _ _ _ _ ad ν lay0   N μ ((1 : Int32) - y12) y10 x1 x2 r17 h18) me_X11_hasBy ms_X11_hasBy ml_X11_425 rfl (Nat.le_of_ble_eq_true rfl) (Nat.le_of_ble_eq_true rfl) (Nat.le_of_ble_eq_true rfl) (Nat.le_of_ble_eq_true rfl) rfl ?_
        refine SW.iload (pc := 111) g (dt dt_X11_lean 65 rfl) rfl ?_
        refine SW.iload (pc := 113) g (dt dt_X11_lean 66 rfl) rfl ?_
        refine SW.iload_n (pc := 115) g (dt dt_X11_lean 67 rfl) rfl ?_
        refine SW.iload_n (pc := 116) g (dt dt_X11_lean 68 rfl) rfl ?_
        obtain ⟨r19, h20, h⟩ := bindI h
        refine SW.callSi (pc := 117) g (dt dt_X11_lean 69 rfl) (mt_f_sm_hasBy _ _ _ _ ad ν lay0   N μ y12 y10 x1 x2 r19 h20) me_X11_hasBy ms_X11_hasBy ml_X11_425 rfl (Nat.le_of_ble_eq_true rfl) (Nat.le_of_ble_eq_true rfl) (Nat.le_of_ble_eq_true rfl) (Nat.le_of_ble_eq_true rfl) rfl ?_
        refine SW.icmp_le (pc := 120) (t := 126) g (dt dt_X11_lean 70 rfl) rfl (fun hc => ?_) (fun hc => ?_)
        · have h := iteT hc h
          refine SW.iinc (pc := 126) (v := x4 + 1) g (dt dt_X11_lean 72 rfl) rfl (kn_1 _) (sw_ltm hm (Nat.le_of_ble_eq_true rfl)) rfl ?_
          refine SW.genL h (fun y21 h => ?_)
          refine SW.iload (pc := 129) g (dt dt_X11_lean 73 rfl) rfl ?_
          refine SW.iconst (pc := 131) (v := (-1)) g (dt dt_X11_lean 74 rfl) ki_m1 ?_
          refine SW.icmp_ne (pc := 132) (t := 146) g (dt dt_X11_lean 75 rfl) rfl (fun hc => ?_) (fun hc => ?_)
          · have h := iteF hc h
            refine SW.iload (pc := 146) g (dt dt_X11_lean 82 rfl) rfl ?_
            refine SW.msk [false, true, true, true, true, false, true, false, false] ?_
            exact ok_f_m_lean_148  g hm  ho (f_m_lean_59 N   n) ih  μ x1 x2 x3 y21 x6 x5 h
          · have h := iteT hc h
            refine SW.bipush (pc := 135) (v := 10) g (dt dt_X11_lean 76 rfl) kb_10 ?_
            refine SW.iload (pc := 137) g (dt dt_X11_lean 77 rfl) rfl ?_
            refine SW.imul (pc := 139) g (dt dt_X11_lean 78 rfl) ?_
            refine SW.iload (pc := 140) g (dt dt_X11_lean 79 rfl) rfl ?_
            refine SW.iadd (pc := 142) g (dt dt_X11_lean 80 rfl) ?_
            refine SW.goto (pc := 143) (t := 148) g (dt dt_X11_lean 81 rfl) rfl ?_
            refine SW.msk [false, true, true, true, true, false, true, false, false] ?_
            exact ok_f_m_lean_148  g hm  ho (f_m_lean_59 N   n) ih  μ x1 x2 x3 y21 x6 (((10 : Int32) * y10) + y12) h
        · have h := iteF hc h
          refine SW.goto (pc := 123) (t := 150) g (dt dt_X11_lean 71 rfl) rfl ?_
          refine SW.iinc (pc := 150) (v := x6 + 1) g (dt dt_X11_lean 84 rfl) rfl (kn_1 _) (sw_ltm hm (Nat.le_of_ble_eq_true rfl)) rfl ?_
          refine SW.goto (pc := 153) (t := 59) g (dt dt_X11_lean 85 rfl) rfl ?_
          refine SW.msk [false, true, true, true, true, true, true, false, false] ?_
          exact ih μ x1 x2 x3 x4 x5 (x6 + 1) h
set_option maxRecDepth 100000 in
set_option maxHeartbeats 4000000 in
theorem ok_f_m_lean_40 {G : sw_G} {ad : Nat → Nat} {ν : sw_N}   {N : Nat} {o : Int32 × sw_M} (g : sw_ok G cX11_lean "DeadWiresModel" (some .int) 2 0 0 ad) (hm : G.2.2.1.2.1.maxLocals = 9)  (ho : sw_out G 0 0 (fun a => a = ad) (.inl (some (.int o.1))) lay0 o.2 ν)  (μ : sw_M) (x1 : Int32) (x2 : Int32) (x3 : Int32) (s0 : Int32) (h : f_m_lean_40 N    μ x1 x2 x3 s0 = some o) : SW G ad lay0 ν 0 0 40 [none, some (.int x1), some (.int x2), some (.int x3), none, none, none, none, none] [.int s0, .ref 63] μ := by
  unfold f_m_lean_40 at h
  refine SW.iconst (pc := 40) (v := 1) g (dt dt_X11_lean 22 rfl) ki_1 ?_
  refine SW.iconst (pc := 41) (v := 1) g (dt dt_X11_lean 23 rfl) ki_1 ?_
  obtain ⟨r1, h2, h⟩ := bindI h
  refine SW.callVi (pc := 42) g (dt dt_X11_lean 24 rfl) (mt_f_m_may _ _ _ _ ad ν   N μ s0 1 1 r1 h2) me_X11_may mv_X11_may ml_X11_204 cell_63 rfl rfl (Nat.le_of_ble_eq_true rfl) (Nat.le_of_ble_eq_true rfl) (Nat.le_of_ble_eq_true rfl) (Nat.le_of_ble_eq_true rfl) rfl ?_
  refine SW.if_ne (pc := 45) (t := 50) g (dt dt_X11_lean 25 rfl) rfl (fun hc => ?_) (fun hc => ?_)
  · have h := iteF hc h
    refine SW.iconst (pc := 50) (v := 0) g (dt dt_X11_lean 28 rfl) ki_0 ?_
    refine SW.istore (pc := 51) g (dt dt_X11_lean 29 rfl) (sw_ltm hm (Nat.le_of_ble_eq_true rfl)) rfl ?_
    refine SW.iconst (pc := 53) (v := (-1)) g (dt dt_X11_lean 30 rfl) ki_m1 ?_
    refine SW.istore (pc := 54) g (dt dt_X11_lean 31 rfl) (sw_ltm hm (Nat.le_of_ble_eq_true rfl)) rfl ?_
    refine SW.iconst (pc := 56) (v := 0) g (dt dt_X11_lean 32 rfl) ki_0 ?_
    refine SW.istore (pc := 57) g (dt dt_X11_lean 33 rfl) (sw_ltm hm (Nat.le_of_ble_eq_true rfl)) rfl ?_
    refine SW.msk [false, true, true, true, true, true, true, false, false] ?_
    exact ok_f_m_lean_59  g hm  ho   N r1.2 x1 x2 x3 0 (-1) 0 h
  · have h := iteT hc h
    refine SW.iconst (pc := 48) (v := 0) g (dt dt_X11_lean 26 rfl) ki_0 ?_
    exact SW.ireturn (pc := 49) g (leafW h ho) rfl (Nat.le_of_ble_eq_true rfl) (Nat.le_of_ble_eq_true rfl) (dt dt_X11_lean 27 rfl)
set_option maxRecDepth 100000 in
set_option maxHeartbeats 4000000 in
theorem ok_f_m_lean_39 {G : sw_G} {ad : Nat → Nat} {ν : sw_N}   {N : Nat} {o : Int32 × sw_M} (g : sw_ok G cX11_lean "DeadWiresModel" (some .int) 2 0 0 ad) (hm : G.2.2.1.2.1.maxLocals = 9)  (ho : sw_out G 0 0 (fun a => a = ad) (.inl (some (.int o.1))) lay0 o.2 ν)  (μ : sw_M) (x1 : Int32) (x2 : Int32) (x3 : Int32) (h : f_m_lean_39 N    μ x1 x2 x3 = some o) : SW G ad lay0 ν 0 0 39 [none, some (.int x1), some (.int x2), some (.int x3), none, none, none, none, none] [.ref 63] μ := by
  unfold f_m_lean_39 at h
  refine SW.iconst (pc := 39) (v := 0) g (dt dt_X11_lean 21 rfl) ki_0 ?_
  refine SW.msk [false, true, true, true, false, false, false, false, false] ?_
  exact ok_f_m_lean_40  g hm  ho    μ x1 x2 x3 0 h
set_option maxRecDepth 100000 in
set_option maxHeartbeats 4000000 in
theorem ok_f_m_lean {G : sw_G} {ad : Nat → Nat} {ν : sw_N}   {N : Nat} {o : Int32 × sw_M} (g : sw_ok G cX11_lean "DeadWiresModel" (some .int) 2 0 0 ad) (hm : G.2.2.1.2.1.maxLocals = 9)  (μ : sw_M) (ho : sw_out G 0 0 (fun a => a = ad) (.inl (some (.int o.1))) lay0 o.2 ν) (a1 : Int32) (a2 : Int32) (a3 : Int32) (h : f_m_lean N  μ a1 a2 a3 = some o) : SW G ad lay0 ν 0 0 0 [some (.ref 63), some (.int a1), some (.int a2), some (.int a3), none, none, none, none, none] [] μ := by
  unfold f_m_lean at h
  refine SW.aload_n (pc := 0) g (dt dt_X11_lean 0 rfl) rfl ?_
  refine SW.iconst (pc := 1) (v := 0) g (dt dt_X11_lean 1 rfl) ki_0 ?_
  refine SW.putI (pc := 2) g (dt dt_X11_lean 2 rfl) fl_X11_3 cell_63 rfl ?_
  refine SW.genM h (fun μ1 h => ?_)
  refine SW.aload_n (pc := 5) g (dt dt_X11_lean 3 rfl) rfl ?_
  refine SW.iload_n (pc := 6) g (dt dt_X11_lean 4 rfl) rfl ?_
  refine SW.iconst (pc := 7) (v := 0) g (dt dt_X11_lean 5 rfl) ki_0 ?_
  refine SW.bipush (pc := 8) (v := 99) g (dt dt_X11_lean 6 rfl) kb_99 ?_
  obtain ⟨r2, h3, h⟩ := bindI h
  refine SW.callSi (pc := 10) g (dt dt_X11_lean 7 rfl) (mt_f_sm_within _ _ _ _ ad ν lay0   N μ1 a1 0 99 r2 h3) me_X11_within ms_X11_within ml_X11_374 rfl (Nat.le_of_ble_eq_true rfl) (Nat.le_of_ble_eq_true rfl) (Nat.le_of_ble_eq_true rfl) (Nat.le_of_ble_eq_true rfl) rfl ?_
  refine SW.if_eq (pc := 13) (t := 39) g (dt dt_X11_lean 8 rfl) rfl (fun hc => ?_) (fun hc => ?_)
  · have h := iteT hc h
    refine SW.msk [false, true, true, true, false, false, false, false, false] ?_
    exact ok_f_m_lean_39  g hm  ho    μ1 a1 a2 a3 h
  · have h := iteF hc h
    refine SW.iload_n (pc := 16) g (dt dt_X11_lean 9 rfl) rfl ?_
    refine SW.iconst (pc := 17) (v := 0) g (dt dt_X11_lean 10 rfl) ki_0 ?_
    refine SW.bipush (pc := 18) (v := 99) g (dt dt_X11_lean 11 rfl) kb_99 ?_
    obtain ⟨r4, h5, h⟩ := bindI h
    refine SW.callSi (pc := 20) g (dt dt_X11_lean 12 rfl) (mt_f_sm_within _ _ _ _ ad ν lay0   N μ1 a2 0 99 r4 h5) me_X11_within ms_X11_within ml_X11_374 rfl (Nat.le_of_ble_eq_true rfl) (Nat.le_of_ble_eq_true rfl) (Nat.le_of_ble_eq_true rfl) (Nat.le_of_ble_eq_true rfl) rfl ?_
    refine SW.if_eq (pc := 23) (t := 39) g (dt dt_X11_lean 13 rfl) rfl (fun hc => ?_) (fun hc => ?_)
    · have h := iteT hc h
      refine SW.msk [false, true, true, true, false, false, false, false, false] ?_
      exact ok_f_m_lean_39  g hm  ho    μ1 a1 a2 a3 h
    · have h := iteF hc h
      refine SW.iload_n (pc := 26) g (dt dt_X11_lean 14 rfl) rfl ?_
      refine SW.iconst (pc := 27) (v := 0) g (dt dt_X11_lean 15 rfl) ki_0 ?_
      refine SW.iconst (pc := 28) (v := 2) g (dt dt_X11_lean 16 rfl) ki_2 ?_
      obtain ⟨r6, h7, h⟩ := bindI h
      refine SW.callSi (pc := 29) g (dt dt_X11_lean 17 rfl) (mt_f_sm_within _ _ _ _ ad ν lay0   N μ1 a3 0 2 r6 h7) me_X11_within ms_X11_within ml_X11_374 rfl (Nat.le_of_ble_eq_true rfl) (Nat.le_of_ble_eq_true rfl) (Nat.le_of_ble_eq_true rfl) (Nat.le_of_ble_eq_true rfl) rfl ?_
      refine SW.if_eq (pc := 32) (t := 39) g (dt dt_X11_lean 18 rfl) rfl (fun hc => ?_) (fun hc => ?_)
      · have h := iteT hc h
        refine SW.msk [false, true, true, true, false, false, false, false, false] ?_
        exact ok_f_m_lean_39  g hm  ho    μ1 a1 a2 a3 h
      · have h := iteF hc h
        refine SW.iconst (pc := 35) (v := 1) g (dt dt_X11_lean 19 rfl) ki_1 ?_
        refine SW.goto (pc := 36) (t := 40) g (dt dt_X11_lean 20 rfl) rfl ?_
        refine SW.msk [false, true, true, true, false, false, false, false, false] ?_
        exact ok_f_m_lean_40  g hm  ho    μ1 a1 a2 a3 1 h
set_option maxRecDepth 100000 in
set_option maxHeartbeats 4000000 in
theorem mt_f_m_lean (l : Launch) (D : va_G) (cI cL : ClassId) (ad : Nat → Nat) (ν : sw_N)    (N : Nat) (μ : sw_M) (a1 : Int32) (a2 : Int32) (a3 : Int32) (o : Int32 × sw_M) (h : f_m_lean N  μ a1 a2 a3 = some o) : MetR l D cI cL yX11_lean cX11_lean 9 (some .int) 2 0 0 (fun a => a = ad) ad [.ref 63, .int a1, .int a2, .int a3] lay0 μ ν (some (.int o.1)) lay0 o.2 ν :=
  MetR.of (n := 5) rfl (Nat.le_of_ble_eq_true rfl) (fun G g ho hm _ _ => ok_f_m_lean  g hm  μ ho a1 a2 a3 h)
def f_m_graceBy_41 (N : Nat)  (μ : sw_M) (k_5 : Int32 → Int32 → Int32 → Int32 → Option (Int32)) (x1 : Int32) (x2 : Int32) (x4 : Int32) (s0 : Int32) (s1 : Int32) (s2 : Int32) : Option (Int32) :=
  ib (s2 + (s1 * s0)) (fun y1 =>
    k_5  x1 x2 y1 (x4 + 1))
def f_m_graceBy_5 (N : Nat)  (μ : sw_M)  : Nat → Int32 → Int32 → Int32 → Int32 → Option (Int32)
  | 0, _, _, _, _ => none
  | n + 1, x1, x2, x3, x4 =>
    if (μ 63 22) ≤ x4 then
      some x3
    else
      Option.bind (f_m_leftOf N  μ x4) (fun r1 =>
        if x2 ≤ r1 then
          f_m_graceBy_41 N  μ (f_m_graceBy_5 N  μ  n)  x1 x2 x4 x2 ((x1 >>> (x4 &&& 31)) &&& 1) x3
        else
          Option.bind (f_m_leftOf N  μ x4) (fun r3 =>
            f_m_graceBy_41 N  μ (f_m_graceBy_5 N  μ  n)  x1 x2 x4 r3 ((x1 >>> (x4 &&& 31)) &&& 1) x3))
def f_m_graceBy (N : Nat)  (μ : sw_M) (a1 : Int32) (a2 : Int32) : Option (Int32) :=
  f_m_graceBy_5 N  μ  N a1 a2 0 0
set_option maxRecDepth 100000 in
set_option maxHeartbeats 4000000 in
theorem ok_f_m_graceBy_41 {G : sw_G} {ad : Nat → Nat} {ν : sw_N}   {N : Nat} {o : Int32} (g : sw_ok G cX11_graceBy "DeadWiresModel" (some .int) 2 0 0 ad) (hm : G.2.2.1.2.1.maxLocals = 5)  (μ : sw_M) (ho : sw_out G 0 0 (fun a => a = ad) (.inl (some (.int o))) lay0 μ ν) (k_5 : Int32 → Int32 → Int32 → Int32 → Option (Int32)) (hk_5 : ∀ (x1 : Int32) (x2 : Int32) (x3 : Int32) (x4 : Int32), k_5 x1 x2 x3 x4 = some o → SW G ad lay0 ν 0 0 5 [some (.ref 63), some (.int x1), some (.int x2), some (.int x3), some (.int x4)] [] μ) (x1 : Int32) (x2 : Int32) (x4 : Int32) (s0 : Int32) (s1 : Int32) (s2 : Int32) (h : f_m_graceBy_41 N  μ k_5  x1 x2 x4 s0 s1 s2 = some o) : SW G ad lay0 ν 0 0 41 [some (.ref 63), some (.int x1), some (.int x2), none, some (.int x4)] [.int s0, .int s1, .int s2] μ := by
  unfold f_m_graceBy_41 at h
  refine SW.imul (pc := 41) g (dt dt_X11_graceBy 24 rfl) ?_
  refine SW.iadd (pc := 42) g (dt dt_X11_graceBy 25 rfl) ?_
  refine SW.istore_n (pc := 43) g (dt dt_X11_graceBy 26 rfl) (sw_ltm hm (Nat.le_of_ble_eq_true rfl)) rfl ?_
  refine SW.genL h (fun y1 h => ?_)
  refine SW.iinc (pc := 44) (v := x4 + 1) g (dt dt_X11_graceBy 27 rfl) rfl (kn_1 _) (sw_ltm hm (Nat.le_of_ble_eq_true rfl)) rfl ?_
  refine SW.goto (pc := 47) (t := 5) g (dt dt_X11_graceBy 28 rfl) rfl ?_
  refine SW.msk [true, true, true, true, true] ?_
  exact hk_5  x1 x2 y1 (x4 + 1) h
set_option maxRecDepth 100000 in
set_option maxHeartbeats 4000000 in
theorem ok_f_m_graceBy_5 {G : sw_G} {ad : Nat → Nat} {ν : sw_N}   {N : Nat} {o : Int32} (g : sw_ok G cX11_graceBy "DeadWiresModel" (some .int) 2 0 0 ad) (hm : G.2.2.1.2.1.maxLocals = 5)  (μ : sw_M) (ho : sw_out G 0 0 (fun a => a = ad) (.inl (some (.int o))) lay0 μ ν)  : ∀ (n : Nat) (x1 : Int32) (x2 : Int32) (x3 : Int32) (x4 : Int32) (h : f_m_graceBy_5 N  μ  n x1 x2 x3 x4 = some o), SW G ad lay0 ν 0 0 5 [some (.ref 63), some (.int x1), some (.int x2), some (.int x3), some (.int x4)] [] μ := by
  intro n
  induction n with
  | zero => intro x1 x2 x3 x4 h; simp only [f_m_graceBy_5] at h; cases h
  | succ n ih =>
    intro x1 x2 x3 x4 h
    unfold f_m_graceBy_5 at h
    refine SW.iload (pc := 5) g (dt dt_X11_graceBy 4 rfl) rfl ?_
    refine SW.aload_n (pc := 7) g (dt dt_X11_graceBy 5 rfl) rfl ?_
    refine SW.getI (pc := 8) g (dt dt_X11_graceBy 6 rfl) fl_X11_156 cell_63 rfl ?_
    refine SW.icmp_ge (pc := 11) (t := 50) g (dt dt_X11_graceBy 7 rfl) rfl (fun hc => ?_) (fun hc => ?_)
    · have h := iteT hc h
      refine SW.iload_n (pc := 50) g (dt dt_X11_graceBy 29 rfl) rfl ?_
      exact SW.ireturn (pc := 51) g (leafI h ho) rfl (Nat.le_of_ble_eq_true rfl) (Nat.le_of_ble_eq_true rfl) (dt dt_X11_graceBy 30 rfl)
    · have h := iteF hc h
      refine SW.iload_n (pc := 14) g (dt dt_X11_graceBy 8 rfl) rfl ?_
      refine SW.iload_n (pc := 15) g (dt dt_X11_graceBy 9 rfl) rfl ?_
      refine SW.iload (pc := 16) g (dt dt_X11_graceBy 10 rfl) rfl ?_
      refine SW.ishr (pc := 18) g (dt dt_X11_graceBy 11 rfl) ?_
      refine SW.iconst (pc := 19) (v := 1) g (dt dt_X11_graceBy 12 rfl) ki_1 ?_
      refine SW.iand (pc := 20) g (dt dt_X11_graceBy 13 rfl) ?_
      refine SW.aload_n (pc := 21) g (dt dt_X11_graceBy 14 rfl) rfl ?_
      refine SW.iload (pc := 22) g (dt dt_X11_graceBy 15 rfl) rfl ?_
      obtain ⟨r1, h2, h⟩ := bindI h
      refine SW.callVi (pc := 24) g (dt dt_X11_graceBy 16 rfl) (mt_f_m_leftOf _ _ _ _ ad ν   N μ x4 r1 h2) me_X11_leftOf mv_X11_leftOf ml_X11_340 cell_63 rfl rfl (Nat.le_of_ble_eq_true rfl) (Nat.le_of_ble_eq_true rfl) (Nat.le_of_ble_eq_true rfl) (Nat.le_of_ble_eq_true rfl) rfl ?_
      refine SW.iload_n (pc := 27) g (dt dt_X11_graceBy 17 rfl) rfl ?_
      refine SW.icmp_ge (pc := 28) (t := 40) g (dt dt_X11_graceBy 18 rfl) rfl (fun hc => ?_) (fun hc => ?_)
      · have h := iteT hc h
        refine SW.iload_n (pc := 40) g (dt dt_X11_graceBy 23 rfl) rfl ?_
        refine SW.msk [true, true, true, false, true] ?_
        exact ok_f_m_graceBy_41  g hm  μ ho (f_m_graceBy_5 N  μ  n) ih  x1 x2 x4 x2 ((x1 >>> (x4 &&& 31)) &&& 1) x3 h
      · have h := iteF hc h
        refine SW.aload_n (pc := 31) g (dt dt_X11_graceBy 19 rfl) rfl ?_
        refine SW.iload (pc := 32) g (dt dt_X11_graceBy 20 rfl) rfl ?_
        obtain ⟨r3, h4, h⟩ := bindI h
        refine SW.callVi (pc := 34) g (dt dt_X11_graceBy 21 rfl) (mt_f_m_leftOf _ _ _ _ ad ν   N μ x4 r3 h4) me_X11_leftOf mv_X11_leftOf ml_X11_340 cell_63 rfl rfl (Nat.le_of_ble_eq_true rfl) (Nat.le_of_ble_eq_true rfl) (Nat.le_of_ble_eq_true rfl) (Nat.le_of_ble_eq_true rfl) rfl ?_
        refine SW.goto (pc := 37) (t := 41) g (dt dt_X11_graceBy 22 rfl) rfl ?_
        refine SW.msk [true, true, true, false, true] ?_
        exact ok_f_m_graceBy_41  g hm  μ ho (f_m_graceBy_5 N  μ  n) ih  x1 x2 x4 r3 ((x1 >>> (x4 &&& 31)) &&& 1) x3 h
set_option maxRecDepth 100000 in
set_option maxHeartbeats 4000000 in
theorem ok_f_m_graceBy {G : sw_G} {ad : Nat → Nat} {ν : sw_N}   {N : Nat} {o : Int32} (g : sw_ok G cX11_graceBy "DeadWiresModel" (some .int) 2 0 0 ad) (hm : G.2.2.1.2.1.maxLocals = 5)  (μ : sw_M) (ho : sw_out G 0 0 (fun a => a = ad) (.inl (some (.int o))) lay0 μ ν) (a1 : Int32) (a2 : Int32) (h : f_m_graceBy N  μ a1 a2 = some o) : SW G ad lay0 ν 0 0 0 [some (.ref 63), some (.int a1), some (.int a2), none, none] [] μ := by
  unfold f_m_graceBy at h
  refine SW.iconst (pc := 0) (v := 0) g (dt dt_X11_graceBy 0 rfl) ki_0 ?_
  refine SW.istore_n (pc := 1) g (dt dt_X11_graceBy 1 rfl) (sw_ltm hm (Nat.le_of_ble_eq_true rfl)) rfl ?_
  refine SW.iconst (pc := 2) (v := 0) g (dt dt_X11_graceBy 2 rfl) ki_0 ?_
  refine SW.istore (pc := 3) g (dt dt_X11_graceBy 3 rfl) (sw_ltm hm (Nat.le_of_ble_eq_true rfl)) rfl ?_
  refine SW.msk [true, true, true, true, true] ?_
  exact ok_f_m_graceBy_5  g hm  μ ho   N a1 a2 0 0 h
set_option maxRecDepth 100000 in
set_option maxHeartbeats 4000000 in
theorem mt_f_m_graceBy (l : Launch) (D : va_G) (cI cL : ClassId) (ad : Nat → Nat) (ν : sw_N)    (N : Nat) (μ : sw_M) (a1 : Int32) (a2 : Int32) (o : Int32) (h : f_m_graceBy N  μ a1 a2 = some o) : MetR l D cI cL yX11_graceBy cX11_graceBy 5 (some .int) 2 0 0 (fun a => a = ad) ad [.ref 63, .int a1, .int a2] lay0 μ ν (some (.int o)) lay0 μ ν :=
  MetR.of (n := 2) rfl (Nat.le_of_ble_eq_true rfl) (fun G g ho hm _ _ => ok_f_m_graceBy  g hm  μ ho a1 a2 h)
def f_m_grace_63 (N : Nat)   : Nat → sw_M → Int32 → Int32 → Int32 → Int32 → Option (Int32 × sw_M)
  | 0, _, _, _, _, _ => none
  | n + 1, μ, x1, x2, x3, x4 =>
    Option.bind (f_m_graceBy N  μ x2 x4) (fun r1 =>
      if r1 ≤ x3 then
        if ((x2 >>> (x1 &&& 31)) &&& 1) = 0 then
          some (0, μ)
        else
          Option.bind (f_m_leftOf N  μ x1) (fun r3 =>
            if x4 ≤ r3 then
              some (x4, μ)
            else
              Option.bind (f_m_leftOf N  μ x1) (fun r5 =>
                some (r5, μ)))
      else
        f_m_grace_63 N   n μ x1 x2 x3 (x4 + (-1)))
def f_m_grace_45 (N : Nat)   (μ : sw_M) (x1 : Int32) (x2 : Int32) (x3 : Int32) (s0 : Int32) : Option (Int32 × sw_M) :=
  Option.bind (f_m_may N  μ s0 2 1) (fun r1 =>
    if r1.1 = 0 then
      some (0, r1.2)
    else
      Option.bind (f_m_take N  r1.2 ) (fun r3 =>
        f_m_grace_63 N   N r3 x1 x2 x3 99))
def f_m_grace_44 (N : Nat)   (μ : sw_M) (x1 : Int32) (x2 : Int32) (x3 : Int32) : Option (Int32 × sw_M) :=
  f_m_grace_45 N    μ x1 x2 x3 0
def f_m_grace (N : Nat)  (μ : sw_M) (a1 : Int32) (a2 : Int32) (a3 : Int32) : Option (Int32 × sw_M) :=
  wb (wr μ 63 0 0) (fun μ1 =>
    Option.bind (f_m_isWire N  μ1 a1 1) (fun r2 =>
      if r2.1 = 0 then
        some (0, r2.2)
      else
        if a2 < 0 then
          f_m_grace_44 N    r2.2 a1 a2 a3
        else
          if ((1 : Int32) <<< ((r2.2 63 22) &&& 31)) ≤ a2 then
            f_m_grace_44 N    r2.2 a1 a2 a3
          else
            Option.bind (f_sm_within N  r2.2 a3 0 999) (fun r4 =>
              if r4 = 0 then
                f_m_grace_44 N    r2.2 a1 a2 a3
              else
                f_m_grace_45 N    r2.2 a1 a2 a3 1)))
set_option maxRecDepth 100000 in
set_option maxHeartbeats 4000000 in
theorem ok_f_m_grace_63 {G : sw_G} {ad : Nat → Nat} {ν : sw_N}   {N : Nat} {o : Int32 × sw_M} (g : sw_ok G cX11_grace "DeadWiresModel" (some .int) 3 0 0 ad) (hm : G.2.2.1.2.1.maxLocals = 5)  (ho : sw_out G 0 0 (fun a => a = ad) (.inl (some (.int o.1))) lay0 o.2 ν)  : ∀ (n : Nat) (μ : sw_M) (x1 : Int32) (x2 : Int32) (x3 : Int32) (x4 : Int32) (h : f_m_grace_63 N   n μ x1 x2 x3 x4 = some o), SW G ad lay0 ν 0 0 63 [some (.ref 63), some (.int x1), some (.int x2), some (.int x3), some (.int x4)] [] μ := by
  intro n
  induction n with
  | zero => intro μ x1 x2 x3 x4 h; simp only [f_m_grace_63] at h; cases h
  | succ n ih =>
    intro μ x1 x2 x3 x4 h
    unfold f_m_grace_63 at h
    refine SW.aload_n (pc := 63) g (dt dt_X11_grace 35 rfl) rfl ?_
    refine SW.iload_n (pc := 64) g (dt dt_X11_grace 36 rfl) rfl ?_
    refine SW.iload (pc := 65) g (dt dt_X11_grace 37 rfl) rfl ?_
    obtain ⟨r1, h2, h⟩ := bindI h
    refine SW.callVi (pc := 67) g (dt dt_X11_grace 38 rfl) (mt_f_m_graceBy _ _ _ _ ad ν   N μ x2 x4 r1 h2) me_X11_graceBy mv_X11_graceBy ml_X11_428 cell_63 rfl rfl (Nat.le_of_ble_eq_true rfl) (Nat.le_of_ble_eq_true rfl) (Nat.le_of_ble_eq_true rfl) (Nat.le_of_ble_eq_true rfl) rfl ?_
    refine SW.iload_n (pc := 70) g (dt dt_X11_grace 39 rfl) rfl ?_
    refine SW.icmp_le (pc := 71) (t := 80) g (dt dt_X11_grace 40 rfl) rfl (fun hc => ?_) (fun hc => ?_)
    · have h := iteT hc h
      refine SW.iload_n (pc := 80) g (dt dt_X11_grace 43 rfl) rfl ?_
      refine SW.iload_n (pc := 81) g (dt dt_X11_grace 44 rfl) rfl ?_
      refine SW.ishr (pc := 82) g (dt dt_X11_grace 45 rfl) ?_
      refine SW.iconst (pc := 83) (v := 1) g (dt dt_X11_grace 46 rfl) ki_1 ?_
      refine SW.iand (pc := 84) g (dt dt_X11_grace 47 rfl) ?_
      refine SW.if_ne (pc := 85) (t := 90) g (dt dt_X11_grace 48 rfl) rfl (fun hc => ?_) (fun hc => ?_)
      · have h := iteF hc h
        refine SW.aload_n (pc := 90) g (dt dt_X11_grace 51 rfl) rfl ?_
        refine SW.iload_n (pc := 91) g (dt dt_X11_grace 52 rfl) rfl ?_
        obtain ⟨r3, h4, h⟩ := bindI h
        refine SW.callVi (pc := 92) g (dt dt_X11_grace 53 rfl) (mt_f_m_leftOf _ _ _ _ ad ν   N μ x1 r3 h4) me_X11_leftOf mv_X11_leftOf ml_X11_340 cell_63 rfl rfl (Nat.le_of_ble_eq_true rfl) (Nat.le_of_ble_eq_true rfl) (Nat.le_of_ble_eq_true rfl) (Nat.le_of_ble_eq_true rfl) rfl ?_
        refine SW.iload (pc := 95) g (dt dt_X11_grace 54 rfl) rfl ?_
        refine SW.icmp_ge (pc := 97) (t := 108) g (dt dt_X11_grace 55 rfl) rfl (fun hc => ?_) (fun hc => ?_)
        · have h := iteT hc h
          refine SW.iload (pc := 108) g (dt dt_X11_grace 60 rfl) rfl ?_
          exact SW.ireturn (pc := 110) g (leafW h ho) rfl (Nat.le_of_ble_eq_true rfl) (Nat.le_of_ble_eq_true rfl) (dt dt_X11_grace 61 rfl)
        · have h := iteF hc h
          refine SW.aload_n (pc := 100) g (dt dt_X11_grace 56 rfl) rfl ?_
          refine SW.iload_n (pc := 101) g (dt dt_X11_grace 57 rfl) rfl ?_
          obtain ⟨r5, h6, h⟩ := bindI h
          refine SW.callVi (pc := 102) g (dt dt_X11_grace 58 rfl) (mt_f_m_leftOf _ _ _ _ ad ν   N μ x1 r5 h6) me_X11_leftOf mv_X11_leftOf ml_X11_340 cell_63 rfl rfl (Nat.le_of_ble_eq_true rfl) (Nat.le_of_ble_eq_true rfl) (Nat.le_of_ble_eq_true rfl) (Nat.le_of_ble_eq_true rfl) rfl ?_
          refine SW.goto (pc := 105) (t := 110) g (dt dt_X11_grace 59 rfl) rfl ?_
          exact SW.ireturn (pc := 110) g (leafW h ho) rfl (Nat.le_of_ble_eq_true rfl) (Nat.le_of_ble_eq_true rfl) (dt dt_X11_grace 61 rfl)
      · have h := iteT hc h
        refine SW.iconst (pc := 88) (v := 0) g (dt dt_X11_grace 49 rfl) ki_0 ?_
        exact SW.ireturn (pc := 89) g (leafW h ho) rfl (Nat.le_of_ble_eq_true rfl) (Nat.le_of_ble_eq_true rfl) (dt dt_X11_grace 50 rfl)
    · have h := iteF hc h
      refine SW.iinc (pc := 74) (v := x4 + (-1)) g (dt dt_X11_grace 41 rfl) rfl (kn_m1 _) (sw_ltm hm (Nat.le_of_ble_eq_true rfl)) rfl ?_
      refine SW.goto (pc := 77) (t := 63) g (dt dt_X11_grace 42 rfl) rfl ?_
      refine SW.msk [true, true, true, true, true] ?_
      exact ih μ x1 x2 x3 (x4 + (-1)) h
set_option maxRecDepth 100000 in
set_option maxHeartbeats 4000000 in
theorem ok_f_m_grace_45 {G : sw_G} {ad : Nat → Nat} {ν : sw_N}   {N : Nat} {o : Int32 × sw_M} (g : sw_ok G cX11_grace "DeadWiresModel" (some .int) 3 0 0 ad) (hm : G.2.2.1.2.1.maxLocals = 5)  (ho : sw_out G 0 0 (fun a => a = ad) (.inl (some (.int o.1))) lay0 o.2 ν)  (μ : sw_M) (x1 : Int32) (x2 : Int32) (x3 : Int32) (s0 : Int32) (h : f_m_grace_45 N    μ x1 x2 x3 s0 = some o) : SW G ad lay0 ν 0 0 45 [some (.ref 63), some (.int x1), some (.int x2), some (.int x3), none] [.int s0, .ref 63] μ := by
  unfold f_m_grace_45 at h
  refine SW.iconst (pc := 45) (v := 2) g (dt dt_X11_grace 25 rfl) ki_2 ?_
  refine SW.iconst (pc := 46) (v := 1) g (dt dt_X11_grace 26 rfl) ki_1 ?_
  obtain ⟨r1, h2, h⟩ := bindI h
  refine SW.callVi (pc := 47) g (dt dt_X11_grace 27 rfl) (mt_f_m_may _ _ _ _ ad ν   N μ s0 2 1 r1 h2) me_X11_may mv_X11_may ml_X11_204 cell_63 rfl rfl (Nat.le_of_ble_eq_true rfl) (Nat.le_of_ble_eq_true rfl) (Nat.le_of_ble_eq_true rfl) (Nat.le_of_ble_eq_true rfl) rfl ?_
  refine SW.if_ne (pc := 50) (t := 55) g (dt dt_X11_grace 28 rfl) rfl (fun hc => ?_) (fun hc => ?_)
  · have h := iteF hc h
    refine SW.aload_n (pc := 55) g (dt dt_X11_grace 31 rfl) rfl ?_
    obtain ⟨r3, h4, h⟩ := bindI h
    refine SW.callVv (pc := 56) g (dt dt_X11_grace 32 rfl) (mt_f_m_take _ _ _ _ ad ν   N r1.2  r3 h4) me_X11_take mv_X11_take ml_X11_305 cell_63 rfl rfl (Nat.le_of_ble_eq_true rfl) (Nat.le_of_ble_eq_true rfl) (Nat.le_of_ble_eq_true rfl) (Nat.le_of_ble_eq_true rfl) rfl ?_
    refine SW.bipush (pc := 59) (v := 99) g (dt dt_X11_grace 33 rfl) kb_99 ?_
    refine SW.istore (pc := 61) g (dt dt_X11_grace 34 rfl) (sw_ltm hm (Nat.le_of_ble_eq_true rfl)) rfl ?_
    refine SW.msk [true, true, true, true, true] ?_
    exact ok_f_m_grace_63  g hm  ho   N r3 x1 x2 x3 99 h
  · have h := iteT hc h
    refine SW.iconst (pc := 53) (v := 0) g (dt dt_X11_grace 29 rfl) ki_0 ?_
    exact SW.ireturn (pc := 54) g (leafW h ho) rfl (Nat.le_of_ble_eq_true rfl) (Nat.le_of_ble_eq_true rfl) (dt dt_X11_grace 30 rfl)
set_option maxRecDepth 100000 in
set_option maxHeartbeats 4000000 in
theorem ok_f_m_grace_44 {G : sw_G} {ad : Nat → Nat} {ν : sw_N}   {N : Nat} {o : Int32 × sw_M} (g : sw_ok G cX11_grace "DeadWiresModel" (some .int) 3 0 0 ad) (hm : G.2.2.1.2.1.maxLocals = 5)  (ho : sw_out G 0 0 (fun a => a = ad) (.inl (some (.int o.1))) lay0 o.2 ν)  (μ : sw_M) (x1 : Int32) (x2 : Int32) (x3 : Int32) (h : f_m_grace_44 N    μ x1 x2 x3 = some o) : SW G ad lay0 ν 0 0 44 [some (.ref 63), some (.int x1), some (.int x2), some (.int x3), none] [.ref 63] μ := by
  unfold f_m_grace_44 at h
  refine SW.iconst (pc := 44) (v := 0) g (dt dt_X11_grace 24 rfl) ki_0 ?_
  refine SW.msk [true, true, true, true, false] ?_
  exact ok_f_m_grace_45  g hm  ho    μ x1 x2 x3 0 h
set_option maxRecDepth 100000 in
set_option maxHeartbeats 4000000 in
theorem ok_f_m_grace {G : sw_G} {ad : Nat → Nat} {ν : sw_N}   {N : Nat} {o : Int32 × sw_M} (g : sw_ok G cX11_grace "DeadWiresModel" (some .int) 3 0 0 ad) (hm : G.2.2.1.2.1.maxLocals = 5)  (μ : sw_M) (ho : sw_out G 0 0 (fun a => a = ad) (.inl (some (.int o.1))) lay0 o.2 ν) (a1 : Int32) (a2 : Int32) (a3 : Int32) (h : f_m_grace N  μ a1 a2 a3 = some o) : SW G ad lay0 ν 0 0 0 [some (.ref 63), some (.int a1), some (.int a2), some (.int a3), none] [] μ := by
  unfold f_m_grace at h
  refine SW.aload_n (pc := 0) g (dt dt_X11_grace 0 rfl) rfl ?_
  refine SW.iconst (pc := 1) (v := 0) g (dt dt_X11_grace 1 rfl) ki_0 ?_
  refine SW.putI (pc := 2) g (dt dt_X11_grace 2 rfl) fl_X11_3 cell_63 rfl ?_
  refine SW.genM h (fun μ1 h => ?_)
  refine SW.aload_n (pc := 5) g (dt dt_X11_grace 3 rfl) rfl ?_
  refine SW.iload_n (pc := 6) g (dt dt_X11_grace 4 rfl) rfl ?_
  refine SW.iconst (pc := 7) (v := 1) g (dt dt_X11_grace 5 rfl) ki_1 ?_
  obtain ⟨r2, h3, h⟩ := bindI h
  refine SW.callVi (pc := 8) g (dt dt_X11_grace 6 rfl) (mt_f_m_isWire _ _ _ _ ad ν   N μ1 a1 1 r2 h3) me_X11_isWire mv_X11_isWire ml_X11_395 cell_63 rfl rfl (Nat.le_of_ble_eq_true rfl) (Nat.le_of_ble_eq_true rfl) (Nat.le_of_ble_eq_true rfl) (Nat.le_of_ble_eq_true rfl) rfl ?_
  refine SW.if_eq (pc := 11) (t := 53) g (dt dt_X11_grace 7 rfl) rfl (fun hc => ?_) (fun hc => ?_)
  · have h := iteT hc h
    refine SW.iconst (pc := 53) (v := 0) g (dt dt_X11_grace 29 rfl) ki_0 ?_
    exact SW.ireturn (pc := 54) g (leafW h ho) rfl (Nat.le_of_ble_eq_true rfl) (Nat.le_of_ble_eq_true rfl) (dt dt_X11_grace 30 rfl)
  · have h := iteF hc h
    refine SW.aload_n (pc := 14) g (dt dt_X11_grace 8 rfl) rfl ?_
    refine SW.iload_n (pc := 15) g (dt dt_X11_grace 9 rfl) rfl ?_
    refine SW.if_lt (pc := 16) (t := 44) g (dt dt_X11_grace 10 rfl) rfl (fun hc => ?_) (fun hc => ?_)
    · have h := iteT hc h
      refine SW.msk [true, true, true, true, false] ?_
      exact ok_f_m_grace_44  g hm  ho    r2.2 a1 a2 a3 h
    · have h := iteF hc h
      refine SW.iload_n (pc := 19) g (dt dt_X11_grace 11 rfl) rfl ?_
      refine SW.iconst (pc := 20) (v := 1) g (dt dt_X11_grace 12 rfl) ki_1 ?_
      refine SW.aload_n (pc := 21) g (dt dt_X11_grace 13 rfl) rfl ?_
      refine SW.getI (pc := 22) g (dt dt_X11_grace 14 rfl) fl_X11_156 cell_63 rfl ?_
      refine SW.ishl (pc := 25) g (dt dt_X11_grace 15 rfl) ?_
      refine SW.icmp_ge (pc := 26) (t := 44) g (dt dt_X11_grace 16 rfl) rfl (fun hc => ?_) (fun hc => ?_)
      · have h := iteT hc h
        refine SW.msk [true, true, true, true, false] ?_
        exact ok_f_m_grace_44  g hm  ho    r2.2 a1 a2 a3 h
      · have h := iteF hc h
        refine SW.iload_n (pc := 29) g (dt dt_X11_grace 17 rfl) rfl ?_
        refine SW.iconst (pc := 30) (v := 0) g (dt dt_X11_grace 18 rfl) ki_0 ?_
        refine SW.sipush (pc := 31) (v := 999) g (dt dt_X11_grace 19 rfl) ks_999 ?_
        obtain ⟨r4, h5, h⟩ := bindI h
        refine SW.callSi (pc := 34) g (dt dt_X11_grace 20 rfl) (mt_f_sm_within _ _ _ _ ad ν lay0   N r2.2 a3 0 999 r4 h5) me_X11_within ms_X11_within ml_X11_374 rfl (Nat.le_of_ble_eq_true rfl) (Nat.le_of_ble_eq_true rfl) (Nat.le_of_ble_eq_true rfl) (Nat.le_of_ble_eq_true rfl) rfl ?_
        refine SW.if_eq (pc := 37) (t := 44) g (dt dt_X11_grace 21 rfl) rfl (fun hc => ?_) (fun hc => ?_)
        · have h := iteT hc h
          refine SW.msk [true, true, true, true, false] ?_
          exact ok_f_m_grace_44  g hm  ho    r2.2 a1 a2 a3 h
        · have h := iteF hc h
          refine SW.iconst (pc := 40) (v := 1) g (dt dt_X11_grace 22 rfl) ki_1 ?_
          refine SW.goto (pc := 41) (t := 45) g (dt dt_X11_grace 23 rfl) rfl ?_
          refine SW.msk [true, true, true, true, false] ?_
          exact ok_f_m_grace_45  g hm  ho    r2.2 a1 a2 a3 1 h
set_option maxRecDepth 100000 in
set_option maxHeartbeats 4000000 in
theorem mt_f_m_grace (l : Launch) (D : va_G) (cI cL : ClassId) (ad : Nat → Nat) (ν : sw_N)    (N : Nat) (μ : sw_M) (a1 : Int32) (a2 : Int32) (a3 : Int32) (o : Int32 × sw_M) (h : f_m_grace N  μ a1 a2 a3 = some o) : MetR l D cI cL yX11_grace cX11_grace 5 (some .int) 3 0 0 (fun a => a = ad) ad [.ref 63, .int a1, .int a2, .int a3] lay0 μ ν (some (.int o.1)) lay0 o.2 ν :=
  MetR.of (n := 1) rfl (Nat.le_of_ble_eq_true rfl) (fun G g ho hm _ _ => ok_f_m_grace  g hm  μ ho a1 a2 a3 h)
def f_m_next_84 (N : Nat)  (k_30 : sw_M → Int32 → Int32 → Int32 → Option (Int32 × sw_M)) (μ : sw_M) (x1 : Int32) (x3 : Int32) : Option (Int32 × sw_M) :=
  k_30 μ x1 x3 (x3 + 1)
def f_m_next_30 (N : Nat)   : Nat → sw_M → Int32 → Int32 → Int32 → Option (Int32 × sw_M)
  | 0, _, _, _, _ => none
  | n + 1, μ, x1, x2, x3 =>
    if (μ 63 22) ≤ x3 then
      if x1 = 0 then
        some (x2, μ)
      else
        if x2 = (-1) then
          some (x2, μ)
        else
          inb ((0 : Int32) + x2) 49 (
            inb 48 49 (
              some ((μ 81 ((0 : Int32) + x2).toNatClampNeg) - (μ 81 (48 : Int32).toNatClampNeg), μ)))
    else
      inb ((12 : Int32) + x3) 49 (
        if (μ 81 ((12 : Int32) + x3).toNatClampNeg) = 0 then
          Option.bind (f_m_isLive N  μ x3 0 0) (fun r4 =>
            if r4 = 0 then
              if x2 = (-1) then
                f_m_next_84 N  (f_m_next_30 N   n)  μ x1 x3
              else
                inb ((0 : Int32) + x3) 49 (
                  inb ((0 : Int32) + x2) 49 (
                    if (μ 81 ((0 : Int32) + x2).toNatClampNeg) ≤ (μ 81 ((0 : Int32) + x3).toNatClampNeg) then
                      f_m_next_30 N   n μ x1 x2 (x3 + 1)
                    else
                      f_m_next_84 N  (f_m_next_30 N   n)  μ x1 x3))
            else
              f_m_next_30 N   n μ x1 x2 (x3 + 1))
        else
          f_m_next_30 N   n μ x1 x2 (x3 + 1))
def f_m_next (N : Nat)  (μ : sw_M) (a1 : Int32) : Option (Int32 × sw_M) :=
  wb (wr μ 63 0 0) (fun μ1 =>
    Option.bind (f_sm_within N  μ1 a1 0 1) (fun r2 =>
      Option.bind (f_m_may N  μ1 r2 1 1) (fun r4 =>
        if r4.1 = 0 then
          some (0, r4.2)
        else
          Option.bind (f_m_take N  r4.2 ) (fun r6 =>
            f_m_next_30 N   N r6 a1 (-1) 0))))
set_option maxRecDepth 100000 in
set_option maxHeartbeats 4000000 in
theorem ok_f_m_next_84 {G : sw_G} {ad : Nat → Nat} {ν : sw_N}   {N : Nat} {o : Int32 × sw_M} (g : sw_ok G cX11_next "DeadWiresModel" (some .int) 3 0 0 ad) (hm : G.2.2.1.2.1.maxLocals = 4)  (ho : sw_out G 0 0 (fun a => a = ad) (.inl (some (.int o.1))) lay0 o.2 ν) (k_30 : sw_M → Int32 → Int32 → Int32 → Option (Int32 × sw_M)) (hk_30 : ∀ (μ : sw_M) (x1 : Int32) (x2 : Int32) (x3 : Int32), k_30 μ x1 x2 x3 = some o → SW G ad lay0 ν 0 0 30 [some (.ref 63), some (.int x1), some (.int x2), some (.int x3)] [] μ) (μ : sw_M) (x1 : Int32) (x3 : Int32) (h : f_m_next_84 N  k_30  μ x1 x3 = some o) : SW G ad lay0 ν 0 0 84 [some (.ref 63), some (.int x1), none, some (.int x3)] [] μ := by
  unfold f_m_next_84 at h
  refine SW.iload_n (pc := 84) g (dt dt_X11_next 53 rfl) rfl ?_
  refine SW.istore_n (pc := 85) g (dt dt_X11_next 54 rfl) (sw_ltm hm (Nat.le_of_ble_eq_true rfl)) rfl ?_
  refine SW.iinc (pc := 86) (v := x3 + 1) g (dt dt_X11_next 55 rfl) rfl (kn_1 _) (sw_ltm hm (Nat.le_of_ble_eq_true rfl)) rfl ?_
  refine SW.goto (pc := 89) (t := 30) g (dt dt_X11_next 56 rfl) rfl ?_
  refine SW.msk [true, true, true, true] ?_
  exact hk_30 μ x1 x3 (x3 + 1) h
set_option maxRecDepth 100000 in
set_option maxHeartbeats 4000000 in
theorem ok_f_m_next_30 {G : sw_G} {ad : Nat → Nat} {ν : sw_N}   {N : Nat} {o : Int32 × sw_M} (g : sw_ok G cX11_next "DeadWiresModel" (some .int) 3 0 0 ad) (hm : G.2.2.1.2.1.maxLocals = 4)  (ho : sw_out G 0 0 (fun a => a = ad) (.inl (some (.int o.1))) lay0 o.2 ν)  : ∀ (n : Nat) (μ : sw_M) (x1 : Int32) (x2 : Int32) (x3 : Int32) (h : f_m_next_30 N   n μ x1 x2 x3 = some o), SW G ad lay0 ν 0 0 30 [some (.ref 63), some (.int x1), some (.int x2), some (.int x3)] [] μ := by
  intro n
  induction n with
  | zero => intro μ x1 x2 x3 h; simp only [f_m_next_30] at h; cases h
  | succ n ih =>
    intro μ x1 x2 x3 h
    unfold f_m_next_30 at h
    refine SW.iload_n (pc := 30) g (dt dt_X11_next 20 rfl) rfl ?_
    refine SW.aload_n (pc := 31) g (dt dt_X11_next 21 rfl) rfl ?_
    refine SW.getI (pc := 32) g (dt dt_X11_next 22 rfl) fl_X11_156 cell_63 rfl ?_
    refine SW.icmp_ge (pc := 35) (t := 92) g (dt dt_X11_next 23 rfl) rfl (fun hc => ?_) (fun hc => ?_)
    · have h := iteT hc h
      refine SW.iload_n (pc := 92) g (dt dt_X11_next 57 rfl) rfl ?_
      refine SW.if_eq (pc := 93) (t := 101) g (dt dt_X11_next 58 rfl) rfl (fun hc => ?_) (fun hc => ?_)
      · have h := iteT hc h
        refine SW.iload_n (pc := 101) g (dt dt_X11_next 62 rfl) rfl ?_
        refine SW.goto (pc := 102) (t := 121) g (dt dt_X11_next 63 rfl) rfl ?_
        exact SW.ireturn (pc := 121) g (leafW h ho) rfl (Nat.le_of_ble_eq_true rfl) (Nat.le_of_ble_eq_true rfl) (dt dt_X11_next 75 rfl)
      · have h := iteF hc h
        refine SW.iload_n (pc := 96) g (dt dt_X11_next 59 rfl) rfl ?_
        refine SW.iconst (pc := 97) (v := (-1)) g (dt dt_X11_next 60 rfl) ki_m1 ?_
        refine SW.icmp_ne (pc := 98) (t := 105) g (dt dt_X11_next 61 rfl) rfl (fun hc => ?_) (fun hc => ?_)
        · have h := iteF hc h
          refine SW.aload_n (pc := 105) g (dt dt_X11_next 64 rfl) rfl ?_
          refine SW.getR (pc := 106) g (dt dt_X11_next 65 rfl) fl_X11_68 cell_63 rfl ?_
          refine SW.iconst (pc := 109) (v := 0) g (dt dt_X11_next 66 rfl) ki_0 ?_
          refine SW.iload_n (pc := 110) g (dt dt_X11_next 67 rfl) rfl ?_
          refine SW.iadd (pc := 111) g (dt dt_X11_next 68 rfl) ?_
          obtain ⟨hb1, h⟩ := inbI h
          refine SW.iaload (pc := 112) g (dt dt_X11_next 69 rfl) cell_81 hb1 ?_
          refine SW.aload_n (pc := 113) g (dt dt_X11_next 70 rfl) rfl ?_
          refine SW.getR (pc := 114) g (dt dt_X11_next 71 rfl) fl_X11_68 cell_63 rfl ?_
          refine SW.bipush (pc := 117) (v := 48) g (dt dt_X11_next 72 rfl) kb_48 ?_
          obtain ⟨hb2, h⟩ := inbI h
          refine SW.iaload (pc := 119) g (dt dt_X11_next 73 rfl) cell_81 hb2 ?_
          refine SW.isub (pc := 120) g (dt dt_X11_next 74 rfl) ?_
          exact SW.ireturn (pc := 121) g (leafW h ho) rfl (Nat.le_of_ble_eq_true rfl) (Nat.le_of_ble_eq_true rfl) (dt dt_X11_next 75 rfl)
        · have h := iteT hc h
          refine SW.iload_n (pc := 101) g (dt dt_X11_next 62 rfl) rfl ?_
          refine SW.goto (pc := 102) (t := 121) g (dt dt_X11_next 63 rfl) rfl ?_
          exact SW.ireturn (pc := 121) g (leafW h ho) rfl (Nat.le_of_ble_eq_true rfl) (Nat.le_of_ble_eq_true rfl) (dt dt_X11_next 75 rfl)
    · have h := iteF hc h
      refine SW.aload_n (pc := 38) g (dt dt_X11_next 24 rfl) rfl ?_
      refine SW.getR (pc := 39) g (dt dt_X11_next 25 rfl) fl_X11_68 cell_63 rfl ?_
      refine SW.bipush (pc := 42) (v := 12) g (dt dt_X11_next 26 rfl) kb_12 ?_
      refine SW.iload_n (pc := 44) g (dt dt_X11_next 27 rfl) rfl ?_
      refine SW.iadd (pc := 45) g (dt dt_X11_next 28 rfl) ?_
      obtain ⟨hb3, h⟩ := inbI h
      refine SW.iaload (pc := 46) g (dt dt_X11_next 29 rfl) cell_81 hb3 ?_
      refine SW.if_ne (pc := 47) (t := 86) g (dt dt_X11_next 30 rfl) rfl (fun hc => ?_) (fun hc => ?_)
      · have h := iteF hc h
        refine SW.iinc (pc := 86) (v := x3 + 1) g (dt dt_X11_next 55 rfl) rfl (kn_1 _) (sw_ltm hm (Nat.le_of_ble_eq_true rfl)) rfl ?_
        refine SW.goto (pc := 89) (t := 30) g (dt dt_X11_next 56 rfl) rfl ?_
        refine SW.msk [true, true, true, true] ?_
        exact ih μ x1 x2 (x3 + 1) h
      · have h := iteT hc h
        refine SW.aload_n (pc := 50) g (dt dt_X11_next 31 rfl) rfl ?_
        refine SW.iload_n (pc := 51) g (dt dt_X11_next 32 rfl) rfl ?_
        refine SW.iconst (pc := 52) (v := 0) g (dt dt_X11_next 33 rfl) ki_0 ?_
        refine SW.iconst (pc := 53) (v := 0) g (dt dt_X11_next 34 rfl) ki_0 ?_
        obtain ⟨r4, h5, h⟩ := bindI h
        refine SW.callVi (pc := 54) g (dt dt_X11_next 35 rfl) (mt_f_m_isLive _ _ _ _ ad ν   N μ x3 0 0 r4 h5) me_X11_isLive mv_X11_isLive ml_X11_350 cell_63 rfl rfl (Nat.le_of_ble_eq_true rfl) (Nat.le_of_ble_eq_true rfl) (Nat.le_of_ble_eq_true rfl) (Nat.le_of_ble_eq_true rfl) rfl ?_
        refine SW.if_ne (pc := 57) (t := 86) g (dt dt_X11_next 36 rfl) rfl (fun hc => ?_) (fun hc => ?_)
        · have h := iteF hc h
          refine SW.iinc (pc := 86) (v := x3 + 1) g (dt dt_X11_next 55 rfl) rfl (kn_1 _) (sw_ltm hm (Nat.le_of_ble_eq_true rfl)) rfl ?_
          refine SW.goto (pc := 89) (t := 30) g (dt dt_X11_next 56 rfl) rfl ?_
          refine SW.msk [true, true, true, true] ?_
          exact ih μ x1 x2 (x3 + 1) h
        · have h := iteT hc h
          refine SW.iload_n (pc := 60) g (dt dt_X11_next 37 rfl) rfl ?_
          refine SW.iconst (pc := 61) (v := (-1)) g (dt dt_X11_next 38 rfl) ki_m1 ?_
          refine SW.icmp_eq (pc := 62) (t := 84) g (dt dt_X11_next 39 rfl) rfl (fun hc => ?_) (fun hc => ?_)
          · have h := iteT hc h
            refine SW.msk [true, true, false, true] ?_
            exact ok_f_m_next_84  g hm  ho (f_m_next_30 N   n) ih  μ x1 x3 h
          · have h := iteF hc h
            refine SW.aload_n (pc := 65) g (dt dt_X11_next 40 rfl) rfl ?_
            refine SW.getR (pc := 66) g (dt dt_X11_next 41 rfl) fl_X11_68 cell_63 rfl ?_
            refine SW.iconst (pc := 69) (v := 0) g (dt dt_X11_next 42 rfl) ki_0 ?_
            refine SW.iload_n (pc := 70) g (dt dt_X11_next 43 rfl) rfl ?_
            refine SW.iadd (pc := 71) g (dt dt_X11_next 44 rfl) ?_
            obtain ⟨hb6, h⟩ := inbI h
            refine SW.iaload (pc := 72) g (dt dt_X11_next 45 rfl) cell_81 hb6 ?_
            refine SW.aload_n (pc := 73) g (dt dt_X11_next 46 rfl) rfl ?_
            refine SW.getR (pc := 74) g (dt dt_X11_next 47 rfl) fl_X11_68 cell_63 rfl ?_
            refine SW.iconst (pc := 77) (v := 0) g (dt dt_X11_next 48 rfl) ki_0 ?_
            refine SW.iload_n (pc := 78) g (dt dt_X11_next 49 rfl) rfl ?_
            refine SW.iadd (pc := 79) g (dt dt_X11_next 50 rfl) ?_
            obtain ⟨hb7, h⟩ := inbI h
            refine SW.iaload (pc := 80) g (dt dt_X11_next 51 rfl) cell_81 hb7 ?_
            refine SW.icmp_ge (pc := 81) (t := 86) g (dt dt_X11_next 52 rfl) rfl (fun hc => ?_) (fun hc => ?_)
            · have h := iteT hc h
              refine SW.iinc (pc := 86) (v := x3 + 1) g (dt dt_X11_next 55 rfl) rfl (kn_1 _) (sw_ltm hm (Nat.le_of_ble_eq_true rfl)) rfl ?_
              refine SW.goto (pc := 89) (t := 30) g (dt dt_X11_next 56 rfl) rfl ?_
              refine SW.msk [true, true, true, true] ?_
              exact ih μ x1 x2 (x3 + 1) h
            · have h := iteF hc h
              refine SW.msk [true, true, false, true] ?_
              exact ok_f_m_next_84  g hm  ho (f_m_next_30 N   n) ih  μ x1 x3 h
set_option maxRecDepth 100000 in
set_option maxHeartbeats 4000000 in
theorem ok_f_m_next {G : sw_G} {ad : Nat → Nat} {ν : sw_N}   {N : Nat} {o : Int32 × sw_M} (g : sw_ok G cX11_next "DeadWiresModel" (some .int) 3 0 0 ad) (hm : G.2.2.1.2.1.maxLocals = 4)  (μ : sw_M) (ho : sw_out G 0 0 (fun a => a = ad) (.inl (some (.int o.1))) lay0 o.2 ν) (a1 : Int32) (h : f_m_next N  μ a1 = some o) : SW G ad lay0 ν 0 0 0 [some (.ref 63), some (.int a1), none, none] [] μ := by
  unfold f_m_next at h
  refine SW.aload_n (pc := 0) g (dt dt_X11_next 0 rfl) rfl ?_
  refine SW.iconst (pc := 1) (v := 0) g (dt dt_X11_next 1 rfl) ki_0 ?_
  refine SW.putI (pc := 2) g (dt dt_X11_next 2 rfl) fl_X11_3 cell_63 rfl ?_
  refine SW.genM h (fun μ1 h => ?_)
  refine SW.aload_n (pc := 5) g (dt dt_X11_next 3 rfl) rfl ?_
  refine SW.iload_n (pc := 6) g (dt dt_X11_next 4 rfl) rfl ?_
  refine SW.iconst (pc := 7) (v := 0) g (dt dt_X11_next 5 rfl) ki_0 ?_
  refine SW.iconst (pc := 8) (v := 1) g (dt dt_X11_next 6 rfl) ki_1 ?_
  obtain ⟨r2, h3, h⟩ := bindI h
  refine SW.callSi (pc := 9) g (dt dt_X11_next 7 rfl) (mt_f_sm_within _ _ _ _ ad ν lay0   N μ1 a1 0 1 r2 h3) me_X11_within ms_X11_within ml_X11_374 rfl (Nat.le_of_ble_eq_true rfl) (Nat.le_of_ble_eq_true rfl) (Nat.le_of_ble_eq_true rfl) (Nat.le_of_ble_eq_true rfl) rfl ?_
  refine SW.iconst (pc := 12) (v := 1) g (dt dt_X11_next 8 rfl) ki_1 ?_
  refine SW.iconst (pc := 13) (v := 1) g (dt dt_X11_next 9 rfl) ki_1 ?_
  obtain ⟨r4, h5, h⟩ := bindI h
  refine SW.callVi (pc := 14) g (dt dt_X11_next 10 rfl) (mt_f_m_may _ _ _ _ ad ν   N μ1 r2 1 1 r4 h5) me_X11_may mv_X11_may ml_X11_204 cell_63 rfl rfl (Nat.le_of_ble_eq_true rfl) (Nat.le_of_ble_eq_true rfl) (Nat.le_of_ble_eq_true rfl) (Nat.le_of_ble_eq_true rfl) rfl ?_
  refine SW.if_ne (pc := 17) (t := 22) g (dt dt_X11_next 11 rfl) rfl (fun hc => ?_) (fun hc => ?_)
  · have h := iteF hc h
    refine SW.aload_n (pc := 22) g (dt dt_X11_next 14 rfl) rfl ?_
    obtain ⟨r6, h7, h⟩ := bindI h
    refine SW.callVv (pc := 23) g (dt dt_X11_next 15 rfl) (mt_f_m_take _ _ _ _ ad ν   N r4.2  r6 h7) me_X11_take mv_X11_take ml_X11_305 cell_63 rfl rfl (Nat.le_of_ble_eq_true rfl) (Nat.le_of_ble_eq_true rfl) (Nat.le_of_ble_eq_true rfl) (Nat.le_of_ble_eq_true rfl) rfl ?_
    refine SW.iconst (pc := 26) (v := (-1)) g (dt dt_X11_next 16 rfl) ki_m1 ?_
    refine SW.istore_n (pc := 27) g (dt dt_X11_next 17 rfl) (sw_ltm hm (Nat.le_of_ble_eq_true rfl)) rfl ?_
    refine SW.iconst (pc := 28) (v := 0) g (dt dt_X11_next 18 rfl) ki_0 ?_
    refine SW.istore_n (pc := 29) g (dt dt_X11_next 19 rfl) (sw_ltm hm (Nat.le_of_ble_eq_true rfl)) rfl ?_
    refine SW.msk [true, true, true, true] ?_
    exact ok_f_m_next_30  g hm  ho   N r6 a1 (-1) 0 h
  · have h := iteT hc h
    refine SW.iconst (pc := 20) (v := 0) g (dt dt_X11_next 12 rfl) ki_0 ?_
    exact SW.ireturn (pc := 21) g (leafW h ho) rfl (Nat.le_of_ble_eq_true rfl) (Nat.le_of_ble_eq_true rfl) (dt dt_X11_next 13 rfl)
set_option maxRecDepth 100000 in
set_option maxHeartbeats 4000000 in
theorem mt_f_m_next (l : Launch) (D : va_G) (cI cL : ClassId) (ad : Nat → Nat) (ν : sw_N)    (N : Nat) (μ : sw_M) (a1 : Int32) (o : Int32 × sw_M) (h : f_m_next N  μ a1 = some o) : MetR l D cI cL yX11_next cX11_next 4 (some .int) 3 0 0 (fun a => a = ad) ad [.ref 63, .int a1] lay0 μ ν (some (.int o.1)) lay0 o.2 ν :=
  MetR.of (n := 2) rfl (Nat.le_of_ble_eq_true rfl) (fun G g ho hm _ _ => ok_f_m_next  g hm  μ ho a1 h)
def f_m_harp_52 (N : Nat)  (k_26 : sw_M → Int32 → Int32 → Int32 → Option (Int32 × sw_M)) (μ : sw_M) (x1 : Int32) (x3 : Int32) : Option (Int32 × sw_M) :=
  k_26 μ x1 x3 (x3 + 1)
def f_m_harp_26 (N : Nat)   : Nat → sw_M → Int32 → Int32 → Int32 → Option (Int32 × sw_M)
  | 0, _, _, _, _ => none
  | n + 1, μ, x1, x2, x3 =>
    if (μ 63 21) ≤ x3 then
      if x1 = 0 then
        some (x2, μ)
      else
        if x2 = (-1) then
          some (x2, μ)
        else
          Option.bind (f_m_wiresAt N  μ x2) (fun r1 =>
            some (r1, μ))
    else
      if x2 = (-1) then
        f_m_harp_52 N  (f_m_harp_26 N   n)  μ x1 x3
      else
        Option.bind (f_m_wiresAt N  μ x3) (fun r3 =>
          Option.bind (f_m_wiresAt N  μ x2) (fun r5 =>
            if r3 ≤ r5 then
              f_m_harp_26 N   n μ x1 x2 (x3 + 1)
            else
              f_m_harp_52 N  (f_m_harp_26 N   n)  μ x1 x3))
def f_m_harp (N : Nat)  (μ : sw_M) (a1 : Int32) : Option (Int32 × sw_M) :=
  wb (wr μ 63 0 0) (fun μ1 =>
    Option.bind (f_sm_within N  μ1 a1 0 1) (fun r2 =>
      Option.bind (f_m_may N  μ1 r2 1 1) (fun r4 =>
        if r4.1 = 0 then
          some (0, r4.2)
        else
          f_m_harp_26 N   N r4.2 a1 (-1) 0)))
set_option maxRecDepth 100000 in
set_option maxHeartbeats 4000000 in
theorem ok_f_m_harp_52 {G : sw_G} {ad : Nat → Nat} {ν : sw_N}   {N : Nat} {o : Int32 × sw_M} (g : sw_ok G cX11_harp "DeadWiresModel" (some .int) 3 0 0 ad) (hm : G.2.2.1.2.1.maxLocals = 4)  (ho : sw_out G 0 0 (fun a => a = ad) (.inl (some (.int o.1))) lay0 o.2 ν) (k_26 : sw_M → Int32 → Int32 → Int32 → Option (Int32 × sw_M)) (hk_26 : ∀ (μ : sw_M) (x1 : Int32) (x2 : Int32) (x3 : Int32), k_26 μ x1 x2 x3 = some o → SW G ad lay0 ν 0 0 26 [some (.ref 63), some (.int x1), some (.int x2), some (.int x3)] [] μ) (μ : sw_M) (x1 : Int32) (x3 : Int32) (h : f_m_harp_52 N  k_26  μ x1 x3 = some o) : SW G ad lay0 ν 0 0 52 [some (.ref 63), some (.int x1), none, some (.int x3)] [] μ := by
  unfold f_m_harp_52 at h
  refine SW.iload_n (pc := 52) g (dt dt_X11_harp 32 rfl) rfl ?_
  refine SW.istore_n (pc := 53) g (dt dt_X11_harp 33 rfl) (sw_ltm hm (Nat.le_of_ble_eq_true rfl)) rfl ?_
  refine SW.iinc (pc := 54) (v := x3 + 1) g (dt dt_X11_harp 34 rfl) rfl (kn_1 _) (sw_ltm hm (Nat.le_of_ble_eq_true rfl)) rfl ?_
  refine SW.goto (pc := 57) (t := 26) g (dt dt_X11_harp 35 rfl) rfl ?_
  refine SW.msk [true, true, true, true] ?_
  exact hk_26 μ x1 x3 (x3 + 1) h
set_option maxRecDepth 100000 in
set_option maxHeartbeats 4000000 in
theorem ok_f_m_harp_26 {G : sw_G} {ad : Nat → Nat} {ν : sw_N}   {N : Nat} {o : Int32 × sw_M} (g : sw_ok G cX11_harp "DeadWiresModel" (some .int) 3 0 0 ad) (hm : G.2.2.1.2.1.maxLocals = 4)  (ho : sw_out G 0 0 (fun a => a = ad) (.inl (some (.int o.1))) lay0 o.2 ν)  : ∀ (n : Nat) (μ : sw_M) (x1 : Int32) (x2 : Int32) (x3 : Int32) (h : f_m_harp_26 N   n μ x1 x2 x3 = some o), SW G ad lay0 ν 0 0 26 [some (.ref 63), some (.int x1), some (.int x2), some (.int x3)] [] μ := by
  intro n
  induction n with
  | zero => intro μ x1 x2 x3 h; simp only [f_m_harp_26] at h; cases h
  | succ n ih =>
    intro μ x1 x2 x3 h
    unfold f_m_harp_26 at h
    refine SW.iload_n (pc := 26) g (dt dt_X11_harp 18 rfl) rfl ?_
    refine SW.aload_n (pc := 27) g (dt dt_X11_harp 19 rfl) rfl ?_
    refine SW.getI (pc := 28) g (dt dt_X11_harp 20 rfl) fl_X11_153 cell_63 rfl ?_
    refine SW.icmp_ge (pc := 31) (t := 60) g (dt dt_X11_harp 21 rfl) rfl (fun hc => ?_) (fun hc => ?_)
    · have h := iteT hc h
      refine SW.iload_n (pc := 60) g (dt dt_X11_harp 36 rfl) rfl ?_
      refine SW.if_eq (pc := 61) (t := 69) g (dt dt_X11_harp 37 rfl) rfl (fun hc => ?_) (fun hc => ?_)
      · have h := iteT hc h
        refine SW.iload_n (pc := 69) g (dt dt_X11_harp 41 rfl) rfl ?_
        refine SW.goto (pc := 70) (t := 78) g (dt dt_X11_harp 42 rfl) rfl ?_
        exact SW.ireturn (pc := 78) g (leafW h ho) rfl (Nat.le_of_ble_eq_true rfl) (Nat.le_of_ble_eq_true rfl) (dt dt_X11_harp 46 rfl)
      · have h := iteF hc h
        refine SW.iload_n (pc := 64) g (dt dt_X11_harp 38 rfl) rfl ?_
        refine SW.iconst (pc := 65) (v := (-1)) g (dt dt_X11_harp 39 rfl) ki_m1 ?_
        refine SW.icmp_ne (pc := 66) (t := 73) g (dt dt_X11_harp 40 rfl) rfl (fun hc => ?_) (fun hc => ?_)
        · have h := iteF hc h
          refine SW.aload_n (pc := 73) g (dt dt_X11_harp 43 rfl) rfl ?_
          refine SW.iload_n (pc := 74) g (dt dt_X11_harp 44 rfl) rfl ?_
          obtain ⟨r1, h2, h⟩ := bindI h
          refine SW.callVi (pc := 75) g (dt dt_X11_harp 45 rfl) (mt_f_m_wiresAt _ _ _ _ ad ν   N μ x2 r1 h2) me_X11_wiresAt mv_X11_wiresAt ml_X11_343 cell_63 rfl rfl (Nat.le_of_ble_eq_true rfl) (Nat.le_of_ble_eq_true rfl) (Nat.le_of_ble_eq_true rfl) (Nat.le_of_ble_eq_true rfl) rfl ?_
          exact SW.ireturn (pc := 78) g (leafW h ho) rfl (Nat.le_of_ble_eq_true rfl) (Nat.le_of_ble_eq_true rfl) (dt dt_X11_harp 46 rfl)
        · have h := iteT hc h
          refine SW.iload_n (pc := 69) g (dt dt_X11_harp 41 rfl) rfl ?_
          refine SW.goto (pc := 70) (t := 78) g (dt dt_X11_harp 42 rfl) rfl ?_
          exact SW.ireturn (pc := 78) g (leafW h ho) rfl (Nat.le_of_ble_eq_true rfl) (Nat.le_of_ble_eq_true rfl) (dt dt_X11_harp 46 rfl)
    · have h := iteF hc h
      refine SW.iload_n (pc := 34) g (dt dt_X11_harp 22 rfl) rfl ?_
      refine SW.iconst (pc := 35) (v := (-1)) g (dt dt_X11_harp 23 rfl) ki_m1 ?_
      refine SW.icmp_eq (pc := 36) (t := 52) g (dt dt_X11_harp 24 rfl) rfl (fun hc => ?_) (fun hc => ?_)
      · have h := iteT hc h
        refine SW.msk [true, true, false, true] ?_
        exact ok_f_m_harp_52  g hm  ho (f_m_harp_26 N   n) ih  μ x1 x3 h
      · have h := iteF hc h
        refine SW.aload_n (pc := 39) g (dt dt_X11_harp 25 rfl) rfl ?_
        refine SW.iload_n (pc := 40) g (dt dt_X11_harp 26 rfl) rfl ?_
        obtain ⟨r3, h4, h⟩ := bindI h
        refine SW.callVi (pc := 41) g (dt dt_X11_harp 27 rfl) (mt_f_m_wiresAt _ _ _ _ ad ν   N μ x3 r3 h4) me_X11_wiresAt mv_X11_wiresAt ml_X11_343 cell_63 rfl rfl (Nat.le_of_ble_eq_true rfl) (Nat.le_of_ble_eq_true rfl) (Nat.le_of_ble_eq_true rfl) (Nat.le_of_ble_eq_true rfl) rfl ?_
        refine SW.aload_n (pc := 44) g (dt dt_X11_harp 28 rfl) rfl ?_
        refine SW.iload_n (pc := 45) g (dt dt_X11_harp 29 rfl) rfl ?_
        obtain ⟨r5, h6, h⟩ := bindI h
        refine SW.callVi (pc := 46) g (dt dt_X11_harp 30 rfl) (mt_f_m_wiresAt _ _ _ _ ad ν   N μ x2 r5 h6) me_X11_wiresAt mv_X11_wiresAt ml_X11_343 cell_63 rfl rfl (Nat.le_of_ble_eq_true rfl) (Nat.le_of_ble_eq_true rfl) (Nat.le_of_ble_eq_true rfl) (Nat.le_of_ble_eq_true rfl) rfl ?_
        refine SW.icmp_le (pc := 49) (t := 54) g (dt dt_X11_harp 31 rfl) rfl (fun hc => ?_) (fun hc => ?_)
        · have h := iteT hc h
          refine SW.iinc (pc := 54) (v := x3 + 1) g (dt dt_X11_harp 34 rfl) rfl (kn_1 _) (sw_ltm hm (Nat.le_of_ble_eq_true rfl)) rfl ?_
          refine SW.goto (pc := 57) (t := 26) g (dt dt_X11_harp 35 rfl) rfl ?_
          refine SW.msk [true, true, true, true] ?_
          exact ih μ x1 x2 (x3 + 1) h
        · have h := iteF hc h
          refine SW.msk [true, true, false, true] ?_
          exact ok_f_m_harp_52  g hm  ho (f_m_harp_26 N   n) ih  μ x1 x3 h
set_option maxRecDepth 100000 in
set_option maxHeartbeats 4000000 in
theorem ok_f_m_harp {G : sw_G} {ad : Nat → Nat} {ν : sw_N}   {N : Nat} {o : Int32 × sw_M} (g : sw_ok G cX11_harp "DeadWiresModel" (some .int) 3 0 0 ad) (hm : G.2.2.1.2.1.maxLocals = 4)  (μ : sw_M) (ho : sw_out G 0 0 (fun a => a = ad) (.inl (some (.int o.1))) lay0 o.2 ν) (a1 : Int32) (h : f_m_harp N  μ a1 = some o) : SW G ad lay0 ν 0 0 0 [some (.ref 63), some (.int a1), none, none] [] μ := by
  unfold f_m_harp at h
  refine SW.aload_n (pc := 0) g (dt dt_X11_harp 0 rfl) rfl ?_
  refine SW.iconst (pc := 1) (v := 0) g (dt dt_X11_harp 1 rfl) ki_0 ?_
  refine SW.putI (pc := 2) g (dt dt_X11_harp 2 rfl) fl_X11_3 cell_63 rfl ?_
  refine SW.genM h (fun μ1 h => ?_)
  refine SW.aload_n (pc := 5) g (dt dt_X11_harp 3 rfl) rfl ?_
  refine SW.iload_n (pc := 6) g (dt dt_X11_harp 4 rfl) rfl ?_
  refine SW.iconst (pc := 7) (v := 0) g (dt dt_X11_harp 5 rfl) ki_0 ?_
  refine SW.iconst (pc := 8) (v := 1) g (dt dt_X11_harp 6 rfl) ki_1 ?_
  obtain ⟨r2, h3, h⟩ := bindI h
  refine SW.callSi (pc := 9) g (dt dt_X11_harp 7 rfl) (mt_f_sm_within _ _ _ _ ad ν lay0   N μ1 a1 0 1 r2 h3) me_X11_within ms_X11_within ml_X11_374 rfl (Nat.le_of_ble_eq_true rfl) (Nat.le_of_ble_eq_true rfl) (Nat.le_of_ble_eq_true rfl) (Nat.le_of_ble_eq_true rfl) rfl ?_
  refine SW.iconst (pc := 12) (v := 1) g (dt dt_X11_harp 8 rfl) ki_1 ?_
  refine SW.iconst (pc := 13) (v := 1) g (dt dt_X11_harp 9 rfl) ki_1 ?_
  obtain ⟨r4, h5, h⟩ := bindI h
  refine SW.callVi (pc := 14) g (dt dt_X11_harp 10 rfl) (mt_f_m_may _ _ _ _ ad ν   N μ1 r2 1 1 r4 h5) me_X11_may mv_X11_may ml_X11_204 cell_63 rfl rfl (Nat.le_of_ble_eq_true rfl) (Nat.le_of_ble_eq_true rfl) (Nat.le_of_ble_eq_true rfl) (Nat.le_of_ble_eq_true rfl) rfl ?_
  refine SW.if_ne (pc := 17) (t := 22) g (dt dt_X11_harp 11 rfl) rfl (fun hc => ?_) (fun hc => ?_)
  · have h := iteF hc h
    refine SW.iconst (pc := 22) (v := (-1)) g (dt dt_X11_harp 14 rfl) ki_m1 ?_
    refine SW.istore_n (pc := 23) g (dt dt_X11_harp 15 rfl) (sw_ltm hm (Nat.le_of_ble_eq_true rfl)) rfl ?_
    refine SW.iconst (pc := 24) (v := 0) g (dt dt_X11_harp 16 rfl) ki_0 ?_
    refine SW.istore_n (pc := 25) g (dt dt_X11_harp 17 rfl) (sw_ltm hm (Nat.le_of_ble_eq_true rfl)) rfl ?_
    refine SW.msk [true, true, true, true] ?_
    exact ok_f_m_harp_26  g hm  ho   N r4.2 a1 (-1) 0 h
  · have h := iteT hc h
    refine SW.iconst (pc := 20) (v := 0) g (dt dt_X11_harp 12 rfl) ki_0 ?_
    exact SW.ireturn (pc := 21) g (leafW h ho) rfl (Nat.le_of_ble_eq_true rfl) (Nat.le_of_ble_eq_true rfl) (dt dt_X11_harp 13 rfl)
set_option maxRecDepth 100000 in
set_option maxHeartbeats 4000000 in
theorem mt_f_m_harp (l : Launch) (D : va_G) (cI cL : ClassId) (ad : Nat → Nat) (ν : sw_N)    (N : Nat) (μ : sw_M) (a1 : Int32) (o : Int32 × sw_M) (h : f_m_harp N  μ a1 = some o) : MetR l D cI cL yX11_harp cX11_harp 4 (some .int) 3 0 0 (fun a => a = ad) ad [.ref 63, .int a1] lay0 μ ν (some (.int o.1)) lay0 o.2 ν :=
  MetR.of (n := 2) rfl (Nat.le_of_ble_eq_true rfl) (fun G g ho hm _ _ => ok_f_m_harp  g hm  μ ho a1 h)
def f_m_stuck_73 (N : Nat)  (k_13 : sw_M → Int32 → Int32 → Option (Int32 × sw_M)) (μ : sw_M) (x2 : Int32) (s0 : Int32) (s1 : Int32) : Option (Int32 × sw_M) :=
  ib (s1 ||| s0) (fun y1 =>
    k_13 μ y1 (x2 + 1))
def f_m_stuck_54 (N : Nat)  (k_13 : sw_M → Int32 → Int32 → Option (Int32 × sw_M)) (k_26 : sw_M → Int32 → Int32 → Int32 → Int32 → Option (Int32 × sw_M)) (μ : sw_M) (x1 : Int32) (x2 : Int32) (x4 : Int32) (s0 : Int32) : Option (Int32 × sw_M) :=
  k_26 μ x1 x2 s0 (x4 + 1)
def f_m_stuck_53 (N : Nat)  (k_13 : sw_M → Int32 → Int32 → Option (Int32 × sw_M)) (k_26 : sw_M → Int32 → Int32 → Int32 → Int32 → Option (Int32 × sw_M)) (μ : sw_M) (x1 : Int32) (x2 : Int32) (x4 : Int32) : Option (Int32 × sw_M) :=
  f_m_stuck_54 N  k_13 k_26  μ x1 x2 x4 0
def f_m_stuck_26 (N : Nat)  (k_13 : sw_M → Int32 → Int32 → Option (Int32 × sw_M)) : Nat → sw_M → Int32 → Int32 → Int32 → Int32 → Option (Int32 × sw_M)
  | 0, _, _, _, _, _ => none
  | n + 1, μ, x1, x2, x3, x4 =>
    if (μ 63 22) ≤ x4 then
      if x3 = 0 then
        f_m_stuck_73 N  k_13  μ x2 0 x1
      else
        f_m_stuck_73 N  k_13  μ x2 ((1 : Int32) <<< (x2 &&& 31)) x1
    else
      if x3 = 0 then
        f_m_stuck_53 N  k_13 (f_m_stuck_26 N  k_13 n)  μ x1 x2 x4
      else
        Option.bind (f_m_canCross N  μ x2 x4) (fun r1 =>
          if r1.1 = 0 then
            f_m_stuck_54 N  k_13 (f_m_stuck_26 N  k_13 n)  r1.2 x1 x2 x4 1
          else
            f_m_stuck_53 N  k_13 (f_m_stuck_26 N  k_13 n)  r1.2 x1 x2 x4)
def f_m_stuck_13 (N : Nat)   : Nat → sw_M → Int32 → Int32 → Option (Int32 × sw_M)
  | 0, _, _, _ => none
  | n + 1, μ, x1, x2 =>
    if (μ 63 24) ≤ x2 then
      some (x1, μ)
    else
      f_m_stuck_26 N  (f_m_stuck_13 N   n) N μ x1 x2 1 0
def f_m_stuck (N : Nat)  (μ : sw_M)  : Option (Int32 × sw_M) :=
  wb (wr μ 63 0 0) (fun μ1 =>
    Option.bind (f_m_take N  μ1 ) (fun r2 =>
      f_m_stuck_13 N   N r2 0 0))
set_option maxRecDepth 100000 in
set_option maxHeartbeats 4000000 in
theorem ok_f_m_stuck_73 {G : sw_G} {ad : Nat → Nat} {ν : sw_N}   {N : Nat} {o : Int32 × sw_M} (g : sw_ok G cX11_stuck "DeadWiresModel" (some .int) 7 0 0 ad) (hm : G.2.2.1.2.1.maxLocals = 5)  (ho : sw_out G 0 0 (fun a => a = ad) (.inl (some (.int o.1))) lay0 o.2 ν) (k_13 : sw_M → Int32 → Int32 → Option (Int32 × sw_M)) (hk_13 : ∀ (μ : sw_M) (x1 : Int32) (x2 : Int32), k_13 μ x1 x2 = some o → SW G ad lay0 ν 0 0 13 [some (.ref 63), some (.int x1), some (.int x2), none, none] [] μ) (μ : sw_M) (x2 : Int32) (s0 : Int32) (s1 : Int32) (h : f_m_stuck_73 N  k_13  μ x2 s0 s1 = some o) : SW G ad lay0 ν 0 0 73 [some (.ref 63), none, some (.int x2), none, none] [.int s0, .int s1] μ := by
  unfold f_m_stuck_73 at h
  refine SW.ior (pc := 73) g (dt dt_X11_stuck 42 rfl) ?_
  refine SW.istore_n (pc := 74) g (dt dt_X11_stuck 43 rfl) (sw_ltm hm (Nat.le_of_ble_eq_true rfl)) rfl ?_
  refine SW.genL h (fun y1 h => ?_)
  refine SW.iinc (pc := 75) (v := x2 + 1) g (dt dt_X11_stuck 44 rfl) rfl (kn_1 _) (sw_ltm hm (Nat.le_of_ble_eq_true rfl)) rfl ?_
  refine SW.goto (pc := 78) (t := 13) g (dt dt_X11_stuck 45 rfl) rfl ?_
  refine SW.msk [true, true, true, false, false] ?_
  exact hk_13 μ y1 (x2 + 1) h
set_option maxRecDepth 100000 in
set_option maxHeartbeats 4000000 in
theorem ok_f_m_stuck_54 {G : sw_G} {ad : Nat → Nat} {ν : sw_N}   {N : Nat} {o : Int32 × sw_M} (g : sw_ok G cX11_stuck "DeadWiresModel" (some .int) 7 0 0 ad) (hm : G.2.2.1.2.1.maxLocals = 5)  (ho : sw_out G 0 0 (fun a => a = ad) (.inl (some (.int o.1))) lay0 o.2 ν) (k_13 : sw_M → Int32 → Int32 → Option (Int32 × sw_M)) (k_26 : sw_M → Int32 → Int32 → Int32 → Int32 → Option (Int32 × sw_M)) (hk_13 : ∀ (μ : sw_M) (x1 : Int32) (x2 : Int32), k_13 μ x1 x2 = some o → SW G ad lay0 ν 0 0 13 [some (.ref 63), some (.int x1), some (.int x2), none, none] [] μ) (hk_26 : ∀ (μ : sw_M) (x1 : Int32) (x2 : Int32) (x3 : Int32) (x4 : Int32), k_26 μ x1 x2 x3 x4 = some o → SW G ad lay0 ν 0 0 26 [some (.ref 63), some (.int x1), some (.int x2), some (.int x3), some (.int x4)] [] μ) (μ : sw_M) (x1 : Int32) (x2 : Int32) (x4 : Int32) (s0 : Int32) (h : f_m_stuck_54 N  k_13 k_26  μ x1 x2 x4 s0 = some o) : SW G ad lay0 ν 0 0 54 [some (.ref 63), some (.int x1), some (.int x2), none, some (.int x4)] [.int s0] μ := by
  unfold f_m_stuck_54 at h
  refine SW.istore_n (pc := 54) g (dt dt_X11_stuck 31 rfl) (sw_ltm hm (Nat.le_of_ble_eq_true rfl)) rfl ?_
  refine SW.iinc (pc := 55) (v := x4 + 1) g (dt dt_X11_stuck 32 rfl) rfl (kn_1 _) (sw_ltm hm (Nat.le_of_ble_eq_true rfl)) rfl ?_
  refine SW.goto (pc := 58) (t := 26) g (dt dt_X11_stuck 33 rfl) rfl ?_
  refine SW.msk [true, true, true, true, true] ?_
  exact hk_26 μ x1 x2 s0 (x4 + 1) h
set_option maxRecDepth 100000 in
set_option maxHeartbeats 4000000 in
theorem ok_f_m_stuck_53 {G : sw_G} {ad : Nat → Nat} {ν : sw_N}   {N : Nat} {o : Int32 × sw_M} (g : sw_ok G cX11_stuck "DeadWiresModel" (some .int) 7 0 0 ad) (hm : G.2.2.1.2.1.maxLocals = 5)  (ho : sw_out G 0 0 (fun a => a = ad) (.inl (some (.int o.1))) lay0 o.2 ν) (k_13 : sw_M → Int32 → Int32 → Option (Int32 × sw_M)) (k_26 : sw_M → Int32 → Int32 → Int32 → Int32 → Option (Int32 × sw_M)) (hk_13 : ∀ (μ : sw_M) (x1 : Int32) (x2 : Int32), k_13 μ x1 x2 = some o → SW G ad lay0 ν 0 0 13 [some (.ref 63), some (.int x1), some (.int x2), none, none] [] μ) (hk_26 : ∀ (μ : sw_M) (x1 : Int32) (x2 : Int32) (x3 : Int32) (x4 : Int32), k_26 μ x1 x2 x3 x4 = some o → SW G ad lay0 ν 0 0 26 [some (.ref 63), some (.int x1), some (.int x2), some (.int x3), some (.int x4)] [] μ) (μ : sw_M) (x1 : Int32) (x2 : Int32) (x4 : Int32) (h : f_m_stuck_53 N  k_13 k_26  μ x1 x2 x4 = some o) : SW G ad lay0 ν 0 0 53 [some (.ref 63), some (.int x1), some (.int x2), none, some (.int x4)] [] μ := by
  unfold f_m_stuck_53 at h
  refine SW.iconst (pc := 53) (v := 0) g (dt dt_X11_stuck 30 rfl) ki_0 ?_
  refine SW.msk [true, true, true, false, true] ?_
  exact ok_f_m_stuck_54  g hm  ho k_13 k_26 hk_13 hk_26  μ x1 x2 x4 0 h
set_option maxRecDepth 100000 in
set_option maxHeartbeats 4000000 in
theorem ok_f_m_stuck_26 {G : sw_G} {ad : Nat → Nat} {ν : sw_N}   {N : Nat} {o : Int32 × sw_M} (g : sw_ok G cX11_stuck "DeadWiresModel" (some .int) 7 0 0 ad) (hm : G.2.2.1.2.1.maxLocals = 5)  (ho : sw_out G 0 0 (fun a => a = ad) (.inl (some (.int o.1))) lay0 o.2 ν) (k_13 : sw_M → Int32 → Int32 → Option (Int32 × sw_M)) (hk_13 : ∀ (μ : sw_M) (x1 : Int32) (x2 : Int32), k_13 μ x1 x2 = some o → SW G ad lay0 ν 0 0 13 [some (.ref 63), some (.int x1), some (.int x2), none, none] [] μ) : ∀ (n : Nat) (μ : sw_M) (x1 : Int32) (x2 : Int32) (x3 : Int32) (x4 : Int32) (h : f_m_stuck_26 N  k_13 n μ x1 x2 x3 x4 = some o), SW G ad lay0 ν 0 0 26 [some (.ref 63), some (.int x1), some (.int x2), some (.int x3), some (.int x4)] [] μ := by
  intro n
  induction n with
  | zero => intro μ x1 x2 x3 x4 h; simp only [f_m_stuck_26] at h; cases h
  | succ n ih =>
    intro μ x1 x2 x3 x4 h
    unfold f_m_stuck_26 at h
    refine SW.iload (pc := 26) g (dt dt_X11_stuck 17 rfl) rfl ?_
    refine SW.aload_n (pc := 28) g (dt dt_X11_stuck 18 rfl) rfl ?_
    refine SW.getI (pc := 29) g (dt dt_X11_stuck 19 rfl) fl_X11_156 cell_63 rfl ?_
    refine SW.icmp_ge (pc := 32) (t := 61) g (dt dt_X11_stuck 20 rfl) rfl (fun hc => ?_) (fun hc => ?_)
    · have h := iteT hc h
      refine SW.iload_n (pc := 61) g (dt dt_X11_stuck 34 rfl) rfl ?_
      refine SW.iload_n (pc := 62) g (dt dt_X11_stuck 35 rfl) rfl ?_
      refine SW.if_eq (pc := 63) (t := 72) g (dt dt_X11_stuck 36 rfl) rfl (fun hc => ?_) (fun hc => ?_)
      · have h := iteT hc h
        refine SW.iconst (pc := 72) (v := 0) g (dt dt_X11_stuck 41 rfl) ki_0 ?_
        refine SW.msk [true, false, true, false, false] ?_
        exact ok_f_m_stuck_73  g hm  ho k_13 hk_13  μ x2 0 x1 h
      · have h := iteF hc h
        refine SW.iconst (pc := 66) (v := 1) g (dt dt_X11_stuck 37 rfl) ki_1 ?_
        refine SW.iload_n (pc := 67) g (dt dt_X11_stuck 38 rfl) rfl ?_
        refine SW.ishl (pc := 68) g (dt dt_X11_stuck 39 rfl) ?_
        refine SW.goto (pc := 69) (t := 73) g (dt dt_X11_stuck 40 rfl) rfl ?_
        refine SW.msk [true, false, true, false, false] ?_
        exact ok_f_m_stuck_73  g hm  ho k_13 hk_13  μ x2 ((1 : Int32) <<< (x2 &&& 31)) x1 h
    · have h := iteF hc h
      refine SW.iload_n (pc := 35) g (dt dt_X11_stuck 21 rfl) rfl ?_
      refine SW.if_eq (pc := 36) (t := 53) g (dt dt_X11_stuck 22 rfl) rfl (fun hc => ?_) (fun hc => ?_)
      · have h := iteT hc h
        refine SW.msk [true, true, true, false, true] ?_
        exact ok_f_m_stuck_53  g hm  ho k_13 (f_m_stuck_26 N  k_13 n) hk_13 ih  μ x1 x2 x4 h
      · have h := iteF hc h
        refine SW.aload_n (pc := 39) g (dt dt_X11_stuck 23 rfl) rfl ?_
        refine SW.iload_n (pc := 40) g (dt dt_X11_stuck 24 rfl) rfl ?_
        refine SW.iload (pc := 41) g (dt dt_X11_stuck 25 rfl) rfl ?_
        obtain ⟨r1, h2, h⟩ := bindI h
        refine SW.callVi (pc := 43) g (dt dt_X11_stuck 26 rfl) (mt_f_m_canCross _ _ _ _ ad ν   N μ x2 x4 r1 h2) me_X11_canCross mv_X11_canCross ml_X11_356 cell_63 rfl rfl (Nat.le_of_ble_eq_true rfl) (Nat.le_of_ble_eq_true rfl) (Nat.le_of_ble_eq_true rfl) (Nat.le_of_ble_eq_true rfl) rfl ?_
        refine SW.if_ne (pc := 46) (t := 53) g (dt dt_X11_stuck 27 rfl) rfl (fun hc => ?_) (fun hc => ?_)
        · have h := iteF hc h
          refine SW.msk [true, true, true, false, true] ?_
          exact ok_f_m_stuck_53  g hm  ho k_13 (f_m_stuck_26 N  k_13 n) hk_13 ih  r1.2 x1 x2 x4 h
        · have h := iteT hc h
          refine SW.iconst (pc := 49) (v := 1) g (dt dt_X11_stuck 28 rfl) ki_1 ?_
          refine SW.goto (pc := 50) (t := 54) g (dt dt_X11_stuck 29 rfl) rfl ?_
          refine SW.msk [true, true, true, false, true] ?_
          exact ok_f_m_stuck_54  g hm  ho k_13 (f_m_stuck_26 N  k_13 n) hk_13 ih  r1.2 x1 x2 x4 1 h
set_option maxRecDepth 100000 in
set_option maxHeartbeats 4000000 in
theorem ok_f_m_stuck_13 {G : sw_G} {ad : Nat → Nat} {ν : sw_N}   {N : Nat} {o : Int32 × sw_M} (g : sw_ok G cX11_stuck "DeadWiresModel" (some .int) 7 0 0 ad) (hm : G.2.2.1.2.1.maxLocals = 5)  (ho : sw_out G 0 0 (fun a => a = ad) (.inl (some (.int o.1))) lay0 o.2 ν)  : ∀ (n : Nat) (μ : sw_M) (x1 : Int32) (x2 : Int32) (h : f_m_stuck_13 N   n μ x1 x2 = some o), SW G ad lay0 ν 0 0 13 [some (.ref 63), some (.int x1), some (.int x2), none, none] [] μ := by
  intro n
  induction n with
  | zero => intro μ x1 x2 h; simp only [f_m_stuck_13] at h; cases h
  | succ n ih =>
    intro μ x1 x2 h
    unfold f_m_stuck_13 at h
    refine SW.iload_n (pc := 13) g (dt dt_X11_stuck 9 rfl) rfl ?_
    refine SW.aload_n (pc := 14) g (dt dt_X11_stuck 10 rfl) rfl ?_
    refine SW.getI (pc := 15) g (dt dt_X11_stuck 11 rfl) fl_X11_162 cell_63 rfl ?_
    refine SW.icmp_ge (pc := 18) (t := 81) g (dt dt_X11_stuck 12 rfl) rfl (fun hc => ?_) (fun hc => ?_)
    · have h := iteT hc h
      refine SW.iload_n (pc := 81) g (dt dt_X11_stuck 46 rfl) rfl ?_
      exact SW.ireturn (pc := 82) g (leafW h ho) rfl (Nat.le_of_ble_eq_true rfl) (Nat.le_of_ble_eq_true rfl) (dt dt_X11_stuck 47 rfl)
    · have h := iteF hc h
      refine SW.iconst (pc := 21) (v := 1) g (dt dt_X11_stuck 13 rfl) ki_1 ?_
      refine SW.istore_n (pc := 22) g (dt dt_X11_stuck 14 rfl) (sw_ltm hm (Nat.le_of_ble_eq_true rfl)) rfl ?_
      refine SW.iconst (pc := 23) (v := 0) g (dt dt_X11_stuck 15 rfl) ki_0 ?_
      refine SW.istore (pc := 24) g (dt dt_X11_stuck 16 rfl) (sw_ltm hm (Nat.le_of_ble_eq_true rfl)) rfl ?_
      refine SW.msk [true, true, true, true, true] ?_
      exact ok_f_m_stuck_26  g hm  ho (f_m_stuck_13 N   n) ih N μ x1 x2 1 0 h
set_option maxRecDepth 100000 in
set_option maxHeartbeats 4000000 in
theorem ok_f_m_stuck {G : sw_G} {ad : Nat → Nat} {ν : sw_N}   {N : Nat} {o : Int32 × sw_M} (g : sw_ok G cX11_stuck "DeadWiresModel" (some .int) 7 0 0 ad) (hm : G.2.2.1.2.1.maxLocals = 5)  (μ : sw_M) (ho : sw_out G 0 0 (fun a => a = ad) (.inl (some (.int o.1))) lay0 o.2 ν)  (h : f_m_stuck N  μ  = some o) : SW G ad lay0 ν 0 0 0 [some (.ref 63), none, none, none, none] [] μ := by
  unfold f_m_stuck at h
  refine SW.aload_n (pc := 0) g (dt dt_X11_stuck 0 rfl) rfl ?_
  refine SW.iconst (pc := 1) (v := 0) g (dt dt_X11_stuck 1 rfl) ki_0 ?_
  refine SW.putI (pc := 2) g (dt dt_X11_stuck 2 rfl) fl_X11_3 cell_63 rfl ?_
  refine SW.genM h (fun μ1 h => ?_)
  refine SW.aload_n (pc := 5) g (dt dt_X11_stuck 3 rfl) rfl ?_
  obtain ⟨r2, h3, h⟩ := bindI h
  refine SW.callVv (pc := 6) g (dt dt_X11_stuck 4 rfl) (mt_f_m_take _ _ _ _ ad ν   N μ1  r2 h3) me_X11_take mv_X11_take ml_X11_305 cell_63 rfl rfl (Nat.le_of_ble_eq_true rfl) (Nat.le_of_ble_eq_true rfl) (Nat.le_of_ble_eq_true rfl) (Nat.le_of_ble_eq_true rfl) rfl ?_
  refine SW.iconst (pc := 9) (v := 0) g (dt dt_X11_stuck 5 rfl) ki_0 ?_
  refine SW.istore_n (pc := 10) g (dt dt_X11_stuck 6 rfl) (sw_ltm hm (Nat.le_of_ble_eq_true rfl)) rfl ?_
  refine SW.iconst (pc := 11) (v := 0) g (dt dt_X11_stuck 7 rfl) ki_0 ?_
  refine SW.istore_n (pc := 12) g (dt dt_X11_stuck 8 rfl) (sw_ltm hm (Nat.le_of_ble_eq_true rfl)) rfl ?_
  refine SW.msk [true, true, true, false, false] ?_
  exact ok_f_m_stuck_13  g hm  ho   N r2 0 0 h
set_option maxRecDepth 100000 in
set_option maxHeartbeats 4000000 in
theorem mt_f_m_stuck (l : Launch) (D : va_G) (cI cL : ClassId) (ad : Nat → Nat) (ν : sw_N)    (N : Nat) (μ : sw_M)  (o : Int32 × sw_M) (h : f_m_stuck N  μ  = some o) : MetR l D cI cL yX11_stuck cX11_stuck 5 (some .int) 7 0 0 (fun a => a = ad) ad [.ref 63] lay0 μ ν (some (.int o.1)) lay0 o.2 ν :=
  MetR.of (n := 4) rfl (Nat.le_of_ble_eq_true rfl) (fun G g ho hm _ _ => ok_f_m_stuck  g hm  μ ho  h)
