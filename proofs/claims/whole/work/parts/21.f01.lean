/-! ===== by program (wip/whole/all.py): functions over the memory, and that the machine does just that ===== -/
def f_m_tollNow_24 (N : Nat)   (μ : sw_M) (s0 : Int32) : Option (Int32 × sw_M) :=
  if 0 ≤ s0 then
    if s0 ≤ 40 then
      some (s0, μ)
    else
      some (40, μ)
  else
    some (0, μ)
def f_m_tollNow (N : Nat)  (μ : sw_M)  : Option (Int32 × sw_M) :=
  if (μ 63 31) = 0 then
    inb 0 7 (
      nz 4
        (f_m_tollNow_24 N    μ ((1 : Int32) + ((μ 77 (0 : Int32).toNatClampNeg) / 4))))
  else
    Option.bind (f_m_valueNow N  μ ) (fun r1 =>
      f_m_tollNow_24 N    r1.2 r1.1)
set_option maxRecDepth 100000 in
set_option maxHeartbeats 4000000 in
theorem ok_f_m_tollNow_24 {G : sw_G} {ad : Nat → Nat} {ν : sw_N}   {N : Nat} {o : Int32 × sw_M} (g : sw_ok G cX11_tollNow "DeadWiresModel" (some .int) 3 0 0 ad) (hm : G.2.2.1.2.1.maxLocals = 2)  (ho : sw_out G 0 0 (fun a => a = ad) (.inl (some (.int o.1))) lay0 o.2 ν)  (μ : sw_M) (s0 : Int32) (h : f_m_tollNow_24 N    μ s0 = some o) : SW G ad lay0 ν 0 0 24 [none, none] [.int s0] μ := by
  unfold f_m_tollNow_24 at h
  refine SW.istore_n (pc := 24) g (dt dt_X11_tollNow 14 rfl) (sw_ltm hm (Nat.le_of_ble_eq_true rfl)) rfl ?_
  refine SW.iload_n (pc := 25) g (dt dt_X11_tollNow 15 rfl) rfl ?_
  refine SW.if_ge (pc := 26) (t := 33) g (dt dt_X11_tollNow 16 rfl) rfl (fun hc => ?_) (fun hc => ?_)
  · have h := iteT hc h
    refine SW.iload_n (pc := 33) g (dt dt_X11_tollNow 19 rfl) rfl ?_
    refine SW.bipush (pc := 34) (v := 40) g (dt dt_X11_tollNow 20 rfl) kb_40 ?_
    refine SW.icmp_le (pc := 36) (t := 44) g (dt dt_X11_tollNow 21 rfl) rfl (fun hc => ?_) (fun hc => ?_)
    · have h := iteT hc h
      refine SW.iload_n (pc := 44) g (dt dt_X11_tollNow 24 rfl) rfl ?_
      exact SW.ireturn (pc := 45) g (leafW h ho) rfl (Nat.le_of_ble_eq_true rfl) (Nat.le_of_ble_eq_true rfl) (dt dt_X11_tollNow 25 rfl)
    · have h := iteF hc h
      refine SW.bipush (pc := 39) (v := 40) g (dt dt_X11_tollNow 22 rfl) kb_40 ?_
      refine SW.goto (pc := 41) (t := 45) g (dt dt_X11_tollNow 23 rfl) rfl ?_
      exact SW.ireturn (pc := 45) g (leafW h ho) rfl (Nat.le_of_ble_eq_true rfl) (Nat.le_of_ble_eq_true rfl) (dt dt_X11_tollNow 25 rfl)
  · have h := iteF hc h
    refine SW.iconst (pc := 29) (v := 0) g (dt dt_X11_tollNow 17 rfl) ki_0 ?_
    refine SW.goto (pc := 30) (t := 45) g (dt dt_X11_tollNow 18 rfl) rfl ?_
    exact SW.ireturn (pc := 45) g (leafW h ho) rfl (Nat.le_of_ble_eq_true rfl) (Nat.le_of_ble_eq_true rfl) (dt dt_X11_tollNow 25 rfl)
set_option maxRecDepth 100000 in
set_option maxHeartbeats 4000000 in
theorem ok_f_m_tollNow {G : sw_G} {ad : Nat → Nat} {ν : sw_N}   {N : Nat} {o : Int32 × sw_M} (g : sw_ok G cX11_tollNow "DeadWiresModel" (some .int) 3 0 0 ad) (hm : G.2.2.1.2.1.maxLocals = 2)  (μ : sw_M) (ho : sw_out G 0 0 (fun a => a = ad) (.inl (some (.int o.1))) lay0 o.2 ν)  (h : f_m_tollNow N  μ  = some o) : SW G ad lay0 ν 0 0 0 [some (.ref 63), none] [] μ := by
  unfold f_m_tollNow at h
  refine SW.aload_n (pc := 0) g (dt dt_X11_tollNow 0 rfl) rfl ?_
  refine SW.getI (pc := 1) g (dt dt_X11_tollNow 1 rfl) fl_X11_169 cell_63 rfl ?_
  refine SW.if_ne (pc := 4) (t := 20) g (dt dt_X11_tollNow 2 rfl) rfl (fun hc => ?_) (fun hc => ?_)
  · have h := iteF hc h
    refine SW.aload_n (pc := 20) g (dt dt_X11_tollNow 12 rfl) rfl ?_
    obtain ⟨r1, h2, h⟩ := bindI h
    refine SW.callVi (pc := 21) g (dt dt_X11_tollNow 13 rfl) (mt_f_m_valueNow _ _ _ _ ad ν   N μ  r1 h2) me_X11_valueNow mv_X11_valueNow ml_X11_280 cell_63 rfl rfl (Nat.le_of_ble_eq_true rfl) (Nat.le_of_ble_eq_true rfl) (Nat.le_of_ble_eq_true rfl) (Nat.le_of_ble_eq_true rfl) rfl ?_
    refine SW.msk [false, false] ?_
    exact ok_f_m_tollNow_24  g hm  ho    r1.2 r1.1 h
  · have h := iteT hc h
    refine SW.iconst (pc := 7) (v := 1) g (dt dt_X11_tollNow 3 rfl) ki_1 ?_
    refine SW.aload_n (pc := 8) g (dt dt_X11_tollNow 4 rfl) rfl ?_
    refine SW.getR (pc := 9) g (dt dt_X11_tollNow 5 rfl) fl_X11_56 cell_63 rfl ?_
    refine SW.iconst (pc := 12) (v := 0) g (dt dt_X11_tollNow 6 rfl) ki_0 ?_
    obtain ⟨hb3, h⟩ := inbI h
    refine SW.iaload (pc := 13) g (dt dt_X11_tollNow 7 rfl) cell_77 hb3 ?_
    refine SW.iconst (pc := 14) (v := 4) g (dt dt_X11_tollNow 8 rfl) ki_4 ?_
    obtain ⟨hz4, h⟩ := nzI h
    refine SW.idiv (pc := 15) g (dt dt_X11_tollNow 9 rfl) hz4 ?_
    refine SW.iadd (pc := 16) g (dt dt_X11_tollNow 10 rfl) ?_
    refine SW.goto (pc := 17) (t := 24) g (dt dt_X11_tollNow 11 rfl) rfl ?_
    refine SW.msk [false, false] ?_
    exact ok_f_m_tollNow_24  g hm  ho    μ ((1 : Int32) + ((μ 77 (0 : Int32).toNatClampNeg) / 4)) h
set_option maxRecDepth 100000 in
set_option maxHeartbeats 4000000 in
theorem mt_f_m_tollNow (l : Launch) (D : va_G) (cI cL : ClassId) (ad : Nat → Nat) (ν : sw_N)    (N : Nat) (μ : sw_M)  (o : Int32 × sw_M) (h : f_m_tollNow N  μ  = some o) : MetR l D cI cL yX11_tollNow cX11_tollNow 2 (some .int) 3 0 0 (fun a => a = ad) ad [.ref 63] lay0 μ ν (some (.int o.1)) lay0 o.2 ν :=
  MetR.of (n := 1) rfl (Nat.le_of_ble_eq_true rfl) (fun G g ho hm _ _ => ok_f_m_tollNow  g hm  μ ho  h)
def f_m_tellsStep (N : Nat)  (μ : sw_M) (a1 : Int32) (a2 : Int32) (a3 : Int32) : Option (sw_M) :=
  Option.bind (f_m_fine N  μ ) (fun r1 =>
    if r1 = 0 then
      some μ
    else
      inb (μ 63 35) 150 (wb (wr μ 78 (μ 63 35).toNatClampNeg a1) (fun μ4 =>
        inb ((μ4 63 35) + 1) 150 (wb (wr μ4 78 ((μ4 63 35) + 1).toNatClampNeg a2) (fun μ6 =>
          inb ((μ6 63 35) + 2) 150 (wb (wr μ6 78 ((μ6 63 35) + 2).toNatClampNeg a3) (fun μ8 =>
            wb (wr μ8 63 35 ((μ8 63 35) + 3)) (fun μ9 =>
              some μ9))))))))
set_option maxRecDepth 100000 in
set_option maxHeartbeats 4000000 in
theorem ok_f_m_tellsStep {G : sw_G} {ad : Nat → Nat} {ν : sw_N}   {N : Nat} {o : sw_M} (g : sw_ok G cX11_tellsStep "DeadWiresModel" none 2 0 0 ad) (hm : G.2.2.1.2.1.maxLocals = 4)  (μ : sw_M) (ho : sw_out G 0 0 (fun a => a = ad) (.inl none) lay0 o ν) (a1 : Int32) (a2 : Int32) (a3 : Int32) (h : f_m_tellsStep N  μ a1 a2 a3 = some o) : SW G ad lay0 ν 0 0 0 [some (.ref 63), some (.int a1), some (.int a2), some (.int a3)] [] μ := by
  unfold f_m_tellsStep at h
  refine SW.aload_n (pc := 0) g (dt dt_X11_tellsStep 0 rfl) rfl ?_
  obtain ⟨r1, h2, h⟩ := bindI h
  refine SW.callVi (pc := 1) g (dt dt_X11_tellsStep 1 rfl) (mt_f_m_fine _ _ _ _ ad ν   N μ  r1 h2) me_X11_fine mv_X11_fine ml_X11_124 cell_63 rfl rfl (Nat.le_of_ble_eq_true rfl) (Nat.le_of_ble_eq_true rfl) (Nat.le_of_ble_eq_true rfl) (Nat.le_of_ble_eq_true rfl) rfl ?_
  refine SW.if_ne (pc := 4) (t := 8) g (dt dt_X11_tellsStep 2 rfl) rfl (fun hc => ?_) (fun hc => ?_)
  · have h := iteF hc h
    refine SW.aload_n (pc := 8) g (dt dt_X11_tellsStep 4 rfl) rfl ?_
    refine SW.getR (pc := 9) g (dt dt_X11_tellsStep 5 rfl) fl_X11_59 cell_63 rfl ?_
    refine SW.aload_n (pc := 12) g (dt dt_X11_tellsStep 6 rfl) rfl ?_
    refine SW.getI (pc := 13) g (dt dt_X11_tellsStep 7 rfl) fl_X11_283 cell_63 rfl ?_
    refine SW.iload_n (pc := 16) g (dt dt_X11_tellsStep 8 rfl) rfl ?_
    obtain ⟨hb3, h⟩ := inbI h
    refine SW.iastore (pc := 17) g (dt dt_X11_tellsStep 9 rfl) cell_78 hb3 ?_
    refine SW.genM h (fun μ4 h => ?_)
    refine SW.aload_n (pc := 18) g (dt dt_X11_tellsStep 10 rfl) rfl ?_
    refine SW.getR (pc := 19) g (dt dt_X11_tellsStep 11 rfl) fl_X11_59 cell_63 rfl ?_
    refine SW.aload_n (pc := 22) g (dt dt_X11_tellsStep 12 rfl) rfl ?_
    refine SW.getI (pc := 23) g (dt dt_X11_tellsStep 13 rfl) fl_X11_283 cell_63 rfl ?_
    refine SW.iconst (pc := 26) (v := 1) g (dt dt_X11_tellsStep 14 rfl) ki_1 ?_
    refine SW.iadd (pc := 27) g (dt dt_X11_tellsStep 15 rfl) ?_
    refine SW.iload_n (pc := 28) g (dt dt_X11_tellsStep 16 rfl) rfl ?_
    obtain ⟨hb5, h⟩ := inbI h
    refine SW.iastore (pc := 29) g (dt dt_X11_tellsStep 17 rfl) cell_78 hb5 ?_
    refine SW.genM h (fun μ6 h => ?_)
    refine SW.aload_n (pc := 30) g (dt dt_X11_tellsStep 18 rfl) rfl ?_
    refine SW.getR (pc := 31) g (dt dt_X11_tellsStep 19 rfl) fl_X11_59 cell_63 rfl ?_
    refine SW.aload_n (pc := 34) g (dt dt_X11_tellsStep 20 rfl) rfl ?_
    refine SW.getI (pc := 35) g (dt dt_X11_tellsStep 21 rfl) fl_X11_283 cell_63 rfl ?_
    refine SW.iconst (pc := 38) (v := 2) g (dt dt_X11_tellsStep 22 rfl) ki_2 ?_
    refine SW.iadd (pc := 39) g (dt dt_X11_tellsStep 23 rfl) ?_
    refine SW.iload_n (pc := 40) g (dt dt_X11_tellsStep 24 rfl) rfl ?_
    obtain ⟨hb7, h⟩ := inbI h
    refine SW.iastore (pc := 41) g (dt dt_X11_tellsStep 25 rfl) cell_78 hb7 ?_
    refine SW.genM h (fun μ8 h => ?_)
    refine SW.aload_n (pc := 42) g (dt dt_X11_tellsStep 26 rfl) rfl ?_
    refine SW.dup (pc := 43) g (dt dt_X11_tellsStep 27 rfl) rfl ?_
    refine SW.getI (pc := 44) g (dt dt_X11_tellsStep 28 rfl) fl_X11_283 cell_63 rfl ?_
    refine SW.iconst (pc := 47) (v := 3) g (dt dt_X11_tellsStep 29 rfl) ki_3 ?_
    refine SW.iadd (pc := 48) g (dt dt_X11_tellsStep 30 rfl) ?_
    refine SW.putI (pc := 49) g (dt dt_X11_tellsStep 31 rfl) fl_X11_283 cell_63 rfl ?_
    refine SW.genM h (fun μ9 h => ?_)
    exact SW.vreturn (pc := 52) g (leafV h ho) rfl (Nat.le_of_ble_eq_true rfl) (Nat.le_of_ble_eq_true rfl) (dt dt_X11_tellsStep 32 rfl)
  · have h := iteT hc h
    exact SW.vreturn (pc := 7) g (leafV h ho) rfl (Nat.le_of_ble_eq_true rfl) (Nat.le_of_ble_eq_true rfl) (dt dt_X11_tellsStep 3 rfl)
set_option maxRecDepth 100000 in
set_option maxHeartbeats 4000000 in
theorem mt_f_m_tellsStep (l : Launch) (D : va_G) (cI cL : ClassId) (ad : Nat → Nat) (ν : sw_N)    (N : Nat) (μ : sw_M) (a1 : Int32) (a2 : Int32) (a3 : Int32) (o : sw_M) (h : f_m_tellsStep N  μ a1 a2 a3 = some o) : MetR l D cI cL yX11_tellsStep cX11_tellsStep 4 none 2 0 0 (fun a => a = ad) ad [.ref 63, .int a1, .int a2, .int a3] lay0 μ ν none lay0 o ν :=
  MetR.of (n := 0) rfl (Nat.le_of_ble_eq_true rfl) (fun G g ho hm _ _ => ok_f_m_tellsStep  g hm  μ ho a1 a2 a3 h)
def f_m_readStep_328 (N : Nat) (q_f_m_readStep : sw_M → Option (sw_M))  (μ : sw_M)  : Option (sw_M) :=
  Option.bind (f_m_sign N  μ 59) (fun r1 =>
    some r1)
def f_m_readStep_316 (N : Nat) (q_f_m_readStep : sw_M → Option (sw_M))  (μ : sw_M)  : Option (sw_M) :=
  f_m_readStep_328 N  q_f_m_readStep   μ 
def f_m_readStep_281 (N : Nat) (q_f_m_readStep : sw_M → Option (sw_M))  (μ : sw_M) (x3 : Int32) : Option (sw_M) :=
  Option.bind (f_m_sign N  μ 93) (fun r1 =>
    wb (wr r1 63 7 ((r1 63 7) - 1)) (fun μ3 =>
      Option.bind (f_m_fine N  μ3 ) (fun r4 =>
        if r4 = 0 then
          f_m_readStep_316 N  q_f_m_readStep   μ3 
        else
          inb (x3 + 2) 150 (wb (wr μ3 78 (x3 + 2).toNatClampNeg (μ3 63 35)) (fun μ7 =>
            f_m_readStep_316 N  q_f_m_readStep   μ7 )))))
def f_m_readStep_258 (N : Nat) (q_f_m_readStep : sw_M → Option (sw_M))  : Nat → sw_M → Int32 → Option (sw_M)
  | 0, _, _ => none
  | n + 1, μ, x3 =>
    Option.bind (f_m_fine N  μ ) (fun r1 =>
      if r1 = 0 then
        f_m_readStep_281 N  q_f_m_readStep   μ x3
      else
        Option.bind (f_m_here N  μ ) (fun r3 =>
          if r3.1 = 93 then
            f_m_readStep_281 N  q_f_m_readStep   r3.2 x3
          else
            Option.bind (q_f_m_readStep r3.2 ) (fun r5 =>
              f_m_readStep_258 N  q_f_m_readStep  n r5 x3)))
def f_m_readStep_129 (N : Nat) (q_f_m_readStep : sw_M → Option (sw_M))  (μ : sw_M) (s0 : Int32) (s1 : Int32) (s3 : Int32) (s4 : Int32) : Option (sw_M) :=
  Option.bind (f_m_readNumber N  μ s1 (s0 - 1)) (fun r1 =>
    Option.bind (f_m_tellsStep N  r1.2 s4 s3 r1.1) (fun r3 =>
      f_m_readStep_328 N  q_f_m_readStep   r3 ))
def f_m_readStep_105 (N : Nat) (q_f_m_readStep : sw_M → Option (sw_M))  (μ : sw_M) (x1 : Int32) (x2 : Int32) (s0 : Int32) : Option (sw_M) :=
  Option.bind (f_sm_of N 1 μ ) (fun r1 =>
    if x1 = r1 then
      f_m_readStep_129 N  q_f_m_readStep   μ (μ 63 22) 0 x2 s0
    else
      f_m_readStep_129 N  q_f_m_readStep   μ (μ 63 23) 0 x2 s0)
def f_m_readStep_59 (N : Nat) (q_f_m_readStep : sw_M → Option (sw_M))  (μ : sw_M) (x1 : Int32) : Option (sw_M) :=
  Option.bind (f_m_pass N  μ ) (fun r1 =>
    Option.bind (f_m_readNumber N  r1 0 ((r1 63 24) - 1)) (fun r3 =>
      Option.bind (f_sm_of N 7 r3.2 ) (fun r5 =>
        if x1 = r5 then
          f_m_readStep_105 N  q_f_m_readStep   r3.2 x1 r3.1 0
        else
          Option.bind (f_sm_of N 13 r3.2 ) (fun r7 =>
            if x1 = r7 then
              f_m_readStep_105 N  q_f_m_readStep   r3.2 x1 r3.1 1
            else
              f_m_readStep_105 N  q_f_m_readStep   r3.2 x1 r3.1 2))))
def f_m_readStep_b (N : Nat) (q_f_m_readStep : sw_M → Option (sw_M)) (μ : sw_M)  : Option (sw_M) :=
  Option.bind (f_m_word N  μ ) (fun r1 =>
    Option.bind (f_sm_of N 4 r1.2 ) (fun r3 =>
      if r1.1 = r3 then
        Option.bind (f_m_pass N  r1.2 ) (fun r42 =>
          Option.bind (f_m_tellsStep N  r42 5 0 0) (fun r44 =>
            f_m_readStep_328 N  q_f_m_readStep   r44 ))
      else
        Option.bind (f_sm_of N 7 r1.2 ) (fun r5 =>
          if r1.1 = r5 then
            f_m_readStep_59 N  q_f_m_readStep   r1.2 r1.1
          else
            Option.bind (f_sm_of N 13 r1.2 ) (fun r7 =>
              if r1.1 = r7 then
                f_m_readStep_59 N  q_f_m_readStep   r1.2 r1.1
              else
                Option.bind (f_sm_of N 1 r1.2 ) (fun r9 =>
                  if r1.1 = r9 then
                    f_m_readStep_59 N  q_f_m_readStep   r1.2 r1.1
                  else
                    Option.bind (f_sm_of N 10 r1.2 ) (fun r11 =>
                      if r1.1 = r11 then
                        Option.bind (f_m_pass N  r1.2 ) (fun r34 =>
                          Option.bind (f_m_readNumber N  r34 0 ((r34 63 22) - 1)) (fun r36 =>
                            Option.bind (f_m_readNumber N  r36.2 1 20) (fun r38 =>
                              Option.bind (f_m_tellsStep N  r38.2 3 r36.1 r38.1) (fun r40 =>
                                f_m_readStep_328 N  q_f_m_readStep   r40 ))))
                      else
                        Option.bind (f_sm_of N 2 r1.2 ) (fun r13 =>
                          if r1.1 = r13 then
                            Option.bind (f_m_pass N  r1.2 ) (fun r28 =>
                              Option.bind (f_m_readNumber N  r28 0 ((r28 63 22) - 1)) (fun r30 =>
                                Option.bind (f_m_tellsStep N  r30.2 4 r30.1 0) (fun r32 =>
                                  f_m_readStep_328 N  q_f_m_readStep   r32 )))
                          else
                            Option.bind (f_sm_of N 0 r1.2 ) (fun r15 =>
                              if r1.1 = r15 then
                                Option.bind (f_m_opensOne N  r1.2 5) (fun r19 =>
                                  Option.bind (f_m_readNumber N  r19 0 40) (fun r21 =>
                                    Option.bind (f_m_sign N  r21.2 91) (fun r23 =>
                                      ib (r23 63 35) (fun y25 =>
                                        Option.bind (f_m_tellsStep N  r23 6 r21.1 0) (fun r26 =>
                                          f_m_readStep_258 N  q_f_m_readStep  N r26 y25)))))
                              else
                                Option.bind (f_m_wrong N  r1.2 1 (r1.2 63 4)) (fun r17 =>
                                  f_m_readStep_328 N  q_f_m_readStep   r17 )))))))))
set_option maxRecDepth 100000 in
set_option maxHeartbeats 4000000 in
theorem ok_f_m_readStep_328 {G : sw_G} {ad : Nat → Nat} {ν : sw_N}   {d : Nat} (q_f_m_readStep : sw_M → Option (sw_M)) {N : Nat} {o : sw_M} (g : sw_ok G cX11_readStep "DeadWiresModel" none (6 + (d + 1)) 0 0 ad) (hm : G.2.2.1.2.1.maxLocals = 4) (hq_f_m_readStep : ∀ (l : Launch) (D : va_G) (cI cL : ClassId) (ad : Nat → Nat) (ν : sw_N) (μ : sw_M)  (o : sw_M), q_f_m_readStep μ  = some o → MetR l D cI cL yX11_readStep cX11_readStep 4 none (6 + d) 0 0 (fun a => a = ad) ad [.ref 63] lay0 μ ν none lay0 o ν) (ho : sw_out G 0 0 (fun a => a = ad) (.inl none) lay0 o ν)  (μ : sw_M)  (h : f_m_readStep_328 N  q_f_m_readStep   μ  = some o) : SW G ad lay0 ν 0 0 328 [some (.ref 63), none, none, none] [] μ := by
  unfold f_m_readStep_328 at h
  refine SW.aload_n (pc := 328) g (dt dt_X11_readStep 168 rfl) rfl ?_
  refine SW.bipush (pc := 329) (v := 59) g (dt dt_X11_readStep 169 rfl) kb_59 ?_
  obtain ⟨r1, h2, h⟩ := bindI h
  refine SW.callVv (pc := 331) g (dt dt_X11_readStep 170 rfl) (mt_f_m_sign _ _ _ _ ad ν   N μ 59 r1 h2) me_X11_sign mv_X11_sign ml_X11_230 cell_63 rfl rfl (Nat.le_of_ble_eq_true rfl) (by omega) (Nat.le_of_ble_eq_true rfl) (Nat.le_of_ble_eq_true rfl) rfl ?_
  exact SW.vreturn (pc := 334) g (leafV h ho) rfl (Nat.le_of_ble_eq_true rfl) (Nat.le_of_ble_eq_true rfl) (dt dt_X11_readStep 171 rfl)
set_option maxRecDepth 100000 in
set_option maxHeartbeats 4000000 in
theorem ok_f_m_readStep_316 {G : sw_G} {ad : Nat → Nat} {ν : sw_N}   {d : Nat} (q_f_m_readStep : sw_M → Option (sw_M)) {N : Nat} {o : sw_M} (g : sw_ok G cX11_readStep "DeadWiresModel" none (6 + (d + 1)) 0 0 ad) (hm : G.2.2.1.2.1.maxLocals = 4) (hq_f_m_readStep : ∀ (l : Launch) (D : va_G) (cI cL : ClassId) (ad : Nat → Nat) (ν : sw_N) (μ : sw_M)  (o : sw_M), q_f_m_readStep μ  = some o → MetR l D cI cL yX11_readStep cX11_readStep 4 none (6 + d) 0 0 (fun a => a = ad) ad [.ref 63] lay0 μ ν none lay0 o ν) (ho : sw_out G 0 0 (fun a => a = ad) (.inl none) lay0 o ν)  (μ : sw_M)  (h : f_m_readStep_316 N  q_f_m_readStep   μ  = some o) : SW G ad lay0 ν 0 0 316 [some (.ref 63), none, none, none] [] μ := by
  unfold f_m_readStep_316 at h
  refine SW.goto (pc := 316) (t := 328) g (dt dt_X11_readStep 162 rfl) rfl ?_
  refine SW.msk [true, false, false, false] ?_
  exact ok_f_m_readStep_328  q_f_m_readStep g hm  hq_f_m_readStep ho    μ  h
set_option maxRecDepth 100000 in
set_option maxHeartbeats 4000000 in
theorem ok_f_m_readStep_281 {G : sw_G} {ad : Nat → Nat} {ν : sw_N}   {d : Nat} (q_f_m_readStep : sw_M → Option (sw_M)) {N : Nat} {o : sw_M} (g : sw_ok G cX11_readStep "DeadWiresModel" none (6 + (d + 1)) 0 0 ad) (hm : G.2.2.1.2.1.maxLocals = 4) (hq_f_m_readStep : ∀ (l : Launch) (D : va_G) (cI cL : ClassId) (ad : Nat → Nat) (ν : sw_N) (μ : sw_M)  (o : sw_M), q_f_m_readStep μ  = some o → MetR l D cI cL yX11_readStep cX11_readStep 4 none (6 + d) 0 0 (fun a => a = ad) ad [.ref 63] lay0 μ ν none lay0 o ν) (ho : sw_out G 0 0 (fun a => a = ad) (.inl none) lay0 o ν)  (μ : sw_M) (x3 : Int32) (h : f_m_readStep_281 N  q_f_m_readStep   μ x3 = some o) : SW G ad lay0 ν 0 0 281 [some (.ref 63), none, none, some (.int x3)] [] μ := by
  unfold f_m_readStep_281 at h
  refine SW.aload_n (pc := 281) g (dt dt_X11_readStep 142 rfl) rfl ?_
  refine SW.bipush (pc := 282) (v := 93) g (dt dt_X11_readStep 143 rfl) kb_93 ?_
  obtain ⟨r1, h2, h⟩ := bindI h
  refine SW.callVv (pc := 284) g (dt dt_X11_readStep 144 rfl) (mt_f_m_sign _ _ _ _ ad ν   N μ 93 r1 h2) me_X11_sign mv_X11_sign ml_X11_230 cell_63 rfl rfl (Nat.le_of_ble_eq_true rfl) (by omega) (Nat.le_of_ble_eq_true rfl) (Nat.le_of_ble_eq_true rfl) rfl ?_
  refine SW.aload_n (pc := 287) g (dt dt_X11_readStep 145 rfl) rfl ?_
  refine SW.dup (pc := 288) g (dt dt_X11_readStep 146 rfl) rfl ?_
  refine SW.getI (pc := 289) g (dt dt_X11_readStep 147 rfl) fl_X11_135 cell_63 rfl ?_
  refine SW.iconst (pc := 292) (v := 1) g (dt dt_X11_readStep 148 rfl) ki_1 ?_
  refine SW.isub (pc := 293) g (dt dt_X11_readStep 149 rfl) ?_
  refine SW.putI (pc := 294) g (dt dt_X11_readStep 150 rfl) fl_X11_135 cell_63 rfl ?_
  refine SW.genM h (fun μ3 h => ?_)
  refine SW.aload_n (pc := 297) g (dt dt_X11_readStep 151 rfl) rfl ?_
  obtain ⟨r4, h5, h⟩ := bindI h
  refine SW.callVi (pc := 298) g (dt dt_X11_readStep 152 rfl) (mt_f_m_fine _ _ _ _ ad ν   N μ3  r4 h5) me_X11_fine mv_X11_fine ml_X11_124 cell_63 rfl rfl (Nat.le_of_ble_eq_true rfl) (by omega) (Nat.le_of_ble_eq_true rfl) (Nat.le_of_ble_eq_true rfl) rfl ?_
  refine SW.if_eq (pc := 301) (t := 316) g (dt dt_X11_readStep 153 rfl) rfl (fun hc => ?_) (fun hc => ?_)
  · have h := iteT hc h
    refine SW.msk [true, false, false, false] ?_
    exact ok_f_m_readStep_316  q_f_m_readStep g hm  hq_f_m_readStep ho    μ3  h
  · have h := iteF hc h
    refine SW.aload_n (pc := 304) g (dt dt_X11_readStep 154 rfl) rfl ?_
    refine SW.getR (pc := 305) g (dt dt_X11_readStep 155 rfl) fl_X11_59 cell_63 rfl ?_
    refine SW.iload_n (pc := 308) g (dt dt_X11_readStep 156 rfl) rfl ?_
    refine SW.iconst (pc := 309) (v := 2) g (dt dt_X11_readStep 157 rfl) ki_2 ?_
    refine SW.iadd (pc := 310) g (dt dt_X11_readStep 158 rfl) ?_
    refine SW.aload_n (pc := 311) g (dt dt_X11_readStep 159 rfl) rfl ?_
    refine SW.getI (pc := 312) g (dt dt_X11_readStep 160 rfl) fl_X11_283 cell_63 rfl ?_
    obtain ⟨hb6, h⟩ := inbI h
    refine SW.iastore (pc := 315) g (dt dt_X11_readStep 161 rfl) cell_78 hb6 ?_
    refine SW.genM h (fun μ7 h => ?_)
    refine SW.msk [true, false, false, false] ?_
    exact ok_f_m_readStep_316  q_f_m_readStep g hm  hq_f_m_readStep ho    μ7  h
set_option maxRecDepth 100000 in
set_option maxHeartbeats 4000000 in
theorem ok_f_m_readStep_258 {G : sw_G} {ad : Nat → Nat} {ν : sw_N}   {d : Nat} (q_f_m_readStep : sw_M → Option (sw_M)) {N : Nat} {o : sw_M} (g : sw_ok G cX11_readStep "DeadWiresModel" none (6 + (d + 1)) 0 0 ad) (hm : G.2.2.1.2.1.maxLocals = 4) (hq_f_m_readStep : ∀ (l : Launch) (D : va_G) (cI cL : ClassId) (ad : Nat → Nat) (ν : sw_N) (μ : sw_M)  (o : sw_M), q_f_m_readStep μ  = some o → MetR l D cI cL yX11_readStep cX11_readStep 4 none (6 + d) 0 0 (fun a => a = ad) ad [.ref 63] lay0 μ ν none lay0 o ν) (ho : sw_out G 0 0 (fun a => a = ad) (.inl none) lay0 o ν)  : ∀ (n : Nat) (μ : sw_M) (x3 : Int32) (h : f_m_readStep_258 N  q_f_m_readStep  n μ x3 = some o), SW G ad lay0 ν 0 0 258 [some (.ref 63), none, none, some (.int x3)] [] μ := by
  intro n
  induction n with
  | zero => intro μ x3 h; simp only [f_m_readStep_258] at h; cases h
  | succ n ih =>
    intro μ x3 h
    unfold f_m_readStep_258 at h
    refine SW.aload_n (pc := 258) g (dt dt_X11_readStep 132 rfl) rfl ?_
    obtain ⟨r1, h2, h⟩ := bindI h
    refine SW.callVi (pc := 259) g (dt dt_X11_readStep 133 rfl) (mt_f_m_fine _ _ _ _ ad ν   N μ  r1 h2) me_X11_fine mv_X11_fine ml_X11_124 cell_63 rfl rfl (Nat.le_of_ble_eq_true rfl) (by omega) (Nat.le_of_ble_eq_true rfl) (Nat.le_of_ble_eq_true rfl) rfl ?_
    refine SW.if_eq (pc := 262) (t := 281) g (dt dt_X11_readStep 134 rfl) rfl (fun hc => ?_) (fun hc => ?_)
    · have h := iteT hc h
      refine SW.msk [true, false, false, true] ?_
      exact ok_f_m_readStep_281  q_f_m_readStep g hm  hq_f_m_readStep ho    μ x3 h
    · have h := iteF hc h
      refine SW.aload_n (pc := 265) g (dt dt_X11_readStep 135 rfl) rfl ?_
      obtain ⟨r3, h4, h⟩ := bindI h
      refine SW.callVi (pc := 266) g (dt dt_X11_readStep 136 rfl) (mt_f_m_here _ _ _ _ ad ν   N μ  r3 h4) me_X11_here mv_X11_here ml_X11_107 cell_63 rfl rfl (Nat.le_of_ble_eq_true rfl) (by omega) (Nat.le_of_ble_eq_true rfl) (Nat.le_of_ble_eq_true rfl) rfl ?_
      refine SW.bipush (pc := 269) (v := 93) g (dt dt_X11_readStep 137 rfl) kb_93 ?_
      refine SW.icmp_eq (pc := 271) (t := 281) g (dt dt_X11_readStep 138 rfl) rfl (fun hc => ?_) (fun hc => ?_)
      · have h := iteT hc h
        refine SW.msk [true, false, false, true] ?_
        exact ok_f_m_readStep_281  q_f_m_readStep g hm  hq_f_m_readStep ho    r3.2 x3 h
      · have h := iteF hc h
        refine SW.aload_n (pc := 274) g (dt dt_X11_readStep 139 rfl) rfl ?_
        obtain ⟨r5, h6, h⟩ := bindI h
        refine SW.callVv (pc := 275) g (dt dt_X11_readStep 140 rfl) (hq_f_m_readStep _ _ _ _ ad ν r3.2  r5 h6) me_X11_readStep mv_X11_readStep ml_X11_302 cell_63 rfl rfl (Nat.le_of_ble_eq_true rfl) (by omega) (Nat.le_of_ble_eq_true rfl) (Nat.le_of_ble_eq_true rfl) rfl ?_
        refine SW.goto (pc := 278) (t := 258) g (dt dt_X11_readStep 141 rfl) rfl ?_
        refine SW.msk [true, false, false, true] ?_
        exact ih r5 x3 h
set_option maxRecDepth 100000 in
set_option maxHeartbeats 4000000 in
theorem ok_f_m_readStep_129 {G : sw_G} {ad : Nat → Nat} {ν : sw_N}   {d : Nat} (q_f_m_readStep : sw_M → Option (sw_M)) {N : Nat} {o : sw_M} (g : sw_ok G cX11_readStep "DeadWiresModel" none (6 + (d + 1)) 0 0 ad) (hm : G.2.2.1.2.1.maxLocals = 4) (hq_f_m_readStep : ∀ (l : Launch) (D : va_G) (cI cL : ClassId) (ad : Nat → Nat) (ν : sw_N) (μ : sw_M)  (o : sw_M), q_f_m_readStep μ  = some o → MetR l D cI cL yX11_readStep cX11_readStep 4 none (6 + d) 0 0 (fun a => a = ad) ad [.ref 63] lay0 μ ν none lay0 o ν) (ho : sw_out G 0 0 (fun a => a = ad) (.inl none) lay0 o ν)  (μ : sw_M) (s0 : Int32) (s1 : Int32) (s3 : Int32) (s4 : Int32) (h : f_m_readStep_129 N  q_f_m_readStep   μ s0 s1 s3 s4 = some o) : SW G ad lay0 ν 0 0 129 [some (.ref 63), none, none, none] [.int s0, .int s1, .ref 63, .int s3, .int s4, .ref 63] μ := by
  unfold f_m_readStep_129 at h
  refine SW.iconst (pc := 129) (v := 1) g (dt dt_X11_readStep 63 rfl) ki_1 ?_
  refine SW.isub (pc := 130) g (dt dt_X11_readStep 64 rfl) ?_
  obtain ⟨r1, h2, h⟩ := bindI h
  refine SW.callVi (pc := 131) g (dt dt_X11_readStep 65 rfl) (mt_f_m_readNumber _ _ _ _ ad ν   N μ s1 (s0 - 1) r1 h2) me_X11_readNumber mv_X11_readNumber ml_X11_184 cell_63 rfl rfl (Nat.le_of_ble_eq_true rfl) (by omega) (Nat.le_of_ble_eq_true rfl) (Nat.le_of_ble_eq_true rfl) rfl ?_
  obtain ⟨r3, h4, h⟩ := bindI h
  refine SW.callVv (pc := 134) g (dt dt_X11_readStep 66 rfl) (mt_f_m_tellsStep _ _ _ _ ad ν   N r1.2 s4 s3 r1.1 r3 h4) me_X11_tellsStep mv_X11_tellsStep ml_X11_286 cell_63 rfl rfl (Nat.le_of_ble_eq_true rfl) (by omega) (Nat.le_of_ble_eq_true rfl) (Nat.le_of_ble_eq_true rfl) rfl ?_
  refine SW.goto (pc := 137) (t := 328) g (dt dt_X11_readStep 67 rfl) rfl ?_
  refine SW.msk [true, false, false, false] ?_
  exact ok_f_m_readStep_328  q_f_m_readStep g hm  hq_f_m_readStep ho    r3  h
set_option maxRecDepth 100000 in
set_option maxHeartbeats 4000000 in
theorem ok_f_m_readStep_105 {G : sw_G} {ad : Nat → Nat} {ν : sw_N}   {d : Nat} (q_f_m_readStep : sw_M → Option (sw_M)) {N : Nat} {o : sw_M} (g : sw_ok G cX11_readStep "DeadWiresModel" none (6 + (d + 1)) 0 0 ad) (hm : G.2.2.1.2.1.maxLocals = 4) (hq_f_m_readStep : ∀ (l : Launch) (D : va_G) (cI cL : ClassId) (ad : Nat → Nat) (ν : sw_N) (μ : sw_M)  (o : sw_M), q_f_m_readStep μ  = some o → MetR l D cI cL yX11_readStep cX11_readStep 4 none (6 + d) 0 0 (fun a => a = ad) ad [.ref 63] lay0 μ ν none lay0 o ν) (ho : sw_out G 0 0 (fun a => a = ad) (.inl none) lay0 o ν)  (μ : sw_M) (x1 : Int32) (x2 : Int32) (s0 : Int32) (h : f_m_readStep_105 N  q_f_m_readStep   μ x1 x2 s0 = some o) : SW G ad lay0 ν 0 0 105 [some (.ref 63), some (.int x1), some (.int x2), none] [.int s0, .ref 63] μ := by
  unfold f_m_readStep_105 at h
  refine SW.iload_n (pc := 105) g (dt dt_X11_readStep 51 rfl) rfl ?_
  refine SW.aload_n (pc := 106) g (dt dt_X11_readStep 52 rfl) rfl ?_
  refine SW.iconst (pc := 107) (v := 0) g (dt dt_X11_readStep 53 rfl) ki_0 ?_
  refine SW.iload_n (pc := 108) g (dt dt_X11_readStep 54 rfl) rfl ?_
  refine SW.ldcwS (pc := 109) (j := 1) g (dt dt_X11_readStep 55 rfl) sr_X11_294 rfl ?_
  obtain ⟨r1, h2, h⟩ := bindI h
  refine SW.callSi (pc := 112) g (dt dt_X11_readStep 56 rfl) (mt_f_sm_of _ _ _ _ ad ν lay0 1 (by decide) N μ  r1 h2) me_X11_of ms_X11_of ml_X11_192 rfl (Nat.le_of_ble_eq_true rfl) (by omega) (Nat.le_of_ble_eq_true rfl) (Nat.le_of_ble_eq_true rfl) rfl ?_
  refine SW.icmp_ne (pc := 115) (t := 125) g (dt dt_X11_readStep 57 rfl) rfl (fun hc => ?_) (fun hc => ?_)
  · have h := iteF hc h
    refine SW.aload_n (pc := 125) g (dt dt_X11_readStep 61 rfl) rfl ?_
    refine SW.getI (pc := 126) g (dt dt_X11_readStep 62 rfl) fl_X11_159 cell_63 rfl ?_
    refine SW.msk [true, false, false, false] ?_
    exact ok_f_m_readStep_129  q_f_m_readStep g hm  hq_f_m_readStep ho    μ (μ 63 23) 0 x2 s0 h
  · have h := iteT hc h
    refine SW.aload_n (pc := 118) g (dt dt_X11_readStep 58 rfl) rfl ?_
    refine SW.getI (pc := 119) g (dt dt_X11_readStep 59 rfl) fl_X11_156 cell_63 rfl ?_
    refine SW.goto (pc := 122) (t := 129) g (dt dt_X11_readStep 60 rfl) rfl ?_
    refine SW.msk [true, false, false, false] ?_
    exact ok_f_m_readStep_129  q_f_m_readStep g hm  hq_f_m_readStep ho    μ (μ 63 22) 0 x2 s0 h
set_option maxRecDepth 100000 in
set_option maxHeartbeats 4000000 in
theorem ok_f_m_readStep_59 {G : sw_G} {ad : Nat → Nat} {ν : sw_N}   {d : Nat} (q_f_m_readStep : sw_M → Option (sw_M)) {N : Nat} {o : sw_M} (g : sw_ok G cX11_readStep "DeadWiresModel" none (6 + (d + 1)) 0 0 ad) (hm : G.2.2.1.2.1.maxLocals = 4) (hq_f_m_readStep : ∀ (l : Launch) (D : va_G) (cI cL : ClassId) (ad : Nat → Nat) (ν : sw_N) (μ : sw_M)  (o : sw_M), q_f_m_readStep μ  = some o → MetR l D cI cL yX11_readStep cX11_readStep 4 none (6 + d) 0 0 (fun a => a = ad) ad [.ref 63] lay0 μ ν none lay0 o ν) (ho : sw_out G 0 0 (fun a => a = ad) (.inl none) lay0 o ν)  (μ : sw_M) (x1 : Int32) (h : f_m_readStep_59 N  q_f_m_readStep   μ x1 = some o) : SW G ad lay0 ν 0 0 59 [some (.ref 63), some (.int x1), none, none] [] μ := by
  unfold f_m_readStep_59 at h
  refine SW.aload_n (pc := 59) g (dt dt_X11_readStep 27 rfl) rfl ?_
  obtain ⟨r1, h2, h⟩ := bindI h
  refine SW.callVv (pc := 60) g (dt dt_X11_readStep 28 rfl) (mt_f_m_pass _ _ _ _ ad ν   N μ  r1 h2) me_X11_pass mv_X11_pass ml_X11_224 cell_63 rfl rfl (Nat.le_of_ble_eq_true rfl) (by omega) (Nat.le_of_ble_eq_true rfl) (Nat.le_of_ble_eq_true rfl) rfl ?_
  refine SW.aload_n (pc := 63) g (dt dt_X11_readStep 29 rfl) rfl ?_
  refine SW.iconst (pc := 64) (v := 0) g (dt dt_X11_readStep 30 rfl) ki_0 ?_
  refine SW.aload_n (pc := 65) g (dt dt_X11_readStep 31 rfl) rfl ?_
  refine SW.getI (pc := 66) g (dt dt_X11_readStep 32 rfl) fl_X11_162 cell_63 rfl ?_
  refine SW.iconst (pc := 69) (v := 1) g (dt dt_X11_readStep 33 rfl) ki_1 ?_
  refine SW.isub (pc := 70) g (dt dt_X11_readStep 34 rfl) ?_
  obtain ⟨r3, h4, h⟩ := bindI h
  refine SW.callVi (pc := 71) g (dt dt_X11_readStep 35 rfl) (mt_f_m_readNumber _ _ _ _ ad ν   N r1 0 ((r1 63 24) - 1) r3 h4) me_X11_readNumber mv_X11_readNumber ml_X11_184 cell_63 rfl rfl (Nat.le_of_ble_eq_true rfl) (by omega) (Nat.le_of_ble_eq_true rfl) (Nat.le_of_ble_eq_true rfl) rfl ?_
  refine SW.istore_n (pc := 74) g (dt dt_X11_readStep 36 rfl) (sw_ltm hm (Nat.le_of_ble_eq_true rfl)) rfl ?_
  refine SW.aload_n (pc := 75) g (dt dt_X11_readStep 37 rfl) rfl ?_
  refine SW.iload_n (pc := 76) g (dt dt_X11_readStep 38 rfl) rfl ?_
  refine SW.ldcwS (pc := 77) (j := 7) g (dt dt_X11_readStep 39 rfl) sr_X11_290 rfl ?_
  obtain ⟨r5, h6, h⟩ := bindI h
  refine SW.callSi (pc := 80) g (dt dt_X11_readStep 40 rfl) (mt_f_sm_of _ _ _ _ ad ν lay0 7 (by decide) N r3.2  r5 h6) me_X11_of ms_X11_of ml_X11_192 rfl (Nat.le_of_ble_eq_true rfl) (by omega) (Nat.le_of_ble_eq_true rfl) (Nat.le_of_ble_eq_true rfl) rfl ?_
  refine SW.icmp_ne (pc := 83) (t := 90) g (dt dt_X11_readStep 41 rfl) rfl (fun hc => ?_) (fun hc => ?_)
  · have h := iteF hc h
    refine SW.iload_n (pc := 90) g (dt dt_X11_readStep 44 rfl) rfl ?_
    refine SW.ldcwS (pc := 91) (j := 13) g (dt dt_X11_readStep 45 rfl) sr_X11_292 rfl ?_
    obtain ⟨r7, h8, h⟩ := bindI h
    refine SW.callSi (pc := 94) g (dt dt_X11_readStep 46 rfl) (mt_f_sm_of _ _ _ _ ad ν lay0 13 (by decide) N r3.2  r7 h8) me_X11_of ms_X11_of ml_X11_192 rfl (Nat.le_of_ble_eq_true rfl) (by omega) (Nat.le_of_ble_eq_true rfl) (Nat.le_of_ble_eq_true rfl) rfl ?_
    refine SW.icmp_ne (pc := 97) (t := 104) g (dt dt_X11_readStep 47 rfl) rfl (fun hc => ?_) (fun hc => ?_)
    · have h := iteF hc h
      refine SW.iconst (pc := 104) (v := 2) g (dt dt_X11_readStep 50 rfl) ki_2 ?_
      refine SW.msk [true, true, true, false] ?_
      exact ok_f_m_readStep_105  q_f_m_readStep g hm  hq_f_m_readStep ho    r3.2 x1 r3.1 2 h
    · have h := iteT hc h
      refine SW.iconst (pc := 100) (v := 1) g (dt dt_X11_readStep 48 rfl) ki_1 ?_
      refine SW.goto (pc := 101) (t := 105) g (dt dt_X11_readStep 49 rfl) rfl ?_
      refine SW.msk [true, true, true, false] ?_
      exact ok_f_m_readStep_105  q_f_m_readStep g hm  hq_f_m_readStep ho    r3.2 x1 r3.1 1 h
  · have h := iteT hc h
    refine SW.iconst (pc := 86) (v := 0) g (dt dt_X11_readStep 42 rfl) ki_0 ?_
    refine SW.goto (pc := 87) (t := 105) g (dt dt_X11_readStep 43 rfl) rfl ?_
    refine SW.msk [true, true, true, false] ?_
    exact ok_f_m_readStep_105  q_f_m_readStep g hm  hq_f_m_readStep ho    r3.2 x1 r3.1 0 h
set_option maxRecDepth 100000 in
set_option maxHeartbeats 4000000 in
theorem ok_f_m_readStep_b {G : sw_G} {ad : Nat → Nat} {ν : sw_N}   {d : Nat} (q_f_m_readStep : sw_M → Option (sw_M)) {N : Nat} {o : sw_M} (g : sw_ok G cX11_readStep "DeadWiresModel" none (6 + (d + 1)) 0 0 ad) (hm : G.2.2.1.2.1.maxLocals = 4) (hq_f_m_readStep : ∀ (l : Launch) (D : va_G) (cI cL : ClassId) (ad : Nat → Nat) (ν : sw_N) (μ : sw_M)  (o : sw_M), q_f_m_readStep μ  = some o → MetR l D cI cL yX11_readStep cX11_readStep 4 none (6 + d) 0 0 (fun a => a = ad) ad [.ref 63] lay0 μ ν none lay0 o ν) (μ : sw_M) (ho : sw_out G 0 0 (fun a => a = ad) (.inl none) lay0 o ν)  (h : f_m_readStep_b N  q_f_m_readStep μ  = some o) : SW G ad lay0 ν 0 0 0 [some (.ref 63), none, none, none] [] μ := by
  unfold f_m_readStep_b at h
  refine SW.aload_n (pc := 0) g (dt dt_X11_readStep 0 rfl) rfl ?_
  obtain ⟨r1, h2, h⟩ := bindI h
  refine SW.callVi (pc := 1) g (dt dt_X11_readStep 1 rfl) (mt_f_m_word _ _ _ _ ad ν   N μ  r1 h2) me_X11_word mv_X11_word ml_X11_215 cell_63 rfl rfl (Nat.le_of_ble_eq_true rfl) (by omega) (Nat.le_of_ble_eq_true rfl) (Nat.le_of_ble_eq_true rfl) rfl ?_
  refine SW.istore_n (pc := 4) g (dt dt_X11_readStep 2 rfl) (sw_ltm hm (Nat.le_of_ble_eq_true rfl)) rfl ?_
  refine SW.iload_n (pc := 5) g (dt dt_X11_readStep 3 rfl) rfl ?_
  refine SW.ldcwS (pc := 6) (j := 4) g (dt dt_X11_readStep 4 rfl) sr_X11_263 rfl ?_
  obtain ⟨r3, h4, h⟩ := bindI h
  refine SW.callSi (pc := 9) g (dt dt_X11_readStep 5 rfl) (mt_f_sm_of _ _ _ _ ad ν lay0 4 (by decide) N r1.2  r3 h4) me_X11_of ms_X11_of ml_X11_192 rfl (Nat.le_of_ble_eq_true rfl) (by omega) (Nat.le_of_ble_eq_true rfl) (Nat.le_of_ble_eq_true rfl) rfl ?_
  refine SW.icmp_ne (pc := 12) (t := 29) g (dt dt_X11_readStep 6 rfl) rfl (fun hc => ?_) (fun hc => ?_)
  · have h := iteF hc h
    refine SW.iload_n (pc := 29) g (dt dt_X11_readStep 15 rfl) rfl ?_
    refine SW.ldcwS (pc := 30) (j := 7) g (dt dt_X11_readStep 16 rfl) sr_X11_290 rfl ?_
    obtain ⟨r5, h6, h⟩ := bindI h
    refine SW.callSi (pc := 33) g (dt dt_X11_readStep 17 rfl) (mt_f_sm_of _ _ _ _ ad ν lay0 7 (by decide) N r1.2  r5 h6) me_X11_of ms_X11_of ml_X11_192 rfl (Nat.le_of_ble_eq_true rfl) (by omega) (Nat.le_of_ble_eq_true rfl) (Nat.le_of_ble_eq_true rfl) rfl ?_
    refine SW.icmp_eq (pc := 36) (t := 59) g (dt dt_X11_readStep 18 rfl) rfl (fun hc => ?_) (fun hc => ?_)
    · have h := iteT hc h
      refine SW.msk [true, true, false, false] ?_
      exact ok_f_m_readStep_59  q_f_m_readStep g hm  hq_f_m_readStep ho    r1.2 r1.1 h
    · have h := iteF hc h
      refine SW.iload_n (pc := 39) g (dt dt_X11_readStep 19 rfl) rfl ?_
      refine SW.ldcwS (pc := 40) (j := 13) g (dt dt_X11_readStep 20 rfl) sr_X11_292 rfl ?_
      obtain ⟨r7, h8, h⟩ := bindI h
      refine SW.callSi (pc := 43) g (dt dt_X11_readStep 21 rfl) (mt_f_sm_of _ _ _ _ ad ν lay0 13 (by decide) N r1.2  r7 h8) me_X11_of ms_X11_of ml_X11_192 rfl (Nat.le_of_ble_eq_true rfl) (by omega) (Nat.le_of_ble_eq_true rfl) (Nat.le_of_ble_eq_true rfl) rfl ?_
      refine SW.icmp_eq (pc := 46) (t := 59) g (dt dt_X11_readStep 22 rfl) rfl (fun hc => ?_) (fun hc => ?_)
      · have h := iteT hc h
        refine SW.msk [true, true, false, false] ?_
        exact ok_f_m_readStep_59  q_f_m_readStep g hm  hq_f_m_readStep ho    r1.2 r1.1 h
      · have h := iteF hc h
        refine SW.iload_n (pc := 49) g (dt dt_X11_readStep 23 rfl) rfl ?_
        refine SW.ldcwS (pc := 50) (j := 1) g (dt dt_X11_readStep 24 rfl) sr_X11_294 rfl ?_
        obtain ⟨r9, h10, h⟩ := bindI h
        refine SW.callSi (pc := 53) g (dt dt_X11_readStep 25 rfl) (mt_f_sm_of _ _ _ _ ad ν lay0 1 (by decide) N r1.2  r9 h10) me_X11_of ms_X11_of ml_X11_192 rfl (Nat.le_of_ble_eq_true rfl) (by omega) (Nat.le_of_ble_eq_true rfl) (Nat.le_of_ble_eq_true rfl) rfl ?_
        refine SW.icmp_ne (pc := 56) (t := 140) g (dt dt_X11_readStep 26 rfl) rfl (fun hc => ?_) (fun hc => ?_)
        · have h := iteF hc h
          refine SW.iload_n (pc := 140) g (dt dt_X11_readStep 68 rfl) rfl ?_
          refine SW.ldcwS (pc := 141) (j := 10) g (dt dt_X11_readStep 69 rfl) sr_X11_296 rfl ?_
          obtain ⟨r11, h12, h⟩ := bindI h
          refine SW.callSi (pc := 144) g (dt dt_X11_readStep 70 rfl) (mt_f_sm_of _ _ _ _ ad ν lay0 10 (by decide) N r1.2  r11 h12) me_X11_of ms_X11_of ml_X11_192 rfl (Nat.le_of_ble_eq_true rfl) (by omega) (Nat.le_of_ble_eq_true rfl) (Nat.le_of_ble_eq_true rfl) rfl ?_
          refine SW.icmp_ne (pc := 147) (t := 182) g (dt dt_X11_readStep 71 rfl) rfl (fun hc => ?_) (fun hc => ?_)
          · have h := iteF hc h
            refine SW.iload_n (pc := 182) g (dt dt_X11_readStep 91 rfl) rfl ?_
            refine SW.ldcwS (pc := 183) (j := 2) g (dt dt_X11_readStep 92 rfl) sr_X11_298 rfl ?_
            obtain ⟨r13, h14, h⟩ := bindI h
            refine SW.callSi (pc := 186) g (dt dt_X11_readStep 93 rfl) (mt_f_sm_of _ _ _ _ ad ν lay0 2 (by decide) N r1.2  r13 h14) me_X11_of ms_X11_of ml_X11_192 rfl (Nat.le_of_ble_eq_true rfl) (by omega) (Nat.le_of_ble_eq_true rfl) (Nat.le_of_ble_eq_true rfl) rfl ?_
            refine SW.icmp_ne (pc := 189) (t := 216) g (dt dt_X11_readStep 94 rfl) rfl (fun hc => ?_) (fun hc => ?_)
            · have h := iteF hc h
              refine SW.iload_n (pc := 216) g (dt dt_X11_readStep 109 rfl) rfl ?_
              refine SW.ldcwS (pc := 217) (j := 0) g (dt dt_X11_readStep 110 rfl) sr_X11_300 rfl ?_
              obtain ⟨r15, h16, h⟩ := bindI h
              refine SW.callSi (pc := 220) g (dt dt_X11_readStep 111 rfl) (mt_f_sm_of _ _ _ _ ad ν lay0 0 (by decide) N r1.2  r15 h16) me_X11_of ms_X11_of ml_X11_192 rfl (Nat.le_of_ble_eq_true rfl) (by omega) (Nat.le_of_ble_eq_true rfl) (Nat.le_of_ble_eq_true rfl) rfl ?_
              refine SW.icmp_ne (pc := 223) (t := 319) g (dt dt_X11_readStep 112 rfl) rfl (fun hc => ?_) (fun hc => ?_)
              · have h := iteF hc h
                refine SW.aload_n (pc := 319) g (dt dt_X11_readStep 163 rfl) rfl ?_
                refine SW.iconst (pc := 320) (v := 1) g (dt dt_X11_readStep 164 rfl) ki_1 ?_
                refine SW.aload_n (pc := 321) g (dt dt_X11_readStep 165 rfl) rfl ?_
                refine SW.getI (pc := 322) g (dt dt_X11_readStep 166 rfl) fl_X11_101 cell_63 rfl ?_
                obtain ⟨r17, h18, h⟩ := bindI h
                refine SW.callVv (pc := 325) g (dt dt_X11_readStep 167 rfl) (mt_f_m_wrong _ _ _ _ ad ν   N r1.2 1 (r1.2 63 4) r17 h18) me_X11_wrong mv_X11_wrong ml_X11_131 cell_63 rfl rfl (Nat.le_of_ble_eq_true rfl) (by omega) (Nat.le_of_ble_eq_true rfl) (Nat.le_of_ble_eq_true rfl) rfl ?_
                refine SW.msk [true, false, false, false] ?_
                exact ok_f_m_readStep_328  q_f_m_readStep g hm  hq_f_m_readStep ho    r17  h
              · have h := iteT hc h
                refine SW.aload_n (pc := 226) g (dt dt_X11_readStep 113 rfl) rfl ?_
                refine SW.iconst (pc := 227) (v := 5) g (dt dt_X11_readStep 114 rfl) ki_5 ?_
                obtain ⟨r19, h20, h⟩ := bindI h
                refine SW.callVv (pc := 228) g (dt dt_X11_readStep 115 rfl) (mt_f_m_opensOne _ _ _ _ ad ν   N r1.2 5 r19 h20) me_X11_opensOne mv_X11_opensOne ml_X11_249 cell_63 rfl rfl (Nat.le_of_ble_eq_true rfl) (by omega) (Nat.le_of_ble_eq_true rfl) (Nat.le_of_ble_eq_true rfl) rfl ?_
                refine SW.aload_n (pc := 231) g (dt dt_X11_readStep 116 rfl) rfl ?_
                refine SW.iconst (pc := 232) (v := 0) g (dt dt_X11_readStep 117 rfl) ki_0 ?_
                refine SW.bipush (pc := 233) (v := 40) g (dt dt_X11_readStep 118 rfl) kb_40 ?_
                obtain ⟨r21, h22, h⟩ := bindI h
                refine SW.callVi (pc := 235) g (dt dt_X11_readStep 119 rfl) (mt_f_m_readNumber _ _ _ _ ad ν   N r19 0 40 r21 h22) me_X11_readNumber mv_X11_readNumber ml_X11_184 cell_63 rfl rfl (Nat.le_of_ble_eq_true rfl) (by omega) (Nat.le_of_ble_eq_true rfl) (Nat.le_of_ble_eq_true rfl) rfl ?_
                refine SW.istore_n (pc := 238) g (dt dt_X11_readStep 120 rfl) (sw_ltm hm (Nat.le_of_ble_eq_true rfl)) rfl ?_
                refine SW.aload_n (pc := 239) g (dt dt_X11_readStep 121 rfl) rfl ?_
                refine SW.bipush (pc := 240) (v := 91) g (dt dt_X11_readStep 122 rfl) kb_91 ?_
                obtain ⟨r23, h24, h⟩ := bindI h
                refine SW.callVv (pc := 242) g (dt dt_X11_readStep 123 rfl) (mt_f_m_sign _ _ _ _ ad ν   N r21.2 91 r23 h24) me_X11_sign mv_X11_sign ml_X11_230 cell_63 rfl rfl (Nat.le_of_ble_eq_true rfl) (by omega) (Nat.le_of_ble_eq_true rfl) (Nat.le_of_ble_eq_true rfl) rfl ?_
                refine SW.aload_n (pc := 245) g (dt dt_X11_readStep 124 rfl) rfl ?_
                refine SW.getI (pc := 246) g (dt dt_X11_readStep 125 rfl) fl_X11_283 cell_63 rfl ?_
                refine SW.istore_n (pc := 249) g (dt dt_X11_readStep 126 rfl) (sw_ltm hm (Nat.le_of_ble_eq_true rfl)) rfl ?_
                refine SW.genL h (fun y25 h => ?_)
                refine SW.aload_n (pc := 250) g (dt dt_X11_readStep 127 rfl) rfl ?_
                refine SW.bipush (pc := 251) (v := 6) g (dt dt_X11_readStep 128 rfl) kb_6 ?_
                refine SW.iload_n (pc := 253) g (dt dt_X11_readStep 129 rfl) rfl ?_
                refine SW.iconst (pc := 254) (v := 0) g (dt dt_X11_readStep 130 rfl) ki_0 ?_
                obtain ⟨r26, h27, h⟩ := bindI h
                refine SW.callVv (pc := 255) g (dt dt_X11_readStep 131 rfl) (mt_f_m_tellsStep _ _ _ _ ad ν   N r23 6 r21.1 0 r26 h27) me_X11_tellsStep mv_X11_tellsStep ml_X11_286 cell_63 rfl rfl (Nat.le_of_ble_eq_true rfl) (by omega) (Nat.le_of_ble_eq_true rfl) (Nat.le_of_ble_eq_true rfl) rfl ?_
                refine SW.msk [true, false, false, true] ?_
                exact ok_f_m_readStep_258  q_f_m_readStep g hm  hq_f_m_readStep ho   N r26 y25 h
            · have h := iteT hc h
              refine SW.aload_n (pc := 192) g (dt dt_X11_readStep 95 rfl) rfl ?_
              obtain ⟨r28, h29, h⟩ := bindI h
              refine SW.callVv (pc := 193) g (dt dt_X11_readStep 96 rfl) (mt_f_m_pass _ _ _ _ ad ν   N r1.2  r28 h29) me_X11_pass mv_X11_pass ml_X11_224 cell_63 rfl rfl (Nat.le_of_ble_eq_true rfl) (by omega) (Nat.le_of_ble_eq_true rfl) (Nat.le_of_ble_eq_true rfl) rfl ?_
              refine SW.aload_n (pc := 196) g (dt dt_X11_readStep 97 rfl) rfl ?_
              refine SW.iconst (pc := 197) (v := 4) g (dt dt_X11_readStep 98 rfl) ki_4 ?_
              refine SW.aload_n (pc := 198) g (dt dt_X11_readStep 99 rfl) rfl ?_
              refine SW.iconst (pc := 199) (v := 0) g (dt dt_X11_readStep 100 rfl) ki_0 ?_
              refine SW.aload_n (pc := 200) g (dt dt_X11_readStep 101 rfl) rfl ?_
              refine SW.getI (pc := 201) g (dt dt_X11_readStep 102 rfl) fl_X11_156 cell_63 rfl ?_
              refine SW.iconst (pc := 204) (v := 1) g (dt dt_X11_readStep 103 rfl) ki_1 ?_
              refine SW.isub (pc := 205) g (dt dt_X11_readStep 104 rfl) ?_
              obtain ⟨r30, h31, h⟩ := bindI h
              refine SW.callVi (pc := 206) g (dt dt_X11_readStep 105 rfl) (mt_f_m_readNumber _ _ _ _ ad ν   N r28 0 ((r28 63 22) - 1) r30 h31) me_X11_readNumber mv_X11_readNumber ml_X11_184 cell_63 rfl rfl (Nat.le_of_ble_eq_true rfl) (by omega) (Nat.le_of_ble_eq_true rfl) (Nat.le_of_ble_eq_true rfl) rfl ?_
              refine SW.iconst (pc := 209) (v := 0) g (dt dt_X11_readStep 106 rfl) ki_0 ?_
              obtain ⟨r32, h33, h⟩ := bindI h
              refine SW.callVv (pc := 210) g (dt dt_X11_readStep 107 rfl) (mt_f_m_tellsStep _ _ _ _ ad ν   N r30.2 4 r30.1 0 r32 h33) me_X11_tellsStep mv_X11_tellsStep ml_X11_286 cell_63 rfl rfl (Nat.le_of_ble_eq_true rfl) (by omega) (Nat.le_of_ble_eq_true rfl) (Nat.le_of_ble_eq_true rfl) rfl ?_
              refine SW.goto (pc := 213) (t := 328) g (dt dt_X11_readStep 108 rfl) rfl ?_
              refine SW.msk [true, false, false, false] ?_
              exact ok_f_m_readStep_328  q_f_m_readStep g hm  hq_f_m_readStep ho    r32  h
          · have h := iteT hc h
            refine SW.aload_n (pc := 150) g (dt dt_X11_readStep 72 rfl) rfl ?_
            obtain ⟨r34, h35, h⟩ := bindI h
            refine SW.callVv (pc := 151) g (dt dt_X11_readStep 73 rfl) (mt_f_m_pass _ _ _ _ ad ν   N r1.2  r34 h35) me_X11_pass mv_X11_pass ml_X11_224 cell_63 rfl rfl (Nat.le_of_ble_eq_true rfl) (by omega) (Nat.le_of_ble_eq_true rfl) (Nat.le_of_ble_eq_true rfl) rfl ?_
            refine SW.aload_n (pc := 154) g (dt dt_X11_readStep 74 rfl) rfl ?_
            refine SW.iconst (pc := 155) (v := 0) g (dt dt_X11_readStep 75 rfl) ki_0 ?_
            refine SW.aload_n (pc := 156) g (dt dt_X11_readStep 76 rfl) rfl ?_
            refine SW.getI (pc := 157) g (dt dt_X11_readStep 77 rfl) fl_X11_156 cell_63 rfl ?_
            refine SW.iconst (pc := 160) (v := 1) g (dt dt_X11_readStep 78 rfl) ki_1 ?_
            refine SW.isub (pc := 161) g (dt dt_X11_readStep 79 rfl) ?_
            obtain ⟨r36, h37, h⟩ := bindI h
            refine SW.callVi (pc := 162) g (dt dt_X11_readStep 80 rfl) (mt_f_m_readNumber _ _ _ _ ad ν   N r34 0 ((r34 63 22) - 1) r36 h37) me_X11_readNumber mv_X11_readNumber ml_X11_184 cell_63 rfl rfl (Nat.le_of_ble_eq_true rfl) (by omega) (Nat.le_of_ble_eq_true rfl) (Nat.le_of_ble_eq_true rfl) rfl ?_
            refine SW.istore_n (pc := 165) g (dt dt_X11_readStep 81 rfl) (sw_ltm hm (Nat.le_of_ble_eq_true rfl)) rfl ?_
            refine SW.aload_n (pc := 166) g (dt dt_X11_readStep 82 rfl) rfl ?_
            refine SW.iconst (pc := 167) (v := 3) g (dt dt_X11_readStep 83 rfl) ki_3 ?_
            refine SW.iload_n (pc := 168) g (dt dt_X11_readStep 84 rfl) rfl ?_
            refine SW.aload_n (pc := 169) g (dt dt_X11_readStep 85 rfl) rfl ?_
            refine SW.iconst (pc := 170) (v := 1) g (dt dt_X11_readStep 86 rfl) ki_1 ?_
            refine SW.bipush (pc := 171) (v := 20) g (dt dt_X11_readStep 87 rfl) kb_20 ?_
            obtain ⟨r38, h39, h⟩ := bindI h
            refine SW.callVi (pc := 173) g (dt dt_X11_readStep 88 rfl) (mt_f_m_readNumber _ _ _ _ ad ν   N r36.2 1 20 r38 h39) me_X11_readNumber mv_X11_readNumber ml_X11_184 cell_63 rfl rfl (Nat.le_of_ble_eq_true rfl) (by omega) (Nat.le_of_ble_eq_true rfl) (Nat.le_of_ble_eq_true rfl) rfl ?_
            obtain ⟨r40, h41, h⟩ := bindI h
            refine SW.callVv (pc := 176) g (dt dt_X11_readStep 89 rfl) (mt_f_m_tellsStep _ _ _ _ ad ν   N r38.2 3 r36.1 r38.1 r40 h41) me_X11_tellsStep mv_X11_tellsStep ml_X11_286 cell_63 rfl rfl (Nat.le_of_ble_eq_true rfl) (by omega) (Nat.le_of_ble_eq_true rfl) (Nat.le_of_ble_eq_true rfl) rfl ?_
            refine SW.goto (pc := 179) (t := 328) g (dt dt_X11_readStep 90 rfl) rfl ?_
            refine SW.msk [true, false, false, false] ?_
            exact ok_f_m_readStep_328  q_f_m_readStep g hm  hq_f_m_readStep ho    r40  h
        · have h := iteT hc h
          refine SW.msk [true, true, false, false] ?_
          exact ok_f_m_readStep_59  q_f_m_readStep g hm  hq_f_m_readStep ho    r1.2 r1.1 h
  · have h := iteT hc h
    refine SW.aload_n (pc := 15) g (dt dt_X11_readStep 7 rfl) rfl ?_
    obtain ⟨r42, h43, h⟩ := bindI h
    refine SW.callVv (pc := 16) g (dt dt_X11_readStep 8 rfl) (mt_f_m_pass _ _ _ _ ad ν   N r1.2  r42 h43) me_X11_pass mv_X11_pass ml_X11_224 cell_63 rfl rfl (Nat.le_of_ble_eq_true rfl) (by omega) (Nat.le_of_ble_eq_true rfl) (Nat.le_of_ble_eq_true rfl) rfl ?_
    refine SW.aload_n (pc := 19) g (dt dt_X11_readStep 9 rfl) rfl ?_
    refine SW.iconst (pc := 20) (v := 5) g (dt dt_X11_readStep 10 rfl) ki_5 ?_
    refine SW.iconst (pc := 21) (v := 0) g (dt dt_X11_readStep 11 rfl) ki_0 ?_
    refine SW.iconst (pc := 22) (v := 0) g (dt dt_X11_readStep 12 rfl) ki_0 ?_
    obtain ⟨r44, h45, h⟩ := bindI h
    refine SW.callVv (pc := 23) g (dt dt_X11_readStep 13 rfl) (mt_f_m_tellsStep _ _ _ _ ad ν   N r42 5 0 0 r44 h45) me_X11_tellsStep mv_X11_tellsStep ml_X11_286 cell_63 rfl rfl (Nat.le_of_ble_eq_true rfl) (by omega) (Nat.le_of_ble_eq_true rfl) (Nat.le_of_ble_eq_true rfl) rfl ?_
    refine SW.goto (pc := 26) (t := 328) g (dt dt_X11_readStep 14 rfl) rfl ?_
    refine SW.msk [true, false, false, false] ?_
    exact ok_f_m_readStep_328  q_f_m_readStep g hm  hq_f_m_readStep ho    r44  h
set_option maxRecDepth 100000 in
set_option maxHeartbeats 4000000 in
theorem mtb_f_m_readStep (l : Launch) (D : va_G) (cI cL : ClassId) (ad : Nat → Nat) (ν : sw_N)   {d : Nat} (q_f_m_readStep : sw_M → Option (sw_M)) (hq_f_m_readStep : ∀ (l : Launch) (D : va_G) (cI cL : ClassId) (ad : Nat → Nat) (ν : sw_N) (μ : sw_M)  (o : sw_M), q_f_m_readStep μ  = some o → MetR l D cI cL yX11_readStep cX11_readStep 4 none (6 + d) 0 0 (fun a => a = ad) ad [.ref 63] lay0 μ ν none lay0 o ν) (N : Nat) (μ : sw_M)  (o : sw_M) (h : f_m_readStep_b N  q_f_m_readStep μ  = some o) : MetR l D cI cL yX11_readStep cX11_readStep 4 none (6 + (d + 1)) 0 0 (fun a => a = ad) ad [.ref 63] lay0 μ ν none lay0 o ν :=
  MetR.of (n := 3) rfl (Nat.le_of_ble_eq_true rfl) (fun G g ho hm _ _ => ok_f_m_readStep_b  q_f_m_readStep g hm  hq_f_m_readStep μ ho  h)
def grp_m_readStep (N : Nat) : Nat → (sw_M → Option (sw_M))
  | 0 => fun _ => none
  | d + 1 => f_m_readStep_b N ((grp_m_readStep N d))
def f_m_readStep (N : Nat) (μ : sw_M)  : Option (sw_M) := (grp_m_readStep N 40) μ 
set_option maxRecDepth 100000 in
set_option maxHeartbeats 4000000 in
theorem ok_grp_m_readStep (N : Nat) : ∀ d : Nat, (∀ (l : Launch) (D : va_G) (cI cL : ClassId) (ad : Nat → Nat) (ν : sw_N) (μ : sw_M)  (o : sw_M), (grp_m_readStep N d) μ  = some o → MetR l D cI cL yX11_readStep cX11_readStep 4 none (6 + d) 0 0 (fun a => a = ad) ad [.ref 63] lay0 μ ν none lay0 o ν) := by
  intro d
  induction d with
  | zero => exact (fun l D cI cL ad ν μ  o h => nomatch h)
  | succ d ih => exact fun l D cI cL ad ν μ  o h => mtb_f_m_readStep l D cI cL ad ν ((grp_m_readStep N d)) (ih) N μ  o h
set_option maxRecDepth 100000 in
set_option maxHeartbeats 4000000 in
theorem mt_f_m_readStep (l : Launch) (D : va_G) (cI cL : ClassId) (ad : Nat → Nat) (ν : sw_N) (N : Nat) (μ : sw_M)  (o : sw_M) (h : f_m_readStep N μ  = some o) : MetR l D cI cL yX11_readStep cX11_readStep 4 none 46 0 0 (fun a => a = ad) ad [.ref 63] lay0 μ ν none lay0 o ν := (ok_grp_m_readStep N 40) l D cI cL ad ν μ  o h
def f_m_take (N : Nat)  (μ : sw_M)  : Option (sw_M) :=
  Option.bind (f_m_copies N 80 49 81 49 μ 49) (fun r1 =>
    some r1)
set_option maxRecDepth 100000 in
set_option maxHeartbeats 4000000 in
theorem ok_f_m_take {G : sw_G} {ad : Nat → Nat} {ν : sw_N}   {N : Nat} {o : sw_M} (g : sw_ok G cX11_take "DeadWiresModel" none 2 0 0 ad) (hm : G.2.2.1.2.1.maxLocals = 1)  (μ : sw_M) (ho : sw_out G 0 0 (fun a => a = ad) (.inl none) lay0 o ν)  (h : f_m_take N  μ  = some o) : SW G ad lay0 ν 0 0 0 [some (.ref 63)] [] μ := by
  unfold f_m_take at h
  refine SW.aload_n (pc := 0) g (dt dt_X11_take 0 rfl) rfl ?_
  refine SW.aload_n (pc := 1) g (dt dt_X11_take 1 rfl) rfl ?_
  refine SW.getR (pc := 2) g (dt dt_X11_take 2 rfl) fl_X11_65 cell_63 rfl ?_
  refine SW.aload_n (pc := 5) g (dt dt_X11_take 3 rfl) rfl ?_
  refine SW.getR (pc := 6) g (dt dt_X11_take 4 rfl) fl_X11_68 cell_63 rfl ?_
  refine SW.bipush (pc := 9) (v := 49) g (dt dt_X11_take 5 rfl) kb_49 ?_
  obtain ⟨r1, h2, h⟩ := bindI h
  refine SW.callVv (pc := 11) g (dt dt_X11_take 6 rfl) (mt_f_m_copies _ _ _ _ ad ν 80 49 81 49 cell_80 cell_81 N μ 49 r1 h2) me_X11_copies mv_X11_copies ml_X11_165 cell_63 rfl rfl (Nat.le_of_ble_eq_true rfl) (Nat.le_of_ble_eq_true rfl) (Nat.le_of_ble_eq_true rfl) (Nat.le_of_ble_eq_true rfl) rfl ?_
  exact SW.vreturn (pc := 14) g (leafV h ho) rfl (Nat.le_of_ble_eq_true rfl) (Nat.le_of_ble_eq_true rfl) (dt dt_X11_take 7 rfl)
set_option maxRecDepth 100000 in
set_option maxHeartbeats 4000000 in
theorem mt_f_m_take (l : Launch) (D : va_G) (cI cL : ClassId) (ad : Nat → Nat) (ν : sw_N)    (N : Nat) (μ : sw_M)  (o : sw_M) (h : f_m_take N  μ  = some o) : MetR l D cI cL yX11_take cX11_take 1 none 2 0 0 (fun a => a = ad) ad [.ref 63] lay0 μ ν none lay0 o ν :=
  MetR.of (n := 0) rfl (Nat.le_of_ble_eq_true rfl) (fun G g ho hm _ _ => ok_f_m_take  g hm  μ ho  h)
def f_m_goesOn_46 (N : Nat)  (k_2 : sw_M → Int32 → Option (sw_M)) (μ : sw_M) (x1 : Int32) (s0 : Int32) (s1 : Int32) : Option (sw_M) :=
  inb s1 49 (wb (wr μ 81 s1.toNatClampNeg s0) (fun μ2 =>
    k_2 μ2 (x1 + 1)))
def f_m_goesOn_2 (N : Nat)   : Nat → sw_M → Int32 → Option (sw_M)
  | 0, _, _ => none
  | n + 1, μ, x1 =>
    if (μ 63 24) ≤ x1 then
      inb 48 49 (
        inb 48 49 (wb (wr μ 81 (48 : Int32).toNatClampNeg ((μ 81 (48 : Int32).toNatClampNeg) + 1)) (fun μ3 =>
          some μ3)))
    else
      inb ((41 : Int32) + x1) 49 (
        if 5 ≤ (μ 81 ((41 : Int32) + x1).toNatClampNeg) then
          inb ((41 : Int32) + x1) 49 (
            f_m_goesOn_46 N  (f_m_goesOn_2 N   n)  μ x1 ((μ 81 ((41 : Int32) + x1).toNatClampNeg) - 5) ((41 : Int32) + x1))
        else
          f_m_goesOn_46 N  (f_m_goesOn_2 N   n)  μ x1 0 ((41 : Int32) + x1))
def f_m_goesOn (N : Nat)  (μ : sw_M)  : Option (sw_M) :=
  f_m_goesOn_2 N   N μ 0
set_option maxRecDepth 100000 in
set_option maxHeartbeats 4000000 in
theorem ok_f_m_goesOn_46 {G : sw_G} {ad : Nat → Nat} {ν : sw_N}   {N : Nat} {o : sw_M} (g : sw_ok G cX11_goesOn "DeadWiresModel" none 1 0 0 ad) (hm : G.2.2.1.2.1.maxLocals = 2)  (ho : sw_out G 0 0 (fun a => a = ad) (.inl none) lay0 o ν) (k_2 : sw_M → Int32 → Option (sw_M)) (hk_2 : ∀ (μ : sw_M) (x1 : Int32), k_2 μ x1 = some o → SW G ad lay0 ν 0 0 2 [some (.ref 63), some (.int x1)] [] μ) (μ : sw_M) (x1 : Int32) (s0 : Int32) (s1 : Int32) (h : f_m_goesOn_46 N  k_2  μ x1 s0 s1 = some o) : SW G ad lay0 ν 0 0 46 [some (.ref 63), some (.int x1)] [.int s0, .int s1, .ref 81] μ := by
  unfold f_m_goesOn_46 at h
  obtain ⟨hb1, h⟩ := inbI h
  refine SW.iastore (pc := 46) g (dt dt_X11_goesOn 29 rfl) cell_81 hb1 ?_
  refine SW.genM h (fun μ2 h => ?_)
  refine SW.iinc (pc := 47) (v := x1 + 1) g (dt dt_X11_goesOn 30 rfl) rfl (kn_1 _) (sw_ltm hm (Nat.le_of_ble_eq_true rfl)) rfl ?_
  refine SW.goto (pc := 50) (t := 2) g (dt dt_X11_goesOn 31 rfl) rfl ?_
  refine SW.msk [true, true] ?_
  exact hk_2 μ2 (x1 + 1) h
set_option maxRecDepth 100000 in
set_option maxHeartbeats 4000000 in
theorem ok_f_m_goesOn_2 {G : sw_G} {ad : Nat → Nat} {ν : sw_N}   {N : Nat} {o : sw_M} (g : sw_ok G cX11_goesOn "DeadWiresModel" none 1 0 0 ad) (hm : G.2.2.1.2.1.maxLocals = 2)  (ho : sw_out G 0 0 (fun a => a = ad) (.inl none) lay0 o ν)  : ∀ (n : Nat) (μ : sw_M) (x1 : Int32) (h : f_m_goesOn_2 N   n μ x1 = some o), SW G ad lay0 ν 0 0 2 [some (.ref 63), some (.int x1)] [] μ := by
  intro n
  induction n with
  | zero => intro μ x1 h; simp only [f_m_goesOn_2] at h; cases h
  | succ n ih =>
    intro μ x1 h
    unfold f_m_goesOn_2 at h
    refine SW.iload_n (pc := 2) g (dt dt_X11_goesOn 2 rfl) rfl ?_
    refine SW.aload_n (pc := 3) g (dt dt_X11_goesOn 3 rfl) rfl ?_
    refine SW.getI (pc := 4) g (dt dt_X11_goesOn 4 rfl) fl_X11_162 cell_63 rfl ?_
    refine SW.icmp_ge (pc := 7) (t := 53) g (dt dt_X11_goesOn 5 rfl) rfl (fun hc => ?_) (fun hc => ?_)
    · have h := iteT hc h
      refine SW.aload_n (pc := 53) g (dt dt_X11_goesOn 32 rfl) rfl ?_
      refine SW.getR (pc := 54) g (dt dt_X11_goesOn 33 rfl) fl_X11_68 cell_63 rfl ?_
      refine SW.bipush (pc := 57) (v := 48) g (dt dt_X11_goesOn 34 rfl) kb_48 ?_
      refine SW.dup2 (pc := 59) g (dt dt_X11_goesOn 35 rfl) rfl rfl ?_
      obtain ⟨hb1, h⟩ := inbI h
      refine SW.iaload (pc := 60) g (dt dt_X11_goesOn 36 rfl) cell_81 hb1 ?_
      refine SW.iconst (pc := 61) (v := 1) g (dt dt_X11_goesOn 37 rfl) ki_1 ?_
      refine SW.iadd (pc := 62) g (dt dt_X11_goesOn 38 rfl) ?_
      obtain ⟨hb2, h⟩ := inbI h
      refine SW.iastore (pc := 63) g (dt dt_X11_goesOn 39 rfl) cell_81 hb2 ?_
      refine SW.genM h (fun μ3 h => ?_)
      exact SW.vreturn (pc := 64) g (leafV h ho) rfl (Nat.le_of_ble_eq_true rfl) (Nat.le_of_ble_eq_true rfl) (dt dt_X11_goesOn 40 rfl)
    · have h := iteF hc h
      refine SW.aload_n (pc := 10) g (dt dt_X11_goesOn 6 rfl) rfl ?_
      refine SW.getR (pc := 11) g (dt dt_X11_goesOn 7 rfl) fl_X11_68 cell_63 rfl ?_
      refine SW.bipush (pc := 14) (v := 41) g (dt dt_X11_goesOn 8 rfl) kb_41 ?_
      refine SW.iload_n (pc := 16) g (dt dt_X11_goesOn 9 rfl) rfl ?_
      refine SW.iadd (pc := 17) g (dt dt_X11_goesOn 10 rfl) ?_
      refine SW.aload_n (pc := 18) g (dt dt_X11_goesOn 11 rfl) rfl ?_
      refine SW.getR (pc := 19) g (dt dt_X11_goesOn 12 rfl) fl_X11_68 cell_63 rfl ?_
      refine SW.bipush (pc := 22) (v := 41) g (dt dt_X11_goesOn 13 rfl) kb_41 ?_
      refine SW.iload_n (pc := 24) g (dt dt_X11_goesOn 14 rfl) rfl ?_
      refine SW.iadd (pc := 25) g (dt dt_X11_goesOn 15 rfl) ?_
      obtain ⟨hb4, h⟩ := inbI h
      refine SW.iaload (pc := 26) g (dt dt_X11_goesOn 16 rfl) cell_81 hb4 ?_
      refine SW.iconst (pc := 27) (v := 5) g (dt dt_X11_goesOn 17 rfl) ki_5 ?_
      refine SW.icmp_ge (pc := 28) (t := 35) g (dt dt_X11_goesOn 18 rfl) rfl (fun hc => ?_) (fun hc => ?_)
      · have h := iteT hc h
        refine SW.aload_n (pc := 35) g (dt dt_X11_goesOn 21 rfl) rfl ?_
        refine SW.getR (pc := 36) g (dt dt_X11_goesOn 22 rfl) fl_X11_68 cell_63 rfl ?_
        refine SW.bipush (pc := 39) (v := 41) g (dt dt_X11_goesOn 23 rfl) kb_41 ?_
        refine SW.iload_n (pc := 41) g (dt dt_X11_goesOn 24 rfl) rfl ?_
        refine SW.iadd (pc := 42) g (dt dt_X11_goesOn 25 rfl) ?_
        obtain ⟨hb5, h⟩ := inbI h
        refine SW.iaload (pc := 43) g (dt dt_X11_goesOn 26 rfl) cell_81 hb5 ?_
        refine SW.iconst (pc := 44) (v := 5) g (dt dt_X11_goesOn 27 rfl) ki_5 ?_
        refine SW.isub (pc := 45) g (dt dt_X11_goesOn 28 rfl) ?_
        refine SW.msk [true, true] ?_
        exact ok_f_m_goesOn_46  g hm  ho (f_m_goesOn_2 N   n) ih  μ x1 ((μ 81 ((41 : Int32) + x1).toNatClampNeg) - 5) ((41 : Int32) + x1) h
      · have h := iteF hc h
        refine SW.iconst (pc := 31) (v := 0) g (dt dt_X11_goesOn 19 rfl) ki_0 ?_
        refine SW.goto (pc := 32) (t := 46) g (dt dt_X11_goesOn 20 rfl) rfl ?_
        refine SW.msk [true, true] ?_
        exact ok_f_m_goesOn_46  g hm  ho (f_m_goesOn_2 N   n) ih  μ x1 0 ((41 : Int32) + x1) h
set_option maxRecDepth 100000 in
set_option maxHeartbeats 4000000 in
theorem ok_f_m_goesOn {G : sw_G} {ad : Nat → Nat} {ν : sw_N}   {N : Nat} {o : sw_M} (g : sw_ok G cX11_goesOn "DeadWiresModel" none 1 0 0 ad) (hm : G.2.2.1.2.1.maxLocals = 2)  (μ : sw_M) (ho : sw_out G 0 0 (fun a => a = ad) (.inl none) lay0 o ν)  (h : f_m_goesOn N  μ  = some o) : SW G ad lay0 ν 0 0 0 [some (.ref 63), none] [] μ := by
  unfold f_m_goesOn at h
  refine SW.iconst (pc := 0) (v := 0) g (dt dt_X11_goesOn 0 rfl) ki_0 ?_
  refine SW.istore_n (pc := 1) g (dt dt_X11_goesOn 1 rfl) (sw_ltm hm (Nat.le_of_ble_eq_true rfl)) rfl ?_
  refine SW.msk [true, true] ?_
  exact ok_f_m_goesOn_2  g hm  ho   N μ 0 h
set_option maxRecDepth 100000 in
set_option maxHeartbeats 4000000 in
theorem mt_f_m_goesOn (l : Launch) (D : va_G) (cI cL : ClassId) (ad : Nat → Nat) (ν : sw_N)    (N : Nat) (μ : sw_M)  (o : sw_M) (h : f_m_goesOn N  μ  = some o) : MetR l D cI cL yX11_goesOn cX11_goesOn 2 none 1 0 0 (fun a => a = ad) ad [.ref 63] lay0 μ ν none lay0 o ν :=
  MetR.of (n := 1) rfl (Nat.le_of_ble_eq_true rfl) (fun G g ho hm _ _ => ok_f_m_goesOn  g hm  μ ho  h)
def f_m_clips (N : Nat)  (μ : sw_M) (a1 : Int32) : Option (Int32 × sw_M) :=
  inb ((12 : Int32) + a1) 49 (
    if (μ 81 ((12 : Int32) + a1).toNatClampNeg) = 1 then
      some (0, μ)
    else
      inb 46 49 (
        if (μ 81 (46 : Int32).toNatClampNeg) = 0 then
          some (0, μ)
        else
          inb ((12 : Int32) + a1) 49 (wb (wr μ 81 ((12 : Int32) + a1).toNatClampNeg 1) (fun μ4 =>
            inb 46 49 (
              inb 46 49 (wb (wr μ4 81 (46 : Int32).toNatClampNeg ((μ4 81 (46 : Int32).toNatClampNeg) - 1)) (fun μ7 =>
                some (1, μ7))))))))
set_option maxRecDepth 100000 in
set_option maxHeartbeats 4000000 in
theorem ok_f_m_clips {G : sw_G} {ad : Nat → Nat} {ν : sw_N}   {N : Nat} {o : Int32 × sw_M} (g : sw_ok G cX11_clips "DeadWiresModel" (some .boolean) 1 0 0 ad) (hm : G.2.2.1.2.1.maxLocals = 2)  (μ : sw_M) (ho : sw_out G 0 0 (fun a => a = ad) (.inl (some (.int o.1))) lay0 o.2 ν) (a1 : Int32) (h : f_m_clips N  μ a1 = some o) : SW G ad lay0 ν 0 0 0 [some (.ref 63), some (.int a1)] [] μ := by
  unfold f_m_clips at h
  refine SW.aload_n (pc := 0) g (dt dt_X11_clips 0 rfl) rfl ?_
  refine SW.getR (pc := 1) g (dt dt_X11_clips 1 rfl) fl_X11_68 cell_63 rfl ?_
  refine SW.bipush (pc := 4) (v := 12) g (dt dt_X11_clips 2 rfl) kb_12 ?_
  refine SW.iload_n (pc := 6) g (dt dt_X11_clips 3 rfl) rfl ?_
  refine SW.iadd (pc := 7) g (dt dt_X11_clips 4 rfl) ?_
  obtain ⟨hb1, h⟩ := inbI h
  refine SW.iaload (pc := 8) g (dt dt_X11_clips 5 rfl) cell_81 hb1 ?_
  refine SW.iconst (pc := 9) (v := 1) g (dt dt_X11_clips 6 rfl) ki_1 ?_
  refine SW.icmp_eq (pc := 10) (t := 23) g (dt dt_X11_clips 7 rfl) rfl (fun hc => ?_) (fun hc => ?_)
  · have h := iteT hc h
    refine SW.iconst (pc := 23) (v := 0) g (dt dt_X11_clips 13 rfl) ki_0 ?_
    exact SW.zreturn (pc := 24) g (leafW h ho) rfl (Nat.le_of_ble_eq_true rfl) (Nat.le_of_ble_eq_true rfl) (by decide) (dt dt_X11_clips 14 rfl)
  · have h := iteF hc h
    refine SW.aload_n (pc := 13) g (dt dt_X11_clips 8 rfl) rfl ?_
    refine SW.getR (pc := 14) g (dt dt_X11_clips 9 rfl) fl_X11_68 cell_63 rfl ?_
    refine SW.bipush (pc := 17) (v := 46) g (dt dt_X11_clips 10 rfl) kb_46 ?_
    obtain ⟨hb2, h⟩ := inbI h
    refine SW.iaload (pc := 19) g (dt dt_X11_clips 11 rfl) cell_81 hb2 ?_
    refine SW.if_ne (pc := 20) (t := 25) g (dt dt_X11_clips 12 rfl) rfl (fun hc => ?_) (fun hc => ?_)
    · have h := iteF hc h
      refine SW.aload_n (pc := 25) g (dt dt_X11_clips 15 rfl) rfl ?_
      refine SW.getR (pc := 26) g (dt dt_X11_clips 16 rfl) fl_X11_68 cell_63 rfl ?_
      refine SW.bipush (pc := 29) (v := 12) g (dt dt_X11_clips 17 rfl) kb_12 ?_
      refine SW.iload_n (pc := 31) g (dt dt_X11_clips 18 rfl) rfl ?_
      refine SW.iadd (pc := 32) g (dt dt_X11_clips 19 rfl) ?_
      refine SW.iconst (pc := 33) (v := 1) g (dt dt_X11_clips 20 rfl) ki_1 ?_
      obtain ⟨hb3, h⟩ := inbI h
      refine SW.iastore (pc := 34) g (dt dt_X11_clips 21 rfl) cell_81 hb3 ?_
      refine SW.genM h (fun μ4 h => ?_)
      refine SW.aload_n (pc := 35) g (dt dt_X11_clips 22 rfl) rfl ?_
      refine SW.getR (pc := 36) g (dt dt_X11_clips 23 rfl) fl_X11_68 cell_63 rfl ?_
      refine SW.bipush (pc := 39) (v := 46) g (dt dt_X11_clips 24 rfl) kb_46 ?_
      refine SW.dup2 (pc := 41) g (dt dt_X11_clips 25 rfl) rfl rfl ?_
      obtain ⟨hb5, h⟩ := inbI h
      refine SW.iaload (pc := 42) g (dt dt_X11_clips 26 rfl) cell_81 hb5 ?_
      refine SW.iconst (pc := 43) (v := 1) g (dt dt_X11_clips 27 rfl) ki_1 ?_
      refine SW.isub (pc := 44) g (dt dt_X11_clips 28 rfl) ?_
      obtain ⟨hb6, h⟩ := inbI h
      refine SW.iastore (pc := 45) g (dt dt_X11_clips 29 rfl) cell_81 hb6 ?_
      refine SW.genM h (fun μ7 h => ?_)
      refine SW.iconst (pc := 46) (v := 1) g (dt dt_X11_clips 30 rfl) ki_1 ?_
      exact SW.zreturn (pc := 47) g (leafW h ho) rfl (Nat.le_of_ble_eq_true rfl) (Nat.le_of_ble_eq_true rfl) (by decide) (dt dt_X11_clips 31 rfl)
    · have h := iteT hc h
      refine SW.iconst (pc := 23) (v := 0) g (dt dt_X11_clips 13 rfl) ki_0 ?_
      exact SW.zreturn (pc := 24) g (leafW h ho) rfl (Nat.le_of_ble_eq_true rfl) (Nat.le_of_ble_eq_true rfl) (by decide) (dt dt_X11_clips 14 rfl)
set_option maxRecDepth 100000 in
set_option maxHeartbeats 4000000 in
theorem mt_f_m_clips (l : Launch) (D : va_G) (cI cL : ClassId) (ad : Nat → Nat) (ν : sw_N)    (N : Nat) (μ : sw_M) (a1 : Int32) (o : Int32 × sw_M) (h : f_m_clips N  μ a1 = some o) : MetR l D cI cL yX11_clips cX11_clips 2 (some .boolean) 1 0 0 (fun a => a = ad) ad [.ref 63, .int a1] lay0 μ ν (some (.int o.1)) lay0 o.2 ν :=
  MetR.of (n := 0) rfl (Nat.le_of_ble_eq_true rfl) (fun G g ho hm _ _ => ok_f_m_clips  g hm  μ ho a1 h)
def f_m_isLive (N : Nat)  (μ : sw_M) (a1 : Int32) (a2 : Int32) (a3 : Int32) : Option (Int32) :=
  inb ((12 : Int32) + a1) 49 (
    if (μ 81 ((12 : Int32) + a1).toNatClampNeg) = 0 then
      inb 48 49 (
        inb ((0 : Int32) + a1) 49 (
          if ((μ 81 (48 : Int32).toNatClampNeg) + a2) < ((μ 81 ((0 : Int32) + a1).toNatClampNeg) + a3) then
            some 0
          else
            some 1))
    else
      some 0)
set_option maxRecDepth 100000 in
set_option maxHeartbeats 4000000 in
theorem ok_f_m_isLive {G : sw_G} {ad : Nat → Nat} {ν : sw_N}   {N : Nat} {o : Int32} (g : sw_ok G cX11_isLive "DeadWiresModel" (some .boolean) 1 0 0 ad) (hm : G.2.2.1.2.1.maxLocals = 4)  (μ : sw_M) (ho : sw_out G 0 0 (fun a => a = ad) (.inl (some (.int o))) lay0 μ ν) (a1 : Int32) (a2 : Int32) (a3 : Int32) (h : f_m_isLive N  μ a1 a2 a3 = some o) : SW G ad lay0 ν 0 0 0 [some (.ref 63), some (.int a1), some (.int a2), some (.int a3)] [] μ := by
  unfold f_m_isLive at h
  refine SW.aload_n (pc := 0) g (dt dt_X11_isLive 0 rfl) rfl ?_
  refine SW.getR (pc := 1) g (dt dt_X11_isLive 1 rfl) fl_X11_68 cell_63 rfl ?_
  refine SW.bipush (pc := 4) (v := 12) g (dt dt_X11_isLive 2 rfl) kb_12 ?_
  refine SW.iload_n (pc := 6) g (dt dt_X11_isLive 3 rfl) rfl ?_
  refine SW.iadd (pc := 7) g (dt dt_X11_isLive 4 rfl) ?_
  obtain ⟨hb1, h⟩ := inbI h
  refine SW.iaload (pc := 8) g (dt dt_X11_isLive 5 rfl) cell_81 hb1 ?_
  refine SW.if_ne (pc := 9) (t := 38) g (dt dt_X11_isLive 6 rfl) rfl (fun hc => ?_) (fun hc => ?_)
  · have h := iteF hc h
    refine SW.iconst (pc := 38) (v := 0) g (dt dt_X11_isLive 24 rfl) ki_0 ?_
    exact SW.zreturn (pc := 39) g (leafI h ho) rfl (Nat.le_of_ble_eq_true rfl) (Nat.le_of_ble_eq_true rfl) (by decide) (dt dt_X11_isLive 25 rfl)
  · have h := iteT hc h
    refine SW.aload_n (pc := 12) g (dt dt_X11_isLive 7 rfl) rfl ?_
    refine SW.getR (pc := 13) g (dt dt_X11_isLive 8 rfl) fl_X11_68 cell_63 rfl ?_
    refine SW.bipush (pc := 16) (v := 48) g (dt dt_X11_isLive 9 rfl) kb_48 ?_
    obtain ⟨hb2, h⟩ := inbI h
    refine SW.iaload (pc := 18) g (dt dt_X11_isLive 10 rfl) cell_81 hb2 ?_
    refine SW.iload_n (pc := 19) g (dt dt_X11_isLive 11 rfl) rfl ?_
    refine SW.iadd (pc := 20) g (dt dt_X11_isLive 12 rfl) ?_
    refine SW.aload_n (pc := 21) g (dt dt_X11_isLive 13 rfl) rfl ?_
    refine SW.getR (pc := 22) g (dt dt_X11_isLive 14 rfl) fl_X11_68 cell_63 rfl ?_
    refine SW.iconst (pc := 25) (v := 0) g (dt dt_X11_isLive 15 rfl) ki_0 ?_
    refine SW.iload_n (pc := 26) g (dt dt_X11_isLive 16 rfl) rfl ?_
    refine SW.iadd (pc := 27) g (dt dt_X11_isLive 17 rfl) ?_
    obtain ⟨hb3, h⟩ := inbI h
    refine SW.iaload (pc := 28) g (dt dt_X11_isLive 18 rfl) cell_81 hb3 ?_
    refine SW.iload_n (pc := 29) g (dt dt_X11_isLive 19 rfl) rfl ?_
    refine SW.iadd (pc := 30) g (dt dt_X11_isLive 20 rfl) ?_
    refine SW.icmp_lt (pc := 31) (t := 38) g (dt dt_X11_isLive 21 rfl) rfl (fun hc => ?_) (fun hc => ?_)
    · have h := iteT hc h
      refine SW.iconst (pc := 38) (v := 0) g (dt dt_X11_isLive 24 rfl) ki_0 ?_
      exact SW.zreturn (pc := 39) g (leafI h ho) rfl (Nat.le_of_ble_eq_true rfl) (Nat.le_of_ble_eq_true rfl) (by decide) (dt dt_X11_isLive 25 rfl)
    · have h := iteF hc h
      refine SW.iconst (pc := 34) (v := 1) g (dt dt_X11_isLive 22 rfl) ki_1 ?_
      refine SW.goto (pc := 35) (t := 39) g (dt dt_X11_isLive 23 rfl) rfl ?_
      exact SW.zreturn (pc := 39) g (leafI h ho) rfl (Nat.le_of_ble_eq_true rfl) (Nat.le_of_ble_eq_true rfl) (by decide) (dt dt_X11_isLive 25 rfl)
set_option maxRecDepth 100000 in
set_option maxHeartbeats 4000000 in
theorem mt_f_m_isLive (l : Launch) (D : va_G) (cI cL : ClassId) (ad : Nat → Nat) (ν : sw_N)    (N : Nat) (μ : sw_M) (a1 : Int32) (a2 : Int32) (a3 : Int32) (o : Int32) (h : f_m_isLive N  μ a1 a2 a3 = some o) : MetR l D cI cL yX11_isLive cX11_isLive 4 (some .boolean) 1 0 0 (fun a => a = ad) ad [.ref 63, .int a1, .int a2, .int a3] lay0 μ ν (some (.int o)) lay0 μ ν :=
  MetR.of (n := 0) rfl (Nat.le_of_ble_eq_true rfl) (fun G g ho hm _ _ => ok_f_m_isLive  g hm  μ ho a1 a2 a3 h)
def f_m_moves_78 (N : Nat)   (μ : sw_M) (s0 : Int32) (s1 : Int32) : Option (Int32 × sw_M) :=
  inb s1 49 (wb (wr μ 81 s1.toNatClampNeg s0) (fun μ2 =>
    some (1, μ2)))
def f_m_moves (N : Nat)  (μ : sw_M) (a1 : Int32) (a2 : Int32) : Option (Int32 × sw_M) :=
  inb ((12 : Int32) + a1) 49 (
    if (μ 81 ((12 : Int32) + a1).toNatClampNeg) = 1 then
      some (0, μ)
    else
      Option.bind (f_m_isLive N  μ a1 0 0) (fun r2 =>
        if r2 = 0 then
          inb ((0 : Int32) + a1) 49 (
            if (μ 81 ((0 : Int32) + a1).toNatClampNeg) = 199 then
              some (0, μ)
            else
              inb ((0 : Int32) + a1) 49 (
                if ((μ 81 ((0 : Int32) + a1).toNatClampNeg) + a2) ≤ 199 then
                  inb ((0 : Int32) + a1) 49 (
                    f_m_moves_78 N    μ ((μ 81 ((0 : Int32) + a1).toNatClampNeg) + a2) ((0 : Int32) + a1))
                else
                  f_m_moves_78 N    μ 199 ((0 : Int32) + a1)))
        else
          some (0, μ)))
set_option maxRecDepth 100000 in
set_option maxHeartbeats 4000000 in
theorem ok_f_m_moves_78 {G : sw_G} {ad : Nat → Nat} {ν : sw_N}   {N : Nat} {o : Int32 × sw_M} (g : sw_ok G cX11_moves "DeadWiresModel" (some .boolean) 2 0 0 ad) (hm : G.2.2.1.2.1.maxLocals = 3)  (ho : sw_out G 0 0 (fun a => a = ad) (.inl (some (.int o.1))) lay0 o.2 ν)  (μ : sw_M) (s0 : Int32) (s1 : Int32) (h : f_m_moves_78 N    μ s0 s1 = some o) : SW G ad lay0 ν 0 0 78 [none, none, none] [.int s0, .int s1, .ref 81] μ := by
  unfold f_m_moves_78 at h
  obtain ⟨hb1, h⟩ := inbI h
  refine SW.iastore (pc := 78) g (dt dt_X11_moves 49 rfl) cell_81 hb1 ?_
  refine SW.genM h (fun μ2 h => ?_)
  refine SW.iconst (pc := 79) (v := 1) g (dt dt_X11_moves 50 rfl) ki_1 ?_
  exact SW.zreturn (pc := 80) g (leafW h ho) rfl (Nat.le_of_ble_eq_true rfl) (Nat.le_of_ble_eq_true rfl) (by decide) (dt dt_X11_moves 51 rfl)
set_option maxRecDepth 100000 in
set_option maxHeartbeats 4000000 in
theorem ok_f_m_moves {G : sw_G} {ad : Nat → Nat} {ν : sw_N}   {N : Nat} {o : Int32 × sw_M} (g : sw_ok G cX11_moves "DeadWiresModel" (some .boolean) 2 0 0 ad) (hm : G.2.2.1.2.1.maxLocals = 3)  (μ : sw_M) (ho : sw_out G 0 0 (fun a => a = ad) (.inl (some (.int o.1))) lay0 o.2 ν) (a1 : Int32) (a2 : Int32) (h : f_m_moves N  μ a1 a2 = some o) : SW G ad lay0 ν 0 0 0 [some (.ref 63), some (.int a1), some (.int a2)] [] μ := by
  unfold f_m_moves at h
  refine SW.aload_n (pc := 0) g (dt dt_X11_moves 0 rfl) rfl ?_
  refine SW.getR (pc := 1) g (dt dt_X11_moves 1 rfl) fl_X11_68 cell_63 rfl ?_
  refine SW.bipush (pc := 4) (v := 12) g (dt dt_X11_moves 2 rfl) kb_12 ?_
  refine SW.iload_n (pc := 6) g (dt dt_X11_moves 3 rfl) rfl ?_
  refine SW.iadd (pc := 7) g (dt dt_X11_moves 4 rfl) ?_
  obtain ⟨hb1, h⟩ := inbI h
  refine SW.iaload (pc := 8) g (dt dt_X11_moves 5 rfl) cell_81 hb1 ?_
  refine SW.iconst (pc := 9) (v := 1) g (dt dt_X11_moves 6 rfl) ki_1 ?_
  refine SW.icmp_eq (pc := 10) (t := 37) g (dt dt_X11_moves 7 rfl) rfl (fun hc => ?_) (fun hc => ?_)
  · have h := iteT hc h
    refine SW.iconst (pc := 37) (v := 0) g (dt dt_X11_moves 22 rfl) ki_0 ?_
    exact SW.zreturn (pc := 38) g (leafW h ho) rfl (Nat.le_of_ble_eq_true rfl) (Nat.le_of_ble_eq_true rfl) (by decide) (dt dt_X11_moves 23 rfl)
  · have h := iteF hc h
    refine SW.aload_n (pc := 13) g (dt dt_X11_moves 8 rfl) rfl ?_
    refine SW.iload_n (pc := 14) g (dt dt_X11_moves 9 rfl) rfl ?_
    refine SW.iconst (pc := 15) (v := 0) g (dt dt_X11_moves 10 rfl) ki_0 ?_
    refine SW.iconst (pc := 16) (v := 0) g (dt dt_X11_moves 11 rfl) ki_0 ?_
    obtain ⟨r2, h3, h⟩ := bindI h
    refine SW.callVi (pc := 17) g (dt dt_X11_moves 12 rfl) (mt_f_m_isLive _ _ _ _ ad ν   N μ a1 0 0 r2 h3) me_X11_isLive mv_X11_isLive ml_X11_350 cell_63 rfl rfl (Nat.le_of_ble_eq_true rfl) (Nat.le_of_ble_eq_true rfl) (Nat.le_of_ble_eq_true rfl) (Nat.le_of_ble_eq_true rfl) rfl ?_
    refine SW.if_ne (pc := 20) (t := 37) g (dt dt_X11_moves 13 rfl) rfl (fun hc => ?_) (fun hc => ?_)
    · have h := iteF hc h
      refine SW.iconst (pc := 37) (v := 0) g (dt dt_X11_moves 22 rfl) ki_0 ?_
      exact SW.zreturn (pc := 38) g (leafW h ho) rfl (Nat.le_of_ble_eq_true rfl) (Nat.le_of_ble_eq_true rfl) (by decide) (dt dt_X11_moves 23 rfl)
    · have h := iteT hc h
      refine SW.aload_n (pc := 23) g (dt dt_X11_moves 14 rfl) rfl ?_
      refine SW.getR (pc := 24) g (dt dt_X11_moves 15 rfl) fl_X11_68 cell_63 rfl ?_
      refine SW.iconst (pc := 27) (v := 0) g (dt dt_X11_moves 16 rfl) ki_0 ?_
      refine SW.iload_n (pc := 28) g (dt dt_X11_moves 17 rfl) rfl ?_
      refine SW.iadd (pc := 29) g (dt dt_X11_moves 18 rfl) ?_
      obtain ⟨hb4, h⟩ := inbI h
      refine SW.iaload (pc := 30) g (dt dt_X11_moves 19 rfl) cell_81 hb4 ?_
      refine SW.sipush (pc := 31) (v := 199) g (dt dt_X11_moves 20 rfl) ks_199 ?_
      refine SW.icmp_ne (pc := 34) (t := 39) g (dt dt_X11_moves 21 rfl) rfl (fun hc => ?_) (fun hc => ?_)
      · have h := iteF hc h
        refine SW.aload_n (pc := 39) g (dt dt_X11_moves 24 rfl) rfl ?_
        refine SW.getR (pc := 40) g (dt dt_X11_moves 25 rfl) fl_X11_68 cell_63 rfl ?_
        refine SW.iconst (pc := 43) (v := 0) g (dt dt_X11_moves 26 rfl) ki_0 ?_
        refine SW.iload_n (pc := 44) g (dt dt_X11_moves 27 rfl) rfl ?_
        refine SW.iadd (pc := 45) g (dt dt_X11_moves 28 rfl) ?_
        refine SW.aload_n (pc := 46) g (dt dt_X11_moves 29 rfl) rfl ?_
        refine SW.getR (pc := 47) g (dt dt_X11_moves 30 rfl) fl_X11_68 cell_63 rfl ?_
        refine SW.iconst (pc := 50) (v := 0) g (dt dt_X11_moves 31 rfl) ki_0 ?_
        refine SW.iload_n (pc := 51) g (dt dt_X11_moves 32 rfl) rfl ?_
        refine SW.iadd (pc := 52) g (dt dt_X11_moves 33 rfl) ?_
        obtain ⟨hb5, h⟩ := inbI h
        refine SW.iaload (pc := 53) g (dt dt_X11_moves 34 rfl) cell_81 hb5 ?_
        refine SW.iload_n (pc := 54) g (dt dt_X11_moves 35 rfl) rfl ?_
        refine SW.iadd (pc := 55) g (dt dt_X11_moves 36 rfl) ?_
        refine SW.sipush (pc := 56) (v := 199) g (dt dt_X11_moves 37 rfl) ks_199 ?_
        refine SW.icmp_le (pc := 59) (t := 68) g (dt dt_X11_moves 38 rfl) rfl (fun hc => ?_) (fun hc => ?_)
        · have h := iteT hc h
          refine SW.aload_n (pc := 68) g (dt dt_X11_moves 41 rfl) rfl ?_
          refine SW.getR (pc := 69) g (dt dt_X11_moves 42 rfl) fl_X11_68 cell_63 rfl ?_
          refine SW.iconst (pc := 72) (v := 0) g (dt dt_X11_moves 43 rfl) ki_0 ?_
          refine SW.iload_n (pc := 73) g (dt dt_X11_moves 44 rfl) rfl ?_
          refine SW.iadd (pc := 74) g (dt dt_X11_moves 45 rfl) ?_
          obtain ⟨hb6, h⟩ := inbI h
          refine SW.iaload (pc := 75) g (dt dt_X11_moves 46 rfl) cell_81 hb6 ?_
          refine SW.iload_n (pc := 76) g (dt dt_X11_moves 47 rfl) rfl ?_
          refine SW.iadd (pc := 77) g (dt dt_X11_moves 48 rfl) ?_
          refine SW.msk [false, false, false] ?_
          exact ok_f_m_moves_78  g hm  ho    μ ((μ 81 ((0 : Int32) + a1).toNatClampNeg) + a2) ((0 : Int32) + a1) h
        · have h := iteF hc h
          refine SW.sipush (pc := 62) (v := 199) g (dt dt_X11_moves 39 rfl) ks_199 ?_
          refine SW.goto (pc := 65) (t := 78) g (dt dt_X11_moves 40 rfl) rfl ?_
          refine SW.msk [false, false, false] ?_
          exact ok_f_m_moves_78  g hm  ho    μ 199 ((0 : Int32) + a1) h
      · have h := iteT hc h
        refine SW.iconst (pc := 37) (v := 0) g (dt dt_X11_moves 22 rfl) ki_0 ?_
        exact SW.zreturn (pc := 38) g (leafW h ho) rfl (Nat.le_of_ble_eq_true rfl) (Nat.le_of_ble_eq_true rfl) (by decide) (dt dt_X11_moves 23 rfl)
set_option maxRecDepth 100000 in
set_option maxHeartbeats 4000000 in
theorem mt_f_m_moves (l : Launch) (D : va_G) (cI cL : ClassId) (ad : Nat → Nat) (ν : sw_N)    (N : Nat) (μ : sw_M) (a1 : Int32) (a2 : Int32) (o : Int32 × sw_M) (h : f_m_moves N  μ a1 a2 = some o) : MetR l D cI cL yX11_moves cX11_moves 3 (some .boolean) 2 0 0 (fun a => a = ad) ad [.ref 63, .int a1, .int a2] lay0 μ ν (some (.int o.1)) lay0 o.2 ν :=
  MetR.of (n := 0) rfl (Nat.le_of_ble_eq_true rfl) (fun G g ho hm _ _ => ok_f_m_moves  g hm  μ ho a1 a2 h)
def f_m_isAt (N : Nat)  (μ : sw_M) (a1 : Int32) (a2 : Int32) : Option (Int32) :=
  inb ((3 : Int32) * a1) 36 (
    if (μ 69 ((3 : Int32) * a1).toNatClampNeg) = a2 then
      some 1
    else
      inb (((3 : Int32) * a1) + 1) 36 (
        if (μ 69 (((3 : Int32) * a1) + 1).toNatClampNeg) = a2 then
          some 1
        else
          some 0))
set_option maxRecDepth 100000 in
set_option maxHeartbeats 4000000 in
theorem ok_f_m_isAt {G : sw_G} {ad : Nat → Nat} {ν : sw_N}   {N : Nat} {o : Int32} (g : sw_ok G cX11_isAt "DeadWiresModel" (some .boolean) 1 0 0 ad) (hm : G.2.2.1.2.1.maxLocals = 3)  (μ : sw_M) (ho : sw_out G 0 0 (fun a => a = ad) (.inl (some (.int o))) lay0 μ ν) (a1 : Int32) (a2 : Int32) (h : f_m_isAt N  μ a1 a2 = some o) : SW G ad lay0 ν 0 0 0 [some (.ref 63), some (.int a1), some (.int a2)] [] μ := by
  unfold f_m_isAt at h
  refine SW.aload_n (pc := 0) g (dt dt_X11_isAt 0 rfl) rfl ?_
  refine SW.getR (pc := 1) g (dt dt_X11_isAt 1 rfl) fl_X11_32 cell_63 rfl ?_
  refine SW.iconst (pc := 4) (v := 3) g (dt dt_X11_isAt 2 rfl) ki_3 ?_
  refine SW.iload_n (pc := 5) g (dt dt_X11_isAt 3 rfl) rfl ?_
  refine SW.imul (pc := 6) g (dt dt_X11_isAt 4 rfl) ?_
  obtain ⟨hb1, h⟩ := inbI h
  refine SW.iaload (pc := 7) g (dt dt_X11_isAt 5 rfl) cell_69 hb1 ?_
  refine SW.iload_n (pc := 8) g (dt dt_X11_isAt 6 rfl) rfl ?_
  refine SW.icmp_eq (pc := 9) (t := 26) g (dt dt_X11_isAt 7 rfl) rfl (fun hc => ?_) (fun hc => ?_)
  · have h := iteT hc h
    refine SW.iconst (pc := 26) (v := 1) g (dt dt_X11_isAt 18 rfl) ki_1 ?_
    refine SW.goto (pc := 27) (t := 31) g (dt dt_X11_isAt 19 rfl) rfl ?_
    exact SW.zreturn (pc := 31) g (leafI h ho) rfl (Nat.le_of_ble_eq_true rfl) (Nat.le_of_ble_eq_true rfl) (by decide) (dt dt_X11_isAt 21 rfl)
  · have h := iteF hc h
    refine SW.aload_n (pc := 12) g (dt dt_X11_isAt 8 rfl) rfl ?_
    refine SW.getR (pc := 13) g (dt dt_X11_isAt 9 rfl) fl_X11_32 cell_63 rfl ?_
    refine SW.iconst (pc := 16) (v := 3) g (dt dt_X11_isAt 10 rfl) ki_3 ?_
    refine SW.iload_n (pc := 17) g (dt dt_X11_isAt 11 rfl) rfl ?_
    refine SW.imul (pc := 18) g (dt dt_X11_isAt 12 rfl) ?_
    refine SW.iconst (pc := 19) (v := 1) g (dt dt_X11_isAt 13 rfl) ki_1 ?_
    refine SW.iadd (pc := 20) g (dt dt_X11_isAt 14 rfl) ?_
    obtain ⟨hb2, h⟩ := inbI h
    refine SW.iaload (pc := 21) g (dt dt_X11_isAt 15 rfl) cell_69 hb2 ?_
    refine SW.iload_n (pc := 22) g (dt dt_X11_isAt 16 rfl) rfl ?_
    refine SW.icmp_ne (pc := 23) (t := 30) g (dt dt_X11_isAt 17 rfl) rfl (fun hc => ?_) (fun hc => ?_)
    · have h := iteF hc h
      refine SW.iconst (pc := 30) (v := 0) g (dt dt_X11_isAt 20 rfl) ki_0 ?_
      exact SW.zreturn (pc := 31) g (leafI h ho) rfl (Nat.le_of_ble_eq_true rfl) (Nat.le_of_ble_eq_true rfl) (by decide) (dt dt_X11_isAt 21 rfl)
    · have h := iteT hc h
      refine SW.iconst (pc := 26) (v := 1) g (dt dt_X11_isAt 18 rfl) ki_1 ?_
      refine SW.goto (pc := 27) (t := 31) g (dt dt_X11_isAt 19 rfl) rfl ?_
      exact SW.zreturn (pc := 31) g (leafI h ho) rfl (Nat.le_of_ble_eq_true rfl) (Nat.le_of_ble_eq_true rfl) (by decide) (dt dt_X11_isAt 21 rfl)
set_option maxRecDepth 100000 in
set_option maxHeartbeats 4000000 in
theorem mt_f_m_isAt (l : Launch) (D : va_G) (cI cL : ClassId) (ad : Nat → Nat) (ν : sw_N)    (N : Nat) (μ : sw_M) (a1 : Int32) (a2 : Int32) (o : Int32) (h : f_m_isAt N  μ a1 a2 = some o) : MetR l D cI cL yX11_isAt cX11_isAt 3 (some .boolean) 1 0 0 (fun a => a = ad) ad [.ref 63, .int a1, .int a2] lay0 μ ν (some (.int o)) lay0 μ ν :=
  MetR.of (n := 0) rfl (Nat.le_of_ble_eq_true rfl) (fun G g ho hm _ _ => ok_f_m_isAt  g hm  μ ho a1 a2 h)
def f_m_heldBy_33 (N : Nat)  (μ : sw_M) (k_4 : Int32 → Int32 → Int32 → Option (Int32)) (x1 : Int32) (x3 : Int32) (s0 : Int32) (s1 : Int32) : Option (Int32) :=
  ib (s1 ||| s0) (fun y1 =>
    k_4  x1 y1 (x3 + 1))
def f_m_heldBy_4 (N : Nat)  (μ : sw_M)  : Nat → Int32 → Int32 → Int32 → Option (Int32)
  | 0, _, _, _ => none
  | n + 1, x1, x2, x3 =>
    if (μ 63 23) ≤ x3 then
      some x2
    else
      inb ((30 : Int32) + x3) 49 (
        if (μ 81 ((30 : Int32) + x3).toNatClampNeg) = x1 then
          f_m_heldBy_33 N  μ (f_m_heldBy_4 N  μ  n)  x1 x3 ((1 : Int32) <<< (x3 &&& 31)) x2
        else
          f_m_heldBy_33 N  μ (f_m_heldBy_4 N  μ  n)  x1 x3 0 x2)
def f_m_heldBy (N : Nat)  (μ : sw_M) (a1 : Int32) : Option (Int32) :=
  f_m_heldBy_4 N  μ  N a1 0 0
set_option maxRecDepth 100000 in
set_option maxHeartbeats 4000000 in
theorem ok_f_m_heldBy_33 {G : sw_G} {ad : Nat → Nat} {ν : sw_N}   {N : Nat} {o : Int32} (g : sw_ok G cX11_heldBy "DeadWiresModel" (some .int) 1 0 0 ad) (hm : G.2.2.1.2.1.maxLocals = 4)  (μ : sw_M) (ho : sw_out G 0 0 (fun a => a = ad) (.inl (some (.int o))) lay0 μ ν) (k_4 : Int32 → Int32 → Int32 → Option (Int32)) (hk_4 : ∀ (x1 : Int32) (x2 : Int32) (x3 : Int32), k_4 x1 x2 x3 = some o → SW G ad lay0 ν 0 0 4 [some (.ref 63), some (.int x1), some (.int x2), some (.int x3)] [] μ) (x1 : Int32) (x3 : Int32) (s0 : Int32) (s1 : Int32) (h : f_m_heldBy_33 N  μ k_4  x1 x3 s0 s1 = some o) : SW G ad lay0 ν 0 0 33 [some (.ref 63), some (.int x1), none, some (.int x3)] [.int s0, .int s1] μ := by
  unfold f_m_heldBy_33 at h
  refine SW.ior (pc := 33) g (dt dt_X11_heldBy 22 rfl) ?_
  refine SW.istore_n (pc := 34) g (dt dt_X11_heldBy 23 rfl) (sw_ltm hm (Nat.le_of_ble_eq_true rfl)) rfl ?_
  refine SW.genL h (fun y1 h => ?_)
  refine SW.iinc (pc := 35) (v := x3 + 1) g (dt dt_X11_heldBy 24 rfl) rfl (kn_1 _) (sw_ltm hm (Nat.le_of_ble_eq_true rfl)) rfl ?_
  refine SW.goto (pc := 38) (t := 4) g (dt dt_X11_heldBy 25 rfl) rfl ?_
  refine SW.msk [true, true, true, true] ?_
  exact hk_4  x1 y1 (x3 + 1) h
set_option maxRecDepth 100000 in
set_option maxHeartbeats 4000000 in
theorem ok_f_m_heldBy_4 {G : sw_G} {ad : Nat → Nat} {ν : sw_N}   {N : Nat} {o : Int32} (g : sw_ok G cX11_heldBy "DeadWiresModel" (some .int) 1 0 0 ad) (hm : G.2.2.1.2.1.maxLocals = 4)  (μ : sw_M) (ho : sw_out G 0 0 (fun a => a = ad) (.inl (some (.int o))) lay0 μ ν)  : ∀ (n : Nat) (x1 : Int32) (x2 : Int32) (x3 : Int32) (h : f_m_heldBy_4 N  μ  n x1 x2 x3 = some o), SW G ad lay0 ν 0 0 4 [some (.ref 63), some (.int x1), some (.int x2), some (.int x3)] [] μ := by
  intro n
  induction n with
  | zero => intro x1 x2 x3 h; simp only [f_m_heldBy_4] at h; cases h
  | succ n ih =>
    intro x1 x2 x3 h
    unfold f_m_heldBy_4 at h
    refine SW.iload_n (pc := 4) g (dt dt_X11_heldBy 4 rfl) rfl ?_
    refine SW.aload_n (pc := 5) g (dt dt_X11_heldBy 5 rfl) rfl ?_
    refine SW.getI (pc := 6) g (dt dt_X11_heldBy 6 rfl) fl_X11_159 cell_63 rfl ?_
    refine SW.icmp_ge (pc := 9) (t := 41) g (dt dt_X11_heldBy 7 rfl) rfl (fun hc => ?_) (fun hc => ?_)
    · have h := iteT hc h
      refine SW.iload_n (pc := 41) g (dt dt_X11_heldBy 26 rfl) rfl ?_
      exact SW.ireturn (pc := 42) g (leafI h ho) rfl (Nat.le_of_ble_eq_true rfl) (Nat.le_of_ble_eq_true rfl) (dt dt_X11_heldBy 27 rfl)
    · have h := iteF hc h
      refine SW.iload_n (pc := 12) g (dt dt_X11_heldBy 8 rfl) rfl ?_
      refine SW.aload_n (pc := 13) g (dt dt_X11_heldBy 9 rfl) rfl ?_
      refine SW.getR (pc := 14) g (dt dt_X11_heldBy 10 rfl) fl_X11_68 cell_63 rfl ?_
      refine SW.bipush (pc := 17) (v := 30) g (dt dt_X11_heldBy 11 rfl) kb_30 ?_
      refine SW.iload_n (pc := 19) g (dt dt_X11_heldBy 12 rfl) rfl ?_
      refine SW.iadd (pc := 20) g (dt dt_X11_heldBy 13 rfl) ?_
      obtain ⟨hb1, h⟩ := inbI h
      refine SW.iaload (pc := 21) g (dt dt_X11_heldBy 14 rfl) cell_81 hb1 ?_
      refine SW.iload_n (pc := 22) g (dt dt_X11_heldBy 15 rfl) rfl ?_
      refine SW.icmp_ne (pc := 23) (t := 32) g (dt dt_X11_heldBy 16 rfl) rfl (fun hc => ?_) (fun hc => ?_)
      · have h := iteF hc h
        refine SW.iconst (pc := 32) (v := 0) g (dt dt_X11_heldBy 21 rfl) ki_0 ?_
        refine SW.msk [true, true, false, true] ?_
        exact ok_f_m_heldBy_33  g hm  μ ho (f_m_heldBy_4 N  μ  n) ih  x1 x3 0 x2 h
      · have h := iteT hc h
        refine SW.iconst (pc := 26) (v := 1) g (dt dt_X11_heldBy 17 rfl) ki_1 ?_
        refine SW.iload_n (pc := 27) g (dt dt_X11_heldBy 18 rfl) rfl ?_
        refine SW.ishl (pc := 28) g (dt dt_X11_heldBy 19 rfl) ?_
        refine SW.goto (pc := 29) (t := 33) g (dt dt_X11_heldBy 20 rfl) rfl ?_
        refine SW.msk [true, true, false, true] ?_
        exact ok_f_m_heldBy_33  g hm  μ ho (f_m_heldBy_4 N  μ  n) ih  x1 x3 ((1 : Int32) <<< (x3 &&& 31)) x2 h
set_option maxRecDepth 100000 in
set_option maxHeartbeats 4000000 in
theorem ok_f_m_heldBy {G : sw_G} {ad : Nat → Nat} {ν : sw_N}   {N : Nat} {o : Int32} (g : sw_ok G cX11_heldBy "DeadWiresModel" (some .int) 1 0 0 ad) (hm : G.2.2.1.2.1.maxLocals = 4)  (μ : sw_M) (ho : sw_out G 0 0 (fun a => a = ad) (.inl (some (.int o))) lay0 μ ν) (a1 : Int32) (h : f_m_heldBy N  μ a1 = some o) : SW G ad lay0 ν 0 0 0 [some (.ref 63), some (.int a1), none, none] [] μ := by
  unfold f_m_heldBy at h
  refine SW.iconst (pc := 0) (v := 0) g (dt dt_X11_heldBy 0 rfl) ki_0 ?_
  refine SW.istore_n (pc := 1) g (dt dt_X11_heldBy 1 rfl) (sw_ltm hm (Nat.le_of_ble_eq_true rfl)) rfl ?_
  refine SW.iconst (pc := 2) (v := 0) g (dt dt_X11_heldBy 2 rfl) ki_0 ?_
  refine SW.istore_n (pc := 3) g (dt dt_X11_heldBy 3 rfl) (sw_ltm hm (Nat.le_of_ble_eq_true rfl)) rfl ?_
  refine SW.msk [true, true, true, true] ?_
  exact ok_f_m_heldBy_4  g hm  μ ho   N a1 0 0 h
set_option maxRecDepth 100000 in
set_option maxHeartbeats 4000000 in
theorem mt_f_m_heldBy (l : Launch) (D : va_G) (cI cL : ClassId) (ad : Nat → Nat) (ν : sw_N)    (N : Nat) (μ : sw_M) (a1 : Int32) (o : Int32) (h : f_m_heldBy N  μ a1 = some o) : MetR l D cI cL yX11_heldBy cX11_heldBy 4 (some .int) 1 0 0 (fun a => a = ad) ad [.ref 63, .int a1] lay0 μ ν (some (.int o)) lay0 μ ν :=
  MetR.of (n := 2) rfl (Nat.le_of_ble_eq_true rfl) (fun G g ho hm _ _ => ok_f_m_heldBy  g hm  μ ho a1 h)
def f_m_weightOf_4 (N : Nat)  (μ : sw_M)  : Nat → Int32 → Int32 → Int32 → Option (Int32)
  | 0, _, _, _ => none
  | n + 1, x1, x2, x3 =>
    if (μ 63 23) ≤ x3 then
      some x2
    else
      inb (((2 : Int32) * x3) + 1) 12 (
        ib (x2 + (((x1 >>> (x3 &&& 31)) &&& 1) * (μ 70 (((2 : Int32) * x3) + 1).toNatClampNeg))) (fun y2 =>
          f_m_weightOf_4 N  μ  n x1 y2 (x3 + 1)))
def f_m_weightOf (N : Nat)  (μ : sw_M) (a1 : Int32) : Option (Int32) :=
  f_m_weightOf_4 N  μ  N a1 0 0
set_option maxRecDepth 100000 in
set_option maxHeartbeats 4000000 in
theorem ok_f_m_weightOf_4 {G : sw_G} {ad : Nat → Nat} {ν : sw_N}   {N : Nat} {o : Int32} (g : sw_ok G cX11_weightOf "DeadWiresModel" (some .int) 1 0 0 ad) (hm : G.2.2.1.2.1.maxLocals = 4)  (μ : sw_M) (ho : sw_out G 0 0 (fun a => a = ad) (.inl (some (.int o))) lay0 μ ν)  : ∀ (n : Nat) (x1 : Int32) (x2 : Int32) (x3 : Int32) (h : f_m_weightOf_4 N  μ  n x1 x2 x3 = some o), SW G ad lay0 ν 0 0 4 [some (.ref 63), some (.int x1), some (.int x2), some (.int x3)] [] μ := by
  intro n
  induction n with
  | zero => intro x1 x2 x3 h; simp only [f_m_weightOf_4] at h; cases h
  | succ n ih =>
    intro x1 x2 x3 h
    unfold f_m_weightOf_4 at h
    refine SW.iload_n (pc := 4) g (dt dt_X11_weightOf 4 rfl) rfl ?_
    refine SW.aload_n (pc := 5) g (dt dt_X11_weightOf 5 rfl) rfl ?_
    refine SW.getI (pc := 6) g (dt dt_X11_weightOf 6 rfl) fl_X11_159 cell_63 rfl ?_
    refine SW.icmp_ge (pc := 9) (t := 37) g (dt dt_X11_weightOf 7 rfl) rfl (fun hc => ?_) (fun hc => ?_)
    · have h := iteT hc h
      refine SW.iload_n (pc := 37) g (dt dt_X11_weightOf 27 rfl) rfl ?_
      exact SW.ireturn (pc := 38) g (leafI h ho) rfl (Nat.le_of_ble_eq_true rfl) (Nat.le_of_ble_eq_true rfl) (dt dt_X11_weightOf 28 rfl)
    · have h := iteF hc h
      refine SW.iload_n (pc := 12) g (dt dt_X11_weightOf 8 rfl) rfl ?_
      refine SW.iload_n (pc := 13) g (dt dt_X11_weightOf 9 rfl) rfl ?_
      refine SW.iload_n (pc := 14) g (dt dt_X11_weightOf 10 rfl) rfl ?_
      refine SW.ishr (pc := 15) g (dt dt_X11_weightOf 11 rfl) ?_
      refine SW.iconst (pc := 16) (v := 1) g (dt dt_X11_weightOf 12 rfl) ki_1 ?_
      refine SW.iand (pc := 17) g (dt dt_X11_weightOf 13 rfl) ?_
      refine SW.aload_n (pc := 18) g (dt dt_X11_weightOf 14 rfl) rfl ?_
      refine SW.getR (pc := 19) g (dt dt_X11_weightOf 15 rfl) fl_X11_35 cell_63 rfl ?_
      refine SW.iconst (pc := 22) (v := 2) g (dt dt_X11_weightOf 16 rfl) ki_2 ?_
      refine SW.iload_n (pc := 23) g (dt dt_X11_weightOf 17 rfl) rfl ?_
      refine SW.imul (pc := 24) g (dt dt_X11_weightOf 18 rfl) ?_
      refine SW.iconst (pc := 25) (v := 1) g (dt dt_X11_weightOf 19 rfl) ki_1 ?_
      refine SW.iadd (pc := 26) g (dt dt_X11_weightOf 20 rfl) ?_
      obtain ⟨hb1, h⟩ := inbI h
      refine SW.iaload (pc := 27) g (dt dt_X11_weightOf 21 rfl) cell_70 hb1 ?_
      refine SW.imul (pc := 28) g (dt dt_X11_weightOf 22 rfl) ?_
      refine SW.iadd (pc := 29) g (dt dt_X11_weightOf 23 rfl) ?_
      refine SW.istore_n (pc := 30) g (dt dt_X11_weightOf 24 rfl) (sw_ltm hm (Nat.le_of_ble_eq_true rfl)) rfl ?_
      refine SW.genL h (fun y2 h => ?_)
      refine SW.iinc (pc := 31) (v := x3 + 1) g (dt dt_X11_weightOf 25 rfl) rfl (kn_1 _) (sw_ltm hm (Nat.le_of_ble_eq_true rfl)) rfl ?_
      refine SW.goto (pc := 34) (t := 4) g (dt dt_X11_weightOf 26 rfl) rfl ?_
      refine SW.msk [true, true, true, true] ?_
      exact ih  x1 y2 (x3 + 1) h
set_option maxRecDepth 100000 in
set_option maxHeartbeats 4000000 in
theorem ok_f_m_weightOf {G : sw_G} {ad : Nat → Nat} {ν : sw_N}   {N : Nat} {o : Int32} (g : sw_ok G cX11_weightOf "DeadWiresModel" (some .int) 1 0 0 ad) (hm : G.2.2.1.2.1.maxLocals = 4)  (μ : sw_M) (ho : sw_out G 0 0 (fun a => a = ad) (.inl (some (.int o))) lay0 μ ν) (a1 : Int32) (h : f_m_weightOf N  μ a1 = some o) : SW G ad lay0 ν 0 0 0 [some (.ref 63), some (.int a1), none, none] [] μ := by
  unfold f_m_weightOf at h
  refine SW.iconst (pc := 0) (v := 0) g (dt dt_X11_weightOf 0 rfl) ki_0 ?_
  refine SW.istore_n (pc := 1) g (dt dt_X11_weightOf 1 rfl) (sw_ltm hm (Nat.le_of_ble_eq_true rfl)) rfl ?_
  refine SW.iconst (pc := 2) (v := 0) g (dt dt_X11_weightOf 2 rfl) ki_0 ?_
  refine SW.istore_n (pc := 3) g (dt dt_X11_weightOf 3 rfl) (sw_ltm hm (Nat.le_of_ble_eq_true rfl)) rfl ?_
  refine SW.msk [true, true, true, true] ?_
  exact ok_f_m_weightOf_4  g hm  μ ho   N a1 0 0 h
set_option maxRecDepth 100000 in
set_option maxHeartbeats 4000000 in
theorem mt_f_m_weightOf (l : Launch) (D : va_G) (cI cL : ClassId) (ad : Nat → Nat) (ν : sw_N)    (N : Nat) (μ : sw_M) (a1 : Int32) (o : Int32) (h : f_m_weightOf N  μ a1 = some o) : MetR l D cI cL yX11_weightOf cX11_weightOf 4 (some .int) 1 0 0 (fun a => a = ad) ad [.ref 63, .int a1] lay0 μ ν (some (.int o)) lay0 μ ν :=
  MetR.of (n := 2) rfl (Nat.le_of_ble_eq_true rfl) (fun G g ho hm _ _ => ok_f_m_weightOf  g hm  μ ho a1 h)
def f_m_loadOf (N : Nat)  (μ : sw_M) (a1 : Int32) : Option (Int32) :=
  Option.bind (f_m_heldBy N  μ a1) (fun r1 =>
    Option.bind (f_m_weightOf N  μ r1) (fun r3 =>
      some r3))
set_option maxRecDepth 100000 in
set_option maxHeartbeats 4000000 in
theorem ok_f_m_loadOf {G : sw_G} {ad : Nat → Nat} {ν : sw_N}   {N : Nat} {o : Int32} (g : sw_ok G cX11_loadOf "DeadWiresModel" (some .int) 2 0 0 ad) (hm : G.2.2.1.2.1.maxLocals = 2)  (μ : sw_M) (ho : sw_out G 0 0 (fun a => a = ad) (.inl (some (.int o))) lay0 μ ν) (a1 : Int32) (h : f_m_loadOf N  μ a1 = some o) : SW G ad lay0 ν 0 0 0 [some (.ref 63), some (.int a1)] [] μ := by
  unfold f_m_loadOf at h
  refine SW.aload_n (pc := 0) g (dt dt_X11_loadOf 0 rfl) rfl ?_
  refine SW.aload_n (pc := 1) g (dt dt_X11_loadOf 1 rfl) rfl ?_
  refine SW.iload_n (pc := 2) g (dt dt_X11_loadOf 2 rfl) rfl ?_
  obtain ⟨r1, h2, h⟩ := bindI h
  refine SW.callVi (pc := 3) g (dt dt_X11_loadOf 3 rfl) (mt_f_m_heldBy _ _ _ _ ad ν   N μ a1 r1 h2) me_X11_heldBy mv_X11_heldBy ml_X11_328 cell_63 rfl rfl (Nat.le_of_ble_eq_true rfl) (Nat.le_of_ble_eq_true rfl) (Nat.le_of_ble_eq_true rfl) (Nat.le_of_ble_eq_true rfl) rfl ?_
  obtain ⟨r3, h4, h⟩ := bindI h
  refine SW.callVi (pc := 6) g (dt dt_X11_loadOf 4 rfl) (mt_f_m_weightOf _ _ _ _ ad ν   N μ r1 r3 h4) me_X11_weightOf mv_X11_weightOf ml_X11_331 cell_63 rfl rfl (Nat.le_of_ble_eq_true rfl) (Nat.le_of_ble_eq_true rfl) (Nat.le_of_ble_eq_true rfl) (Nat.le_of_ble_eq_true rfl) rfl ?_
  exact SW.ireturn (pc := 9) g (leafI h ho) rfl (Nat.le_of_ble_eq_true rfl) (Nat.le_of_ble_eq_true rfl) (dt dt_X11_loadOf 5 rfl)
set_option maxRecDepth 100000 in
set_option maxHeartbeats 4000000 in
theorem mt_f_m_loadOf (l : Launch) (D : va_G) (cI cL : ClassId) (ad : Nat → Nat) (ν : sw_N)    (N : Nat) (μ : sw_M) (a1 : Int32) (o : Int32) (h : f_m_loadOf N  μ a1 = some o) : MetR l D cI cL yX11_loadOf cX11_loadOf 2 (some .int) 2 0 0 (fun a => a = ad) ad [.ref 63, .int a1] lay0 μ ν (some (.int o)) lay0 μ ν :=
  MetR.of (n := 0) rfl (Nat.le_of_ble_eq_true rfl) (fun G g ho hm _ _ => ok_f_m_loadOf  g hm  μ ho a1 h)
def f_m_leftOf (N : Nat)  (μ : sw_M) (a1 : Int32) : Option (Int32) :=
  inb ((0 : Int32) + a1) 49 (
    inb 48 49 (
      ib ((μ 81 ((0 : Int32) + a1).toNatClampNeg) - (μ 81 (48 : Int32).toNatClampNeg)) (fun y3 =>
        inb ((12 : Int32) + a1) 49 (
          if (μ 81 ((12 : Int32) + a1).toNatClampNeg) = 1 then
            some 99
          else
            if y3 ≤ 99 then
              if 0 ≤ y3 then
                some y3
              else
                some 0
            else
              some 99))))
set_option maxRecDepth 100000 in
set_option maxHeartbeats 4000000 in
theorem ok_f_m_leftOf {G : sw_G} {ad : Nat → Nat} {ν : sw_N}   {N : Nat} {o : Int32} (g : sw_ok G cX11_leftOf "DeadWiresModel" (some .int) 1 0 0 ad) (hm : G.2.2.1.2.1.maxLocals = 3)  (μ : sw_M) (ho : sw_out G 0 0 (fun a => a = ad) (.inl (some (.int o))) lay0 μ ν) (a1 : Int32) (h : f_m_leftOf N  μ a1 = some o) : SW G ad lay0 ν 0 0 0 [some (.ref 63), some (.int a1), none] [] μ := by
  unfold f_m_leftOf at h
  refine SW.aload_n (pc := 0) g (dt dt_X11_leftOf 0 rfl) rfl ?_
  refine SW.getR (pc := 1) g (dt dt_X11_leftOf 1 rfl) fl_X11_68 cell_63 rfl ?_
  refine SW.iconst (pc := 4) (v := 0) g (dt dt_X11_leftOf 2 rfl) ki_0 ?_
  refine SW.iload_n (pc := 5) g (dt dt_X11_leftOf 3 rfl) rfl ?_
  refine SW.iadd (pc := 6) g (dt dt_X11_leftOf 4 rfl) ?_
  obtain ⟨hb1, h⟩ := inbI h
  refine SW.iaload (pc := 7) g (dt dt_X11_leftOf 5 rfl) cell_81 hb1 ?_
  refine SW.aload_n (pc := 8) g (dt dt_X11_leftOf 6 rfl) rfl ?_
  refine SW.getR (pc := 9) g (dt dt_X11_leftOf 7 rfl) fl_X11_68 cell_63 rfl ?_
  refine SW.bipush (pc := 12) (v := 48) g (dt dt_X11_leftOf 8 rfl) kb_48 ?_
  obtain ⟨hb2, h⟩ := inbI h
  refine SW.iaload (pc := 14) g (dt dt_X11_leftOf 9 rfl) cell_81 hb2 ?_
  refine SW.isub (pc := 15) g (dt dt_X11_leftOf 10 rfl) ?_
  refine SW.istore_n (pc := 16) g (dt dt_X11_leftOf 11 rfl) (sw_ltm hm (Nat.le_of_ble_eq_true rfl)) rfl ?_
  refine SW.genL h (fun y3 h => ?_)
  refine SW.aload_n (pc := 17) g (dt dt_X11_leftOf 12 rfl) rfl ?_
  refine SW.getR (pc := 18) g (dt dt_X11_leftOf 13 rfl) fl_X11_68 cell_63 rfl ?_
  refine SW.bipush (pc := 21) (v := 12) g (dt dt_X11_leftOf 14 rfl) kb_12 ?_
  refine SW.iload_n (pc := 23) g (dt dt_X11_leftOf 15 rfl) rfl ?_
  refine SW.iadd (pc := 24) g (dt dt_X11_leftOf 16 rfl) ?_
  obtain ⟨hb4, h⟩ := inbI h
  refine SW.iaload (pc := 25) g (dt dt_X11_leftOf 17 rfl) cell_81 hb4 ?_
  refine SW.iconst (pc := 26) (v := 1) g (dt dt_X11_leftOf 18 rfl) ki_1 ?_
  refine SW.icmp_eq (pc := 27) (t := 36) g (dt dt_X11_leftOf 19 rfl) rfl (fun hc => ?_) (fun hc => ?_)
  · have h := iteT hc h
    refine SW.bipush (pc := 36) (v := 99) g (dt dt_X11_leftOf 23 rfl) kb_99 ?_
    refine SW.goto (pc := 38) (t := 50) g (dt dt_X11_leftOf 24 rfl) rfl ?_
    exact SW.ireturn (pc := 50) g (leafI h ho) rfl (Nat.le_of_ble_eq_true rfl) (Nat.le_of_ble_eq_true rfl) (dt dt_X11_leftOf 30 rfl)
  · have h := iteF hc h
    refine SW.iload_n (pc := 30) g (dt dt_X11_leftOf 20 rfl) rfl ?_
    refine SW.bipush (pc := 31) (v := 99) g (dt dt_X11_leftOf 21 rfl) kb_99 ?_
    refine SW.icmp_le (pc := 33) (t := 41) g (dt dt_X11_leftOf 22 rfl) rfl (fun hc => ?_) (fun hc => ?_)
    · have h := iteT hc h
      refine SW.iload_n (pc := 41) g (dt dt_X11_leftOf 25 rfl) rfl ?_
      refine SW.if_ge (pc := 42) (t := 49) g (dt dt_X11_leftOf 26 rfl) rfl (fun hc => ?_) (fun hc => ?_)
      · have h := iteT hc h
        refine SW.iload_n (pc := 49) g (dt dt_X11_leftOf 29 rfl) rfl ?_
        exact SW.ireturn (pc := 50) g (leafI h ho) rfl (Nat.le_of_ble_eq_true rfl) (Nat.le_of_ble_eq_true rfl) (dt dt_X11_leftOf 30 rfl)
      · have h := iteF hc h
        refine SW.iconst (pc := 45) (v := 0) g (dt dt_X11_leftOf 27 rfl) ki_0 ?_
        refine SW.goto (pc := 46) (t := 50) g (dt dt_X11_leftOf 28 rfl) rfl ?_
        exact SW.ireturn (pc := 50) g (leafI h ho) rfl (Nat.le_of_ble_eq_true rfl) (Nat.le_of_ble_eq_true rfl) (dt dt_X11_leftOf 30 rfl)
    · have h := iteF hc h
      refine SW.bipush (pc := 36) (v := 99) g (dt dt_X11_leftOf 23 rfl) kb_99 ?_
      refine SW.goto (pc := 38) (t := 50) g (dt dt_X11_leftOf 24 rfl) rfl ?_
      exact SW.ireturn (pc := 50) g (leafI h ho) rfl (Nat.le_of_ble_eq_true rfl) (Nat.le_of_ble_eq_true rfl) (dt dt_X11_leftOf 30 rfl)
set_option maxRecDepth 100000 in
set_option maxHeartbeats 4000000 in
theorem mt_f_m_leftOf (l : Launch) (D : va_G) (cI cL : ClassId) (ad : Nat → Nat) (ν : sw_N)    (N : Nat) (μ : sw_M) (a1 : Int32) (o : Int32) (h : f_m_leftOf N  μ a1 = some o) : MetR l D cI cL yX11_leftOf cX11_leftOf 3 (some .int) 1 0 0 (fun a => a = ad) ad [.ref 63, .int a1] lay0 μ ν (some (.int o)) lay0 μ ν :=
  MetR.of (n := 1) rfl (Nat.le_of_ble_eq_true rfl) (fun G g ho hm _ _ => ok_f_m_leftOf  g hm  μ ho a1 h)
def f_m_wiresAt_27 (N : Nat)  (μ : sw_M) (k_4 : Int32 → Int32 → Int32 → Option (Int32)) (x1 : Int32) (x3 : Int32) (s0 : Int32) (s1 : Int32) : Option (Int32) :=
  ib (s1 + s0) (fun y1 =>
    k_4  x1 y1 (x3 + 1))
def f_m_wiresAt_4 (N : Nat)  (μ : sw_M)  : Nat → Int32 → Int32 → Int32 → Option (Int32)
  | 0, _, _, _ => none
  | n + 1, x1, x2, x3 =>
    if (μ 63 22) ≤ x3 then
      some x2
    else
      Option.bind (f_m_isAt N  μ x3 x1) (fun r1 =>
        if r1 = 0 then
          f_m_wiresAt_27 N  μ (f_m_wiresAt_4 N  μ  n)  x1 x3 0 x2
        else
          f_m_wiresAt_27 N  μ (f_m_wiresAt_4 N  μ  n)  x1 x3 1 x2)
def f_m_wiresAt (N : Nat)  (μ : sw_M) (a1 : Int32) : Option (Int32) :=
  f_m_wiresAt_4 N  μ  N a1 0 0
set_option maxRecDepth 100000 in
set_option maxHeartbeats 4000000 in
theorem ok_f_m_wiresAt_27 {G : sw_G} {ad : Nat → Nat} {ν : sw_N}   {N : Nat} {o : Int32} (g : sw_ok G cX11_wiresAt "DeadWiresModel" (some .int) 2 0 0 ad) (hm : G.2.2.1.2.1.maxLocals = 4)  (μ : sw_M) (ho : sw_out G 0 0 (fun a => a = ad) (.inl (some (.int o))) lay0 μ ν) (k_4 : Int32 → Int32 → Int32 → Option (Int32)) (hk_4 : ∀ (x1 : Int32) (x2 : Int32) (x3 : Int32), k_4 x1 x2 x3 = some o → SW G ad lay0 ν 0 0 4 [some (.ref 63), some (.int x1), some (.int x2), some (.int x3)] [] μ) (x1 : Int32) (x3 : Int32) (s0 : Int32) (s1 : Int32) (h : f_m_wiresAt_27 N  μ k_4  x1 x3 s0 s1 = some o) : SW G ad lay0 ν 0 0 27 [some (.ref 63), some (.int x1), none, some (.int x3)] [.int s0, .int s1] μ := by
  unfold f_m_wiresAt_27 at h
  refine SW.iadd (pc := 27) g (dt dt_X11_wiresAt 17 rfl) ?_
  refine SW.istore_n (pc := 28) g (dt dt_X11_wiresAt 18 rfl) (sw_ltm hm (Nat.le_of_ble_eq_true rfl)) rfl ?_
  refine SW.genL h (fun y1 h => ?_)
  refine SW.iinc (pc := 29) (v := x3 + 1) g (dt dt_X11_wiresAt 19 rfl) rfl (kn_1 _) (sw_ltm hm (Nat.le_of_ble_eq_true rfl)) rfl ?_
  refine SW.goto (pc := 32) (t := 4) g (dt dt_X11_wiresAt 20 rfl) rfl ?_
  refine SW.msk [true, true, true, true] ?_
  exact hk_4  x1 y1 (x3 + 1) h
set_option maxRecDepth 100000 in
set_option maxHeartbeats 4000000 in
theorem ok_f_m_wiresAt_4 {G : sw_G} {ad : Nat → Nat} {ν : sw_N}   {N : Nat} {o : Int32} (g : sw_ok G cX11_wiresAt "DeadWiresModel" (some .int) 2 0 0 ad) (hm : G.2.2.1.2.1.maxLocals = 4)  (μ : sw_M) (ho : sw_out G 0 0 (fun a => a = ad) (.inl (some (.int o))) lay0 μ ν)  : ∀ (n : Nat) (x1 : Int32) (x2 : Int32) (x3 : Int32) (h : f_m_wiresAt_4 N  μ  n x1 x2 x3 = some o), SW G ad lay0 ν 0 0 4 [some (.ref 63), some (.int x1), some (.int x2), some (.int x3)] [] μ := by
  intro n
  induction n with
  | zero => intro x1 x2 x3 h; simp only [f_m_wiresAt_4] at h; cases h
  | succ n ih =>
    intro x1 x2 x3 h
    unfold f_m_wiresAt_4 at h
    refine SW.iload_n (pc := 4) g (dt dt_X11_wiresAt 4 rfl) rfl ?_
    refine SW.aload_n (pc := 5) g (dt dt_X11_wiresAt 5 rfl) rfl ?_
    refine SW.getI (pc := 6) g (dt dt_X11_wiresAt 6 rfl) fl_X11_156 cell_63 rfl ?_
    refine SW.icmp_ge (pc := 9) (t := 35) g (dt dt_X11_wiresAt 7 rfl) rfl (fun hc => ?_) (fun hc => ?_)
    · have h := iteT hc h
      refine SW.iload_n (pc := 35) g (dt dt_X11_wiresAt 21 rfl) rfl ?_
      exact SW.ireturn (pc := 36) g (leafI h ho) rfl (Nat.le_of_ble_eq_true rfl) (Nat.le_of_ble_eq_true rfl) (dt dt_X11_wiresAt 22 rfl)
    · have h := iteF hc h
      refine SW.iload_n (pc := 12) g (dt dt_X11_wiresAt 8 rfl) rfl ?_
      refine SW.aload_n (pc := 13) g (dt dt_X11_wiresAt 9 rfl) rfl ?_
      refine SW.iload_n (pc := 14) g (dt dt_X11_wiresAt 10 rfl) rfl ?_
      refine SW.iload_n (pc := 15) g (dt dt_X11_wiresAt 11 rfl) rfl ?_
      obtain ⟨r1, h2, h⟩ := bindI h
      refine SW.callVi (pc := 16) g (dt dt_X11_wiresAt 12 rfl) (mt_f_m_isAt _ _ _ _ ad ν   N μ x3 x1 r1 h2) me_X11_isAt mv_X11_isAt ml_X11_324 cell_63 rfl rfl (Nat.le_of_ble_eq_true rfl) (Nat.le_of_ble_eq_true rfl) (Nat.le_of_ble_eq_true rfl) (Nat.le_of_ble_eq_true rfl) rfl ?_
      refine SW.if_eq (pc := 19) (t := 26) g (dt dt_X11_wiresAt 13 rfl) rfl (fun hc => ?_) (fun hc => ?_)
      · have h := iteT hc h
        refine SW.iconst (pc := 26) (v := 0) g (dt dt_X11_wiresAt 16 rfl) ki_0 ?_
        refine SW.msk [true, true, false, true] ?_
        exact ok_f_m_wiresAt_27  g hm  μ ho (f_m_wiresAt_4 N  μ  n) ih  x1 x3 0 x2 h
      · have h := iteF hc h
        refine SW.iconst (pc := 22) (v := 1) g (dt dt_X11_wiresAt 14 rfl) ki_1 ?_
        refine SW.goto (pc := 23) (t := 27) g (dt dt_X11_wiresAt 15 rfl) rfl ?_
        refine SW.msk [true, true, false, true] ?_
        exact ok_f_m_wiresAt_27  g hm  μ ho (f_m_wiresAt_4 N  μ  n) ih  x1 x3 1 x2 h
set_option maxRecDepth 100000 in
set_option maxHeartbeats 4000000 in
theorem ok_f_m_wiresAt {G : sw_G} {ad : Nat → Nat} {ν : sw_N}   {N : Nat} {o : Int32} (g : sw_ok G cX11_wiresAt "DeadWiresModel" (some .int) 2 0 0 ad) (hm : G.2.2.1.2.1.maxLocals = 4)  (μ : sw_M) (ho : sw_out G 0 0 (fun a => a = ad) (.inl (some (.int o))) lay0 μ ν) (a1 : Int32) (h : f_m_wiresAt N  μ a1 = some o) : SW G ad lay0 ν 0 0 0 [some (.ref 63), some (.int a1), none, none] [] μ := by
  unfold f_m_wiresAt at h
  refine SW.iconst (pc := 0) (v := 0) g (dt dt_X11_wiresAt 0 rfl) ki_0 ?_
  refine SW.istore_n (pc := 1) g (dt dt_X11_wiresAt 1 rfl) (sw_ltm hm (Nat.le_of_ble_eq_true rfl)) rfl ?_
  refine SW.iconst (pc := 2) (v := 0) g (dt dt_X11_wiresAt 2 rfl) ki_0 ?_
  refine SW.istore_n (pc := 3) g (dt dt_X11_wiresAt 3 rfl) (sw_ltm hm (Nat.le_of_ble_eq_true rfl)) rfl ?_
  refine SW.msk [true, true, true, true] ?_
  exact ok_f_m_wiresAt_4  g hm  μ ho   N a1 0 0 h
set_option maxRecDepth 100000 in
set_option maxHeartbeats 4000000 in
theorem mt_f_m_wiresAt (l : Launch) (D : va_G) (cI cL : ClassId) (ad : Nat → Nat) (ν : sw_N)    (N : Nat) (μ : sw_M) (a1 : Int32) (o : Int32) (h : f_m_wiresAt N  μ a1 = some o) : MetR l D cI cL yX11_wiresAt cX11_wiresAt 4 (some .int) 2 0 0 (fun a => a = ad) ad [.ref 63, .int a1] lay0 μ ν (some (.int o)) lay0 μ ν :=
  MetR.of (n := 2) rfl (Nat.le_of_ble_eq_true rfl) (fun G g ho hm _ _ => ok_f_m_wiresAt  g hm  μ ho a1 h)
def f_m_tollOf (N : Nat)  (μ : sw_M) (a1 : Int32) (a2 : Int32) (a3 : Int32) (a4 : Int32) (a5 : Int32) (a6 : Int32) (a7 : Int32) : Option (Int32 × sw_M) :=
  inb 0 7 (wb (wr μ 77 (0 : Int32).toNatClampNeg a1) (fun μ2 =>
    inb 1 7 (wb (wr μ2 77 (1 : Int32).toNatClampNeg a2) (fun μ4 =>
      inb 2 7 (wb (wr μ4 77 (2 : Int32).toNatClampNeg a3) (fun μ6 =>
        inb 3 7 (wb (wr μ6 77 (3 : Int32).toNatClampNeg a4) (fun μ8 =>
          inb 4 7 (wb (wr μ8 77 (4 : Int32).toNatClampNeg a5) (fun μ10 =>
            inb 5 7 (wb (wr μ10 77 (5 : Int32).toNatClampNeg a6) (fun μ12 =>
              inb 6 7 (wb (wr μ12 77 (6 : Int32).toNatClampNeg a7) (fun μ14 =>
                Option.bind (f_m_tollNow N  μ14 ) (fun r15 =>
                  some (r15.1, r15.2))))))))))))))))
set_option maxRecDepth 100000 in
set_option maxHeartbeats 4000000 in
theorem ok_f_m_tollOf {G : sw_G} {ad : Nat → Nat} {ν : sw_N}   {N : Nat} {o : Int32 × sw_M} (g : sw_ok G cX11_tollOf "DeadWiresModel" (some .int) 4 0 0 ad) (hm : G.2.2.1.2.1.maxLocals = 8)  (μ : sw_M) (ho : sw_out G 0 0 (fun a => a = ad) (.inl (some (.int o.1))) lay0 o.2 ν) (a1 : Int32) (a2 : Int32) (a3 : Int32) (a4 : Int32) (a5 : Int32) (a6 : Int32) (a7 : Int32) (h : f_m_tollOf N  μ a1 a2 a3 a4 a5 a6 a7 = some o) : SW G ad lay0 ν 0 0 0 [some (.ref 63), some (.int a1), some (.int a2), some (.int a3), some (.int a4), some (.int a5), some (.int a6), some (.int a7)] [] μ := by
  unfold f_m_tollOf at h
  refine SW.aload_n (pc := 0) g (dt dt_X11_tollOf 0 rfl) rfl ?_
  refine SW.getR (pc := 1) g (dt dt_X11_tollOf 1 rfl) fl_X11_56 cell_63 rfl ?_
  refine SW.iconst (pc := 4) (v := 0) g (dt dt_X11_tollOf 2 rfl) ki_0 ?_
  refine SW.iload_n (pc := 5) g (dt dt_X11_tollOf 3 rfl) rfl ?_
  obtain ⟨hb1, h⟩ := inbI h
  refine SW.iastore (pc := 6) g (dt dt_X11_tollOf 4 rfl) cell_77 hb1 ?_
  refine SW.genM h (fun μ2 h => ?_)
  refine SW.aload_n (pc := 7) g (dt dt_X11_tollOf 5 rfl) rfl ?_
  refine SW.getR (pc := 8) g (dt dt_X11_tollOf 6 rfl) fl_X11_56 cell_63 rfl ?_
  refine SW.iconst (pc := 11) (v := 1) g (dt dt_X11_tollOf 7 rfl) ki_1 ?_
  refine SW.iload_n (pc := 12) g (dt dt_X11_tollOf 8 rfl) rfl ?_
  obtain ⟨hb3, h⟩ := inbI h
  refine SW.iastore (pc := 13) g (dt dt_X11_tollOf 9 rfl) cell_77 hb3 ?_
  refine SW.genM h (fun μ4 h => ?_)
  refine SW.aload_n (pc := 14) g (dt dt_X11_tollOf 10 rfl) rfl ?_
  refine SW.getR (pc := 15) g (dt dt_X11_tollOf 11 rfl) fl_X11_56 cell_63 rfl ?_
  refine SW.iconst (pc := 18) (v := 2) g (dt dt_X11_tollOf 12 rfl) ki_2 ?_
  refine SW.iload_n (pc := 19) g (dt dt_X11_tollOf 13 rfl) rfl ?_
  obtain ⟨hb5, h⟩ := inbI h
  refine SW.iastore (pc := 20) g (dt dt_X11_tollOf 14 rfl) cell_77 hb5 ?_
  refine SW.genM h (fun μ6 h => ?_)
  refine SW.aload_n (pc := 21) g (dt dt_X11_tollOf 15 rfl) rfl ?_
  refine SW.getR (pc := 22) g (dt dt_X11_tollOf 16 rfl) fl_X11_56 cell_63 rfl ?_
  refine SW.iconst (pc := 25) (v := 3) g (dt dt_X11_tollOf 17 rfl) ki_3 ?_
  refine SW.iload (pc := 26) g (dt dt_X11_tollOf 18 rfl) rfl ?_
  obtain ⟨hb7, h⟩ := inbI h
  refine SW.iastore (pc := 28) g (dt dt_X11_tollOf 19 rfl) cell_77 hb7 ?_
  refine SW.genM h (fun μ8 h => ?_)
  refine SW.aload_n (pc := 29) g (dt dt_X11_tollOf 20 rfl) rfl ?_
  refine SW.getR (pc := 30) g (dt dt_X11_tollOf 21 rfl) fl_X11_56 cell_63 rfl ?_
  refine SW.iconst (pc := 33) (v := 4) g (dt dt_X11_tollOf 22 rfl) ki_4 ?_
  refine SW.iload (pc := 34) g (dt dt_X11_tollOf 23 rfl) rfl ?_
  obtain ⟨hb9, h⟩ := inbI h
  refine SW.iastore (pc := 36) g (dt dt_X11_tollOf 24 rfl) cell_77 hb9 ?_
  refine SW.genM h (fun μ10 h => ?_)
  refine SW.aload_n (pc := 37) g (dt dt_X11_tollOf 25 rfl) rfl ?_
  refine SW.getR (pc := 38) g (dt dt_X11_tollOf 26 rfl) fl_X11_56 cell_63 rfl ?_
  refine SW.iconst (pc := 41) (v := 5) g (dt dt_X11_tollOf 27 rfl) ki_5 ?_
  refine SW.iload (pc := 42) g (dt dt_X11_tollOf 28 rfl) rfl ?_
  obtain ⟨hb11, h⟩ := inbI h
  refine SW.iastore (pc := 44) g (dt dt_X11_tollOf 29 rfl) cell_77 hb11 ?_
  refine SW.genM h (fun μ12 h => ?_)
  refine SW.aload_n (pc := 45) g (dt dt_X11_tollOf 30 rfl) rfl ?_
  refine SW.getR (pc := 46) g (dt dt_X11_tollOf 31 rfl) fl_X11_56 cell_63 rfl ?_
  refine SW.bipush (pc := 49) (v := 6) g (dt dt_X11_tollOf 32 rfl) kb_6 ?_
  refine SW.iload (pc := 51) g (dt dt_X11_tollOf 33 rfl) rfl ?_
  obtain ⟨hb13, h⟩ := inbI h
  refine SW.iastore (pc := 53) g (dt dt_X11_tollOf 34 rfl) cell_77 hb13 ?_
  refine SW.genM h (fun μ14 h => ?_)
  refine SW.aload_n (pc := 54) g (dt dt_X11_tollOf 35 rfl) rfl ?_
  obtain ⟨r15, h16, h⟩ := bindI h
  refine SW.callVi (pc := 55) g (dt dt_X11_tollOf 36 rfl) (mt_f_m_tollNow _ _ _ _ ad ν   N μ14  r15 h16) me_X11_tollNow mv_X11_tollNow ml_X11_334 cell_63 rfl rfl (Nat.le_of_ble_eq_true rfl) (Nat.le_of_ble_eq_true rfl) (Nat.le_of_ble_eq_true rfl) (Nat.le_of_ble_eq_true rfl) rfl ?_
  exact SW.ireturn (pc := 58) g (leafW h ho) rfl (Nat.le_of_ble_eq_true rfl) (Nat.le_of_ble_eq_true rfl) (dt dt_X11_tollOf 37 rfl)
set_option maxRecDepth 100000 in
set_option maxHeartbeats 4000000 in
theorem mt_f_m_tollOf (l : Launch) (D : va_G) (cI cL : ClassId) (ad : Nat → Nat) (ν : sw_N)    (N : Nat) (μ : sw_M) (a1 : Int32) (a2 : Int32) (a3 : Int32) (a4 : Int32) (a5 : Int32) (a6 : Int32) (a7 : Int32) (o : Int32 × sw_M) (h : f_m_tollOf N  μ a1 a2 a3 a4 a5 a6 a7 = some o) : MetR l D cI cL yX11_tollOf cX11_tollOf 8 (some .int) 4 0 0 (fun a => a = ad) ad [.ref 63, .int a1, .int a2, .int a3, .int a4, .int a5, .int a6, .int a7] lay0 μ ν (some (.int o.1)) lay0 o.2 ν :=
  MetR.of (n := 0) rfl (Nat.le_of_ble_eq_true rfl) (fun G g ho hm _ _ => ok_f_m_tollOf  g hm  μ ho a1 a2 a3 a4 a5 a6 a7 h)
def f_m_tollBy (N : Nat)  (μ : sw_M) (a1 : Int32) (a2 : Int32) : Option (Int32 × sw_M) :=
  Option.bind (f_m_loadOf N  μ a1) (fun r1 =>
    inb (((2 : Int32) * a1) + 1) 10 (
      inb ((41 : Int32) + a1) 49 (
        Option.bind (f_m_leftOf N  μ a2) (fun r5 =>
          inb 48 49 (
            inb ((36 : Int32) + a1) 49 (
              Option.bind (f_m_wiresAt N  μ (μ 81 ((36 : Int32) + a1).toNatClampNeg)) (fun r9 =>
                Option.bind (f_m_tollOf N  μ r1 (μ 71 (((2 : Int32) * a1) + 1).toNatClampNeg) (μ 81 ((41 : Int32) + a1).toNatClampNeg) r5 (μ 81 (48 : Int32).toNatClampNeg) r9 a1) (fun r11 =>
                  some (r11.1, r11.2)))))))))
set_option maxRecDepth 100000 in
set_option maxHeartbeats 4000000 in
theorem ok_f_m_tollBy {G : sw_G} {ad : Nat → Nat} {ν : sw_N}   {N : Nat} {o : Int32 × sw_M} (g : sw_ok G cX11_tollBy "DeadWiresModel" (some .int) 5 0 0 ad) (hm : G.2.2.1.2.1.maxLocals = 3)  (μ : sw_M) (ho : sw_out G 0 0 (fun a => a = ad) (.inl (some (.int o.1))) lay0 o.2 ν) (a1 : Int32) (a2 : Int32) (h : f_m_tollBy N  μ a1 a2 = some o) : SW G ad lay0 ν 0 0 0 [some (.ref 63), some (.int a1), some (.int a2)] [] μ := by
  unfold f_m_tollBy at h
  refine SW.aload_n (pc := 0) g (dt dt_X11_tollBy 0 rfl) rfl ?_
  refine SW.aload_n (pc := 1) g (dt dt_X11_tollBy 1 rfl) rfl ?_
  refine SW.iload_n (pc := 2) g (dt dt_X11_tollBy 2 rfl) rfl ?_
  obtain ⟨r1, h2, h⟩ := bindI h
  refine SW.callVi (pc := 3) g (dt dt_X11_tollBy 3 rfl) (mt_f_m_loadOf _ _ _ _ ad ν   N μ a1 r1 h2) me_X11_loadOf mv_X11_loadOf ml_X11_337 cell_63 rfl rfl (Nat.le_of_ble_eq_true rfl) (Nat.le_of_ble_eq_true rfl) (Nat.le_of_ble_eq_true rfl) (Nat.le_of_ble_eq_true rfl) rfl ?_
  refine SW.aload_n (pc := 6) g (dt dt_X11_tollBy 4 rfl) rfl ?_
  refine SW.getR (pc := 7) g (dt dt_X11_tollBy 5 rfl) fl_X11_38 cell_63 rfl ?_
  refine SW.iconst (pc := 10) (v := 2) g (dt dt_X11_tollBy 6 rfl) ki_2 ?_
  refine SW.iload_n (pc := 11) g (dt dt_X11_tollBy 7 rfl) rfl ?_
  refine SW.imul (pc := 12) g (dt dt_X11_tollBy 8 rfl) ?_
  refine SW.iconst (pc := 13) (v := 1) g (dt dt_X11_tollBy 9 rfl) ki_1 ?_
  refine SW.iadd (pc := 14) g (dt dt_X11_tollBy 10 rfl) ?_
  obtain ⟨hb3, h⟩ := inbI h
  refine SW.iaload (pc := 15) g (dt dt_X11_tollBy 11 rfl) cell_71 hb3 ?_
  refine SW.aload_n (pc := 16) g (dt dt_X11_tollBy 12 rfl) rfl ?_
  refine SW.getR (pc := 17) g (dt dt_X11_tollBy 13 rfl) fl_X11_68 cell_63 rfl ?_
  refine SW.bipush (pc := 20) (v := 41) g (dt dt_X11_tollBy 14 rfl) kb_41 ?_
  refine SW.iload_n (pc := 22) g (dt dt_X11_tollBy 15 rfl) rfl ?_
  refine SW.iadd (pc := 23) g (dt dt_X11_tollBy 16 rfl) ?_
  obtain ⟨hb4, h⟩ := inbI h
  refine SW.iaload (pc := 24) g (dt dt_X11_tollBy 17 rfl) cell_81 hb4 ?_
  refine SW.aload_n (pc := 25) g (dt dt_X11_tollBy 18 rfl) rfl ?_
  refine SW.iload_n (pc := 26) g (dt dt_X11_tollBy 19 rfl) rfl ?_
  obtain ⟨r5, h6, h⟩ := bindI h
  refine SW.callVi (pc := 27) g (dt dt_X11_tollBy 20 rfl) (mt_f_m_leftOf _ _ _ _ ad ν   N μ a2 r5 h6) me_X11_leftOf mv_X11_leftOf ml_X11_340 cell_63 rfl rfl (Nat.le_of_ble_eq_true rfl) (Nat.le_of_ble_eq_true rfl) (Nat.le_of_ble_eq_true rfl) (Nat.le_of_ble_eq_true rfl) rfl ?_
  refine SW.aload_n (pc := 30) g (dt dt_X11_tollBy 21 rfl) rfl ?_
  refine SW.getR (pc := 31) g (dt dt_X11_tollBy 22 rfl) fl_X11_68 cell_63 rfl ?_
  refine SW.bipush (pc := 34) (v := 48) g (dt dt_X11_tollBy 23 rfl) kb_48 ?_
  obtain ⟨hb7, h⟩ := inbI h
  refine SW.iaload (pc := 36) g (dt dt_X11_tollBy 24 rfl) cell_81 hb7 ?_
  refine SW.aload_n (pc := 37) g (dt dt_X11_tollBy 25 rfl) rfl ?_
  refine SW.aload_n (pc := 38) g (dt dt_X11_tollBy 26 rfl) rfl ?_
  refine SW.getR (pc := 39) g (dt dt_X11_tollBy 27 rfl) fl_X11_68 cell_63 rfl ?_
  refine SW.bipush (pc := 42) (v := 36) g (dt dt_X11_tollBy 28 rfl) kb_36 ?_
  refine SW.iload_n (pc := 44) g (dt dt_X11_tollBy 29 rfl) rfl ?_
  refine SW.iadd (pc := 45) g (dt dt_X11_tollBy 30 rfl) ?_
  obtain ⟨hb8, h⟩ := inbI h
  refine SW.iaload (pc := 46) g (dt dt_X11_tollBy 31 rfl) cell_81 hb8 ?_
  obtain ⟨r9, h10, h⟩ := bindI h
  refine SW.callVi (pc := 47) g (dt dt_X11_tollBy 32 rfl) (mt_f_m_wiresAt _ _ _ _ ad ν   N μ (μ 81 ((36 : Int32) + a1).toNatClampNeg) r9 h10) me_X11_wiresAt mv_X11_wiresAt ml_X11_343 cell_63 rfl rfl (Nat.le_of_ble_eq_true rfl) (Nat.le_of_ble_eq_true rfl) (Nat.le_of_ble_eq_true rfl) (Nat.le_of_ble_eq_true rfl) rfl ?_
  refine SW.iload_n (pc := 50) g (dt dt_X11_tollBy 33 rfl) rfl ?_
  obtain ⟨r11, h12, h⟩ := bindI h
  refine SW.callVi (pc := 51) g (dt dt_X11_tollBy 34 rfl) (mt_f_m_tollOf _ _ _ _ ad ν   N μ r1 (μ 71 (((2 : Int32) * a1) + 1).toNatClampNeg) (μ 81 ((41 : Int32) + a1).toNatClampNeg) r5 (μ 81 (48 : Int32).toNatClampNeg) r9 a1 r11 h12) me_X11_tollOf mv_X11_tollOf ml_X11_346 cell_63 rfl rfl (Nat.le_of_ble_eq_true rfl) (Nat.le_of_ble_eq_true rfl) (Nat.le_of_ble_eq_true rfl) (Nat.le_of_ble_eq_true rfl) rfl ?_
  exact SW.ireturn (pc := 54) g (leafW h ho) rfl (Nat.le_of_ble_eq_true rfl) (Nat.le_of_ble_eq_true rfl) (dt dt_X11_tollBy 35 rfl)
set_option maxRecDepth 100000 in
set_option maxHeartbeats 4000000 in
theorem mt_f_m_tollBy (l : Launch) (D : va_G) (cI cL : ClassId) (ad : Nat → Nat) (ν : sw_N)    (N : Nat) (μ : sw_M) (a1 : Int32) (a2 : Int32) (o : Int32 × sw_M) (h : f_m_tollBy N  μ a1 a2 = some o) : MetR l D cI cL yX11_tollBy cX11_tollBy 3 (some .int) 5 0 0 (fun a => a = ad) ad [.ref 63, .int a1, .int a2] lay0 μ ν (some (.int o.1)) lay0 o.2 ν :=
  MetR.of (n := 0) rfl (Nat.le_of_ble_eq_true rfl) (fun G g ho hm _ _ => ok_f_m_tollBy  g hm  μ ho a1 a2 h)
def f_m_canCross (N : Nat)  (μ : sw_M) (a1 : Int32) (a2 : Int32) : Option (Int32 × sw_M) :=
  Option.bind (f_m_isLive N  μ a2 0 0) (fun r1 =>
    if r1 = 0 then
      inb ((36 : Int32) + a1) 49 (
        Option.bind (f_m_isAt N  μ a2 (μ 81 ((36 : Int32) + a1).toNatClampNeg)) (fun r4 =>
          if r4 = 0 then
            some (0, μ)
          else
            inb ((41 : Int32) + a1) 49 (
              Option.bind (f_m_tollBy N  μ a1 a2) (fun r7 =>
                if 60 < ((μ 81 ((41 : Int32) + a1).toNatClampNeg) + r7.1) then
                  some (0, r7.2)
                else
                  some (1, r7.2)))))
    else
      some (0, μ))
set_option maxRecDepth 100000 in
set_option maxHeartbeats 4000000 in
theorem ok_f_m_canCross {G : sw_G} {ad : Nat → Nat} {ν : sw_N}   {N : Nat} {o : Int32 × sw_M} (g : sw_ok G cX11_canCross "DeadWiresModel" (some .boolean) 6 0 0 ad) (hm : G.2.2.1.2.1.maxLocals = 3)  (μ : sw_M) (ho : sw_out G 0 0 (fun a => a = ad) (.inl (some (.int o.1))) lay0 o.2 ν) (a1 : Int32) (a2 : Int32) (h : f_m_canCross N  μ a1 a2 = some o) : SW G ad lay0 ν 0 0 0 [some (.ref 63), some (.int a1), some (.int a2)] [] μ := by
  unfold f_m_canCross at h
  refine SW.aload_n (pc := 0) g (dt dt_X11_canCross 0 rfl) rfl ?_
  refine SW.iload_n (pc := 1) g (dt dt_X11_canCross 1 rfl) rfl ?_
  refine SW.iconst (pc := 2) (v := 0) g (dt dt_X11_canCross 2 rfl) ki_0 ?_
  refine SW.iconst (pc := 3) (v := 0) g (dt dt_X11_canCross 3 rfl) ki_0 ?_
  obtain ⟨r1, h2, h⟩ := bindI h
  refine SW.callVi (pc := 4) g (dt dt_X11_canCross 4 rfl) (mt_f_m_isLive _ _ _ _ ad ν   N μ a2 0 0 r1 h2) me_X11_isLive mv_X11_isLive ml_X11_350 cell_63 rfl rfl (Nat.le_of_ble_eq_true rfl) (Nat.le_of_ble_eq_true rfl) (Nat.le_of_ble_eq_true rfl) (Nat.le_of_ble_eq_true rfl) rfl ?_
  refine SW.if_ne (pc := 7) (t := 52) g (dt dt_X11_canCross 5 rfl) rfl (fun hc => ?_) (fun hc => ?_)
  · have h := iteF hc h
    refine SW.iconst (pc := 52) (v := 0) g (dt dt_X11_canCross 31 rfl) ki_0 ?_
    exact SW.zreturn (pc := 53) g (leafW h ho) rfl (Nat.le_of_ble_eq_true rfl) (Nat.le_of_ble_eq_true rfl) (by decide) (dt dt_X11_canCross 32 rfl)
  · have h := iteT hc h
    refine SW.aload_n (pc := 10) g (dt dt_X11_canCross 6 rfl) rfl ?_
    refine SW.iload_n (pc := 11) g (dt dt_X11_canCross 7 rfl) rfl ?_
    refine SW.aload_n (pc := 12) g (dt dt_X11_canCross 8 rfl) rfl ?_
    refine SW.getR (pc := 13) g (dt dt_X11_canCross 9 rfl) fl_X11_68 cell_63 rfl ?_
    refine SW.bipush (pc := 16) (v := 36) g (dt dt_X11_canCross 10 rfl) kb_36 ?_
    refine SW.iload_n (pc := 18) g (dt dt_X11_canCross 11 rfl) rfl ?_
    refine SW.iadd (pc := 19) g (dt dt_X11_canCross 12 rfl) ?_
    obtain ⟨hb3, h⟩ := inbI h
    refine SW.iaload (pc := 20) g (dt dt_X11_canCross 13 rfl) cell_81 hb3 ?_
    obtain ⟨r4, h5, h⟩ := bindI h
    refine SW.callVi (pc := 21) g (dt dt_X11_canCross 14 rfl) (mt_f_m_isAt _ _ _ _ ad ν   N μ a2 (μ 81 ((36 : Int32) + a1).toNatClampNeg) r4 h5) me_X11_isAt mv_X11_isAt ml_X11_324 cell_63 rfl rfl (Nat.le_of_ble_eq_true rfl) (Nat.le_of_ble_eq_true rfl) (Nat.le_of_ble_eq_true rfl) (Nat.le_of_ble_eq_true rfl) rfl ?_
    refine SW.if_eq (pc := 24) (t := 52) g (dt dt_X11_canCross 15 rfl) rfl (fun hc => ?_) (fun hc => ?_)
    · have h := iteT hc h
      refine SW.iconst (pc := 52) (v := 0) g (dt dt_X11_canCross 31 rfl) ki_0 ?_
      exact SW.zreturn (pc := 53) g (leafW h ho) rfl (Nat.le_of_ble_eq_true rfl) (Nat.le_of_ble_eq_true rfl) (by decide) (dt dt_X11_canCross 32 rfl)
    · have h := iteF hc h
      refine SW.aload_n (pc := 27) g (dt dt_X11_canCross 16 rfl) rfl ?_
      refine SW.getR (pc := 28) g (dt dt_X11_canCross 17 rfl) fl_X11_68 cell_63 rfl ?_
      refine SW.bipush (pc := 31) (v := 41) g (dt dt_X11_canCross 18 rfl) kb_41 ?_
      refine SW.iload_n (pc := 33) g (dt dt_X11_canCross 19 rfl) rfl ?_
      refine SW.iadd (pc := 34) g (dt dt_X11_canCross 20 rfl) ?_
      obtain ⟨hb6, h⟩ := inbI h
      refine SW.iaload (pc := 35) g (dt dt_X11_canCross 21 rfl) cell_81 hb6 ?_
      refine SW.aload_n (pc := 36) g (dt dt_X11_canCross 22 rfl) rfl ?_
      refine SW.iload_n (pc := 37) g (dt dt_X11_canCross 23 rfl) rfl ?_
      refine SW.iload_n (pc := 38) g (dt dt_X11_canCross 24 rfl) rfl ?_
      obtain ⟨r7, h8, h⟩ := bindI h
      refine SW.callVi (pc := 39) g (dt dt_X11_canCross 25 rfl) (mt_f_m_tollBy _ _ _ _ ad ν   N μ a1 a2 r7 h8) me_X11_tollBy mv_X11_tollBy ml_X11_353 cell_63 rfl rfl (Nat.le_of_ble_eq_true rfl) (Nat.le_of_ble_eq_true rfl) (Nat.le_of_ble_eq_true rfl) (Nat.le_of_ble_eq_true rfl) rfl ?_
      refine SW.iadd (pc := 42) g (dt dt_X11_canCross 26 rfl) ?_
      refine SW.bipush (pc := 43) (v := 60) g (dt dt_X11_canCross 27 rfl) kb_60 ?_
      refine SW.icmp_gt (pc := 45) (t := 52) g (dt dt_X11_canCross 28 rfl) rfl (fun hc => ?_) (fun hc => ?_)
      · have h := iteT hc h
        refine SW.iconst (pc := 52) (v := 0) g (dt dt_X11_canCross 31 rfl) ki_0 ?_
        exact SW.zreturn (pc := 53) g (leafW h ho) rfl (Nat.le_of_ble_eq_true rfl) (Nat.le_of_ble_eq_true rfl) (by decide) (dt dt_X11_canCross 32 rfl)
      · have h := iteF hc h
        refine SW.iconst (pc := 48) (v := 1) g (dt dt_X11_canCross 29 rfl) ki_1 ?_
        refine SW.goto (pc := 49) (t := 53) g (dt dt_X11_canCross 30 rfl) rfl ?_
        exact SW.zreturn (pc := 53) g (leafW h ho) rfl (Nat.le_of_ble_eq_true rfl) (Nat.le_of_ble_eq_true rfl) (by decide) (dt dt_X11_canCross 32 rfl)
set_option maxRecDepth 100000 in
set_option maxHeartbeats 4000000 in
theorem mt_f_m_canCross (l : Launch) (D : va_G) (cI cL : ClassId) (ad : Nat → Nat) (ν : sw_N)    (N : Nat) (μ : sw_M) (a1 : Int32) (a2 : Int32) (o : Int32 × sw_M) (h : f_m_canCross N  μ a1 a2 = some o) : MetR l D cI cL yX11_canCross cX11_canCross 3 (some .boolean) 6 0 0 (fun a => a = ad) ad [.ref 63, .int a1, .int a2] lay0 μ ν (some (.int o.1)) lay0 o.2 ν :=
  MetR.of (n := 0) rfl (Nat.le_of_ble_eq_true rfl) (fun G g ho hm _ _ => ok_f_m_canCross  g hm  μ ho a1 a2 h)
def f_m_crosses_80 (N : Nat)   : Nat → sw_M → Int32 → Int32 → Option (Int32 × sw_M)
  | 0, _, _, _ => none
  | n + 1, μ, x1, x3 =>
    if (μ 63 23) ≤ x3 then
      some (1, μ)
    else
      inb ((30 : Int32) + x3) 49 (
        if (μ 81 ((30 : Int32) + x3).toNatClampNeg) = x1 then
          inb ((36 : Int32) + x1) 49 (
            inb ((24 : Int32) + x3) 49 (wb (wr μ 81 ((24 : Int32) + x3).toNatClampNeg (μ 81 ((36 : Int32) + x1).toNatClampNeg)) (fun μ4 =>
              f_m_crosses_80 N   n μ4 x1 (x3 + 1))))
        else
          f_m_crosses_80 N   n μ x1 (x3 + 1))
def f_m_crosses (N : Nat)  (μ : sw_M) (a1 : Int32) (a2 : Int32) : Option (Int32 × sw_M) :=
  Option.bind (f_m_canCross N  μ a1 a2) (fun r1 =>
    if r1.1 = 0 then
      some (0, r1.2)
    else
      inb ((41 : Int32) + a1) 49 (
        Option.bind (f_m_tollBy N  r1.2 a1 a2) (fun r4 =>
          inb ((41 : Int32) + a1) 49 (wb (wr r4.2 81 ((41 : Int32) + a1).toNatClampNeg ((r1.2 81 ((41 : Int32) + a1).toNatClampNeg) + r4.1)) (fun μ7 =>
            inb ((3 : Int32) * a2) 36 (
              inb (((3 : Int32) * a2) + 1) 36 (
                inb ((36 : Int32) + a1) 49 (
                  inb ((36 : Int32) + a1) 49 (wb (wr μ7 81 ((36 : Int32) + a1).toNatClampNeg (((μ7 69 ((3 : Int32) * a2).toNatClampNeg) + (μ7 69 (((3 : Int32) * a2) + 1).toNatClampNeg)) - (μ7 81 ((36 : Int32) + a1).toNatClampNeg))) (fun μ12 =>
                    inb 47 49 (
                      inb 47 49 (wb (wr μ12 81 (47 : Int32).toNatClampNeg ((μ12 81 (47 : Int32).toNatClampNeg) + 1)) (fun μ15 =>
                        f_m_crosses_80 N   N μ15 a1 0)))))))))))))
set_option maxRecDepth 100000 in
set_option maxHeartbeats 4000000 in
theorem ok_f_m_crosses_80 {G : sw_G} {ad : Nat → Nat} {ν : sw_N}   {N : Nat} {o : Int32 × sw_M} (g : sw_ok G cX11_crosses "DeadWiresModel" (some .boolean) 7 0 0 ad) (hm : G.2.2.1.2.1.maxLocals = 4)  (ho : sw_out G 0 0 (fun a => a = ad) (.inl (some (.int o.1))) lay0 o.2 ν)  : ∀ (n : Nat) (μ : sw_M) (x1 : Int32) (x3 : Int32) (h : f_m_crosses_80 N   n μ x1 x3 = some o), SW G ad lay0 ν 0 0 80 [some (.ref 63), some (.int x1), none, some (.int x3)] [] μ := by
  intro n
  induction n with
  | zero => intro μ x1 x3 h; simp only [f_m_crosses_80] at h; cases h
  | succ n ih =>
    intro μ x1 x3 h
    unfold f_m_crosses_80 at h
    refine SW.iload_n (pc := 80) g (dt dt_X11_crosses 58 rfl) rfl ?_
    refine SW.aload_n (pc := 81) g (dt dt_X11_crosses 59 rfl) rfl ?_
    refine SW.getI (pc := 82) g (dt dt_X11_crosses 60 rfl) fl_X11_159 cell_63 rfl ?_
    refine SW.icmp_ge (pc := 85) (t := 125) g (dt dt_X11_crosses 61 rfl) rfl (fun hc => ?_) (fun hc => ?_)
    · have h := iteT hc h
      refine SW.iconst (pc := 125) (v := 1) g (dt dt_X11_crosses 84 rfl) ki_1 ?_
      exact SW.zreturn (pc := 126) g (leafW h ho) rfl (Nat.le_of_ble_eq_true rfl) (Nat.le_of_ble_eq_true rfl) (by decide) (dt dt_X11_crosses 85 rfl)
    · have h := iteF hc h
      refine SW.aload_n (pc := 88) g (dt dt_X11_crosses 62 rfl) rfl ?_
      refine SW.getR (pc := 89) g (dt dt_X11_crosses 63 rfl) fl_X11_68 cell_63 rfl ?_
      refine SW.bipush (pc := 92) (v := 30) g (dt dt_X11_crosses 64 rfl) kb_30 ?_
      refine SW.iload_n (pc := 94) g (dt dt_X11_crosses 65 rfl) rfl ?_
      refine SW.iadd (pc := 95) g (dt dt_X11_crosses 66 rfl) ?_
      obtain ⟨hb1, h⟩ := inbI h
      refine SW.iaload (pc := 96) g (dt dt_X11_crosses 67 rfl) cell_81 hb1 ?_
      refine SW.iload_n (pc := 97) g (dt dt_X11_crosses 68 rfl) rfl ?_
      refine SW.icmp_ne (pc := 98) (t := 119) g (dt dt_X11_crosses 69 rfl) rfl (fun hc => ?_) (fun hc => ?_)
      · have h := iteF hc h
        refine SW.iinc (pc := 119) (v := x3 + 1) g (dt dt_X11_crosses 82 rfl) rfl (kn_1 _) (sw_ltm hm (Nat.le_of_ble_eq_true rfl)) rfl ?_
        refine SW.goto (pc := 122) (t := 80) g (dt dt_X11_crosses 83 rfl) rfl ?_
        refine SW.msk [true, true, false, true] ?_
        exact ih μ x1 (x3 + 1) h
      · have h := iteT hc h
        refine SW.aload_n (pc := 101) g (dt dt_X11_crosses 70 rfl) rfl ?_
        refine SW.getR (pc := 102) g (dt dt_X11_crosses 71 rfl) fl_X11_68 cell_63 rfl ?_
        refine SW.bipush (pc := 105) (v := 24) g (dt dt_X11_crosses 72 rfl) kb_24 ?_
        refine SW.iload_n (pc := 107) g (dt dt_X11_crosses 73 rfl) rfl ?_
        refine SW.iadd (pc := 108) g (dt dt_X11_crosses 74 rfl) ?_
        refine SW.aload_n (pc := 109) g (dt dt_X11_crosses 75 rfl) rfl ?_
        refine SW.getR (pc := 110) g (dt dt_X11_crosses 76 rfl) fl_X11_68 cell_63 rfl ?_
        refine SW.bipush (pc := 113) (v := 36) g (dt dt_X11_crosses 77 rfl) kb_36 ?_
        refine SW.iload_n (pc := 115) g (dt dt_X11_crosses 78 rfl) rfl ?_
        refine SW.iadd (pc := 116) g (dt dt_X11_crosses 79 rfl) ?_
        obtain ⟨hb2, h⟩ := inbI h
        refine SW.iaload (pc := 117) g (dt dt_X11_crosses 80 rfl) cell_81 hb2 ?_
        obtain ⟨hb3, h⟩ := inbI h
        refine SW.iastore (pc := 118) g (dt dt_X11_crosses 81 rfl) cell_81 hb3 ?_
        refine SW.genM h (fun μ4 h => ?_)
        refine SW.iinc (pc := 119) (v := x3 + 1) g (dt dt_X11_crosses 82 rfl) rfl (kn_1 _) (sw_ltm hm (Nat.le_of_ble_eq_true rfl)) rfl ?_
        refine SW.goto (pc := 122) (t := 80) g (dt dt_X11_crosses 83 rfl) rfl ?_
        refine SW.msk [true, true, false, true] ?_
        exact ih μ4 x1 (x3 + 1) h
set_option maxRecDepth 100000 in
set_option maxHeartbeats 4000000 in
theorem ok_f_m_crosses {G : sw_G} {ad : Nat → Nat} {ν : sw_N}   {N : Nat} {o : Int32 × sw_M} (g : sw_ok G cX11_crosses "DeadWiresModel" (some .boolean) 7 0 0 ad) (hm : G.2.2.1.2.1.maxLocals = 4)  (μ : sw_M) (ho : sw_out G 0 0 (fun a => a = ad) (.inl (some (.int o.1))) lay0 o.2 ν) (a1 : Int32) (a2 : Int32) (h : f_m_crosses N  μ a1 a2 = some o) : SW G ad lay0 ν 0 0 0 [some (.ref 63), some (.int a1), some (.int a2), none] [] μ := by
  unfold f_m_crosses at h
  refine SW.aload_n (pc := 0) g (dt dt_X11_crosses 0 rfl) rfl ?_
  refine SW.iload_n (pc := 1) g (dt dt_X11_crosses 1 rfl) rfl ?_
  refine SW.iload_n (pc := 2) g (dt dt_X11_crosses 2 rfl) rfl ?_
  obtain ⟨r1, h2, h⟩ := bindI h
  refine SW.callVi (pc := 3) g (dt dt_X11_crosses 3 rfl) (mt_f_m_canCross _ _ _ _ ad ν   N μ a1 a2 r1 h2) me_X11_canCross mv_X11_canCross ml_X11_356 cell_63 rfl rfl (Nat.le_of_ble_eq_true rfl) (Nat.le_of_ble_eq_true rfl) (Nat.le_of_ble_eq_true rfl) (Nat.le_of_ble_eq_true rfl) rfl ?_
  refine SW.if_ne (pc := 6) (t := 11) g (dt dt_X11_crosses 4 rfl) rfl (fun hc => ?_) (fun hc => ?_)
  · have h := iteF hc h
    refine SW.aload_n (pc := 11) g (dt dt_X11_crosses 7 rfl) rfl ?_
    refine SW.getR (pc := 12) g (dt dt_X11_crosses 8 rfl) fl_X11_68 cell_63 rfl ?_
    refine SW.bipush (pc := 15) (v := 41) g (dt dt_X11_crosses 9 rfl) kb_41 ?_
    refine SW.iload_n (pc := 17) g (dt dt_X11_crosses 10 rfl) rfl ?_
    refine SW.iadd (pc := 18) g (dt dt_X11_crosses 11 rfl) ?_
    refine SW.dup2 (pc := 19) g (dt dt_X11_crosses 12 rfl) rfl rfl ?_
    obtain ⟨hb3, h⟩ := inbI h
    refine SW.iaload (pc := 20) g (dt dt_X11_crosses 13 rfl) cell_81 hb3 ?_
    refine SW.aload_n (pc := 21) g (dt dt_X11_crosses 14 rfl) rfl ?_
    refine SW.iload_n (pc := 22) g (dt dt_X11_crosses 15 rfl) rfl ?_
    refine SW.iload_n (pc := 23) g (dt dt_X11_crosses 16 rfl) rfl ?_
    obtain ⟨r4, h5, h⟩ := bindI h
    refine SW.callVi (pc := 24) g (dt dt_X11_crosses 17 rfl) (mt_f_m_tollBy _ _ _ _ ad ν   N r1.2 a1 a2 r4 h5) me_X11_tollBy mv_X11_tollBy ml_X11_353 cell_63 rfl rfl (Nat.le_of_ble_eq_true rfl) (Nat.le_of_ble_eq_true rfl) (Nat.le_of_ble_eq_true rfl) (Nat.le_of_ble_eq_true rfl) rfl ?_
    refine SW.iadd (pc := 27) g (dt dt_X11_crosses 18 rfl) ?_
    obtain ⟨hb6, h⟩ := inbI h
    refine SW.iastore (pc := 28) g (dt dt_X11_crosses 19 rfl) cell_81 hb6 ?_
    refine SW.genM h (fun μ7 h => ?_)
    refine SW.aload_n (pc := 29) g (dt dt_X11_crosses 20 rfl) rfl ?_
    refine SW.getR (pc := 30) g (dt dt_X11_crosses 21 rfl) fl_X11_68 cell_63 rfl ?_
    refine SW.bipush (pc := 33) (v := 36) g (dt dt_X11_crosses 22 rfl) kb_36 ?_
    refine SW.iload_n (pc := 35) g (dt dt_X11_crosses 23 rfl) rfl ?_
    refine SW.iadd (pc := 36) g (dt dt_X11_crosses 24 rfl) ?_
    refine SW.aload_n (pc := 37) g (dt dt_X11_crosses 25 rfl) rfl ?_
    refine SW.getR (pc := 38) g (dt dt_X11_crosses 26 rfl) fl_X11_32 cell_63 rfl ?_
    refine SW.iconst (pc := 41) (v := 3) g (dt dt_X11_crosses 27 rfl) ki_3 ?_
    refine SW.iload_n (pc := 42) g (dt dt_X11_crosses 28 rfl) rfl ?_
    refine SW.imul (pc := 43) g (dt dt_X11_crosses 29 rfl) ?_
    obtain ⟨hb8, h⟩ := inbI h
    refine SW.iaload (pc := 44) g (dt dt_X11_crosses 30 rfl) cell_69 hb8 ?_
    refine SW.aload_n (pc := 45) g (dt dt_X11_crosses 31 rfl) rfl ?_
    refine SW.getR (pc := 46) g (dt dt_X11_crosses 32 rfl) fl_X11_32 cell_63 rfl ?_
    refine SW.iconst (pc := 49) (v := 3) g (dt dt_X11_crosses 33 rfl) ki_3 ?_
    refine SW.iload_n (pc := 50) g (dt dt_X11_crosses 34 rfl) rfl ?_
    refine SW.imul (pc := 51) g (dt dt_X11_crosses 35 rfl) ?_
    refine SW.iconst (pc := 52) (v := 1) g (dt dt_X11_crosses 36 rfl) ki_1 ?_
    refine SW.iadd (pc := 53) g (dt dt_X11_crosses 37 rfl) ?_
    obtain ⟨hb9, h⟩ := inbI h
    refine SW.iaload (pc := 54) g (dt dt_X11_crosses 38 rfl) cell_69 hb9 ?_
    refine SW.iadd (pc := 55) g (dt dt_X11_crosses 39 rfl) ?_
    refine SW.aload_n (pc := 56) g (dt dt_X11_crosses 40 rfl) rfl ?_
    refine SW.getR (pc := 57) g (dt dt_X11_crosses 41 rfl) fl_X11_68 cell_63 rfl ?_
    refine SW.bipush (pc := 60) (v := 36) g (dt dt_X11_crosses 42 rfl) kb_36 ?_
    refine SW.iload_n (pc := 62) g (dt dt_X11_crosses 43 rfl) rfl ?_
    refine SW.iadd (pc := 63) g (dt dt_X11_crosses 44 rfl) ?_
    obtain ⟨hb10, h⟩ := inbI h
    refine SW.iaload (pc := 64) g (dt dt_X11_crosses 45 rfl) cell_81 hb10 ?_
    refine SW.isub (pc := 65) g (dt dt_X11_crosses 46 rfl) ?_
    obtain ⟨hb11, h⟩ := inbI h
    refine SW.iastore (pc := 66) g (dt dt_X11_crosses 47 rfl) cell_81 hb11 ?_
    refine SW.genM h (fun μ12 h => ?_)
    refine SW.aload_n (pc := 67) g (dt dt_X11_crosses 48 rfl) rfl ?_
    refine SW.getR (pc := 68) g (dt dt_X11_crosses 49 rfl) fl_X11_68 cell_63 rfl ?_
    refine SW.bipush (pc := 71) (v := 47) g (dt dt_X11_crosses 50 rfl) kb_47 ?_
    refine SW.dup2 (pc := 73) g (dt dt_X11_crosses 51 rfl) rfl rfl ?_
    obtain ⟨hb13, h⟩ := inbI h
    refine SW.iaload (pc := 74) g (dt dt_X11_crosses 52 rfl) cell_81 hb13 ?_
    refine SW.iconst (pc := 75) (v := 1) g (dt dt_X11_crosses 53 rfl) ki_1 ?_
    refine SW.iadd (pc := 76) g (dt dt_X11_crosses 54 rfl) ?_
    obtain ⟨hb14, h⟩ := inbI h
    refine SW.iastore (pc := 77) g (dt dt_X11_crosses 55 rfl) cell_81 hb14 ?_
    refine SW.genM h (fun μ15 h => ?_)
    refine SW.iconst (pc := 78) (v := 0) g (dt dt_X11_crosses 56 rfl) ki_0 ?_
    refine SW.istore_n (pc := 79) g (dt dt_X11_crosses 57 rfl) (sw_ltm hm (Nat.le_of_ble_eq_true rfl)) rfl ?_
    refine SW.msk [true, true, false, true] ?_
    exact ok_f_m_crosses_80  g hm  ho   N μ15 a1 0 h
  · have h := iteT hc h
    refine SW.iconst (pc := 9) (v := 0) g (dt dt_X11_crosses 5 rfl) ki_0 ?_
    exact SW.zreturn (pc := 10) g (leafW h ho) rfl (Nat.le_of_ble_eq_true rfl) (Nat.le_of_ble_eq_true rfl) (by decide) (dt dt_X11_crosses 6 rfl)
set_option maxRecDepth 100000 in
set_option maxHeartbeats 4000000 in
theorem mt_f_m_crosses (l : Launch) (D : va_G) (cI cL : ClassId) (ad : Nat → Nat) (ν : sw_N)    (N : Nat) (μ : sw_M) (a1 : Int32) (a2 : Int32) (o : Int32 × sw_M) (h : f_m_crosses N  μ a1 a2 = some o) : MetR l D cI cL yX11_crosses cX11_crosses 4 (some .boolean) 7 0 0 (fun a => a = ad) ad [.ref 63, .int a1, .int a2] lay0 μ ν (some (.int o.1)) lay0 o.2 ν :=
  MetR.of (n := 1) rfl (Nat.le_of_ble_eq_true rfl) (fun G g ho hm _ _ => ok_f_m_crosses  g hm  μ ho a1 a2 h)
def f_m_lifts (N : Nat)  (μ : sw_M) (a1 : Int32) (a2 : Int32) : Option (Int32 × sw_M) :=
  inb ((30 : Int32) + a2) 49 (
    if (μ 81 ((30 : Int32) + a2).toNatClampNeg) = (-1) then
      inb ((24 : Int32) + a2) 49 (
        inb ((36 : Int32) + a1) 49 (
          if (μ 81 ((24 : Int32) + a2).toNatClampNeg) = (μ 81 ((36 : Int32) + a1).toNatClampNeg) then
            Option.bind (f_m_loadOf N  μ a1) (fun r4 =>
              inb (((2 : Int32) * a2) + 1) 12 (
                inb (((2 : Int32) * a1) + 1) 10 (
                  if (r4 + (μ 70 (((2 : Int32) * a2) + 1).toNatClampNeg)) ≤ (μ 71 (((2 : Int32) * a1) + 1).toNatClampNeg) then
                    inb ((30 : Int32) + a2) 49 (wb (wr μ 81 ((30 : Int32) + a2).toNatClampNeg a1) (fun μ9 =>
                      some (1, μ9)))
                  else
                    some (0, μ))))
          else
            some (0, μ)))
    else
      some (0, μ))
set_option maxRecDepth 100000 in
set_option maxHeartbeats 4000000 in
theorem ok_f_m_lifts {G : sw_G} {ad : Nat → Nat} {ν : sw_N}   {N : Nat} {o : Int32 × sw_M} (g : sw_ok G cX11_lifts "DeadWiresModel" (some .boolean) 3 0 0 ad) (hm : G.2.2.1.2.1.maxLocals = 3)  (μ : sw_M) (ho : sw_out G 0 0 (fun a => a = ad) (.inl (some (.int o.1))) lay0 o.2 ν) (a1 : Int32) (a2 : Int32) (h : f_m_lifts N  μ a1 a2 = some o) : SW G ad lay0 ν 0 0 0 [some (.ref 63), some (.int a1), some (.int a2)] [] μ := by
  unfold f_m_lifts at h
  refine SW.aload_n (pc := 0) g (dt dt_X11_lifts 0 rfl) rfl ?_
  refine SW.getR (pc := 1) g (dt dt_X11_lifts 1 rfl) fl_X11_68 cell_63 rfl ?_
  refine SW.bipush (pc := 4) (v := 30) g (dt dt_X11_lifts 2 rfl) kb_30 ?_
  refine SW.iload_n (pc := 6) g (dt dt_X11_lifts 3 rfl) rfl ?_
  refine SW.iadd (pc := 7) g (dt dt_X11_lifts 4 rfl) ?_
  obtain ⟨hb1, h⟩ := inbI h
  refine SW.iaload (pc := 8) g (dt dt_X11_lifts 5 rfl) cell_81 hb1 ?_
  refine SW.iconst (pc := 9) (v := (-1)) g (dt dt_X11_lifts 6 rfl) ki_m1 ?_
  refine SW.icmp_ne (pc := 10) (t := 63) g (dt dt_X11_lifts 7 rfl) rfl (fun hc => ?_) (fun hc => ?_)
  · have h := iteF hc h
    refine SW.iconst (pc := 63) (v := 0) g (dt dt_X11_lifts 42 rfl) ki_0 ?_
    exact SW.zreturn (pc := 64) g (leafW h ho) rfl (Nat.le_of_ble_eq_true rfl) (Nat.le_of_ble_eq_true rfl) (by decide) (dt dt_X11_lifts 43 rfl)
  · have h := iteT hc h
    refine SW.aload_n (pc := 13) g (dt dt_X11_lifts 8 rfl) rfl ?_
    refine SW.getR (pc := 14) g (dt dt_X11_lifts 9 rfl) fl_X11_68 cell_63 rfl ?_
    refine SW.bipush (pc := 17) (v := 24) g (dt dt_X11_lifts 10 rfl) kb_24 ?_
    refine SW.iload_n (pc := 19) g (dt dt_X11_lifts 11 rfl) rfl ?_
    refine SW.iadd (pc := 20) g (dt dt_X11_lifts 12 rfl) ?_
    obtain ⟨hb2, h⟩ := inbI h
    refine SW.iaload (pc := 21) g (dt dt_X11_lifts 13 rfl) cell_81 hb2 ?_
    refine SW.aload_n (pc := 22) g (dt dt_X11_lifts 14 rfl) rfl ?_
    refine SW.getR (pc := 23) g (dt dt_X11_lifts 15 rfl) fl_X11_68 cell_63 rfl ?_
    refine SW.bipush (pc := 26) (v := 36) g (dt dt_X11_lifts 16 rfl) kb_36 ?_
    refine SW.iload_n (pc := 28) g (dt dt_X11_lifts 17 rfl) rfl ?_
    refine SW.iadd (pc := 29) g (dt dt_X11_lifts 18 rfl) ?_
    obtain ⟨hb3, h⟩ := inbI h
    refine SW.iaload (pc := 30) g (dt dt_X11_lifts 19 rfl) cell_81 hb3 ?_
    refine SW.icmp_ne (pc := 31) (t := 63) g (dt dt_X11_lifts 20 rfl) rfl (fun hc => ?_) (fun hc => ?_)
    · have h := iteF hc h
      refine SW.iconst (pc := 63) (v := 0) g (dt dt_X11_lifts 42 rfl) ki_0 ?_
      exact SW.zreturn (pc := 64) g (leafW h ho) rfl (Nat.le_of_ble_eq_true rfl) (Nat.le_of_ble_eq_true rfl) (by decide) (dt dt_X11_lifts 43 rfl)
    · have h := iteT hc h
      refine SW.aload_n (pc := 34) g (dt dt_X11_lifts 21 rfl) rfl ?_
      refine SW.iload_n (pc := 35) g (dt dt_X11_lifts 22 rfl) rfl ?_
      obtain ⟨r4, h5, h⟩ := bindI h
      refine SW.callVi (pc := 36) g (dt dt_X11_lifts 23 rfl) (mt_f_m_loadOf _ _ _ _ ad ν   N μ a1 r4 h5) me_X11_loadOf mv_X11_loadOf ml_X11_337 cell_63 rfl rfl (Nat.le_of_ble_eq_true rfl) (Nat.le_of_ble_eq_true rfl) (Nat.le_of_ble_eq_true rfl) (Nat.le_of_ble_eq_true rfl) rfl ?_
      refine SW.aload_n (pc := 39) g (dt dt_X11_lifts 24 rfl) rfl ?_
      refine SW.getR (pc := 40) g (dt dt_X11_lifts 25 rfl) fl_X11_35 cell_63 rfl ?_
      refine SW.iconst (pc := 43) (v := 2) g (dt dt_X11_lifts 26 rfl) ki_2 ?_
      refine SW.iload_n (pc := 44) g (dt dt_X11_lifts 27 rfl) rfl ?_
      refine SW.imul (pc := 45) g (dt dt_X11_lifts 28 rfl) ?_
      refine SW.iconst (pc := 46) (v := 1) g (dt dt_X11_lifts 29 rfl) ki_1 ?_
      refine SW.iadd (pc := 47) g (dt dt_X11_lifts 30 rfl) ?_
      obtain ⟨hb6, h⟩ := inbI h
      refine SW.iaload (pc := 48) g (dt dt_X11_lifts 31 rfl) cell_70 hb6 ?_
      refine SW.iadd (pc := 49) g (dt dt_X11_lifts 32 rfl) ?_
      refine SW.aload_n (pc := 50) g (dt dt_X11_lifts 33 rfl) rfl ?_
      refine SW.getR (pc := 51) g (dt dt_X11_lifts 34 rfl) fl_X11_38 cell_63 rfl ?_
      refine SW.iconst (pc := 54) (v := 2) g (dt dt_X11_lifts 35 rfl) ki_2 ?_
      refine SW.iload_n (pc := 55) g (dt dt_X11_lifts 36 rfl) rfl ?_
      refine SW.imul (pc := 56) g (dt dt_X11_lifts 37 rfl) ?_
      refine SW.iconst (pc := 57) (v := 1) g (dt dt_X11_lifts 38 rfl) ki_1 ?_
      refine SW.iadd (pc := 58) g (dt dt_X11_lifts 39 rfl) ?_
      obtain ⟨hb7, h⟩ := inbI h
      refine SW.iaload (pc := 59) g (dt dt_X11_lifts 40 rfl) cell_71 hb7 ?_
      refine SW.icmp_le (pc := 60) (t := 65) g (dt dt_X11_lifts 41 rfl) rfl (fun hc => ?_) (fun hc => ?_)
      · have h := iteT hc h
        refine SW.aload_n (pc := 65) g (dt dt_X11_lifts 44 rfl) rfl ?_
        refine SW.getR (pc := 66) g (dt dt_X11_lifts 45 rfl) fl_X11_68 cell_63 rfl ?_
        refine SW.bipush (pc := 69) (v := 30) g (dt dt_X11_lifts 46 rfl) kb_30 ?_
        refine SW.iload_n (pc := 71) g (dt dt_X11_lifts 47 rfl) rfl ?_
        refine SW.iadd (pc := 72) g (dt dt_X11_lifts 48 rfl) ?_
        refine SW.iload_n (pc := 73) g (dt dt_X11_lifts 49 rfl) rfl ?_
        obtain ⟨hb8, h⟩ := inbI h
        refine SW.iastore (pc := 74) g (dt dt_X11_lifts 50 rfl) cell_81 hb8 ?_
        refine SW.genM h (fun μ9 h => ?_)
        refine SW.iconst (pc := 75) (v := 1) g (dt dt_X11_lifts 51 rfl) ki_1 ?_
        exact SW.zreturn (pc := 76) g (leafW h ho) rfl (Nat.le_of_ble_eq_true rfl) (Nat.le_of_ble_eq_true rfl) (by decide) (dt dt_X11_lifts 52 rfl)
      · have h := iteF hc h
        refine SW.iconst (pc := 63) (v := 0) g (dt dt_X11_lifts 42 rfl) ki_0 ?_
        exact SW.zreturn (pc := 64) g (leafW h ho) rfl (Nat.le_of_ble_eq_true rfl) (Nat.le_of_ble_eq_true rfl) (by decide) (dt dt_X11_lifts 43 rfl)
set_option maxRecDepth 100000 in
set_option maxHeartbeats 4000000 in
theorem mt_f_m_lifts (l : Launch) (D : va_G) (cI cL : ClassId) (ad : Nat → Nat) (ν : sw_N)    (N : Nat) (μ : sw_M) (a1 : Int32) (a2 : Int32) (o : Int32 × sw_M) (h : f_m_lifts N  μ a1 a2 = some o) : MetR l D cI cL yX11_lifts cX11_lifts 3 (some .boolean) 3 0 0 (fun a => a = ad) ad [.ref 63, .int a1, .int a2] lay0 μ ν (some (.int o.1)) lay0 o.2 ν :=
  MetR.of (n := 0) rfl (Nat.le_of_ble_eq_true rfl) (fun G g ho hm _ _ => ok_f_m_lifts  g hm  μ ho a1 a2 h)
def f_m_isDone (N : Nat)  (μ : sw_M) (a1 : Int32) (a2 : Int32) (a3 : Int32) : Option (Int32 × sw_M) :=
  if a1 = 0 then
    Option.bind (f_m_lifts N  μ a2 a3) (fun r13 =>
      bl r13.1 (some (r13.1, r13.2)))
  else
    if a1 = 2 then
      Option.bind (f_m_crosses N  μ a2 a3) (fun r11 =>
        bl r11.1 (some (r11.1, r11.2)))
    else
      if a1 = 3 then
        Option.bind (f_m_moves N  μ a2 a3) (fun r9 =>
          bl r9.1 (some (r9.1, r9.2)))
      else
        if a1 = 4 then
          Option.bind (f_m_clips N  μ a2) (fun r7 =>
            bl r7.1 (some (r7.1, r7.2)))
        else
          if a1 = 1 then
            inb ((30 : Int32) + a3) 49 (
              if (μ 81 ((30 : Int32) + a3).toNatClampNeg) = a2 then
                inb ((30 : Int32) + a3) 49 (wb (wr μ 81 ((30 : Int32) + a3).toNatClampNeg (-1)) (fun μ6 =>
                  some (1, μ6)))
              else
                some (0, μ))
          else
            inb 48 49 (
              if (μ 81 (48 : Int32).toNatClampNeg) = 400 then
                some (0, μ)
              else
                Option.bind (f_m_goesOn N  μ ) (fun r2 =>
                  some (1, r2)))
set_option maxRecDepth 100000 in
set_option maxHeartbeats 4000000 in
theorem ok_f_m_isDone {G : sw_G} {ad : Nat → Nat} {ν : sw_N}   {N : Nat} {o : Int32 × sw_M} (g : sw_ok G cX11_isDone "DeadWiresModel" (some .boolean) 8 0 0 ad) (hm : G.2.2.1.2.1.maxLocals = 4)  (μ : sw_M) (ho : sw_out G 0 0 (fun a => a = ad) (.inl (some (.int o.1))) lay0 o.2 ν) (a1 : Int32) (a2 : Int32) (a3 : Int32) (h : f_m_isDone N  μ a1 a2 a3 = some o) : SW G ad lay0 ν 0 0 0 [some (.ref 63), some (.int a1), some (.int a2), some (.int a3)] [] μ := by
  unfold f_m_isDone at h
  refine SW.iload_n (pc := 0) g (dt dt_X11_isDone 0 rfl) rfl ?_
  refine SW.if_ne (pc := 1) (t := 11) g (dt dt_X11_isDone 1 rfl) rfl (fun hc => ?_) (fun hc => ?_)
  · have h := iteF hc h
    refine SW.iload_n (pc := 11) g (dt dt_X11_isDone 7 rfl) rfl ?_
    refine SW.iconst (pc := 12) (v := 2) g (dt dt_X11_isDone 8 rfl) ki_2 ?_
    refine SW.icmp_ne (pc := 13) (t := 23) g (dt dt_X11_isDone 9 rfl) rfl (fun hc => ?_) (fun hc => ?_)
    · have h := iteF hc h
      refine SW.iload_n (pc := 23) g (dt dt_X11_isDone 15 rfl) rfl ?_
      refine SW.iconst (pc := 24) (v := 3) g (dt dt_X11_isDone 16 rfl) ki_3 ?_
      refine SW.icmp_ne (pc := 25) (t := 35) g (dt dt_X11_isDone 17 rfl) rfl (fun hc => ?_) (fun hc => ?_)
      · have h := iteF hc h
        refine SW.iload_n (pc := 35) g (dt dt_X11_isDone 23 rfl) rfl ?_
        refine SW.iconst (pc := 36) (v := 4) g (dt dt_X11_isDone 24 rfl) ki_4 ?_
        refine SW.icmp_ne (pc := 37) (t := 46) g (dt dt_X11_isDone 25 rfl) rfl (fun hc => ?_) (fun hc => ?_)
        · have h := iteF hc h
          refine SW.iload_n (pc := 46) g (dt dt_X11_isDone 30 rfl) rfl ?_
          refine SW.iconst (pc := 47) (v := 1) g (dt dt_X11_isDone 31 rfl) ki_1 ?_
          refine SW.icmp_ne (pc := 48) (t := 78) g (dt dt_X11_isDone 32 rfl) rfl (fun hc => ?_) (fun hc => ?_)
          · have h := iteF hc h
            refine SW.aload_n (pc := 78) g (dt dt_X11_isDone 52 rfl) rfl ?_
            refine SW.getR (pc := 79) g (dt dt_X11_isDone 53 rfl) fl_X11_68 cell_63 rfl ?_
            refine SW.bipush (pc := 82) (v := 48) g (dt dt_X11_isDone 54 rfl) kb_48 ?_
            obtain ⟨hb1, h⟩ := inbI h
            refine SW.iaload (pc := 84) g (dt dt_X11_isDone 55 rfl) cell_81 hb1 ?_
            refine SW.sipush (pc := 85) (v := 400) g (dt dt_X11_isDone 56 rfl) ks_400 ?_
            refine SW.icmp_ne (pc := 88) (t := 93) g (dt dt_X11_isDone 57 rfl) rfl (fun hc => ?_) (fun hc => ?_)
            · have h := iteF hc h
              refine SW.aload_n (pc := 93) g (dt dt_X11_isDone 60 rfl) rfl ?_
              obtain ⟨r2, h3, h⟩ := bindI h
              refine SW.callVv (pc := 94) g (dt dt_X11_isDone 61 rfl) (mt_f_m_goesOn _ _ _ _ ad ν   N μ  r2 h3) me_X11_goesOn mv_X11_goesOn ml_X11_371 cell_63 rfl rfl (Nat.le_of_ble_eq_true rfl) (Nat.le_of_ble_eq_true rfl) (Nat.le_of_ble_eq_true rfl) (Nat.le_of_ble_eq_true rfl) rfl ?_
              refine SW.iconst (pc := 97) (v := 1) g (dt dt_X11_isDone 62 rfl) ki_1 ?_
              exact SW.zreturn (pc := 98) g (leafW h ho) rfl (Nat.le_of_ble_eq_true rfl) (Nat.le_of_ble_eq_true rfl) (by decide) (dt dt_X11_isDone 63 rfl)
            · have h := iteT hc h
              refine SW.iconst (pc := 91) (v := 0) g (dt dt_X11_isDone 58 rfl) ki_0 ?_
              exact SW.zreturn (pc := 92) g (leafW h ho) rfl (Nat.le_of_ble_eq_true rfl) (Nat.le_of_ble_eq_true rfl) (by decide) (dt dt_X11_isDone 59 rfl)
          · have h := iteT hc h
            refine SW.aload_n (pc := 51) g (dt dt_X11_isDone 33 rfl) rfl ?_
            refine SW.getR (pc := 52) g (dt dt_X11_isDone 34 rfl) fl_X11_68 cell_63 rfl ?_
            refine SW.bipush (pc := 55) (v := 30) g (dt dt_X11_isDone 35 rfl) kb_30 ?_
            refine SW.iload_n (pc := 57) g (dt dt_X11_isDone 36 rfl) rfl ?_
            refine SW.iadd (pc := 58) g (dt dt_X11_isDone 37 rfl) ?_
            obtain ⟨hb4, h⟩ := inbI h
            refine SW.iaload (pc := 59) g (dt dt_X11_isDone 38 rfl) cell_81 hb4 ?_
            refine SW.iload_n (pc := 60) g (dt dt_X11_isDone 39 rfl) rfl ?_
            refine SW.icmp_eq (pc := 61) (t := 66) g (dt dt_X11_isDone 40 rfl) rfl (fun hc => ?_) (fun hc => ?_)
            · have h := iteT hc h
              refine SW.aload_n (pc := 66) g (dt dt_X11_isDone 43 rfl) rfl ?_
              refine SW.getR (pc := 67) g (dt dt_X11_isDone 44 rfl) fl_X11_68 cell_63 rfl ?_
              refine SW.bipush (pc := 70) (v := 30) g (dt dt_X11_isDone 45 rfl) kb_30 ?_
              refine SW.iload_n (pc := 72) g (dt dt_X11_isDone 46 rfl) rfl ?_
              refine SW.iadd (pc := 73) g (dt dt_X11_isDone 47 rfl) ?_
              refine SW.iconst (pc := 74) (v := (-1)) g (dt dt_X11_isDone 48 rfl) ki_m1 ?_
              obtain ⟨hb5, h⟩ := inbI h
              refine SW.iastore (pc := 75) g (dt dt_X11_isDone 49 rfl) cell_81 hb5 ?_
              refine SW.genM h (fun μ6 h => ?_)
              refine SW.iconst (pc := 76) (v := 1) g (dt dt_X11_isDone 50 rfl) ki_1 ?_
              exact SW.zreturn (pc := 77) g (leafW h ho) rfl (Nat.le_of_ble_eq_true rfl) (Nat.le_of_ble_eq_true rfl) (by decide) (dt dt_X11_isDone 51 rfl)
            · have h := iteF hc h
              refine SW.iconst (pc := 64) (v := 0) g (dt dt_X11_isDone 41 rfl) ki_0 ?_
              exact SW.zreturn (pc := 65) g (leafW h ho) rfl (Nat.le_of_ble_eq_true rfl) (Nat.le_of_ble_eq_true rfl) (by decide) (dt dt_X11_isDone 42 rfl)
        · have h := iteT hc h
          refine SW.aload_n (pc := 40) g (dt dt_X11_isDone 26 rfl) rfl ?_
          refine SW.iload_n (pc := 41) g (dt dt_X11_isDone 27 rfl) rfl ?_
          obtain ⟨r7, h8, h⟩ := bindI h
          refine SW.callVi (pc := 42) g (dt dt_X11_isDone 28 rfl) (mt_f_m_clips _ _ _ _ ad ν   N μ a2 r7 h8) me_X11_clips mv_X11_clips ml_X11_368 cell_63 rfl rfl (Nat.le_of_ble_eq_true rfl) (Nat.le_of_ble_eq_true rfl) (Nat.le_of_ble_eq_true rfl) (Nat.le_of_ble_eq_true rfl) rfl ?_
          obtain ⟨hn, h⟩ := blI h
          exact SW.zreturn (pc := 45) g (leafW h ho) rfl (Nat.le_of_ble_eq_true rfl) (Nat.le_of_ble_eq_true rfl) hn (dt dt_X11_isDone 29 rfl)
      · have h := iteT hc h
        refine SW.aload_n (pc := 28) g (dt dt_X11_isDone 18 rfl) rfl ?_
        refine SW.iload_n (pc := 29) g (dt dt_X11_isDone 19 rfl) rfl ?_
        refine SW.iload_n (pc := 30) g (dt dt_X11_isDone 20 rfl) rfl ?_
        obtain ⟨r9, h10, h⟩ := bindI h
        refine SW.callVi (pc := 31) g (dt dt_X11_isDone 21 rfl) (mt_f_m_moves _ _ _ _ ad ν   N μ a2 a3 r9 h10) me_X11_moves mv_X11_moves ml_X11_365 cell_63 rfl rfl (Nat.le_of_ble_eq_true rfl) (Nat.le_of_ble_eq_true rfl) (Nat.le_of_ble_eq_true rfl) (Nat.le_of_ble_eq_true rfl) rfl ?_
        obtain ⟨hn, h⟩ := blI h
        exact SW.zreturn (pc := 34) g (leafW h ho) rfl (Nat.le_of_ble_eq_true rfl) (Nat.le_of_ble_eq_true rfl) hn (dt dt_X11_isDone 22 rfl)
    · have h := iteT hc h
      refine SW.aload_n (pc := 16) g (dt dt_X11_isDone 10 rfl) rfl ?_
      refine SW.iload_n (pc := 17) g (dt dt_X11_isDone 11 rfl) rfl ?_
      refine SW.iload_n (pc := 18) g (dt dt_X11_isDone 12 rfl) rfl ?_
      obtain ⟨r11, h12, h⟩ := bindI h
      refine SW.callVi (pc := 19) g (dt dt_X11_isDone 13 rfl) (mt_f_m_crosses _ _ _ _ ad ν   N μ a2 a3 r11 h12) me_X11_crosses mv_X11_crosses ml_X11_362 cell_63 rfl rfl (Nat.le_of_ble_eq_true rfl) (Nat.le_of_ble_eq_true rfl) (Nat.le_of_ble_eq_true rfl) (Nat.le_of_ble_eq_true rfl) rfl ?_
      obtain ⟨hn, h⟩ := blI h
      exact SW.zreturn (pc := 22) g (leafW h ho) rfl (Nat.le_of_ble_eq_true rfl) (Nat.le_of_ble_eq_true rfl) hn (dt dt_X11_isDone 14 rfl)
  · have h := iteT hc h
    refine SW.aload_n (pc := 4) g (dt dt_X11_isDone 2 rfl) rfl ?_
    refine SW.iload_n (pc := 5) g (dt dt_X11_isDone 3 rfl) rfl ?_
    refine SW.iload_n (pc := 6) g (dt dt_X11_isDone 4 rfl) rfl ?_
    obtain ⟨r13, h14, h⟩ := bindI h
    refine SW.callVi (pc := 7) g (dt dt_X11_isDone 5 rfl) (mt_f_m_lifts _ _ _ _ ad ν   N μ a2 a3 r13 h14) me_X11_lifts mv_X11_lifts ml_X11_359 cell_63 rfl rfl (Nat.le_of_ble_eq_true rfl) (Nat.le_of_ble_eq_true rfl) (Nat.le_of_ble_eq_true rfl) (Nat.le_of_ble_eq_true rfl) rfl ?_
    obtain ⟨hn, h⟩ := blI h
    exact SW.zreturn (pc := 10) g (leafW h ho) rfl (Nat.le_of_ble_eq_true rfl) (Nat.le_of_ble_eq_true rfl) hn (dt dt_X11_isDone 6 rfl)
set_option maxRecDepth 100000 in
set_option maxHeartbeats 4000000 in
theorem mt_f_m_isDone (l : Launch) (D : va_G) (cI cL : ClassId) (ad : Nat → Nat) (ν : sw_N)    (N : Nat) (μ : sw_M) (a1 : Int32) (a2 : Int32) (a3 : Int32) (o : Int32 × sw_M) (h : f_m_isDone N  μ a1 a2 a3 = some o) : MetR l D cI cL yX11_isDone cX11_isDone 4 (some .boolean) 8 0 0 (fun a => a = ad) ad [.ref 63, .int a1, .int a2, .int a3] lay0 μ ν (some (.int o.1)) lay0 o.2 ν :=
  MetR.of (n := 0) rfl (Nat.le_of_ble_eq_true rfl) (fun G g ho hm _ _ => ok_f_m_isDone  g hm  μ ho a1 a2 a3 h)
def f_m_goesSteps_89 (N : Nat) (q_f_m_goesSteps : sw_M → Int32 → Int32 → Option (sw_M)) (k_2 : sw_M → Int32 → Int32 → Option (sw_M)) (μ : sw_M) (x2 : Int32) (x4 : Int32) : Option (sw_M) :=
  k_2 μ x2 x4
def f_m_goesSteps_51 (N : Nat) (q_f_m_goesSteps : sw_M → Int32 → Int32 → Option (sw_M)) (k_2 : sw_M → Int32 → Int32 → Option (sw_M)) : Nat → sw_M → Int32 → Int32 → Int32 → Int32 → Option (sw_M)
  | 0, _, _, _, _, _ => none
  | n + 1, μ, x2, x3, x4, x5 =>
    inb (x3 + 1) 150 (
      if (μ 79 (x3 + 1).toNatClampNeg) ≤ x5 then
        f_m_goesSteps_89 N  q_f_m_goesSteps k_2  μ x2 x4
      else
        if 200 ≤ (μ 63 38) then
          f_m_goesSteps_89 N  q_f_m_goesSteps k_2  μ x2 x4
        else
          Option.bind (q_f_m_goesSteps μ (x3 + 3) x4) (fun r2 =>
            f_m_goesSteps_51 N  q_f_m_goesSteps k_2 n r2 x2 x3 x4 (x5 + 1)))
def f_m_goesSteps_2 (N : Nat) (q_f_m_goesSteps : sw_M → Int32 → Int32 → Option (sw_M))  : Nat → sw_M → Int32 → Int32 → Option (sw_M)
  | 0, _, _, _ => none
  | n + 1, μ, x2, x3 =>
    if x2 ≤ x3 then
      some μ
    else
      if 200 ≤ (μ 63 38) then
        some μ
      else
        wb (wr μ 63 38 ((μ 63 38) + 1)) (fun μ1 =>
          inb x3 150 (
            if (μ1 79 x3.toNatClampNeg) = 6 then
              inb (x3 + 2) 150 (
                ib (μ1 79 (x3 + 2).toNatClampNeg) (fun y11 =>
                  f_m_goesSteps_51 N  q_f_m_goesSteps (f_m_goesSteps_2 N  q_f_m_goesSteps  n) N μ1 x2 x3 y11 0))
            else
              inb x3 150 (
                inb (x3 + 1) 150 (
                  inb (x3 + 2) 150 (
                    Option.bind (f_m_isDone N  μ1 (μ1 79 x3.toNatClampNeg) (μ1 79 (x3 + 1).toNatClampNeg) (μ1 79 (x3 + 2).toNatClampNeg)) (fun r6 =>
                      if r6.1 = 0 then
                        wb (wr r6.2 63 40 ((r6.2 63 40) + 1)) (fun μ8 =>
                          f_m_goesSteps_2 N  q_f_m_goesSteps  n μ8 x2 (x3 + 3))
                      else
                        wb (wr r6.2 63 39 ((r6.2 63 39) + 1)) (fun μ9 =>
                          f_m_goesSteps_2 N  q_f_m_goesSteps  n μ9 x2 (x3 + 3))))))))
def f_m_goesSteps_b (N : Nat) (q_f_m_goesSteps : sw_M → Int32 → Int32 → Option (sw_M)) (μ : sw_M) (a1 : Int32) (a2 : Int32) : Option (sw_M) :=
  f_m_goesSteps_2 N  q_f_m_goesSteps  N μ a2 a1
set_option maxRecDepth 100000 in
set_option maxHeartbeats 4000000 in
theorem ok_f_m_goesSteps_89 {G : sw_G} {ad : Nat → Nat} {ν : sw_N}   {d : Nat} (q_f_m_goesSteps : sw_M → Int32 → Int32 → Option (sw_M)) {N : Nat} {o : sw_M} (g : sw_ok G cX11_goesSteps "DeadWiresModel" none (9 + (d + 1)) 0 0 ad) (hm : G.2.2.1.2.1.maxLocals = 6) (hq_f_m_goesSteps : ∀ (l : Launch) (D : va_G) (cI cL : ClassId) (ad : Nat → Nat) (ν : sw_N) (μ : sw_M) (a1 : Int32) (a2 : Int32) (o : sw_M), q_f_m_goesSteps μ a1 a2 = some o → MetR l D cI cL yX11_goesSteps cX11_goesSteps 6 none (9 + d) 0 0 (fun a => a = ad) ad [.ref 63, .int a1, .int a2] lay0 μ ν none lay0 o ν) (ho : sw_out G 0 0 (fun a => a = ad) (.inl none) lay0 o ν) (k_2 : sw_M → Int32 → Int32 → Option (sw_M)) (hk_2 : ∀ (μ : sw_M) (x2 : Int32) (x3 : Int32), k_2 μ x2 x3 = some o → SW G ad lay0 ν 0 0 2 [some (.ref 63), none, some (.int x2), some (.int x3), none, none] [] μ) (μ : sw_M) (x2 : Int32) (x4 : Int32) (h : f_m_goesSteps_89 N  q_f_m_goesSteps k_2  μ x2 x4 = some o) : SW G ad lay0 ν 0 0 89 [some (.ref 63), none, some (.int x2), none, some (.int x4), none] [] μ := by
  unfold f_m_goesSteps_89 at h
  refine SW.iload (pc := 89) g (dt dt_X11_goesSteps 50 rfl) rfl ?_
  refine SW.istore_n (pc := 91) g (dt dt_X11_goesSteps 51 rfl) (sw_ltm hm (Nat.le_of_ble_eq_true rfl)) rfl ?_
  refine SW.goto (pc := 92) (t := 2) g (dt dt_X11_goesSteps 52 rfl) rfl ?_
  refine SW.msk [true, false, true, true, false, false] ?_
  exact hk_2 μ x2 x4 h
set_option maxRecDepth 100000 in
set_option maxHeartbeats 4000000 in
theorem ok_f_m_goesSteps_51 {G : sw_G} {ad : Nat → Nat} {ν : sw_N}   {d : Nat} (q_f_m_goesSteps : sw_M → Int32 → Int32 → Option (sw_M)) {N : Nat} {o : sw_M} (g : sw_ok G cX11_goesSteps "DeadWiresModel" none (9 + (d + 1)) 0 0 ad) (hm : G.2.2.1.2.1.maxLocals = 6) (hq_f_m_goesSteps : ∀ (l : Launch) (D : va_G) (cI cL : ClassId) (ad : Nat → Nat) (ν : sw_N) (μ : sw_M) (a1 : Int32) (a2 : Int32) (o : sw_M), q_f_m_goesSteps μ a1 a2 = some o → MetR l D cI cL yX11_goesSteps cX11_goesSteps 6 none (9 + d) 0 0 (fun a => a = ad) ad [.ref 63, .int a1, .int a2] lay0 μ ν none lay0 o ν) (ho : sw_out G 0 0 (fun a => a = ad) (.inl none) lay0 o ν) (k_2 : sw_M → Int32 → Int32 → Option (sw_M)) (hk_2 : ∀ (μ : sw_M) (x2 : Int32) (x3 : Int32), k_2 μ x2 x3 = some o → SW G ad lay0 ν 0 0 2 [some (.ref 63), none, some (.int x2), some (.int x3), none, none] [] μ) : ∀ (n : Nat) (μ : sw_M) (x2 : Int32) (x3 : Int32) (x4 : Int32) (x5 : Int32) (h : f_m_goesSteps_51 N  q_f_m_goesSteps k_2 n μ x2 x3 x4 x5 = some o), SW G ad lay0 ν 0 0 51 [some (.ref 63), none, some (.int x2), some (.int x3), some (.int x4), some (.int x5)] [] μ := by
  intro n
  induction n with
  | zero => intro μ x2 x3 x4 x5 h; simp only [f_m_goesSteps_51] at h; cases h
  | succ n ih =>
    intro μ x2 x3 x4 x5 h
    unfold f_m_goesSteps_51 at h
    refine SW.iload (pc := 51) g (dt dt_X11_goesSteps 30 rfl) rfl ?_
    refine SW.aload_n (pc := 53) g (dt dt_X11_goesSteps 31 rfl) rfl ?_
    refine SW.getR (pc := 54) g (dt dt_X11_goesSteps 32 rfl) fl_X11_62 cell_63 rfl ?_
    refine SW.iload_n (pc := 57) g (dt dt_X11_goesSteps 33 rfl) rfl ?_
    refine SW.iconst (pc := 58) (v := 1) g (dt dt_X11_goesSteps 34 rfl) ki_1 ?_
    refine SW.iadd (pc := 59) g (dt dt_X11_goesSteps 35 rfl) ?_
    obtain ⟨hb1, h⟩ := inbI h
    refine SW.iaload (pc := 60) g (dt dt_X11_goesSteps 36 rfl) cell_79 hb1 ?_
    refine SW.icmp_ge (pc := 61) (t := 89) g (dt dt_X11_goesSteps 37 rfl) rfl (fun hc => ?_) (fun hc => ?_)
    · have h := iteT hc h
      refine SW.msk [true, false, true, false, true, false] ?_
      exact ok_f_m_goesSteps_89  q_f_m_goesSteps g hm  hq_f_m_goesSteps ho k_2 hk_2  μ x2 x4 h
    · have h := iteF hc h
      refine SW.aload_n (pc := 64) g (dt dt_X11_goesSteps 38 rfl) rfl ?_
      refine SW.getI (pc := 65) g (dt dt_X11_goesSteps 39 rfl) fl_X11_308 cell_63 rfl ?_
      refine SW.sipush (pc := 68) (v := 200) g (dt dt_X11_goesSteps 40 rfl) ks_200 ?_
      refine SW.icmp_ge (pc := 71) (t := 89) g (dt dt_X11_goesSteps 41 rfl) rfl (fun hc => ?_) (fun hc => ?_)
      · have h := iteT hc h
        refine SW.msk [true, false, true, false, true, false] ?_
        exact ok_f_m_goesSteps_89  q_f_m_goesSteps g hm  hq_f_m_goesSteps ho k_2 hk_2  μ x2 x4 h
      · have h := iteF hc h
        refine SW.aload_n (pc := 74) g (dt dt_X11_goesSteps 42 rfl) rfl ?_
        refine SW.iload_n (pc := 75) g (dt dt_X11_goesSteps 43 rfl) rfl ?_
        refine SW.iconst (pc := 76) (v := 3) g (dt dt_X11_goesSteps 44 rfl) ki_3 ?_
        refine SW.iadd (pc := 77) g (dt dt_X11_goesSteps 45 rfl) ?_
        refine SW.iload (pc := 78) g (dt dt_X11_goesSteps 46 rfl) rfl ?_
        obtain ⟨r2, h3, h⟩ := bindI h
        refine SW.callVv (pc := 80) g (dt dt_X11_goesSteps 47 rfl) (hq_f_m_goesSteps _ _ _ _ ad ν μ (x3 + 3) x4 r2 h3) me_X11_goesSteps mv_X11_goesSteps ml_X11_317 cell_63 rfl rfl (Nat.le_of_ble_eq_true rfl) (by omega) (Nat.le_of_ble_eq_true rfl) (Nat.le_of_ble_eq_true rfl) rfl ?_
        refine SW.iinc (pc := 83) (v := x5 + 1) g (dt dt_X11_goesSteps 48 rfl) rfl (kn_1 _) (sw_ltm hm (Nat.le_of_ble_eq_true rfl)) rfl ?_
        refine SW.goto (pc := 86) (t := 51) g (dt dt_X11_goesSteps 49 rfl) rfl ?_
        refine SW.msk [true, false, true, true, true, true] ?_
        exact ih r2 x2 x3 x4 (x5 + 1) h
set_option maxRecDepth 100000 in
set_option maxHeartbeats 4000000 in
theorem ok_f_m_goesSteps_2 {G : sw_G} {ad : Nat → Nat} {ν : sw_N}   {d : Nat} (q_f_m_goesSteps : sw_M → Int32 → Int32 → Option (sw_M)) {N : Nat} {o : sw_M} (g : sw_ok G cX11_goesSteps "DeadWiresModel" none (9 + (d + 1)) 0 0 ad) (hm : G.2.2.1.2.1.maxLocals = 6) (hq_f_m_goesSteps : ∀ (l : Launch) (D : va_G) (cI cL : ClassId) (ad : Nat → Nat) (ν : sw_N) (μ : sw_M) (a1 : Int32) (a2 : Int32) (o : sw_M), q_f_m_goesSteps μ a1 a2 = some o → MetR l D cI cL yX11_goesSteps cX11_goesSteps 6 none (9 + d) 0 0 (fun a => a = ad) ad [.ref 63, .int a1, .int a2] lay0 μ ν none lay0 o ν) (ho : sw_out G 0 0 (fun a => a = ad) (.inl none) lay0 o ν)  : ∀ (n : Nat) (μ : sw_M) (x2 : Int32) (x3 : Int32) (h : f_m_goesSteps_2 N  q_f_m_goesSteps  n μ x2 x3 = some o), SW G ad lay0 ν 0 0 2 [some (.ref 63), none, some (.int x2), some (.int x3), none, none] [] μ := by
  intro n
  induction n with
  | zero => intro μ x2 x3 h; simp only [f_m_goesSteps_2] at h; cases h
  | succ n ih =>
    intro μ x2 x3 h
    unfold f_m_goesSteps_2 at h
    refine SW.iload_n (pc := 2) g (dt dt_X11_goesSteps 2 rfl) rfl ?_
    refine SW.iload_n (pc := 3) g (dt dt_X11_goesSteps 3 rfl) rfl ?_
    refine SW.icmp_ge (pc := 4) (t := 153) g (dt dt_X11_goesSteps 4 rfl) rfl (fun hc => ?_) (fun hc => ?_)
    · have h := iteT hc h
      exact SW.vreturn (pc := 153) g (leafV h ho) rfl (Nat.le_of_ble_eq_true rfl) (Nat.le_of_ble_eq_true rfl) (dt dt_X11_goesSteps 87 rfl)
    · have h := iteF hc h
      refine SW.aload_n (pc := 7) g (dt dt_X11_goesSteps 5 rfl) rfl ?_
      refine SW.getI (pc := 8) g (dt dt_X11_goesSteps 6 rfl) fl_X11_308 cell_63 rfl ?_
      refine SW.sipush (pc := 11) (v := 200) g (dt dt_X11_goesSteps 7 rfl) ks_200 ?_
      refine SW.icmp_ge (pc := 14) (t := 153) g (dt dt_X11_goesSteps 8 rfl) rfl (fun hc => ?_) (fun hc => ?_)
      · have h := iteT hc h
        exact SW.vreturn (pc := 153) g (leafV h ho) rfl (Nat.le_of_ble_eq_true rfl) (Nat.le_of_ble_eq_true rfl) (dt dt_X11_goesSteps 87 rfl)
      · have h := iteF hc h
        refine SW.aload_n (pc := 17) g (dt dt_X11_goesSteps 9 rfl) rfl ?_
        refine SW.dup (pc := 18) g (dt dt_X11_goesSteps 10 rfl) rfl ?_
        refine SW.getI (pc := 19) g (dt dt_X11_goesSteps 11 rfl) fl_X11_308 cell_63 rfl ?_
        refine SW.iconst (pc := 22) (v := 1) g (dt dt_X11_goesSteps 12 rfl) ki_1 ?_
        refine SW.iadd (pc := 23) g (dt dt_X11_goesSteps 13 rfl) ?_
        refine SW.putI (pc := 24) g (dt dt_X11_goesSteps 14 rfl) fl_X11_308 cell_63 rfl ?_
        refine SW.genM h (fun μ1 h => ?_)
        refine SW.aload_n (pc := 27) g (dt dt_X11_goesSteps 15 rfl) rfl ?_
        refine SW.getR (pc := 28) g (dt dt_X11_goesSteps 16 rfl) fl_X11_62 cell_63 rfl ?_
        refine SW.iload_n (pc := 31) g (dt dt_X11_goesSteps 17 rfl) rfl ?_
        obtain ⟨hb2, h⟩ := inbI h
        refine SW.iaload (pc := 32) g (dt dt_X11_goesSteps 18 rfl) cell_79 hb2 ?_
        refine SW.bipush (pc := 33) (v := 6) g (dt dt_X11_goesSteps 19 rfl) kb_6 ?_
        refine SW.icmp_ne (pc := 35) (t := 95) g (dt dt_X11_goesSteps 20 rfl) rfl (fun hc => ?_) (fun hc => ?_)
        · have h := iteF hc h
          refine SW.aload_n (pc := 95) g (dt dt_X11_goesSteps 53 rfl) rfl ?_
          refine SW.aload_n (pc := 96) g (dt dt_X11_goesSteps 54 rfl) rfl ?_
          refine SW.getR (pc := 97) g (dt dt_X11_goesSteps 55 rfl) fl_X11_62 cell_63 rfl ?_
          refine SW.iload_n (pc := 100) g (dt dt_X11_goesSteps 56 rfl) rfl ?_
          obtain ⟨hb3, h⟩ := inbI h
          refine SW.iaload (pc := 101) g (dt dt_X11_goesSteps 57 rfl) cell_79 hb3 ?_
          refine SW.aload_n (pc := 102) g (dt dt_X11_goesSteps 58 rfl) rfl ?_
          refine SW.getR (pc := 103) g (dt dt_X11_goesSteps 59 rfl) fl_X11_62 cell_63 rfl ?_
          refine SW.iload_n (pc := 106) g (dt dt_X11_goesSteps 60 rfl) rfl ?_
          refine SW.iconst (pc := 107) (v := 1) g (dt dt_X11_goesSteps 61 rfl) ki_1 ?_
          refine SW.iadd (pc := 108) g (dt dt_X11_goesSteps 62 rfl) ?_
          obtain ⟨hb4, h⟩ := inbI h
          refine SW.iaload (pc := 109) g (dt dt_X11_goesSteps 63 rfl) cell_79 hb4 ?_
          refine SW.aload_n (pc := 110) g (dt dt_X11_goesSteps 64 rfl) rfl ?_
          refine SW.getR (pc := 111) g (dt dt_X11_goesSteps 65 rfl) fl_X11_62 cell_63 rfl ?_
          refine SW.iload_n (pc := 114) g (dt dt_X11_goesSteps 66 rfl) rfl ?_
          refine SW.iconst (pc := 115) (v := 2) g (dt dt_X11_goesSteps 67 rfl) ki_2 ?_
          refine SW.iadd (pc := 116) g (dt dt_X11_goesSteps 68 rfl) ?_
          obtain ⟨hb5, h⟩ := inbI h
          refine SW.iaload (pc := 117) g (dt dt_X11_goesSteps 69 rfl) cell_79 hb5 ?_
          obtain ⟨r6, h7, h⟩ := bindI h
          refine SW.callVi (pc := 118) g (dt dt_X11_goesSteps 70 rfl) (mt_f_m_isDone _ _ _ _ ad ν   N μ1 (μ1 79 x3.toNatClampNeg) (μ1 79 (x3 + 1).toNatClampNeg) (μ1 79 (x3 + 2).toNatClampNeg) r6 h7) me_X11_isDone mv_X11_isDone ml_X11_320 cell_63 rfl rfl (Nat.le_of_ble_eq_true rfl) (by omega) (Nat.le_of_ble_eq_true rfl) (Nat.le_of_ble_eq_true rfl) rfl ?_
          refine SW.if_eq (pc := 121) (t := 137) g (dt dt_X11_goesSteps 71 rfl) rfl (fun hc => ?_) (fun hc => ?_)
          · have h := iteT hc h
            refine SW.aload_n (pc := 137) g (dt dt_X11_goesSteps 79 rfl) rfl ?_
            refine SW.dup (pc := 138) g (dt dt_X11_goesSteps 80 rfl) rfl ?_
            refine SW.getI (pc := 139) g (dt dt_X11_goesSteps 81 rfl) fl_X11_314 cell_63 rfl ?_
            refine SW.iconst (pc := 142) (v := 1) g (dt dt_X11_goesSteps 82 rfl) ki_1 ?_
            refine SW.iadd (pc := 143) g (dt dt_X11_goesSteps 83 rfl) ?_
            refine SW.putI (pc := 144) g (dt dt_X11_goesSteps 84 rfl) fl_X11_314 cell_63 rfl ?_
            refine SW.genM h (fun μ8 h => ?_)
            refine SW.iinc (pc := 147) (v := x3 + 3) g (dt dt_X11_goesSteps 85 rfl) rfl (kn_3 _) (sw_ltm hm (Nat.le_of_ble_eq_true rfl)) rfl ?_
            refine SW.goto (pc := 150) (t := 2) g (dt dt_X11_goesSteps 86 rfl) rfl ?_
            refine SW.msk [true, false, true, true, false, false] ?_
            exact ih μ8 x2 (x3 + 3) h
          · have h := iteF hc h
            refine SW.aload_n (pc := 124) g (dt dt_X11_goesSteps 72 rfl) rfl ?_
            refine SW.dup (pc := 125) g (dt dt_X11_goesSteps 73 rfl) rfl ?_
            refine SW.getI (pc := 126) g (dt dt_X11_goesSteps 74 rfl) fl_X11_311 cell_63 rfl ?_
            refine SW.iconst (pc := 129) (v := 1) g (dt dt_X11_goesSteps 75 rfl) ki_1 ?_
            refine SW.iadd (pc := 130) g (dt dt_X11_goesSteps 76 rfl) ?_
            refine SW.putI (pc := 131) g (dt dt_X11_goesSteps 77 rfl) fl_X11_311 cell_63 rfl ?_
            refine SW.genM h (fun μ9 h => ?_)
            refine SW.goto (pc := 134) (t := 147) g (dt dt_X11_goesSteps 78 rfl) rfl ?_
            refine SW.iinc (pc := 147) (v := x3 + 3) g (dt dt_X11_goesSteps 85 rfl) rfl (kn_3 _) (sw_ltm hm (Nat.le_of_ble_eq_true rfl)) rfl ?_
            refine SW.goto (pc := 150) (t := 2) g (dt dt_X11_goesSteps 86 rfl) rfl ?_
            refine SW.msk [true, false, true, true, false, false] ?_
            exact ih μ9 x2 (x3 + 3) h
        · have h := iteT hc h
          refine SW.aload_n (pc := 38) g (dt dt_X11_goesSteps 21 rfl) rfl ?_
          refine SW.getR (pc := 39) g (dt dt_X11_goesSteps 22 rfl) fl_X11_62 cell_63 rfl ?_
          refine SW.iload_n (pc := 42) g (dt dt_X11_goesSteps 23 rfl) rfl ?_
          refine SW.iconst (pc := 43) (v := 2) g (dt dt_X11_goesSteps 24 rfl) ki_2 ?_
          refine SW.iadd (pc := 44) g (dt dt_X11_goesSteps 25 rfl) ?_
          obtain ⟨hb10, h⟩ := inbI h
          refine SW.iaload (pc := 45) g (dt dt_X11_goesSteps 26 rfl) cell_79 hb10 ?_
          refine SW.istore (pc := 46) g (dt dt_X11_goesSteps 27 rfl) (sw_ltm hm (Nat.le_of_ble_eq_true rfl)) rfl ?_
          refine SW.genL h (fun y11 h => ?_)
          refine SW.iconst (pc := 48) (v := 0) g (dt dt_X11_goesSteps 28 rfl) ki_0 ?_
          refine SW.istore (pc := 49) g (dt dt_X11_goesSteps 29 rfl) (sw_ltm hm (Nat.le_of_ble_eq_true rfl)) rfl ?_
          refine SW.msk [true, false, true, true, true, true] ?_
          exact ok_f_m_goesSteps_51  q_f_m_goesSteps g hm  hq_f_m_goesSteps ho (f_m_goesSteps_2 N  q_f_m_goesSteps  n) ih N μ1 x2 x3 y11 0 h
set_option maxRecDepth 100000 in
set_option maxHeartbeats 4000000 in
theorem ok_f_m_goesSteps_b {G : sw_G} {ad : Nat → Nat} {ν : sw_N}   {d : Nat} (q_f_m_goesSteps : sw_M → Int32 → Int32 → Option (sw_M)) {N : Nat} {o : sw_M} (g : sw_ok G cX11_goesSteps "DeadWiresModel" none (9 + (d + 1)) 0 0 ad) (hm : G.2.2.1.2.1.maxLocals = 6) (hq_f_m_goesSteps : ∀ (l : Launch) (D : va_G) (cI cL : ClassId) (ad : Nat → Nat) (ν : sw_N) (μ : sw_M) (a1 : Int32) (a2 : Int32) (o : sw_M), q_f_m_goesSteps μ a1 a2 = some o → MetR l D cI cL yX11_goesSteps cX11_goesSteps 6 none (9 + d) 0 0 (fun a => a = ad) ad [.ref 63, .int a1, .int a2] lay0 μ ν none lay0 o ν) (μ : sw_M) (ho : sw_out G 0 0 (fun a => a = ad) (.inl none) lay0 o ν) (a1 : Int32) (a2 : Int32) (h : f_m_goesSteps_b N  q_f_m_goesSteps μ a1 a2 = some o) : SW G ad lay0 ν 0 0 0 [some (.ref 63), some (.int a1), some (.int a2), none, none, none] [] μ := by
  unfold f_m_goesSteps_b at h
  refine SW.iload_n (pc := 0) g (dt dt_X11_goesSteps 0 rfl) rfl ?_
  refine SW.istore_n (pc := 1) g (dt dt_X11_goesSteps 1 rfl) (sw_ltm hm (Nat.le_of_ble_eq_true rfl)) rfl ?_
  refine SW.msk [true, false, true, true, false, false] ?_
  exact ok_f_m_goesSteps_2  q_f_m_goesSteps g hm  hq_f_m_goesSteps ho   N μ a2 a1 h
set_option maxRecDepth 100000 in
set_option maxHeartbeats 4000000 in
theorem mtb_f_m_goesSteps (l : Launch) (D : va_G) (cI cL : ClassId) (ad : Nat → Nat) (ν : sw_N)   {d : Nat} (q_f_m_goesSteps : sw_M → Int32 → Int32 → Option (sw_M)) (hq_f_m_goesSteps : ∀ (l : Launch) (D : va_G) (cI cL : ClassId) (ad : Nat → Nat) (ν : sw_N) (μ : sw_M) (a1 : Int32) (a2 : Int32) (o : sw_M), q_f_m_goesSteps μ a1 a2 = some o → MetR l D cI cL yX11_goesSteps cX11_goesSteps 6 none (9 + d) 0 0 (fun a => a = ad) ad [.ref 63, .int a1, .int a2] lay0 μ ν none lay0 o ν) (N : Nat) (μ : sw_M) (a1 : Int32) (a2 : Int32) (o : sw_M) (h : f_m_goesSteps_b N  q_f_m_goesSteps μ a1 a2 = some o) : MetR l D cI cL yX11_goesSteps cX11_goesSteps 6 none (9 + (d + 1)) 0 0 (fun a => a = ad) ad [.ref 63, .int a1, .int a2] lay0 μ ν none lay0 o ν :=
  MetR.of (n := 3) rfl (Nat.le_of_ble_eq_true rfl) (fun G g ho hm _ _ => ok_f_m_goesSteps_b  q_f_m_goesSteps g hm  hq_f_m_goesSteps μ ho a1 a2 h)
def grp_m_goesSteps (N : Nat) : Nat → (sw_M → Int32 → Int32 → Option (sw_M))
  | 0 => fun _ _ _ => none
  | d + 1 => f_m_goesSteps_b N ((grp_m_goesSteps N d))
def f_m_goesSteps (N : Nat) (μ : sw_M) (a1 : Int32) (a2 : Int32) : Option (sw_M) := (grp_m_goesSteps N 40) μ a1 a2
set_option maxRecDepth 100000 in
set_option maxHeartbeats 4000000 in
theorem ok_grp_m_goesSteps (N : Nat) : ∀ d : Nat, (∀ (l : Launch) (D : va_G) (cI cL : ClassId) (ad : Nat → Nat) (ν : sw_N) (μ : sw_M) (a1 : Int32) (a2 : Int32) (o : sw_M), (grp_m_goesSteps N d) μ a1 a2 = some o → MetR l D cI cL yX11_goesSteps cX11_goesSteps 6 none (9 + d) 0 0 (fun a => a = ad) ad [.ref 63, .int a1, .int a2] lay0 μ ν none lay0 o ν) := by
  intro d
  induction d with
  | zero => exact (fun l D cI cL ad ν μ a1 a2 o h => nomatch h)
  | succ d ih => exact fun l D cI cL ad ν μ a1 a2 o h => mtb_f_m_goesSteps l D cI cL ad ν ((grp_m_goesSteps N d)) (ih) N μ a1 a2 o h
set_option maxRecDepth 100000 in
set_option maxHeartbeats 4000000 in
theorem mt_f_m_goesSteps (l : Launch) (D : va_G) (cI cL : ClassId) (ad : Nat → Nat) (ν : sw_N) (N : Nat) (μ : sw_M) (a1 : Int32) (a2 : Int32) (o : sw_M) (h : f_m_goesSteps N μ a1 a2 = some o) : MetR l D cI cL yX11_goesSteps cX11_goesSteps 6 none 49 0 0 (fun a => a = ad) ad [.ref 63, .int a1, .int a2] lay0 μ ν none lay0 o ν := (ok_grp_m_goesSteps N 40) l D cI cL ad ν μ a1 a2 o h
def f_m_work_123 (N : Nat)   : Nat → sw_M → Int32 → Option (Int32 × sw_M)
  | 0, _, _ => none
  | n + 1, μ, x3 =>
    if 49 ≤ x3 then
      wb (wr μ 63 36 ((μ 63 36) + 1)) (fun μ1 =>
        Option.bind (f_m_take N  μ1 ) (fun r2 =>
          wb (wr r2 63 38 0) (fun μ4 =>
            wb (wr μ4 63 39 0) (fun μ5 =>
              wb (wr μ5 63 40 0) (fun μ6 =>
                Option.bind (f_m_goesSteps N  μ6 0 (μ6 63 35)) (fun r7 =>
                  Option.bind (f_m_copies N 81 49 80 49 r7 49) (fun r9 =>
                    wb (wr r9 63 37 (r9 63 40)) (fun μ11 =>
                      some (μ11 63 39, μ11)))))))))
    else
      inb x3 49 (
        inb (((49 : Int32) * (μ 63 36)) + x3) 784 (wb (wr μ 82 (((49 : Int32) * (μ 63 36)) + x3).toNatClampNeg (μ 80 x3.toNatClampNeg)) (fun μ14 =>
          f_m_work_123 N   n μ14 (x3 + 1))))
def f_m_work_89 (N : Nat)   (μ : sw_M)  : Option (Int32 × sw_M) :=
  Option.bind (f_m_result N  μ 0) (fun r1 =>
    if (r1.2 63 5) = (-1) then
      Option.bind (f_m_copies N 78 150 79 150 r1.2 (r1.2 63 35)) (fun r3 =>
        f_m_work_123 N   N r3 0)
    else
      some (r1.1, r1.2))
def f_m_work_68 (N : Nat)   : Nat → sw_M → Option (Int32 × sw_M)
  | 0, _ => none
  | n + 1, μ =>
    Option.bind (f_m_fine N  μ ) (fun r1 =>
      if r1 = 0 then
        f_m_work_89 N    μ 
      else
        Option.bind (f_m_isMore N  μ ) (fun r3 =>
          if r3.1 = 0 then
            f_m_work_89 N    r3.2 
          else
            Option.bind (f_m_readStep N  r3.2 ) (fun r5 =>
              f_m_work_68 N   n r5 )))
def f_m_work_30 (N : Nat)   (μ : sw_M) (x1 : Int32) (s0 : Int32) : Option (Int32 × sw_M) :=
  Option.bind (f_m_may N  μ s0 1 1) (fun r1 =>
    if r1.1 = 0 then
      some (0, r1.2)
    else
      Option.bind (f_m_begins N  r1.2 x1) (fun r3 =>
        if (r3 63 36) = 16 then
          Option.bind (f_m_result N  r3 0) (fun r6 =>
            some ((-20), r6.2))
        else
          wb (wr r3 63 35 0) (fun μ5 =>
            f_m_work_68 N   N μ5 )))
def f_m_work_29 (N : Nat)   (μ : sw_M) (x1 : Int32) : Option (Int32 × sw_M) :=
  f_m_work_30 N    μ x1 0
def f_m_work (N : Nat)  (μ : sw_M) (a1 : Int32) : Option (Int32 × sw_M) :=
  wb (wr μ 63 0 0) (fun μ1 =>
    if a1 < 0 then
      f_m_work_29 N    μ1 a1
    else
      if (μ1 63 2) < a1 then
        f_m_work_29 N    μ1 a1
      else
        if 150 < a1 then
          f_m_work_29 N    μ1 a1
        else
          f_m_work_30 N    μ1 a1 1)
set_option maxRecDepth 100000 in
set_option maxHeartbeats 4000000 in
theorem ok_f_m_work_123 {G : sw_G} {ad : Nat → Nat} {ν : sw_N}   {N : Nat} {o : Int32 × sw_M} (g : sw_ok G cX11_work "DeadWiresModel" (some .int) 50 0 0 ad) (hm : G.2.2.1.2.1.maxLocals = 4)  (ho : sw_out G 0 0 (fun a => a = ad) (.inl (some (.int o.1))) lay0 o.2 ν)  : ∀ (n : Nat) (μ : sw_M) (x3 : Int32) (h : f_m_work_123 N   n μ x3 = some o), SW G ad lay0 ν 0 0 123 [some (.ref 63), none, none, some (.int x3)] [] μ := by
  intro n
  induction n with
  | zero => intro μ x3 h; simp only [f_m_work_123] at h; cases h
  | succ n ih =>
    intro μ x3 h
    unfold f_m_work_123 at h
    refine SW.iload_n (pc := 123) g (dt dt_X11_work 67 rfl) rfl ?_
    refine SW.bipush (pc := 124) (v := 49) g (dt dt_X11_work 68 rfl) kb_49 ?_
    refine SW.icmp_ge (pc := 126) (t := 155) g (dt dt_X11_work 69 rfl) rfl (fun hc => ?_) (fun hc => ?_)
    · have h := iteT hc h
      refine SW.aload_n (pc := 155) g (dt dt_X11_work 85 rfl) rfl ?_
      refine SW.dup (pc := 156) g (dt dt_X11_work 86 rfl) rfl ?_
      refine SW.getI (pc := 157) g (dt dt_X11_work 87 rfl) fl_X11_175 cell_63 rfl ?_
      refine SW.iconst (pc := 160) (v := 1) g (dt dt_X11_work 88 rfl) ki_1 ?_
      refine SW.iadd (pc := 161) g (dt dt_X11_work 89 rfl) ?_
      refine SW.putI (pc := 162) g (dt dt_X11_work 90 rfl) fl_X11_175 cell_63 rfl ?_
      refine SW.genM h (fun μ1 h => ?_)
      refine SW.aload_n (pc := 165) g (dt dt_X11_work 91 rfl) rfl ?_
      obtain ⟨r2, h3, h⟩ := bindI h
      refine SW.callVv (pc := 166) g (dt dt_X11_work 92 rfl) (mt_f_m_take _ _ _ _ ad ν   N μ1  r2 h3) me_X11_take mv_X11_take ml_X11_305 cell_63 rfl rfl (Nat.le_of_ble_eq_true rfl) (Nat.le_of_ble_eq_true rfl) (Nat.le_of_ble_eq_true rfl) (Nat.le_of_ble_eq_true rfl) rfl ?_
      refine SW.aload_n (pc := 169) g (dt dt_X11_work 93 rfl) rfl ?_
      refine SW.iconst (pc := 170) (v := 0) g (dt dt_X11_work 94 rfl) ki_0 ?_
      refine SW.putI (pc := 171) g (dt dt_X11_work 95 rfl) fl_X11_308 cell_63 rfl ?_
      refine SW.genM h (fun μ4 h => ?_)
      refine SW.aload_n (pc := 174) g (dt dt_X11_work 96 rfl) rfl ?_
      refine SW.iconst (pc := 175) (v := 0) g (dt dt_X11_work 97 rfl) ki_0 ?_
      refine SW.putI (pc := 176) g (dt dt_X11_work 98 rfl) fl_X11_311 cell_63 rfl ?_
      refine SW.genM h (fun μ5 h => ?_)
      refine SW.aload_n (pc := 179) g (dt dt_X11_work 99 rfl) rfl ?_
      refine SW.iconst (pc := 180) (v := 0) g (dt dt_X11_work 100 rfl) ki_0 ?_
      refine SW.putI (pc := 181) g (dt dt_X11_work 101 rfl) fl_X11_314 cell_63 rfl ?_
      refine SW.genM h (fun μ6 h => ?_)
      refine SW.aload_n (pc := 184) g (dt dt_X11_work 102 rfl) rfl ?_
      refine SW.iconst (pc := 185) (v := 0) g (dt dt_X11_work 103 rfl) ki_0 ?_
      refine SW.aload_n (pc := 186) g (dt dt_X11_work 104 rfl) rfl ?_
      refine SW.getI (pc := 187) g (dt dt_X11_work 105 rfl) fl_X11_283 cell_63 rfl ?_
      obtain ⟨r7, h8, h⟩ := bindI h
      refine SW.callVv (pc := 190) g (dt dt_X11_work 106 rfl) (mt_f_m_goesSteps _ _ _ _ ad ν   N μ6 0 (μ6 63 35) r7 h8) me_X11_goesSteps mv_X11_goesSteps ml_X11_317 cell_63 rfl rfl (Nat.le_of_ble_eq_true rfl) (Nat.le_of_ble_eq_true rfl) (Nat.le_of_ble_eq_true rfl) (Nat.le_of_ble_eq_true rfl) rfl ?_
      refine SW.aload_n (pc := 193) g (dt dt_X11_work 107 rfl) rfl ?_
      refine SW.aload_n (pc := 194) g (dt dt_X11_work 108 rfl) rfl ?_
      refine SW.getR (pc := 195) g (dt dt_X11_work 109 rfl) fl_X11_68 cell_63 rfl ?_
      refine SW.aload_n (pc := 198) g (dt dt_X11_work 110 rfl) rfl ?_
      refine SW.getR (pc := 199) g (dt dt_X11_work 111 rfl) fl_X11_65 cell_63 rfl ?_
      refine SW.bipush (pc := 202) (v := 49) g (dt dt_X11_work 112 rfl) kb_49 ?_
      obtain ⟨r9, h10, h⟩ := bindI h
      refine SW.callVv (pc := 204) g (dt dt_X11_work 113 rfl) (mt_f_m_copies _ _ _ _ ad ν 81 49 80 49 cell_81 cell_80 N r7 49 r9 h10) me_X11_copies mv_X11_copies ml_X11_165 cell_63 rfl rfl (Nat.le_of_ble_eq_true rfl) (Nat.le_of_ble_eq_true rfl) (Nat.le_of_ble_eq_true rfl) (Nat.le_of_ble_eq_true rfl) rfl ?_
      refine SW.aload_n (pc := 207) g (dt dt_X11_work 114 rfl) rfl ?_
      refine SW.aload_n (pc := 208) g (dt dt_X11_work 115 rfl) rfl ?_
      refine SW.getI (pc := 209) g (dt dt_X11_work 116 rfl) fl_X11_314 cell_63 rfl ?_
      refine SW.putI (pc := 212) g (dt dt_X11_work 117 rfl) fl_X11_181 cell_63 rfl ?_
      refine SW.genM h (fun μ11 h => ?_)
      refine SW.aload_n (pc := 215) g (dt dt_X11_work 118 rfl) rfl ?_
      refine SW.getI (pc := 216) g (dt dt_X11_work 119 rfl) fl_X11_311 cell_63 rfl ?_
      exact SW.ireturn (pc := 219) g (leafW h ho) rfl (Nat.le_of_ble_eq_true rfl) (Nat.le_of_ble_eq_true rfl) (dt dt_X11_work 120 rfl)
    · have h := iteF hc h
      refine SW.aload_n (pc := 129) g (dt dt_X11_work 70 rfl) rfl ?_
      refine SW.getR (pc := 130) g (dt dt_X11_work 71 rfl) fl_X11_71 cell_63 rfl ?_
      refine SW.bipush (pc := 133) (v := 49) g (dt dt_X11_work 72 rfl) kb_49 ?_
      refine SW.aload_n (pc := 135) g (dt dt_X11_work 73 rfl) rfl ?_
      refine SW.getI (pc := 136) g (dt dt_X11_work 74 rfl) fl_X11_175 cell_63 rfl ?_
      refine SW.imul (pc := 139) g (dt dt_X11_work 75 rfl) ?_
      refine SW.iload_n (pc := 140) g (dt dt_X11_work 76 rfl) rfl ?_
      refine SW.iadd (pc := 141) g (dt dt_X11_work 77 rfl) ?_
      refine SW.aload_n (pc := 142) g (dt dt_X11_work 78 rfl) rfl ?_
      refine SW.getR (pc := 143) g (dt dt_X11_work 79 rfl) fl_X11_65 cell_63 rfl ?_
      refine SW.iload_n (pc := 146) g (dt dt_X11_work 80 rfl) rfl ?_
      obtain ⟨hb12, h⟩ := inbI h
      refine SW.iaload (pc := 147) g (dt dt_X11_work 81 rfl) cell_80 hb12 ?_
      obtain ⟨hb13, h⟩ := inbI h
      refine SW.iastore (pc := 148) g (dt dt_X11_work 82 rfl) cell_82 hb13 ?_
      refine SW.genM h (fun μ14 h => ?_)
      refine SW.iinc (pc := 149) (v := x3 + 1) g (dt dt_X11_work 83 rfl) rfl (kn_1 _) (sw_ltm hm (Nat.le_of_ble_eq_true rfl)) rfl ?_
      refine SW.goto (pc := 152) (t := 123) g (dt dt_X11_work 84 rfl) rfl ?_
      refine SW.msk [true, false, false, true] ?_
      exact ih μ14 (x3 + 1) h
set_option maxRecDepth 100000 in
set_option maxHeartbeats 4000000 in
theorem ok_f_m_work_89 {G : sw_G} {ad : Nat → Nat} {ν : sw_N}   {N : Nat} {o : Int32 × sw_M} (g : sw_ok G cX11_work "DeadWiresModel" (some .int) 50 0 0 ad) (hm : G.2.2.1.2.1.maxLocals = 4)  (ho : sw_out G 0 0 (fun a => a = ad) (.inl (some (.int o.1))) lay0 o.2 ν)  (μ : sw_M)  (h : f_m_work_89 N    μ  = some o) : SW G ad lay0 ν 0 0 89 [some (.ref 63), none, none, none] [] μ := by
  unfold f_m_work_89 at h
  refine SW.aload_n (pc := 89) g (dt dt_X11_work 47 rfl) rfl ?_
  refine SW.iconst (pc := 90) (v := 0) g (dt dt_X11_work 48 rfl) ki_0 ?_
  obtain ⟨r1, h2, h⟩ := bindI h
  refine SW.callVi (pc := 91) g (dt dt_X11_work 49 rfl) (mt_f_m_result _ _ _ _ ad ν   N μ 0 r1 h2) me_X11_result mv_X11_result ml_X11_233 cell_63 rfl rfl (Nat.le_of_ble_eq_true rfl) (Nat.le_of_ble_eq_true rfl) (Nat.le_of_ble_eq_true rfl) (Nat.le_of_ble_eq_true rfl) rfl ?_
  refine SW.istore_n (pc := 94) g (dt dt_X11_work 50 rfl) (sw_ltm hm (Nat.le_of_ble_eq_true rfl)) rfl ?_
  refine SW.aload_n (pc := 95) g (dt dt_X11_work 51 rfl) rfl ?_
  refine SW.getI (pc := 96) g (dt dt_X11_work 52 rfl) fl_X11_95 cell_63 rfl ?_
  refine SW.iconst (pc := 99) (v := (-1)) g (dt dt_X11_work 53 rfl) ki_m1 ?_
  refine SW.icmp_eq (pc := 100) (t := 105) g (dt dt_X11_work 54 rfl) rfl (fun hc => ?_) (fun hc => ?_)
  · have h := iteT hc h
    refine SW.aload_n (pc := 105) g (dt dt_X11_work 57 rfl) rfl ?_
    refine SW.aload_n (pc := 106) g (dt dt_X11_work 58 rfl) rfl ?_
    refine SW.getR (pc := 107) g (dt dt_X11_work 59 rfl) fl_X11_59 cell_63 rfl ?_
    refine SW.aload_n (pc := 110) g (dt dt_X11_work 60 rfl) rfl ?_
    refine SW.getR (pc := 111) g (dt dt_X11_work 61 rfl) fl_X11_62 cell_63 rfl ?_
    refine SW.aload_n (pc := 114) g (dt dt_X11_work 62 rfl) rfl ?_
    refine SW.getI (pc := 115) g (dt dt_X11_work 63 rfl) fl_X11_283 cell_63 rfl ?_
    obtain ⟨r3, h4, h⟩ := bindI h
    refine SW.callVv (pc := 118) g (dt dt_X11_work 64 rfl) (mt_f_m_copies _ _ _ _ ad ν 78 150 79 150 cell_78 cell_79 N r1.2 (r1.2 63 35) r3 h4) me_X11_copies mv_X11_copies ml_X11_165 cell_63 rfl rfl (Nat.le_of_ble_eq_true rfl) (Nat.le_of_ble_eq_true rfl) (Nat.le_of_ble_eq_true rfl) (Nat.le_of_ble_eq_true rfl) rfl ?_
    refine SW.iconst (pc := 121) (v := 0) g (dt dt_X11_work 65 rfl) ki_0 ?_
    refine SW.istore_n (pc := 122) g (dt dt_X11_work 66 rfl) (sw_ltm hm (Nat.le_of_ble_eq_true rfl)) rfl ?_
    refine SW.msk [true, false, false, true] ?_
    exact ok_f_m_work_123  g hm  ho   N r3 0 h
  · have h := iteF hc h
    refine SW.iload_n (pc := 103) g (dt dt_X11_work 55 rfl) rfl ?_
    exact SW.ireturn (pc := 104) g (leafW h ho) rfl (Nat.le_of_ble_eq_true rfl) (Nat.le_of_ble_eq_true rfl) (dt dt_X11_work 56 rfl)
set_option maxRecDepth 100000 in
set_option maxHeartbeats 4000000 in
theorem ok_f_m_work_68 {G : sw_G} {ad : Nat → Nat} {ν : sw_N}   {N : Nat} {o : Int32 × sw_M} (g : sw_ok G cX11_work "DeadWiresModel" (some .int) 50 0 0 ad) (hm : G.2.2.1.2.1.maxLocals = 4)  (ho : sw_out G 0 0 (fun a => a = ad) (.inl (some (.int o.1))) lay0 o.2 ν)  : ∀ (n : Nat) (μ : sw_M)  (h : f_m_work_68 N   n μ  = some o), SW G ad lay0 ν 0 0 68 [some (.ref 63), none, none, none] [] μ := by
  intro n
  induction n with
  | zero => intro μ  h; simp only [f_m_work_68] at h; cases h
  | succ n ih =>
    intro μ  h
    unfold f_m_work_68 at h
    refine SW.aload_n (pc := 68) g (dt dt_X11_work 38 rfl) rfl ?_
    obtain ⟨r1, h2, h⟩ := bindI h
    refine SW.callVi (pc := 69) g (dt dt_X11_work 39 rfl) (mt_f_m_fine _ _ _ _ ad ν   N μ  r1 h2) me_X11_fine mv_X11_fine ml_X11_124 cell_63 rfl rfl (Nat.le_of_ble_eq_true rfl) (Nat.le_of_ble_eq_true rfl) (Nat.le_of_ble_eq_true rfl) (Nat.le_of_ble_eq_true rfl) rfl ?_
    refine SW.if_eq (pc := 72) (t := 89) g (dt dt_X11_work 40 rfl) rfl (fun hc => ?_) (fun hc => ?_)
    · have h := iteT hc h
      refine SW.msk [true, false, false, false] ?_
      exact ok_f_m_work_89  g hm  ho    μ  h
    · have h := iteF hc h
      refine SW.aload_n (pc := 75) g (dt dt_X11_work 41 rfl) rfl ?_
      obtain ⟨r3, h4, h⟩ := bindI h
      refine SW.callVi (pc := 76) g (dt dt_X11_work 42 rfl) (mt_f_m_isMore _ _ _ _ ad ν   N μ  r3 h4) me_X11_isMore mv_X11_isMore ml_X11_212 cell_63 rfl rfl (Nat.le_of_ble_eq_true rfl) (Nat.le_of_ble_eq_true rfl) (Nat.le_of_ble_eq_true rfl) (Nat.le_of_ble_eq_true rfl) rfl ?_
      refine SW.if_eq (pc := 79) (t := 89) g (dt dt_X11_work 43 rfl) rfl (fun hc => ?_) (fun hc => ?_)
      · have h := iteT hc h
        refine SW.msk [true, false, false, false] ?_
        exact ok_f_m_work_89  g hm  ho    r3.2  h
      · have h := iteF hc h
        refine SW.aload_n (pc := 82) g (dt dt_X11_work 44 rfl) rfl ?_
        obtain ⟨r5, h6, h⟩ := bindI h
        refine SW.callVv (pc := 83) g (dt dt_X11_work 45 rfl) (mt_f_m_readStep _ _ _ _ ad ν   N r3.2  r5 h6) me_X11_readStep mv_X11_readStep ml_X11_302 cell_63 rfl rfl (Nat.le_of_ble_eq_true rfl) (Nat.le_of_ble_eq_true rfl) (Nat.le_of_ble_eq_true rfl) (Nat.le_of_ble_eq_true rfl) rfl ?_
        refine SW.goto (pc := 86) (t := 68) g (dt dt_X11_work 46 rfl) rfl ?_
        refine SW.msk [true, false, false, false] ?_
        exact ih r5  h
set_option maxRecDepth 100000 in
set_option maxHeartbeats 4000000 in
theorem ok_f_m_work_30 {G : sw_G} {ad : Nat → Nat} {ν : sw_N}   {N : Nat} {o : Int32 × sw_M} (g : sw_ok G cX11_work "DeadWiresModel" (some .int) 50 0 0 ad) (hm : G.2.2.1.2.1.maxLocals = 4)  (ho : sw_out G 0 0 (fun a => a = ad) (.inl (some (.int o.1))) lay0 o.2 ν)  (μ : sw_M) (x1 : Int32) (s0 : Int32) (h : f_m_work_30 N    μ x1 s0 = some o) : SW G ad lay0 ν 0 0 30 [some (.ref 63), some (.int x1), none, none] [.int s0, .ref 63] μ := by
  unfold f_m_work_30 at h
  refine SW.iconst (pc := 30) (v := 1) g (dt dt_X11_work 16 rfl) ki_1 ?_
  refine SW.iconst (pc := 31) (v := 1) g (dt dt_X11_work 17 rfl) ki_1 ?_
  obtain ⟨r1, h2, h⟩ := bindI h
  refine SW.callVi (pc := 32) g (dt dt_X11_work 18 rfl) (mt_f_m_may _ _ _ _ ad ν   N μ s0 1 1 r1 h2) me_X11_may mv_X11_may ml_X11_204 cell_63 rfl rfl (Nat.le_of_ble_eq_true rfl) (Nat.le_of_ble_eq_true rfl) (Nat.le_of_ble_eq_true rfl) (Nat.le_of_ble_eq_true rfl) rfl ?_
  refine SW.if_ne (pc := 35) (t := 40) g (dt dt_X11_work 19 rfl) rfl (fun hc => ?_) (fun hc => ?_)
  · have h := iteF hc h
    refine SW.aload_n (pc := 40) g (dt dt_X11_work 22 rfl) rfl ?_
    refine SW.iload_n (pc := 41) g (dt dt_X11_work 23 rfl) rfl ?_
    obtain ⟨r3, h4, h⟩ := bindI h
    refine SW.callVv (pc := 42) g (dt dt_X11_work 24 rfl) (mt_f_m_begins _ _ _ _ ad ν   N r1.2 x1 r3 h4) me_X11_begins mv_X11_begins ml_X11_208 cell_63 rfl rfl (Nat.le_of_ble_eq_true rfl) (Nat.le_of_ble_eq_true rfl) (Nat.le_of_ble_eq_true rfl) (Nat.le_of_ble_eq_true rfl) rfl ?_
    refine SW.aload_n (pc := 45) g (dt dt_X11_work 25 rfl) rfl ?_
    refine SW.getI (pc := 46) g (dt dt_X11_work 26 rfl) fl_X11_175 cell_63 rfl ?_
    refine SW.bipush (pc := 49) (v := 16) g (dt dt_X11_work 27 rfl) kb_16 ?_
    refine SW.icmp_ne (pc := 51) (t := 63) g (dt dt_X11_work 28 rfl) rfl (fun hc => ?_) (fun hc => ?_)
    · have h := iteF hc h
      refine SW.aload_n (pc := 63) g (dt dt_X11_work 35 rfl) rfl ?_
      refine SW.iconst (pc := 64) (v := 0) g (dt dt_X11_work 36 rfl) ki_0 ?_
      refine SW.putI (pc := 65) g (dt dt_X11_work 37 rfl) fl_X11_283 cell_63 rfl ?_
      refine SW.genM h (fun μ5 h => ?_)
      refine SW.msk [true, false, false, false] ?_
      exact ok_f_m_work_68  g hm  ho   N μ5  h
    · have h := iteT hc h
      refine SW.aload_n (pc := 54) g (dt dt_X11_work 29 rfl) rfl ?_
      refine SW.iconst (pc := 55) (v := 0) g (dt dt_X11_work 30 rfl) ki_0 ?_
      obtain ⟨r6, h7, h⟩ := bindI h
      refine SW.callVi (pc := 56) g (dt dt_X11_work 31 rfl) (mt_f_m_result _ _ _ _ ad ν   N r3 0 r6 h7) me_X11_result mv_X11_result ml_X11_233 cell_63 rfl rfl (Nat.le_of_ble_eq_true rfl) (Nat.le_of_ble_eq_true rfl) (Nat.le_of_ble_eq_true rfl) (Nat.le_of_ble_eq_true rfl) rfl ?_
      refine SW.pop (pc := 59) g (dt dt_X11_work 32 rfl) rfl ?_
      refine SW.bipush (pc := 60) (v := (-20)) g (dt dt_X11_work 33 rfl) kb_m20 ?_
      exact SW.ireturn (pc := 62) g (leafW h ho) rfl (Nat.le_of_ble_eq_true rfl) (Nat.le_of_ble_eq_true rfl) (dt dt_X11_work 34 rfl)
  · have h := iteT hc h
    refine SW.iconst (pc := 38) (v := 0) g (dt dt_X11_work 20 rfl) ki_0 ?_
    exact SW.ireturn (pc := 39) g (leafW h ho) rfl (Nat.le_of_ble_eq_true rfl) (Nat.le_of_ble_eq_true rfl) (dt dt_X11_work 21 rfl)
set_option maxRecDepth 100000 in
set_option maxHeartbeats 4000000 in
theorem ok_f_m_work_29 {G : sw_G} {ad : Nat → Nat} {ν : sw_N}   {N : Nat} {o : Int32 × sw_M} (g : sw_ok G cX11_work "DeadWiresModel" (some .int) 50 0 0 ad) (hm : G.2.2.1.2.1.maxLocals = 4)  (ho : sw_out G 0 0 (fun a => a = ad) (.inl (some (.int o.1))) lay0 o.2 ν)  (μ : sw_M) (x1 : Int32) (h : f_m_work_29 N    μ x1 = some o) : SW G ad lay0 ν 0 0 29 [some (.ref 63), some (.int x1), none, none] [.ref 63] μ := by
  unfold f_m_work_29 at h
  refine SW.iconst (pc := 29) (v := 0) g (dt dt_X11_work 15 rfl) ki_0 ?_
  refine SW.msk [true, true, false, false] ?_
  exact ok_f_m_work_30  g hm  ho    μ x1 0 h
set_option maxRecDepth 100000 in
set_option maxHeartbeats 4000000 in
theorem ok_f_m_work {G : sw_G} {ad : Nat → Nat} {ν : sw_N}   {N : Nat} {o : Int32 × sw_M} (g : sw_ok G cX11_work "DeadWiresModel" (some .int) 50 0 0 ad) (hm : G.2.2.1.2.1.maxLocals = 4)  (μ : sw_M) (ho : sw_out G 0 0 (fun a => a = ad) (.inl (some (.int o.1))) lay0 o.2 ν) (a1 : Int32) (h : f_m_work N  μ a1 = some o) : SW G ad lay0 ν 0 0 0 [some (.ref 63), some (.int a1), none, none] [] μ := by
  unfold f_m_work at h
  refine SW.aload_n (pc := 0) g (dt dt_X11_work 0 rfl) rfl ?_
  refine SW.iconst (pc := 1) (v := 0) g (dt dt_X11_work 1 rfl) ki_0 ?_
  refine SW.putI (pc := 2) g (dt dt_X11_work 2 rfl) fl_X11_3 cell_63 rfl ?_
  refine SW.genM h (fun μ1 h => ?_)
  refine SW.aload_n (pc := 5) g (dt dt_X11_work 3 rfl) rfl ?_
  refine SW.iload_n (pc := 6) g (dt dt_X11_work 4 rfl) rfl ?_
  refine SW.if_lt (pc := 7) (t := 29) g (dt dt_X11_work 5 rfl) rfl (fun hc => ?_) (fun hc => ?_)
  · have h := iteT hc h
    refine SW.msk [true, true, false, false] ?_
    exact ok_f_m_work_29  g hm  ho    μ1 a1 h
  · have h := iteF hc h
    refine SW.iload_n (pc := 10) g (dt dt_X11_work 6 rfl) rfl ?_
    refine SW.aload_n (pc := 11) g (dt dt_X11_work 7 rfl) rfl ?_
    refine SW.getI (pc := 12) g (dt dt_X11_work 8 rfl) fl_X11_92 cell_63 rfl ?_
    refine SW.icmp_gt (pc := 15) (t := 29) g (dt dt_X11_work 9 rfl) rfl (fun hc => ?_) (fun hc => ?_)
    · have h := iteT hc h
      refine SW.msk [true, true, false, false] ?_
      exact ok_f_m_work_29  g hm  ho    μ1 a1 h
    · have h := iteF hc h
      refine SW.iload_n (pc := 18) g (dt dt_X11_work 10 rfl) rfl ?_
      refine SW.sipush (pc := 19) (v := 150) g (dt dt_X11_work 11 rfl) ks_150 ?_
      refine SW.icmp_gt (pc := 22) (t := 29) g (dt dt_X11_work 12 rfl) rfl (fun hc => ?_) (fun hc => ?_)
      · have h := iteT hc h
        refine SW.msk [true, true, false, false] ?_
        exact ok_f_m_work_29  g hm  ho    μ1 a1 h
      · have h := iteF hc h
        refine SW.iconst (pc := 25) (v := 1) g (dt dt_X11_work 13 rfl) ki_1 ?_
        refine SW.goto (pc := 26) (t := 30) g (dt dt_X11_work 14 rfl) rfl ?_
        refine SW.msk [true, true, false, false] ?_
        exact ok_f_m_work_30  g hm  ho    μ1 a1 1 h
set_option maxRecDepth 100000 in
set_option maxHeartbeats 4000000 in
theorem mt_f_m_work (l : Launch) (D : va_G) (cI cL : ClassId) (ad : Nat → Nat) (ν : sw_N)    (N : Nat) (μ : sw_M) (a1 : Int32) (o : Int32 × sw_M) (h : f_m_work N  μ a1 = some o) : MetR l D cI cL yX11_work cX11_work 4 (some .int) 50 0 0 (fun a => a = ad) ad [.ref 63, .int a1] lay0 μ ν (some (.int o.1)) lay0 o.2 ν :=
  MetR.of (n := 2) rfl (Nat.le_of_ble_eq_true rfl) (fun G g ho hm _ _ => ok_f_m_work  g hm  μ ho a1 h)
def f_m_book_183 (N : Nat)   (μ : sw_M) (x2 : Int32) : Option (Int32 × sw_M) :=
  Option.bind (f_m_result N  μ x2) (fun r1 =>
    if (r1.2 63 5) = (-1) then
      wb (wr r1.2 63 46 x2) (fun μ3 =>
        Option.bind (f_m_copies N 83 41 84 41 μ3 41) (fun r4 =>
          some (r1.1, r4)))
    else
      some (r1.1, r1.2))
def f_m_book_143 (N : Nat)  (k_67 : sw_M → Int32 → Option (Int32 × sw_M)) (μ : sw_M) (x2 : Int32) (x4 : Int32) : Option (Int32 × sw_M) :=
  Option.bind (f_m_readNumber N  μ 0 12) (fun r1 =>
    Option.bind (f_m_sign N  r1.2 59) (fun r3 =>
      Option.bind (f_m_fine N  r3 ) (fun r5 =>
        if r5 = 0 then
          f_m_book_183 N    r3 x2
        else
          inb x4 41 (wb (wr r3 83 x4.toNatClampNeg r1.1) (fun μ8 =>
            k_67 μ8 (x2 + 1))))))
def f_m_book_124 (N : Nat)  (k_67 : sw_M → Int32 → Option (Int32 × sw_M)) (μ : sw_M) (x2 : Int32) (x3 : Int32) (x4 : Int32) : Option (Int32 × sw_M) :=
  Option.bind (f_m_fine N  μ ) (fun r1 =>
    if r1 = 0 then
      f_m_book_143 N  k_67  μ x2 x4
    else
      if x2 = 8 then
        Option.bind (f_m_wrong N  μ 3 x3) (fun r3 =>
          f_m_book_143 N  k_67  r3 x2 x4)
      else
        f_m_book_143 N  k_67  μ x2 x4)
def f_m_book_67 (N : Nat)   : Nat → sw_M → Int32 → Option (Int32 × sw_M)
  | 0, _, _ => none
  | n + 1, μ, x2 =>
    Option.bind (f_m_fine N  μ ) (fun r1 =>
      if r1 = 0 then
        f_m_book_183 N    μ x2
      else
        Option.bind (f_m_isMore N  μ ) (fun r3 =>
          if r3.1 = 0 then
            f_m_book_183 N    r3.2 x2
          else
            Option.bind (f_m_here N  r3.2 ) (fun r5 =>
              ib (r5.2 63 4) (fun y7 =>
                Option.bind (f_m_readNumber N  r5.2 0 40) (fun r8 =>
                  Option.bind (f_m_fine N  r8.2 ) (fun r10 =>
                    if r10 = 0 then
                      f_m_book_124 N  (f_m_book_67 N   n)  r8.2 x2 y7 r8.1
                    else
                      inb r8.1 41 (
                        if (r8.2 83 r8.1.toNatClampNeg) = (-1) then
                          f_m_book_124 N  (f_m_book_67 N   n)  r8.2 x2 y7 r8.1
                        else
                          Option.bind (f_m_wrong N  r8.2 2 y7) (fun r13 =>
                            f_m_book_124 N  (f_m_book_67 N   n)  r13 x2 y7 r8.1))))))))
def f_m_book_46 (N : Nat)   : Nat → sw_M → Int32 → Option (Int32 × sw_M)
  | 0, _, _ => none
  | n + 1, μ, x2 =>
    if 40 < x2 then
      f_m_book_67 N   N μ 0
    else
      inb x2 41 (wb (wr μ 83 x2.toNatClampNeg (-1)) (fun μ2 =>
        f_m_book_46 N   n μ2 (x2 + 1)))
def f_m_book_29 (N : Nat)   (μ : sw_M) (x1 : Int32) (s0 : Int32) : Option (Int32 × sw_M) :=
  Option.bind (f_m_may N  μ s0 1 1) (fun r1 =>
    if r1.1 = 0 then
      some (0, r1.2)
    else
      Option.bind (f_m_begins N  r1.2 x1) (fun r3 =>
        f_m_book_46 N   N r3 0))
def f_m_book_28 (N : Nat)   (μ : sw_M) (x1 : Int32) : Option (Int32 × sw_M) :=
  f_m_book_29 N    μ x1 0
def f_m_book (N : Nat)  (μ : sw_M) (a1 : Int32) : Option (Int32 × sw_M) :=
  wb (wr μ 63 0 0) (fun μ1 =>
    if a1 < 0 then
      f_m_book_28 N    μ1 a1
    else
      if (μ1 63 2) < a1 then
        f_m_book_28 N    μ1 a1
      else
        if 60 < a1 then
          f_m_book_28 N    μ1 a1
        else
          f_m_book_29 N    μ1 a1 1)
set_option maxRecDepth 100000 in
set_option maxHeartbeats 4000000 in
theorem ok_f_m_book_183 {G : sw_G} {ad : Nat → Nat} {ν : sw_N}   {N : Nat} {o : Int32 × sw_M} (g : sw_ok G cX11_book "DeadWiresModel" (some .int) 3 0 0 ad) (hm : G.2.2.1.2.1.maxLocals = 6)  (ho : sw_out G 0 0 (fun a => a = ad) (.inl (some (.int o.1))) lay0 o.2 ν)  (μ : sw_M) (x2 : Int32) (h : f_m_book_183 N    μ x2 = some o) : SW G ad lay0 ν 0 0 183 [some (.ref 63), none, some (.int x2), none, none, none] [] μ := by
  unfold f_m_book_183 at h
  refine SW.aload_n (pc := 183) g (dt dt_X11_book 98 rfl) rfl ?_
  refine SW.iload_n (pc := 184) g (dt dt_X11_book 99 rfl) rfl ?_
  obtain ⟨r1, h2, h⟩ := bindI h
  refine SW.callVi (pc := 185) g (dt dt_X11_book 100 rfl) (mt_f_m_result _ _ _ _ ad ν   N μ x2 r1 h2) me_X11_result mv_X11_result ml_X11_233 cell_63 rfl rfl (Nat.le_of_ble_eq_true rfl) (Nat.le_of_ble_eq_true rfl) (Nat.le_of_ble_eq_true rfl) (Nat.le_of_ble_eq_true rfl) rfl ?_
  refine SW.istore_n (pc := 188) g (dt dt_X11_book 101 rfl) (sw_ltm hm (Nat.le_of_ble_eq_true rfl)) rfl ?_
  refine SW.aload_n (pc := 189) g (dt dt_X11_book 102 rfl) rfl ?_
  refine SW.getI (pc := 190) g (dt dt_X11_book 103 rfl) fl_X11_95 cell_63 rfl ?_
  refine SW.iconst (pc := 193) (v := (-1)) g (dt dt_X11_book 104 rfl) ki_m1 ?_
  refine SW.icmp_eq (pc := 194) (t := 199) g (dt dt_X11_book 105 rfl) rfl (fun hc => ?_) (fun hc => ?_)
  · have h := iteT hc h
    refine SW.aload_n (pc := 199) g (dt dt_X11_book 108 rfl) rfl ?_
    refine SW.iload_n (pc := 200) g (dt dt_X11_book 109 rfl) rfl ?_
    refine SW.putI (pc := 201) g (dt dt_X11_book 110 rfl) fl_X11_172 cell_63 rfl ?_
    refine SW.genM h (fun μ3 h => ?_)
    refine SW.aload_n (pc := 204) g (dt dt_X11_book 111 rfl) rfl ?_
    refine SW.aload_n (pc := 205) g (dt dt_X11_book 112 rfl) rfl ?_
    refine SW.getR (pc := 206) g (dt dt_X11_book 113 rfl) fl_X11_74 cell_63 rfl ?_
    refine SW.aload_n (pc := 209) g (dt dt_X11_book 114 rfl) rfl ?_
    refine SW.getR (pc := 210) g (dt dt_X11_book 115 rfl) fl_X11_77 cell_63 rfl ?_
    refine SW.bipush (pc := 213) (v := 41) g (dt dt_X11_book 116 rfl) kb_41 ?_
    obtain ⟨r4, h5, h⟩ := bindI h
    refine SW.callVv (pc := 215) g (dt dt_X11_book 117 rfl) (mt_f_m_copies _ _ _ _ ad ν 83 41 84 41 cell_83 cell_84 N μ3 41 r4 h5) me_X11_copies mv_X11_copies ml_X11_165 cell_63 rfl rfl (Nat.le_of_ble_eq_true rfl) (Nat.le_of_ble_eq_true rfl) (Nat.le_of_ble_eq_true rfl) (Nat.le_of_ble_eq_true rfl) rfl ?_
    refine SW.iload_n (pc := 218) g (dt dt_X11_book 118 rfl) rfl ?_
    exact SW.ireturn (pc := 219) g (leafW h ho) rfl (Nat.le_of_ble_eq_true rfl) (Nat.le_of_ble_eq_true rfl) (dt dt_X11_book 119 rfl)
  · have h := iteF hc h
    refine SW.iload_n (pc := 197) g (dt dt_X11_book 106 rfl) rfl ?_
    exact SW.ireturn (pc := 198) g (leafW h ho) rfl (Nat.le_of_ble_eq_true rfl) (Nat.le_of_ble_eq_true rfl) (dt dt_X11_book 107 rfl)
set_option maxRecDepth 100000 in
set_option maxHeartbeats 4000000 in
theorem ok_f_m_book_143 {G : sw_G} {ad : Nat → Nat} {ν : sw_N}   {N : Nat} {o : Int32 × sw_M} (g : sw_ok G cX11_book "DeadWiresModel" (some .int) 3 0 0 ad) (hm : G.2.2.1.2.1.maxLocals = 6)  (ho : sw_out G 0 0 (fun a => a = ad) (.inl (some (.int o.1))) lay0 o.2 ν) (k_67 : sw_M → Int32 → Option (Int32 × sw_M)) (hk_67 : ∀ (μ : sw_M) (x2 : Int32), k_67 μ x2 = some o → SW G ad lay0 ν 0 0 67 [some (.ref 63), none, some (.int x2), none, none, none] [] μ) (μ : sw_M) (x2 : Int32) (x4 : Int32) (h : f_m_book_143 N  k_67  μ x2 x4 = some o) : SW G ad lay0 ν 0 0 143 [some (.ref 63), none, some (.int x2), none, some (.int x4), none] [] μ := by
  unfold f_m_book_143 at h
  refine SW.aload_n (pc := 143) g (dt dt_X11_book 79 rfl) rfl ?_
  refine SW.iconst (pc := 144) (v := 0) g (dt dt_X11_book 80 rfl) ki_0 ?_
  refine SW.bipush (pc := 145) (v := 12) g (dt dt_X11_book 81 rfl) kb_12 ?_
  obtain ⟨r1, h2, h⟩ := bindI h
  refine SW.callVi (pc := 147) g (dt dt_X11_book 82 rfl) (mt_f_m_readNumber _ _ _ _ ad ν   N μ 0 12 r1 h2) me_X11_readNumber mv_X11_readNumber ml_X11_184 cell_63 rfl rfl (Nat.le_of_ble_eq_true rfl) (Nat.le_of_ble_eq_true rfl) (Nat.le_of_ble_eq_true rfl) (Nat.le_of_ble_eq_true rfl) rfl ?_
  refine SW.istore (pc := 150) g (dt dt_X11_book 83 rfl) (sw_ltm hm (Nat.le_of_ble_eq_true rfl)) rfl ?_
  refine SW.aload_n (pc := 152) g (dt dt_X11_book 84 rfl) rfl ?_
  refine SW.bipush (pc := 153) (v := 59) g (dt dt_X11_book 85 rfl) kb_59 ?_
  obtain ⟨r3, h4, h⟩ := bindI h
  refine SW.callVv (pc := 155) g (dt dt_X11_book 86 rfl) (mt_f_m_sign _ _ _ _ ad ν   N r1.2 59 r3 h4) me_X11_sign mv_X11_sign ml_X11_230 cell_63 rfl rfl (Nat.le_of_ble_eq_true rfl) (Nat.le_of_ble_eq_true rfl) (Nat.le_of_ble_eq_true rfl) (Nat.le_of_ble_eq_true rfl) rfl ?_
  refine SW.aload_n (pc := 158) g (dt dt_X11_book 87 rfl) rfl ?_
  obtain ⟨r5, h6, h⟩ := bindI h
  refine SW.callVi (pc := 159) g (dt dt_X11_book 88 rfl) (mt_f_m_fine _ _ _ _ ad ν   N r3  r5 h6) me_X11_fine mv_X11_fine ml_X11_124 cell_63 rfl rfl (Nat.le_of_ble_eq_true rfl) (Nat.le_of_ble_eq_true rfl) (Nat.le_of_ble_eq_true rfl) (Nat.le_of_ble_eq_true rfl) rfl ?_
  refine SW.if_ne (pc := 162) (t := 168) g (dt dt_X11_book 89 rfl) rfl (fun hc => ?_) (fun hc => ?_)
  · have h := iteF hc h
    refine SW.aload_n (pc := 168) g (dt dt_X11_book 91 rfl) rfl ?_
    refine SW.getR (pc := 169) g (dt dt_X11_book 92 rfl) fl_X11_74 cell_63 rfl ?_
    refine SW.iload (pc := 172) g (dt dt_X11_book 93 rfl) rfl ?_
    refine SW.iload (pc := 174) g (dt dt_X11_book 94 rfl) rfl ?_
    obtain ⟨hb7, h⟩ := inbI h
    refine SW.iastore (pc := 176) g (dt dt_X11_book 95 rfl) cell_83 hb7 ?_
    refine SW.genM h (fun μ8 h => ?_)
    refine SW.iinc (pc := 177) (v := x2 + 1) g (dt dt_X11_book 96 rfl) rfl (kn_1 _) (sw_ltm hm (Nat.le_of_ble_eq_true rfl)) rfl ?_
    refine SW.goto (pc := 180) (t := 67) g (dt dt_X11_book 97 rfl) rfl ?_
    refine SW.msk [true, false, true, false, false, false] ?_
    exact hk_67 μ8 (x2 + 1) h
  · have h := iteT hc h
    refine SW.goto (pc := 165) (t := 183) g (dt dt_X11_book 90 rfl) rfl ?_
    refine SW.msk [true, false, true, false, false, false] ?_
    exact ok_f_m_book_183  g hm  ho    r3 x2 h
set_option maxRecDepth 100000 in
set_option maxHeartbeats 4000000 in
theorem ok_f_m_book_124 {G : sw_G} {ad : Nat → Nat} {ν : sw_N}   {N : Nat} {o : Int32 × sw_M} (g : sw_ok G cX11_book "DeadWiresModel" (some .int) 3 0 0 ad) (hm : G.2.2.1.2.1.maxLocals = 6)  (ho : sw_out G 0 0 (fun a => a = ad) (.inl (some (.int o.1))) lay0 o.2 ν) (k_67 : sw_M → Int32 → Option (Int32 × sw_M)) (hk_67 : ∀ (μ : sw_M) (x2 : Int32), k_67 μ x2 = some o → SW G ad lay0 ν 0 0 67 [some (.ref 63), none, some (.int x2), none, none, none] [] μ) (μ : sw_M) (x2 : Int32) (x3 : Int32) (x4 : Int32) (h : f_m_book_124 N  k_67  μ x2 x3 x4 = some o) : SW G ad lay0 ν 0 0 124 [some (.ref 63), none, some (.int x2), some (.int x3), some (.int x4), none] [] μ := by
  unfold f_m_book_124 at h
  refine SW.aload_n (pc := 124) g (dt dt_X11_book 69 rfl) rfl ?_
  obtain ⟨r1, h2, h⟩ := bindI h
  refine SW.callVi (pc := 125) g (dt dt_X11_book 70 rfl) (mt_f_m_fine _ _ _ _ ad ν   N μ  r1 h2) me_X11_fine mv_X11_fine ml_X11_124 cell_63 rfl rfl (Nat.le_of_ble_eq_true rfl) (Nat.le_of_ble_eq_true rfl) (Nat.le_of_ble_eq_true rfl) (Nat.le_of_ble_eq_true rfl) rfl ?_
  refine SW.if_eq (pc := 128) (t := 143) g (dt dt_X11_book 71 rfl) rfl (fun hc => ?_) (fun hc => ?_)
  · have h := iteT hc h
    refine SW.msk [true, false, true, false, true, false] ?_
    exact ok_f_m_book_143  g hm  ho k_67 hk_67  μ x2 x4 h
  · have h := iteF hc h
    refine SW.iload_n (pc := 131) g (dt dt_X11_book 72 rfl) rfl ?_
    refine SW.bipush (pc := 132) (v := 8) g (dt dt_X11_book 73 rfl) kb_8 ?_
    refine SW.icmp_ne (pc := 134) (t := 143) g (dt dt_X11_book 74 rfl) rfl (fun hc => ?_) (fun hc => ?_)
    · have h := iteF hc h
      refine SW.msk [true, false, true, false, true, false] ?_
      exact ok_f_m_book_143  g hm  ho k_67 hk_67  μ x2 x4 h
    · have h := iteT hc h
      refine SW.aload_n (pc := 137) g (dt dt_X11_book 75 rfl) rfl ?_
      refine SW.iconst (pc := 138) (v := 3) g (dt dt_X11_book 76 rfl) ki_3 ?_
      refine SW.iload_n (pc := 139) g (dt dt_X11_book 77 rfl) rfl ?_
      obtain ⟨r3, h4, h⟩ := bindI h
      refine SW.callVv (pc := 140) g (dt dt_X11_book 78 rfl) (mt_f_m_wrong _ _ _ _ ad ν   N μ 3 x3 r3 h4) me_X11_wrong mv_X11_wrong ml_X11_131 cell_63 rfl rfl (Nat.le_of_ble_eq_true rfl) (Nat.le_of_ble_eq_true rfl) (Nat.le_of_ble_eq_true rfl) (Nat.le_of_ble_eq_true rfl) rfl ?_
      refine SW.msk [true, false, true, false, true, false] ?_
      exact ok_f_m_book_143  g hm  ho k_67 hk_67  r3 x2 x4 h
set_option maxRecDepth 100000 in
set_option maxHeartbeats 4000000 in
theorem ok_f_m_book_67 {G : sw_G} {ad : Nat → Nat} {ν : sw_N}   {N : Nat} {o : Int32 × sw_M} (g : sw_ok G cX11_book "DeadWiresModel" (some .int) 3 0 0 ad) (hm : G.2.2.1.2.1.maxLocals = 6)  (ho : sw_out G 0 0 (fun a => a = ad) (.inl (some (.int o.1))) lay0 o.2 ν)  : ∀ (n : Nat) (μ : sw_M) (x2 : Int32) (h : f_m_book_67 N   n μ x2 = some o), SW G ad lay0 ν 0 0 67 [some (.ref 63), none, some (.int x2), none, none, none] [] μ := by
  intro n
  induction n with
  | zero => intro μ x2 h; simp only [f_m_book_67] at h; cases h
  | succ n ih =>
    intro μ x2 h
    unfold f_m_book_67 at h
    refine SW.aload_n (pc := 67) g (dt dt_X11_book 39 rfl) rfl ?_
    obtain ⟨r1, h2, h⟩ := bindI h
    refine SW.callVi (pc := 68) g (dt dt_X11_book 40 rfl) (mt_f_m_fine _ _ _ _ ad ν   N μ  r1 h2) me_X11_fine mv_X11_fine ml_X11_124 cell_63 rfl rfl (Nat.le_of_ble_eq_true rfl) (Nat.le_of_ble_eq_true rfl) (Nat.le_of_ble_eq_true rfl) (Nat.le_of_ble_eq_true rfl) rfl ?_
    refine SW.if_eq (pc := 71) (t := 183) g (dt dt_X11_book 41 rfl) rfl (fun hc => ?_) (fun hc => ?_)
    · have h := iteT hc h
      refine SW.msk [true, false, true, false, false, false] ?_
      exact ok_f_m_book_183  g hm  ho    μ x2 h
    · have h := iteF hc h
      refine SW.aload_n (pc := 74) g (dt dt_X11_book 42 rfl) rfl ?_
      obtain ⟨r3, h4, h⟩ := bindI h
      refine SW.callVi (pc := 75) g (dt dt_X11_book 43 rfl) (mt_f_m_isMore _ _ _ _ ad ν   N μ  r3 h4) me_X11_isMore mv_X11_isMore ml_X11_212 cell_63 rfl rfl (Nat.le_of_ble_eq_true rfl) (Nat.le_of_ble_eq_true rfl) (Nat.le_of_ble_eq_true rfl) (Nat.le_of_ble_eq_true rfl) rfl ?_
      refine SW.if_eq (pc := 78) (t := 183) g (dt dt_X11_book 44 rfl) rfl (fun hc => ?_) (fun hc => ?_)
      · have h := iteT hc h
        refine SW.msk [true, false, true, false, false, false] ?_
        exact ok_f_m_book_183  g hm  ho    r3.2 x2 h
      · have h := iteF hc h
        refine SW.aload_n (pc := 81) g (dt dt_X11_book 45 rfl) rfl ?_
        obtain ⟨r5, h6, h⟩ := bindI h
        refine SW.callVi (pc := 82) g (dt dt_X11_book 46 rfl) (mt_f_m_here _ _ _ _ ad ν   N r3.2  r5 h6) me_X11_here mv_X11_here ml_X11_107 cell_63 rfl rfl (Nat.le_of_ble_eq_true rfl) (Nat.le_of_ble_eq_true rfl) (Nat.le_of_ble_eq_true rfl) (Nat.le_of_ble_eq_true rfl) rfl ?_
        refine SW.pop (pc := 85) g (dt dt_X11_book 47 rfl) rfl ?_
        refine SW.aload_n (pc := 86) g (dt dt_X11_book 48 rfl) rfl ?_
        refine SW.getI (pc := 87) g (dt dt_X11_book 49 rfl) fl_X11_101 cell_63 rfl ?_
        refine SW.istore_n (pc := 90) g (dt dt_X11_book 50 rfl) (sw_ltm hm (Nat.le_of_ble_eq_true rfl)) rfl ?_
        refine SW.genL h (fun y7 h => ?_)
        refine SW.aload_n (pc := 91) g (dt dt_X11_book 51 rfl) rfl ?_
        refine SW.iconst (pc := 92) (v := 0) g (dt dt_X11_book 52 rfl) ki_0 ?_
        refine SW.bipush (pc := 93) (v := 40) g (dt dt_X11_book 53 rfl) kb_40 ?_
        obtain ⟨r8, h9, h⟩ := bindI h
        refine SW.callVi (pc := 95) g (dt dt_X11_book 54 rfl) (mt_f_m_readNumber _ _ _ _ ad ν   N r5.2 0 40 r8 h9) me_X11_readNumber mv_X11_readNumber ml_X11_184 cell_63 rfl rfl (Nat.le_of_ble_eq_true rfl) (Nat.le_of_ble_eq_true rfl) (Nat.le_of_ble_eq_true rfl) (Nat.le_of_ble_eq_true rfl) rfl ?_
        refine SW.istore (pc := 98) g (dt dt_X11_book 55 rfl) (sw_ltm hm (Nat.le_of_ble_eq_true rfl)) rfl ?_
        refine SW.aload_n (pc := 100) g (dt dt_X11_book 56 rfl) rfl ?_
        obtain ⟨r10, h11, h⟩ := bindI h
        refine SW.callVi (pc := 101) g (dt dt_X11_book 57 rfl) (mt_f_m_fine _ _ _ _ ad ν   N r8.2  r10 h11) me_X11_fine mv_X11_fine ml_X11_124 cell_63 rfl rfl (Nat.le_of_ble_eq_true rfl) (Nat.le_of_ble_eq_true rfl) (Nat.le_of_ble_eq_true rfl) (Nat.le_of_ble_eq_true rfl) rfl ?_
        refine SW.if_eq (pc := 104) (t := 124) g (dt dt_X11_book 58 rfl) rfl (fun hc => ?_) (fun hc => ?_)
        · have h := iteT hc h
          refine SW.msk [true, false, true, true, true, false] ?_
          exact ok_f_m_book_124  g hm  ho (f_m_book_67 N   n) ih  r8.2 x2 y7 r8.1 h
        · have h := iteF hc h
          refine SW.aload_n (pc := 107) g (dt dt_X11_book 59 rfl) rfl ?_
          refine SW.getR (pc := 108) g (dt dt_X11_book 60 rfl) fl_X11_74 cell_63 rfl ?_
          refine SW.iload (pc := 111) g (dt dt_X11_book 61 rfl) rfl ?_
          obtain ⟨hb12, h⟩ := inbI h
          refine SW.iaload (pc := 113) g (dt dt_X11_book 62 rfl) cell_83 hb12 ?_
          refine SW.iconst (pc := 114) (v := (-1)) g (dt dt_X11_book 63 rfl) ki_m1 ?_
          refine SW.icmp_eq (pc := 115) (t := 124) g (dt dt_X11_book 64 rfl) rfl (fun hc => ?_) (fun hc => ?_)
          · have h := iteT hc h
            refine SW.msk [true, false, true, true, true, false] ?_
            exact ok_f_m_book_124  g hm  ho (f_m_book_67 N   n) ih  r8.2 x2 y7 r8.1 h
          · have h := iteF hc h
            refine SW.aload_n (pc := 118) g (dt dt_X11_book 65 rfl) rfl ?_
            refine SW.iconst (pc := 119) (v := 2) g (dt dt_X11_book 66 rfl) ki_2 ?_
            refine SW.iload_n (pc := 120) g (dt dt_X11_book 67 rfl) rfl ?_
            obtain ⟨r13, h14, h⟩ := bindI h
            refine SW.callVv (pc := 121) g (dt dt_X11_book 68 rfl) (mt_f_m_wrong _ _ _ _ ad ν   N r8.2 2 y7 r13 h14) me_X11_wrong mv_X11_wrong ml_X11_131 cell_63 rfl rfl (Nat.le_of_ble_eq_true rfl) (Nat.le_of_ble_eq_true rfl) (Nat.le_of_ble_eq_true rfl) (Nat.le_of_ble_eq_true rfl) rfl ?_
            refine SW.msk [true, false, true, true, true, false] ?_
            exact ok_f_m_book_124  g hm  ho (f_m_book_67 N   n) ih  r13 x2 y7 r8.1 h
set_option maxRecDepth 100000 in
set_option maxHeartbeats 4000000 in
theorem ok_f_m_book_46 {G : sw_G} {ad : Nat → Nat} {ν : sw_N}   {N : Nat} {o : Int32 × sw_M} (g : sw_ok G cX11_book "DeadWiresModel" (some .int) 3 0 0 ad) (hm : G.2.2.1.2.1.maxLocals = 6)  (ho : sw_out G 0 0 (fun a => a = ad) (.inl (some (.int o.1))) lay0 o.2 ν)  : ∀ (n : Nat) (μ : sw_M) (x2 : Int32) (h : f_m_book_46 N   n μ x2 = some o), SW G ad lay0 ν 0 0 46 [some (.ref 63), none, some (.int x2), none, none, none] [] μ := by
  intro n
  induction n with
  | zero => intro μ x2 h; simp only [f_m_book_46] at h; cases h
  | succ n ih =>
    intro μ x2 h
    unfold f_m_book_46 at h
    refine SW.iload_n (pc := 46) g (dt dt_X11_book 27 rfl) rfl ?_
    refine SW.bipush (pc := 47) (v := 40) g (dt dt_X11_book 28 rfl) kb_40 ?_
    refine SW.icmp_gt (pc := 49) (t := 65) g (dt dt_X11_book 29 rfl) rfl (fun hc => ?_) (fun hc => ?_)
    · have h := iteT hc h
      refine SW.iconst (pc := 65) (v := 0) g (dt dt_X11_book 37 rfl) ki_0 ?_
      refine SW.istore_n (pc := 66) g (dt dt_X11_book 38 rfl) (sw_ltm hm (Nat.le_of_ble_eq_true rfl)) rfl ?_
      refine SW.msk [true, false, true, false, false, false] ?_
      exact ok_f_m_book_67  g hm  ho   N μ 0 h
    · have h := iteF hc h
      refine SW.aload_n (pc := 52) g (dt dt_X11_book 30 rfl) rfl ?_
      refine SW.getR (pc := 53) g (dt dt_X11_book 31 rfl) fl_X11_74 cell_63 rfl ?_
      refine SW.iload_n (pc := 56) g (dt dt_X11_book 32 rfl) rfl ?_
      refine SW.iconst (pc := 57) (v := (-1)) g (dt dt_X11_book 33 rfl) ki_m1 ?_
      obtain ⟨hb1, h⟩ := inbI h
      refine SW.iastore (pc := 58) g (dt dt_X11_book 34 rfl) cell_83 hb1 ?_
      refine SW.genM h (fun μ2 h => ?_)
      refine SW.iinc (pc := 59) (v := x2 + 1) g (dt dt_X11_book 35 rfl) rfl (kn_1 _) (sw_ltm hm (Nat.le_of_ble_eq_true rfl)) rfl ?_
      refine SW.goto (pc := 62) (t := 46) g (dt dt_X11_book 36 rfl) rfl ?_
      refine SW.msk [true, false, true, false, false, false] ?_
      exact ih μ2 (x2 + 1) h
set_option maxRecDepth 100000 in
set_option maxHeartbeats 4000000 in
theorem ok_f_m_book_29 {G : sw_G} {ad : Nat → Nat} {ν : sw_N}   {N : Nat} {o : Int32 × sw_M} (g : sw_ok G cX11_book "DeadWiresModel" (some .int) 3 0 0 ad) (hm : G.2.2.1.2.1.maxLocals = 6)  (ho : sw_out G 0 0 (fun a => a = ad) (.inl (some (.int o.1))) lay0 o.2 ν)  (μ : sw_M) (x1 : Int32) (s0 : Int32) (h : f_m_book_29 N    μ x1 s0 = some o) : SW G ad lay0 ν 0 0 29 [some (.ref 63), some (.int x1), none, none, none, none] [.int s0, .ref 63] μ := by
  unfold f_m_book_29 at h
  refine SW.iconst (pc := 29) (v := 1) g (dt dt_X11_book 16 rfl) ki_1 ?_
  refine SW.iconst (pc := 30) (v := 1) g (dt dt_X11_book 17 rfl) ki_1 ?_
  obtain ⟨r1, h2, h⟩ := bindI h
  refine SW.callVi (pc := 31) g (dt dt_X11_book 18 rfl) (mt_f_m_may _ _ _ _ ad ν   N μ s0 1 1 r1 h2) me_X11_may mv_X11_may ml_X11_204 cell_63 rfl rfl (Nat.le_of_ble_eq_true rfl) (Nat.le_of_ble_eq_true rfl) (Nat.le_of_ble_eq_true rfl) (Nat.le_of_ble_eq_true rfl) rfl ?_
  refine SW.if_ne (pc := 34) (t := 39) g (dt dt_X11_book 19 rfl) rfl (fun hc => ?_) (fun hc => ?_)
  · have h := iteF hc h
    refine SW.aload_n (pc := 39) g (dt dt_X11_book 22 rfl) rfl ?_
    refine SW.iload_n (pc := 40) g (dt dt_X11_book 23 rfl) rfl ?_
    obtain ⟨r3, h4, h⟩ := bindI h
    refine SW.callVv (pc := 41) g (dt dt_X11_book 24 rfl) (mt_f_m_begins _ _ _ _ ad ν   N r1.2 x1 r3 h4) me_X11_begins mv_X11_begins ml_X11_208 cell_63 rfl rfl (Nat.le_of_ble_eq_true rfl) (Nat.le_of_ble_eq_true rfl) (Nat.le_of_ble_eq_true rfl) (Nat.le_of_ble_eq_true rfl) rfl ?_
    refine SW.iconst (pc := 44) (v := 0) g (dt dt_X11_book 25 rfl) ki_0 ?_
    refine SW.istore_n (pc := 45) g (dt dt_X11_book 26 rfl) (sw_ltm hm (Nat.le_of_ble_eq_true rfl)) rfl ?_
    refine SW.msk [true, false, true, false, false, false] ?_
    exact ok_f_m_book_46  g hm  ho   N r3 0 h
  · have h := iteT hc h
    refine SW.iconst (pc := 37) (v := 0) g (dt dt_X11_book 20 rfl) ki_0 ?_
    exact SW.ireturn (pc := 38) g (leafW h ho) rfl (Nat.le_of_ble_eq_true rfl) (Nat.le_of_ble_eq_true rfl) (dt dt_X11_book 21 rfl)
set_option maxRecDepth 100000 in
set_option maxHeartbeats 4000000 in
theorem ok_f_m_book_28 {G : sw_G} {ad : Nat → Nat} {ν : sw_N}   {N : Nat} {o : Int32 × sw_M} (g : sw_ok G cX11_book "DeadWiresModel" (some .int) 3 0 0 ad) (hm : G.2.2.1.2.1.maxLocals = 6)  (ho : sw_out G 0 0 (fun a => a = ad) (.inl (some (.int o.1))) lay0 o.2 ν)  (μ : sw_M) (x1 : Int32) (h : f_m_book_28 N    μ x1 = some o) : SW G ad lay0 ν 0 0 28 [some (.ref 63), some (.int x1), none, none, none, none] [.ref 63] μ := by
  unfold f_m_book_28 at h
  refine SW.iconst (pc := 28) (v := 0) g (dt dt_X11_book 15 rfl) ki_0 ?_
  refine SW.msk [true, true, false, false, false, false] ?_
  exact ok_f_m_book_29  g hm  ho    μ x1 0 h
set_option maxRecDepth 100000 in
set_option maxHeartbeats 4000000 in
theorem ok_f_m_book {G : sw_G} {ad : Nat → Nat} {ν : sw_N}   {N : Nat} {o : Int32 × sw_M} (g : sw_ok G cX11_book "DeadWiresModel" (some .int) 3 0 0 ad) (hm : G.2.2.1.2.1.maxLocals = 6)  (μ : sw_M) (ho : sw_out G 0 0 (fun a => a = ad) (.inl (some (.int o.1))) lay0 o.2 ν) (a1 : Int32) (h : f_m_book N  μ a1 = some o) : SW G ad lay0 ν 0 0 0 [some (.ref 63), some (.int a1), none, none, none, none] [] μ := by
  unfold f_m_book at h
  refine SW.aload_n (pc := 0) g (dt dt_X11_book 0 rfl) rfl ?_
  refine SW.iconst (pc := 1) (v := 0) g (dt dt_X11_book 1 rfl) ki_0 ?_
  refine SW.putI (pc := 2) g (dt dt_X11_book 2 rfl) fl_X11_3 cell_63 rfl ?_
  refine SW.genM h (fun μ1 h => ?_)
  refine SW.aload_n (pc := 5) g (dt dt_X11_book 3 rfl) rfl ?_
  refine SW.iload_n (pc := 6) g (dt dt_X11_book 4 rfl) rfl ?_
  refine SW.if_lt (pc := 7) (t := 28) g (dt dt_X11_book 5 rfl) rfl (fun hc => ?_) (fun hc => ?_)
  · have h := iteT hc h
    refine SW.msk [true, true, false, false, false, false] ?_
    exact ok_f_m_book_28  g hm  ho    μ1 a1 h
  · have h := iteF hc h
    refine SW.iload_n (pc := 10) g (dt dt_X11_book 6 rfl) rfl ?_
    refine SW.aload_n (pc := 11) g (dt dt_X11_book 7 rfl) rfl ?_
    refine SW.getI (pc := 12) g (dt dt_X11_book 8 rfl) fl_X11_92 cell_63 rfl ?_
    refine SW.icmp_gt (pc := 15) (t := 28) g (dt dt_X11_book 9 rfl) rfl (fun hc => ?_) (fun hc => ?_)
    · have h := iteT hc h
      refine SW.msk [true, true, false, false, false, false] ?_
      exact ok_f_m_book_28  g hm  ho    μ1 a1 h
    · have h := iteF hc h
      refine SW.iload_n (pc := 18) g (dt dt_X11_book 10 rfl) rfl ?_
      refine SW.bipush (pc := 19) (v := 60) g (dt dt_X11_book 11 rfl) kb_60 ?_
      refine SW.icmp_gt (pc := 21) (t := 28) g (dt dt_X11_book 12 rfl) rfl (fun hc => ?_) (fun hc => ?_)
      · have h := iteT hc h
        refine SW.msk [true, true, false, false, false, false] ?_
        exact ok_f_m_book_28  g hm  ho    μ1 a1 h
      · have h := iteF hc h
        refine SW.iconst (pc := 24) (v := 1) g (dt dt_X11_book 13 rfl) ki_1 ?_
        refine SW.goto (pc := 25) (t := 29) g (dt dt_X11_book 14 rfl) rfl ?_
        refine SW.msk [true, true, false, false, false, false] ?_
        exact ok_f_m_book_29  g hm  ho    μ1 a1 1 h
set_option maxRecDepth 100000 in
set_option maxHeartbeats 4000000 in
theorem mt_f_m_book (l : Launch) (D : va_G) (cI cL : ClassId) (ad : Nat → Nat) (ν : sw_N)    (N : Nat) (μ : sw_M) (a1 : Int32) (o : Int32 × sw_M) (h : f_m_book N  μ a1 = some o) : MetR l D cI cL yX11_book cX11_book 6 (some .int) 3 0 0 (fun a => a = ad) ad [.ref 63, .int a1] lay0 μ ν (some (.int o.1)) lay0 o.2 ν :=
  MetR.of (n := 4) rfl (Nat.le_of_ble_eq_true rfl) (fun G g ho hm _ _ => ok_f_m_book  g hm  μ ho a1 h)
def f_m_undo_26 (N : Nat)   : Nat → sw_M → Int32 → Option (Int32 × sw_M)
  | 0, _, _ => none
  | n + 1, μ, x1 =>
    if 49 ≤ x1 then
      wb (wr μ 63 37 0) (fun μ1 =>
        some (μ1 63 36, μ1))
    else
      inb (((49 : Int32) * (μ 63 36)) + x1) 784 (
        inb x1 49 (wb (wr μ 80 x1.toNatClampNeg (μ 82 (((49 : Int32) * (μ 63 36)) + x1).toNatClampNeg)) (fun μ4 =>
          f_m_undo_26 N   n μ4 (x1 + 1))))
def f_m_undo (N : Nat)  (μ : sw_M)  : Option (Int32 × sw_M) :=
  wb (wr μ 63 0 0) (fun μ1 =>
    if (μ1 63 36) = 0 then
      some ((-1), μ1)
    else
      wb (wr μ1 63 36 ((μ1 63 36) - 1)) (fun μ2 =>
        f_m_undo_26 N   N μ2 0))
set_option maxRecDepth 100000 in
set_option maxHeartbeats 4000000 in
theorem ok_f_m_undo_26 {G : sw_G} {ad : Nat → Nat} {ν : sw_N}   {N : Nat} {o : Int32 × sw_M} (g : sw_ok G cX11_undo "DeadWiresModel" (some .int) 1 0 0 ad) (hm : G.2.2.1.2.1.maxLocals = 2)  (ho : sw_out G 0 0 (fun a => a = ad) (.inl (some (.int o.1))) lay0 o.2 ν)  : ∀ (n : Nat) (μ : sw_M) (x1 : Int32) (h : f_m_undo_26 N   n μ x1 = some o), SW G ad lay0 ν 0 0 26 [some (.ref 63), some (.int x1)] [] μ := by
  intro n
  induction n with
  | zero => intro μ x1 h; simp only [f_m_undo_26] at h; cases h
  | succ n ih =>
    intro μ x1 h
    unfold f_m_undo_26 at h
    refine SW.iload_n (pc := 26) g (dt dt_X11_undo 16 rfl) rfl ?_
    refine SW.bipush (pc := 27) (v := 49) g (dt dt_X11_undo 17 rfl) kb_49 ?_
    refine SW.icmp_ge (pc := 29) (t := 58) g (dt dt_X11_undo 18 rfl) rfl (fun hc => ?_) (fun hc => ?_)
    · have h := iteT hc h
      refine SW.aload_n (pc := 58) g (dt dt_X11_undo 34 rfl) rfl ?_
      refine SW.iconst (pc := 59) (v := 0) g (dt dt_X11_undo 35 rfl) ki_0 ?_
      refine SW.putI (pc := 60) g (dt dt_X11_undo 36 rfl) fl_X11_181 cell_63 rfl ?_
      refine SW.genM h (fun μ1 h => ?_)
      refine SW.aload_n (pc := 63) g (dt dt_X11_undo 37 rfl) rfl ?_
      refine SW.getI (pc := 64) g (dt dt_X11_undo 38 rfl) fl_X11_175 cell_63 rfl ?_
      exact SW.ireturn (pc := 67) g (leafW h ho) rfl (Nat.le_of_ble_eq_true rfl) (Nat.le_of_ble_eq_true rfl) (dt dt_X11_undo 39 rfl)
    · have h := iteF hc h
      refine SW.aload_n (pc := 32) g (dt dt_X11_undo 19 rfl) rfl ?_
      refine SW.getR (pc := 33) g (dt dt_X11_undo 20 rfl) fl_X11_65 cell_63 rfl ?_
      refine SW.iload_n (pc := 36) g (dt dt_X11_undo 21 rfl) rfl ?_
      refine SW.aload_n (pc := 37) g (dt dt_X11_undo 22 rfl) rfl ?_
      refine SW.getR (pc := 38) g (dt dt_X11_undo 23 rfl) fl_X11_71 cell_63 rfl ?_
      refine SW.bipush (pc := 41) (v := 49) g (dt dt_X11_undo 24 rfl) kb_49 ?_
      refine SW.aload_n (pc := 43) g (dt dt_X11_undo 25 rfl) rfl ?_
      refine SW.getI (pc := 44) g (dt dt_X11_undo 26 rfl) fl_X11_175 cell_63 rfl ?_
      refine SW.imul (pc := 47) g (dt dt_X11_undo 27 rfl) ?_
      refine SW.iload_n (pc := 48) g (dt dt_X11_undo 28 rfl) rfl ?_
      refine SW.iadd (pc := 49) g (dt dt_X11_undo 29 rfl) ?_
      obtain ⟨hb2, h⟩ := inbI h
      refine SW.iaload (pc := 50) g (dt dt_X11_undo 30 rfl) cell_82 hb2 ?_
      obtain ⟨hb3, h⟩ := inbI h
      refine SW.iastore (pc := 51) g (dt dt_X11_undo 31 rfl) cell_80 hb3 ?_
      refine SW.genM h (fun μ4 h => ?_)
      refine SW.iinc (pc := 52) (v := x1 + 1) g (dt dt_X11_undo 32 rfl) rfl (kn_1 _) (sw_ltm hm (Nat.le_of_ble_eq_true rfl)) rfl ?_
      refine SW.goto (pc := 55) (t := 26) g (dt dt_X11_undo 33 rfl) rfl ?_
      refine SW.msk [true, true] ?_
      exact ih μ4 (x1 + 1) h
set_option maxRecDepth 100000 in
set_option maxHeartbeats 4000000 in
theorem ok_f_m_undo {G : sw_G} {ad : Nat → Nat} {ν : sw_N}   {N : Nat} {o : Int32 × sw_M} (g : sw_ok G cX11_undo "DeadWiresModel" (some .int) 1 0 0 ad) (hm : G.2.2.1.2.1.maxLocals = 2)  (μ : sw_M) (ho : sw_out G 0 0 (fun a => a = ad) (.inl (some (.int o.1))) lay0 o.2 ν)  (h : f_m_undo N  μ  = some o) : SW G ad lay0 ν 0 0 0 [some (.ref 63), none] [] μ := by
  unfold f_m_undo at h
  refine SW.aload_n (pc := 0) g (dt dt_X11_undo 0 rfl) rfl ?_
  refine SW.iconst (pc := 1) (v := 0) g (dt dt_X11_undo 1 rfl) ki_0 ?_
  refine SW.putI (pc := 2) g (dt dt_X11_undo 2 rfl) fl_X11_3 cell_63 rfl ?_
  refine SW.genM h (fun μ1 h => ?_)
  refine SW.aload_n (pc := 5) g (dt dt_X11_undo 3 rfl) rfl ?_
  refine SW.getI (pc := 6) g (dt dt_X11_undo 4 rfl) fl_X11_175 cell_63 rfl ?_
  refine SW.if_ne (pc := 9) (t := 14) g (dt dt_X11_undo 5 rfl) rfl (fun hc => ?_) (fun hc => ?_)
  · have h := iteF hc h
    refine SW.aload_n (pc := 14) g (dt dt_X11_undo 8 rfl) rfl ?_
    refine SW.dup (pc := 15) g (dt dt_X11_undo 9 rfl) rfl ?_
    refine SW.getI (pc := 16) g (dt dt_X11_undo 10 rfl) fl_X11_175 cell_63 rfl ?_
    refine SW.iconst (pc := 19) (v := 1) g (dt dt_X11_undo 11 rfl) ki_1 ?_
    refine SW.isub (pc := 20) g (dt dt_X11_undo 12 rfl) ?_
    refine SW.putI (pc := 21) g (dt dt_X11_undo 13 rfl) fl_X11_175 cell_63 rfl ?_
    refine SW.genM h (fun μ2 h => ?_)
    refine SW.iconst (pc := 24) (v := 0) g (dt dt_X11_undo 14 rfl) ki_0 ?_
    refine SW.istore_n (pc := 25) g (dt dt_X11_undo 15 rfl) (sw_ltm hm (Nat.le_of_ble_eq_true rfl)) rfl ?_
    refine SW.msk [true, true] ?_
    exact ok_f_m_undo_26  g hm  ho   N μ2 0 h
  · have h := iteT hc h
    refine SW.iconst (pc := 12) (v := (-1)) g (dt dt_X11_undo 6 rfl) ki_m1 ?_
    exact SW.ireturn (pc := 13) g (leafW h ho) rfl (Nat.le_of_ble_eq_true rfl) (Nat.le_of_ble_eq_true rfl) (dt dt_X11_undo 7 rfl)
set_option maxRecDepth 100000 in
set_option maxHeartbeats 4000000 in
theorem mt_f_m_undo (l : Launch) (D : va_G) (cI cL : ClassId) (ad : Nat → Nat) (ν : sw_N)    (N : Nat) (μ : sw_M)  (o : Int32 × sw_M) (h : f_m_undo N  μ  = some o) : MetR l D cI cL yX11_undo cX11_undo 2 (some .int) 1 0 0 (fun a => a = ad) ad [.ref 63] lay0 μ ν (some (.int o.1)) lay0 o.2 ν :=
  MetR.of (n := 1) rfl (Nat.le_of_ble_eq_true rfl) (fun G g ho hm _ _ => ok_f_m_undo  g hm  μ ho  h)
def f_m_liveIn_30 (N : Nat)  (μ : sw_M) (k_4 : Int32 → Int32 → Int32 → Option (Int32)) (x1 : Int32) (x3 : Int32) (s0 : Int32) (s1 : Int32) : Option (Int32) :=
  ib (s1 ||| s0) (fun y1 =>
    k_4  x1 y1 (x3 + 1))
def f_m_liveIn_4 (N : Nat)  (μ : sw_M)  : Nat → Int32 → Int32 → Int32 → Option (Int32)
  | 0, _, _, _ => none
  | n + 1, x1, x2, x3 =>
    if (μ 63 22) ≤ x3 then
      some x2
    else
      Option.bind (f_m_isLive N  μ x3 x1 0) (fun r1 =>
        if r1 = 0 then
          f_m_liveIn_30 N  μ (f_m_liveIn_4 N  μ  n)  x1 x3 0 x2
        else
          f_m_liveIn_30 N  μ (f_m_liveIn_4 N  μ  n)  x1 x3 ((1 : Int32) <<< (x3 &&& 31)) x2)
def f_m_liveIn (N : Nat)  (μ : sw_M) (a1 : Int32) : Option (Int32) :=
  f_m_liveIn_4 N  μ  N a1 0 0
set_option maxRecDepth 100000 in
set_option maxHeartbeats 4000000 in
theorem ok_f_m_liveIn_30 {G : sw_G} {ad : Nat → Nat} {ν : sw_N}   {N : Nat} {o : Int32} (g : sw_ok G cX11_liveIn "DeadWiresModel" (some .int) 2 0 0 ad) (hm : G.2.2.1.2.1.maxLocals = 4)  (μ : sw_M) (ho : sw_out G 0 0 (fun a => a = ad) (.inl (some (.int o))) lay0 μ ν) (k_4 : Int32 → Int32 → Int32 → Option (Int32)) (hk_4 : ∀ (x1 : Int32) (x2 : Int32) (x3 : Int32), k_4 x1 x2 x3 = some o → SW G ad lay0 ν 0 0 4 [some (.ref 63), some (.int x1), some (.int x2), some (.int x3)] [] μ) (x1 : Int32) (x3 : Int32) (s0 : Int32) (s1 : Int32) (h : f_m_liveIn_30 N  μ k_4  x1 x3 s0 s1 = some o) : SW G ad lay0 ν 0 0 30 [some (.ref 63), some (.int x1), none, some (.int x3)] [.int s0, .int s1] μ := by
  unfold f_m_liveIn_30 at h
  refine SW.ior (pc := 30) g (dt dt_X11_liveIn 20 rfl) ?_
  refine SW.istore_n (pc := 31) g (dt dt_X11_liveIn 21 rfl) (sw_ltm hm (Nat.le_of_ble_eq_true rfl)) rfl ?_
  refine SW.genL h (fun y1 h => ?_)
  refine SW.iinc (pc := 32) (v := x3 + 1) g (dt dt_X11_liveIn 22 rfl) rfl (kn_1 _) (sw_ltm hm (Nat.le_of_ble_eq_true rfl)) rfl ?_
  refine SW.goto (pc := 35) (t := 4) g (dt dt_X11_liveIn 23 rfl) rfl ?_
  refine SW.msk [true, true, true, true] ?_
  exact hk_4  x1 y1 (x3 + 1) h
set_option maxRecDepth 100000 in
set_option maxHeartbeats 4000000 in
theorem ok_f_m_liveIn_4 {G : sw_G} {ad : Nat → Nat} {ν : sw_N}   {N : Nat} {o : Int32} (g : sw_ok G cX11_liveIn "DeadWiresModel" (some .int) 2 0 0 ad) (hm : G.2.2.1.2.1.maxLocals = 4)  (μ : sw_M) (ho : sw_out G 0 0 (fun a => a = ad) (.inl (some (.int o))) lay0 μ ν)  : ∀ (n : Nat) (x1 : Int32) (x2 : Int32) (x3 : Int32) (h : f_m_liveIn_4 N  μ  n x1 x2 x3 = some o), SW G ad lay0 ν 0 0 4 [some (.ref 63), some (.int x1), some (.int x2), some (.int x3)] [] μ := by
  intro n
  induction n with
  | zero => intro x1 x2 x3 h; simp only [f_m_liveIn_4] at h; cases h
  | succ n ih =>
    intro x1 x2 x3 h
    unfold f_m_liveIn_4 at h
    refine SW.iload_n (pc := 4) g (dt dt_X11_liveIn 4 rfl) rfl ?_
    refine SW.aload_n (pc := 5) g (dt dt_X11_liveIn 5 rfl) rfl ?_
    refine SW.getI (pc := 6) g (dt dt_X11_liveIn 6 rfl) fl_X11_156 cell_63 rfl ?_
    refine SW.icmp_ge (pc := 9) (t := 38) g (dt dt_X11_liveIn 7 rfl) rfl (fun hc => ?_) (fun hc => ?_)
    · have h := iteT hc h
      refine SW.iload_n (pc := 38) g (dt dt_X11_liveIn 24 rfl) rfl ?_
      exact SW.ireturn (pc := 39) g (leafI h ho) rfl (Nat.le_of_ble_eq_true rfl) (Nat.le_of_ble_eq_true rfl) (dt dt_X11_liveIn 25 rfl)
    · have h := iteF hc h
      refine SW.iload_n (pc := 12) g (dt dt_X11_liveIn 8 rfl) rfl ?_
      refine SW.aload_n (pc := 13) g (dt dt_X11_liveIn 9 rfl) rfl ?_
      refine SW.iload_n (pc := 14) g (dt dt_X11_liveIn 10 rfl) rfl ?_
      refine SW.iload_n (pc := 15) g (dt dt_X11_liveIn 11 rfl) rfl ?_
      refine SW.iconst (pc := 16) (v := 0) g (dt dt_X11_liveIn 12 rfl) ki_0 ?_
      obtain ⟨r1, h2, h⟩ := bindI h
      refine SW.callVi (pc := 17) g (dt dt_X11_liveIn 13 rfl) (mt_f_m_isLive _ _ _ _ ad ν   N μ x3 x1 0 r1 h2) me_X11_isLive mv_X11_isLive ml_X11_350 cell_63 rfl rfl (Nat.le_of_ble_eq_true rfl) (Nat.le_of_ble_eq_true rfl) (Nat.le_of_ble_eq_true rfl) (Nat.le_of_ble_eq_true rfl) rfl ?_
      refine SW.if_eq (pc := 20) (t := 29) g (dt dt_X11_liveIn 14 rfl) rfl (fun hc => ?_) (fun hc => ?_)
      · have h := iteT hc h
        refine SW.iconst (pc := 29) (v := 0) g (dt dt_X11_liveIn 19 rfl) ki_0 ?_
        refine SW.msk [true, true, false, true] ?_
        exact ok_f_m_liveIn_30  g hm  μ ho (f_m_liveIn_4 N  μ  n) ih  x1 x3 0 x2 h
      · have h := iteF hc h
        refine SW.iconst (pc := 23) (v := 1) g (dt dt_X11_liveIn 15 rfl) ki_1 ?_
        refine SW.iload_n (pc := 24) g (dt dt_X11_liveIn 16 rfl) rfl ?_
        refine SW.ishl (pc := 25) g (dt dt_X11_liveIn 17 rfl) ?_
        refine SW.goto (pc := 26) (t := 30) g (dt dt_X11_liveIn 18 rfl) rfl ?_
        refine SW.msk [true, true, false, true] ?_
        exact ok_f_m_liveIn_30  g hm  μ ho (f_m_liveIn_4 N  μ  n) ih  x1 x3 ((1 : Int32) <<< (x3 &&& 31)) x2 h
set_option maxRecDepth 100000 in
set_option maxHeartbeats 4000000 in
theorem ok_f_m_liveIn {G : sw_G} {ad : Nat → Nat} {ν : sw_N}   {N : Nat} {o : Int32} (g : sw_ok G cX11_liveIn "DeadWiresModel" (some .int) 2 0 0 ad) (hm : G.2.2.1.2.1.maxLocals = 4)  (μ : sw_M) (ho : sw_out G 0 0 (fun a => a = ad) (.inl (some (.int o))) lay0 μ ν) (a1 : Int32) (h : f_m_liveIn N  μ a1 = some o) : SW G ad lay0 ν 0 0 0 [some (.ref 63), some (.int a1), none, none] [] μ := by
  unfold f_m_liveIn at h
  refine SW.iconst (pc := 0) (v := 0) g (dt dt_X11_liveIn 0 rfl) ki_0 ?_
  refine SW.istore_n (pc := 1) g (dt dt_X11_liveIn 1 rfl) (sw_ltm hm (Nat.le_of_ble_eq_true rfl)) rfl ?_
  refine SW.iconst (pc := 2) (v := 0) g (dt dt_X11_liveIn 2 rfl) ki_0 ?_
  refine SW.istore_n (pc := 3) g (dt dt_X11_liveIn 3 rfl) (sw_ltm hm (Nat.le_of_ble_eq_true rfl)) rfl ?_
  refine SW.msk [true, true, true, true] ?_
  exact ok_f_m_liveIn_4  g hm  μ ho   N a1 0 0 h
set_option maxRecDepth 100000 in
set_option maxHeartbeats 4000000 in
theorem mt_f_m_liveIn (l : Launch) (D : va_G) (cI cL : ClassId) (ad : Nat → Nat) (ν : sw_N)    (N : Nat) (μ : sw_M) (a1 : Int32) (o : Int32) (h : f_m_liveIn N  μ a1 = some o) : MetR l D cI cL yX11_liveIn cX11_liveIn 4 (some .int) 2 0 0 (fun a => a = ad) ad [.ref 63, .int a1] lay0 μ ν (some (.int o)) lay0 μ ν :=
  MetR.of (n := 2) rfl (Nat.le_of_ble_eq_true rfl) (fun G g ho hm _ _ => ok_f_m_liveIn  g hm  μ ho a1 h)
def f_m_cutNow_4 (N : Nat)  (μ : sw_M)  : Nat → Int32 → Int32 → Option (Int32)
  | 0, _, _ => none
  | n + 1, x1, x2 =>
    if (μ 63 22) ≤ x2 then
      some x1
    else
      inb ((12 : Int32) + x2) 49 (
        ib (x1 ||| ((μ 81 ((12 : Int32) + x2).toNatClampNeg) <<< (x2 &&& 31))) (fun y2 =>
          f_m_cutNow_4 N  μ  n y2 (x2 + 1)))
def f_m_cutNow (N : Nat)  (μ : sw_M)  : Option (Int32) :=
  f_m_cutNow_4 N  μ  N 0 0
set_option maxRecDepth 100000 in
set_option maxHeartbeats 4000000 in
theorem ok_f_m_cutNow_4 {G : sw_G} {ad : Nat → Nat} {ν : sw_N}   {N : Nat} {o : Int32} (g : sw_ok G cX11_cutNow "DeadWiresModel" (some .int) 1 0 0 ad) (hm : G.2.2.1.2.1.maxLocals = 3)  (μ : sw_M) (ho : sw_out G 0 0 (fun a => a = ad) (.inl (some (.int o))) lay0 μ ν)  : ∀ (n : Nat) (x1 : Int32) (x2 : Int32) (h : f_m_cutNow_4 N  μ  n x1 x2 = some o), SW G ad lay0 ν 0 0 4 [some (.ref 63), some (.int x1), some (.int x2)] [] μ := by
  intro n
  induction n with
  | zero => intro x1 x2 h; simp only [f_m_cutNow_4] at h; cases h
  | succ n ih =>
    intro x1 x2 h
    unfold f_m_cutNow_4 at h
    refine SW.iload_n (pc := 4) g (dt dt_X11_cutNow 4 rfl) rfl ?_
    refine SW.aload_n (pc := 5) g (dt dt_X11_cutNow 5 rfl) rfl ?_
    refine SW.getI (pc := 6) g (dt dt_X11_cutNow 6 rfl) fl_X11_156 cell_63 rfl ?_
    refine SW.icmp_ge (pc := 9) (t := 32) g (dt dt_X11_cutNow 7 rfl) rfl (fun hc => ?_) (fun hc => ?_)
    · have h := iteT hc h
      refine SW.iload_n (pc := 32) g (dt dt_X11_cutNow 21 rfl) rfl ?_
      exact SW.ireturn (pc := 33) g (leafI h ho) rfl (Nat.le_of_ble_eq_true rfl) (Nat.le_of_ble_eq_true rfl) (dt dt_X11_cutNow 22 rfl)
    · have h := iteF hc h
      refine SW.iload_n (pc := 12) g (dt dt_X11_cutNow 8 rfl) rfl ?_
      refine SW.aload_n (pc := 13) g (dt dt_X11_cutNow 9 rfl) rfl ?_
      refine SW.getR (pc := 14) g (dt dt_X11_cutNow 10 rfl) fl_X11_68 cell_63 rfl ?_
      refine SW.bipush (pc := 17) (v := 12) g (dt dt_X11_cutNow 11 rfl) kb_12 ?_
      refine SW.iload_n (pc := 19) g (dt dt_X11_cutNow 12 rfl) rfl ?_
      refine SW.iadd (pc := 20) g (dt dt_X11_cutNow 13 rfl) ?_
      obtain ⟨hb1, h⟩ := inbI h
      refine SW.iaload (pc := 21) g (dt dt_X11_cutNow 14 rfl) cell_81 hb1 ?_
      refine SW.iload_n (pc := 22) g (dt dt_X11_cutNow 15 rfl) rfl ?_
      refine SW.ishl (pc := 23) g (dt dt_X11_cutNow 16 rfl) ?_
      refine SW.ior (pc := 24) g (dt dt_X11_cutNow 17 rfl) ?_
      refine SW.istore_n (pc := 25) g (dt dt_X11_cutNow 18 rfl) (sw_ltm hm (Nat.le_of_ble_eq_true rfl)) rfl ?_
      refine SW.genL h (fun y2 h => ?_)
      refine SW.iinc (pc := 26) (v := x2 + 1) g (dt dt_X11_cutNow 19 rfl) rfl (kn_1 _) (sw_ltm hm (Nat.le_of_ble_eq_true rfl)) rfl ?_
      refine SW.goto (pc := 29) (t := 4) g (dt dt_X11_cutNow 20 rfl) rfl ?_
      refine SW.msk [true, true, true] ?_
      exact ih  y2 (x2 + 1) h
set_option maxRecDepth 100000 in
set_option maxHeartbeats 4000000 in
theorem ok_f_m_cutNow {G : sw_G} {ad : Nat → Nat} {ν : sw_N}   {N : Nat} {o : Int32} (g : sw_ok G cX11_cutNow "DeadWiresModel" (some .int) 1 0 0 ad) (hm : G.2.2.1.2.1.maxLocals = 3)  (μ : sw_M) (ho : sw_out G 0 0 (fun a => a = ad) (.inl (some (.int o))) lay0 μ ν)  (h : f_m_cutNow N  μ  = some o) : SW G ad lay0 ν 0 0 0 [some (.ref 63), none, none] [] μ := by
  unfold f_m_cutNow at h
  refine SW.iconst (pc := 0) (v := 0) g (dt dt_X11_cutNow 0 rfl) ki_0 ?_
  refine SW.istore_n (pc := 1) g (dt dt_X11_cutNow 1 rfl) (sw_ltm hm (Nat.le_of_ble_eq_true rfl)) rfl ?_
  refine SW.iconst (pc := 2) (v := 0) g (dt dt_X11_cutNow 2 rfl) ki_0 ?_
  refine SW.istore_n (pc := 3) g (dt dt_X11_cutNow 3 rfl) (sw_ltm hm (Nat.le_of_ble_eq_true rfl)) rfl ?_
  refine SW.msk [true, true, true] ?_
  exact ok_f_m_cutNow_4  g hm  μ ho   N 0 0 h
set_option maxRecDepth 100000 in
set_option maxHeartbeats 4000000 in
theorem mt_f_m_cutNow (l : Launch) (D : va_G) (cI cL : ClassId) (ad : Nat → Nat) (ν : sw_N)    (N : Nat) (μ : sw_M)  (o : Int32) (h : f_m_cutNow N  μ  = some o) : MetR l D cI cL yX11_cutNow cX11_cutNow 3 (some .int) 1 0 0 (fun a => a = ad) ad [.ref 63] lay0 μ ν (some (.int o)) lay0 μ ν :=
  MetR.of (n := 2) rfl (Nat.le_of_ble_eq_true rfl) (fun G g ho hm _ _ => ok_f_m_cutNow  g hm  μ ho  h)
def f_m_carried_33 (N : Nat)  (μ : sw_M) (k_4 : Int32 → Int32 → Option (Int32)) (x2 : Int32) (s0 : Int32) (s1 : Int32) : Option (Int32) :=
  ib (s1 ||| s0) (fun y1 =>
    k_4  y1 (x2 + 1))
def f_m_carried_4 (N : Nat)  (μ : sw_M)  : Nat → Int32 → Int32 → Option (Int32)
  | 0, _, _ => none
  | n + 1, x1, x2 =>
    if (μ 63 23) ≤ x2 then
      some x1
    else
      inb ((30 : Int32) + x2) 49 (
        if (μ 81 ((30 : Int32) + x2).toNatClampNeg) = (-1) then
          f_m_carried_33 N  μ (f_m_carried_4 N  μ  n)  x2 0 x1
        else
          f_m_carried_33 N  μ (f_m_carried_4 N  μ  n)  x2 ((1 : Int32) <<< (x2 &&& 31)) x1)
def f_m_carried (N : Nat)  (μ : sw_M)  : Option (Int32) :=
  f_m_carried_4 N  μ  N 0 0
set_option maxRecDepth 100000 in
set_option maxHeartbeats 4000000 in
theorem ok_f_m_carried_33 {G : sw_G} {ad : Nat → Nat} {ν : sw_N}   {N : Nat} {o : Int32} (g : sw_ok G cX11_carried "DeadWiresModel" (some .int) 1 0 0 ad) (hm : G.2.2.1.2.1.maxLocals = 3)  (μ : sw_M) (ho : sw_out G 0 0 (fun a => a = ad) (.inl (some (.int o))) lay0 μ ν) (k_4 : Int32 → Int32 → Option (Int32)) (hk_4 : ∀ (x1 : Int32) (x2 : Int32), k_4 x1 x2 = some o → SW G ad lay0 ν 0 0 4 [some (.ref 63), some (.int x1), some (.int x2)] [] μ) (x2 : Int32) (s0 : Int32) (s1 : Int32) (h : f_m_carried_33 N  μ k_4  x2 s0 s1 = some o) : SW G ad lay0 ν 0 0 33 [some (.ref 63), none, some (.int x2)] [.int s0, .int s1] μ := by
  unfold f_m_carried_33 at h
  refine SW.ior (pc := 33) g (dt dt_X11_carried 22 rfl) ?_
  refine SW.istore_n (pc := 34) g (dt dt_X11_carried 23 rfl) (sw_ltm hm (Nat.le_of_ble_eq_true rfl)) rfl ?_
  refine SW.genL h (fun y1 h => ?_)
  refine SW.iinc (pc := 35) (v := x2 + 1) g (dt dt_X11_carried 24 rfl) rfl (kn_1 _) (sw_ltm hm (Nat.le_of_ble_eq_true rfl)) rfl ?_
  refine SW.goto (pc := 38) (t := 4) g (dt dt_X11_carried 25 rfl) rfl ?_
  refine SW.msk [true, true, true] ?_
  exact hk_4  y1 (x2 + 1) h
set_option maxRecDepth 100000 in
set_option maxHeartbeats 4000000 in
theorem ok_f_m_carried_4 {G : sw_G} {ad : Nat → Nat} {ν : sw_N}   {N : Nat} {o : Int32} (g : sw_ok G cX11_carried "DeadWiresModel" (some .int) 1 0 0 ad) (hm : G.2.2.1.2.1.maxLocals = 3)  (μ : sw_M) (ho : sw_out G 0 0 (fun a => a = ad) (.inl (some (.int o))) lay0 μ ν)  : ∀ (n : Nat) (x1 : Int32) (x2 : Int32) (h : f_m_carried_4 N  μ  n x1 x2 = some o), SW G ad lay0 ν 0 0 4 [some (.ref 63), some (.int x1), some (.int x2)] [] μ := by
  intro n
  induction n with
  | zero => intro x1 x2 h; simp only [f_m_carried_4] at h; cases h
  | succ n ih =>
    intro x1 x2 h
    unfold f_m_carried_4 at h
    refine SW.iload_n (pc := 4) g (dt dt_X11_carried 4 rfl) rfl ?_
    refine SW.aload_n (pc := 5) g (dt dt_X11_carried 5 rfl) rfl ?_
    refine SW.getI (pc := 6) g (dt dt_X11_carried 6 rfl) fl_X11_159 cell_63 rfl ?_
    refine SW.icmp_ge (pc := 9) (t := 41) g (dt dt_X11_carried 7 rfl) rfl (fun hc => ?_) (fun hc => ?_)
    · have h := iteT hc h
      refine SW.iload_n (pc := 41) g (dt dt_X11_carried 26 rfl) rfl ?_
      exact SW.ireturn (pc := 42) g (leafI h ho) rfl (Nat.le_of_ble_eq_true rfl) (Nat.le_of_ble_eq_true rfl) (dt dt_X11_carried 27 rfl)
    · have h := iteF hc h
      refine SW.iload_n (pc := 12) g (dt dt_X11_carried 8 rfl) rfl ?_
      refine SW.aload_n (pc := 13) g (dt dt_X11_carried 9 rfl) rfl ?_
      refine SW.getR (pc := 14) g (dt dt_X11_carried 10 rfl) fl_X11_68 cell_63 rfl ?_
      refine SW.bipush (pc := 17) (v := 30) g (dt dt_X11_carried 11 rfl) kb_30 ?_
      refine SW.iload_n (pc := 19) g (dt dt_X11_carried 12 rfl) rfl ?_
      refine SW.iadd (pc := 20) g (dt dt_X11_carried 13 rfl) ?_
      obtain ⟨hb1, h⟩ := inbI h
      refine SW.iaload (pc := 21) g (dt dt_X11_carried 14 rfl) cell_81 hb1 ?_
      refine SW.iconst (pc := 22) (v := (-1)) g (dt dt_X11_carried 15 rfl) ki_m1 ?_
      refine SW.icmp_ne (pc := 23) (t := 30) g (dt dt_X11_carried 16 rfl) rfl (fun hc => ?_) (fun hc => ?_)
      · have h := iteF hc h
        refine SW.iconst (pc := 30) (v := 1) g (dt dt_X11_carried 19 rfl) ki_1 ?_
        refine SW.iload_n (pc := 31) g (dt dt_X11_carried 20 rfl) rfl ?_
        refine SW.ishl (pc := 32) g (dt dt_X11_carried 21 rfl) ?_
        refine SW.msk [true, false, true] ?_
        exact ok_f_m_carried_33  g hm  μ ho (f_m_carried_4 N  μ  n) ih  x2 ((1 : Int32) <<< (x2 &&& 31)) x1 h
      · have h := iteT hc h
        refine SW.iconst (pc := 26) (v := 0) g (dt dt_X11_carried 17 rfl) ki_0 ?_
        refine SW.goto (pc := 27) (t := 33) g (dt dt_X11_carried 18 rfl) rfl ?_
        refine SW.msk [true, false, true] ?_
        exact ok_f_m_carried_33  g hm  μ ho (f_m_carried_4 N  μ  n) ih  x2 0 x1 h
set_option maxRecDepth 100000 in
set_option maxHeartbeats 4000000 in
theorem ok_f_m_carried {G : sw_G} {ad : Nat → Nat} {ν : sw_N}   {N : Nat} {o : Int32} (g : sw_ok G cX11_carried "DeadWiresModel" (some .int) 1 0 0 ad) (hm : G.2.2.1.2.1.maxLocals = 3)  (μ : sw_M) (ho : sw_out G 0 0 (fun a => a = ad) (.inl (some (.int o))) lay0 μ ν)  (h : f_m_carried N  μ  = some o) : SW G ad lay0 ν 0 0 0 [some (.ref 63), none, none] [] μ := by
  unfold f_m_carried at h
  refine SW.iconst (pc := 0) (v := 0) g (dt dt_X11_carried 0 rfl) ki_0 ?_
  refine SW.istore_n (pc := 1) g (dt dt_X11_carried 1 rfl) (sw_ltm hm (Nat.le_of_ble_eq_true rfl)) rfl ?_
  refine SW.iconst (pc := 2) (v := 0) g (dt dt_X11_carried 2 rfl) ki_0 ?_
  refine SW.istore_n (pc := 3) g (dt dt_X11_carried 3 rfl) (sw_ltm hm (Nat.le_of_ble_eq_true rfl)) rfl ?_
  refine SW.msk [true, true, true] ?_
  exact ok_f_m_carried_4  g hm  μ ho   N 0 0 h
set_option maxRecDepth 100000 in
set_option maxHeartbeats 4000000 in
theorem mt_f_m_carried (l : Launch) (D : va_G) (cI cL : ClassId) (ad : Nat → Nat) (ν : sw_N)    (N : Nat) (μ : sw_M)  (o : Int32) (h : f_m_carried N  μ  = some o) : MetR l D cI cL yX11_carried cX11_carried 3 (some .int) 1 0 0 (fun a => a = ad) ad [.ref 63] lay0 μ ν (some (.int o)) lay0 μ ν :=
  MetR.of (n := 2) rfl (Nat.le_of_ble_eq_true rfl) (fun G g ho hm _ _ => ok_f_m_carried  g hm  μ ho  h)
def f_m_told (N : Nat)  (μ : sw_M) (a1 : Int32) : Option (Int32 × sw_M) :=
  wb (wr μ 63 0 0) (fun μ1 =>
    Option.bind (f_sm_within N  μ1 a1 0 11) (fun r2 =>
      Option.bind (f_m_may N  μ1 r2 1 1) (fun r4 =>
        if r4.1 = 0 then
          some (0, r4.2)
        else
          Option.bind (f_m_take N  r4.2 ) (fun r6 =>
            if 4 ≤ a1 then
              if 7 ≤ a1 then
                if a1 = 7 then
                  inb 46 49 (
                    some (r6 81 (46 : Int32).toNatClampNeg, r6))
                else
                  if a1 = 8 then
                    Option.bind (f_m_carried N  r6 ) (fun r9 =>
                      some (r9, r6))
                  else
                    if a1 = 9 then
                      some (r6 63 46, r6)
                    else
                      if a1 = 10 then
                        some (r6 63 37, r6)
                      else
                        inb 47 49 (
                          some (r6 81 (47 : Int32).toNatClampNeg, r6))
              else
                if a1 = 4 then
                  inb 48 49 (
                    some (r6 81 (48 : Int32).toNatClampNeg, r6))
                else
                  if a1 = 5 then
                    Option.bind (f_m_liveIn N  r6 0) (fun r14 =>
                      some (r14, r6))
                  else
                    Option.bind (f_m_cutNow N  r6 ) (fun r12 =>
                      some (r12, r6))
            else
              if a1 = 0 then
                some (r6 63 21, r6)
              else
                if a1 = 1 then
                  some (r6 63 22, r6)
                else
                  if a1 = 2 then
                    some (r6 63 23, r6)
                  else
                    some (r6 63 24, r6)))))
set_option maxRecDepth 100000 in
set_option maxHeartbeats 4000000 in
theorem ok_f_m_told {G : sw_G} {ad : Nat → Nat} {ν : sw_N}   {N : Nat} {o : Int32 × sw_M} (g : sw_ok G cX11_told "DeadWiresModel" (some .int) 3 0 0 ad) (hm : G.2.2.1.2.1.maxLocals = 2)  (μ : sw_M) (ho : sw_out G 0 0 (fun a => a = ad) (.inl (some (.int o.1))) lay0 o.2 ν) (a1 : Int32) (h : f_m_told N  μ a1 = some o) : SW G ad lay0 ν 0 0 0 [some (.ref 63), some (.int a1)] [] μ := by
  unfold f_m_told at h
  refine SW.aload_n (pc := 0) g (dt dt_X11_told 0 rfl) rfl ?_
  refine SW.iconst (pc := 1) (v := 0) g (dt dt_X11_told 1 rfl) ki_0 ?_
  refine SW.putI (pc := 2) g (dt dt_X11_told 2 rfl) fl_X11_3 cell_63 rfl ?_
  refine SW.genM h (fun μ1 h => ?_)
  refine SW.aload_n (pc := 5) g (dt dt_X11_told 3 rfl) rfl ?_
  refine SW.iload_n (pc := 6) g (dt dt_X11_told 4 rfl) rfl ?_
  refine SW.iconst (pc := 7) (v := 0) g (dt dt_X11_told 5 rfl) ki_0 ?_
  refine SW.bipush (pc := 8) (v := 11) g (dt dt_X11_told 6 rfl) kb_11 ?_
  obtain ⟨r2, h3, h⟩ := bindI h
  refine SW.callSi (pc := 10) g (dt dt_X11_told 7 rfl) (mt_f_sm_within _ _ _ _ ad ν lay0   N μ1 a1 0 11 r2 h3) me_X11_within ms_X11_within ml_X11_374 rfl (Nat.le_of_ble_eq_true rfl) (Nat.le_of_ble_eq_true rfl) (Nat.le_of_ble_eq_true rfl) (Nat.le_of_ble_eq_true rfl) rfl ?_
  refine SW.iconst (pc := 13) (v := 1) g (dt dt_X11_told 8 rfl) ki_1 ?_
  refine SW.iconst (pc := 14) (v := 1) g (dt dt_X11_told 9 rfl) ki_1 ?_
  obtain ⟨r4, h5, h⟩ := bindI h
  refine SW.callVi (pc := 15) g (dt dt_X11_told 10 rfl) (mt_f_m_may _ _ _ _ ad ν   N μ1 r2 1 1 r4 h5) me_X11_may mv_X11_may ml_X11_204 cell_63 rfl rfl (Nat.le_of_ble_eq_true rfl) (Nat.le_of_ble_eq_true rfl) (Nat.le_of_ble_eq_true rfl) (Nat.le_of_ble_eq_true rfl) rfl ?_
  refine SW.if_ne (pc := 18) (t := 23) g (dt dt_X11_told 11 rfl) rfl (fun hc => ?_) (fun hc => ?_)
  · have h := iteF hc h
    refine SW.aload_n (pc := 23) g (dt dt_X11_told 14 rfl) rfl ?_
    obtain ⟨r6, h7, h⟩ := bindI h
    refine SW.callVv (pc := 24) g (dt dt_X11_told 15 rfl) (mt_f_m_take _ _ _ _ ad ν   N r4.2  r6 h7) me_X11_take mv_X11_take ml_X11_305 cell_63 rfl rfl (Nat.le_of_ble_eq_true rfl) (Nat.le_of_ble_eq_true rfl) (Nat.le_of_ble_eq_true rfl) (Nat.le_of_ble_eq_true rfl) rfl ?_
    refine SW.iload_n (pc := 27) g (dt dt_X11_told 16 rfl) rfl ?_
    refine SW.iconst (pc := 28) (v := 4) g (dt dt_X11_told 17 rfl) ki_4 ?_
    refine SW.icmp_ge (pc := 29) (t := 72) g (dt dt_X11_told 18 rfl) rfl (fun hc => ?_) (fun hc => ?_)
    · have h := iteT hc h
      refine SW.iload_n (pc := 72) g (dt dt_X11_told 39 rfl) rfl ?_
      refine SW.bipush (pc := 73) (v := 7) g (dt dt_X11_told 40 rfl) kb_7 ?_
      refine SW.icmp_ge (pc := 75) (t := 111) g (dt dt_X11_told 41 rfl) rfl (fun hc => ?_) (fun hc => ?_)
      · have h := iteT hc h
        refine SW.iload_n (pc := 111) g (dt dt_X11_told 60 rfl) rfl ?_
        refine SW.bipush (pc := 112) (v := 7) g (dt dt_X11_told 61 rfl) kb_7 ?_
        refine SW.icmp_ne (pc := 114) (t := 127) g (dt dt_X11_told 62 rfl) rfl (fun hc => ?_) (fun hc => ?_)
        · have h := iteF hc h
          refine SW.iload_n (pc := 127) g (dt dt_X11_told 68 rfl) rfl ?_
          refine SW.bipush (pc := 128) (v := 8) g (dt dt_X11_told 69 rfl) kb_8 ?_
          refine SW.icmp_ne (pc := 130) (t := 140) g (dt dt_X11_told 70 rfl) rfl (fun hc => ?_) (fun hc => ?_)
          · have h := iteF hc h
            refine SW.iload_n (pc := 140) g (dt dt_X11_told 74 rfl) rfl ?_
            refine SW.bipush (pc := 141) (v := 9) g (dt dt_X11_told 75 rfl) kb_9 ?_
            refine SW.icmp_ne (pc := 143) (t := 153) g (dt dt_X11_told 76 rfl) rfl (fun hc => ?_) (fun hc => ?_)
            · have h := iteF hc h
              refine SW.iload_n (pc := 153) g (dt dt_X11_told 80 rfl) rfl ?_
              refine SW.bipush (pc := 154) (v := 10) g (dt dt_X11_told 81 rfl) kb_10 ?_
              refine SW.icmp_ne (pc := 156) (t := 166) g (dt dt_X11_told 82 rfl) rfl (fun hc => ?_) (fun hc => ?_)
              · have h := iteF hc h
                refine SW.aload_n (pc := 166) g (dt dt_X11_told 86 rfl) rfl ?_
                refine SW.getR (pc := 167) g (dt dt_X11_told 87 rfl) fl_X11_68 cell_63 rfl ?_
                refine SW.bipush (pc := 170) (v := 47) g (dt dt_X11_told 88 rfl) kb_47 ?_
                obtain ⟨hb8, h⟩ := inbI h
                refine SW.iaload (pc := 172) g (dt dt_X11_told 89 rfl) cell_81 hb8 ?_
                exact SW.ireturn (pc := 173) g (leafW h ho) rfl (Nat.le_of_ble_eq_true rfl) (Nat.le_of_ble_eq_true rfl) (dt dt_X11_told 90 rfl)
              · have h := iteT hc h
                refine SW.aload_n (pc := 159) g (dt dt_X11_told 83 rfl) rfl ?_
                refine SW.getI (pc := 160) g (dt dt_X11_told 84 rfl) fl_X11_181 cell_63 rfl ?_
                refine SW.goto (pc := 163) (t := 173) g (dt dt_X11_told 85 rfl) rfl ?_
                exact SW.ireturn (pc := 173) g (leafW h ho) rfl (Nat.le_of_ble_eq_true rfl) (Nat.le_of_ble_eq_true rfl) (dt dt_X11_told 90 rfl)
            · have h := iteT hc h
              refine SW.aload_n (pc := 146) g (dt dt_X11_told 77 rfl) rfl ?_
              refine SW.getI (pc := 147) g (dt dt_X11_told 78 rfl) fl_X11_172 cell_63 rfl ?_
              refine SW.goto (pc := 150) (t := 173) g (dt dt_X11_told 79 rfl) rfl ?_
              exact SW.ireturn (pc := 173) g (leafW h ho) rfl (Nat.le_of_ble_eq_true rfl) (Nat.le_of_ble_eq_true rfl) (dt dt_X11_told 90 rfl)
          · have h := iteT hc h
            refine SW.aload_n (pc := 133) g (dt dt_X11_told 71 rfl) rfl ?_
            obtain ⟨r9, h10, h⟩ := bindI h
            refine SW.callVi (pc := 134) g (dt dt_X11_told 72 rfl) (mt_f_m_carried _ _ _ _ ad ν   N r6  r9 h10) me_X11_carried mv_X11_carried ml_X11_383 cell_63 rfl rfl (Nat.le_of_ble_eq_true rfl) (Nat.le_of_ble_eq_true rfl) (Nat.le_of_ble_eq_true rfl) (Nat.le_of_ble_eq_true rfl) rfl ?_
            refine SW.goto (pc := 137) (t := 173) g (dt dt_X11_told 73 rfl) rfl ?_
            exact SW.ireturn (pc := 173) g (leafW h ho) rfl (Nat.le_of_ble_eq_true rfl) (Nat.le_of_ble_eq_true rfl) (dt dt_X11_told 90 rfl)
        · have h := iteT hc h
          refine SW.aload_n (pc := 117) g (dt dt_X11_told 63 rfl) rfl ?_
          refine SW.getR (pc := 118) g (dt dt_X11_told 64 rfl) fl_X11_68 cell_63 rfl ?_
          refine SW.bipush (pc := 121) (v := 46) g (dt dt_X11_told 65 rfl) kb_46 ?_
          obtain ⟨hb11, h⟩ := inbI h
          refine SW.iaload (pc := 123) g (dt dt_X11_told 66 rfl) cell_81 hb11 ?_
          refine SW.goto (pc := 124) (t := 173) g (dt dt_X11_told 67 rfl) rfl ?_
          exact SW.ireturn (pc := 173) g (leafW h ho) rfl (Nat.le_of_ble_eq_true rfl) (Nat.le_of_ble_eq_true rfl) (dt dt_X11_told 90 rfl)
      · have h := iteF hc h
        refine SW.iload_n (pc := 78) g (dt dt_X11_told 42 rfl) rfl ?_
        refine SW.iconst (pc := 79) (v := 4) g (dt dt_X11_told 43 rfl) ki_4 ?_
        refine SW.icmp_ne (pc := 80) (t := 93) g (dt dt_X11_told 44 rfl) rfl (fun hc => ?_) (fun hc => ?_)
        · have h := iteF hc h
          refine SW.iload_n (pc := 93) g (dt dt_X11_told 50 rfl) rfl ?_
          refine SW.iconst (pc := 94) (v := 5) g (dt dt_X11_told 51 rfl) ki_5 ?_
          refine SW.icmp_ne (pc := 95) (t := 106) g (dt dt_X11_told 52 rfl) rfl (fun hc => ?_) (fun hc => ?_)
          · have h := iteF hc h
            refine SW.aload_n (pc := 106) g (dt dt_X11_told 57 rfl) rfl ?_
            obtain ⟨r12, h13, h⟩ := bindI h
            refine SW.callVi (pc := 107) g (dt dt_X11_told 58 rfl) (mt_f_m_cutNow _ _ _ _ ad ν   N r6  r12 h13) me_X11_cutNow mv_X11_cutNow ml_X11_380 cell_63 rfl rfl (Nat.le_of_ble_eq_true rfl) (Nat.le_of_ble_eq_true rfl) (Nat.le_of_ble_eq_true rfl) (Nat.le_of_ble_eq_true rfl) rfl ?_
            exact SW.ireturn (pc := 110) g (leafW h ho) rfl (Nat.le_of_ble_eq_true rfl) (Nat.le_of_ble_eq_true rfl) (dt dt_X11_told 59 rfl)
          · have h := iteT hc h
            refine SW.aload_n (pc := 98) g (dt dt_X11_told 53 rfl) rfl ?_
            refine SW.iconst (pc := 99) (v := 0) g (dt dt_X11_told 54 rfl) ki_0 ?_
            obtain ⟨r14, h15, h⟩ := bindI h
            refine SW.callVi (pc := 100) g (dt dt_X11_told 55 rfl) (mt_f_m_liveIn _ _ _ _ ad ν   N r6 0 r14 h15) me_X11_liveIn mv_X11_liveIn ml_X11_377 cell_63 rfl rfl (Nat.le_of_ble_eq_true rfl) (Nat.le_of_ble_eq_true rfl) (Nat.le_of_ble_eq_true rfl) (Nat.le_of_ble_eq_true rfl) rfl ?_
            refine SW.goto (pc := 103) (t := 110) g (dt dt_X11_told 56 rfl) rfl ?_
            exact SW.ireturn (pc := 110) g (leafW h ho) rfl (Nat.le_of_ble_eq_true rfl) (Nat.le_of_ble_eq_true rfl) (dt dt_X11_told 59 rfl)
        · have h := iteT hc h
          refine SW.aload_n (pc := 83) g (dt dt_X11_told 45 rfl) rfl ?_
          refine SW.getR (pc := 84) g (dt dt_X11_told 46 rfl) fl_X11_68 cell_63 rfl ?_
          refine SW.bipush (pc := 87) (v := 48) g (dt dt_X11_told 47 rfl) kb_48 ?_
          obtain ⟨hb16, h⟩ := inbI h
          refine SW.iaload (pc := 89) g (dt dt_X11_told 48 rfl) cell_81 hb16 ?_
          refine SW.goto (pc := 90) (t := 110) g (dt dt_X11_told 49 rfl) rfl ?_
          exact SW.ireturn (pc := 110) g (leafW h ho) rfl (Nat.le_of_ble_eq_true rfl) (Nat.le_of_ble_eq_true rfl) (dt dt_X11_told 59 rfl)
    · have h := iteF hc h
      refine SW.iload_n (pc := 32) g (dt dt_X11_told 19 rfl) rfl ?_
      refine SW.if_ne (pc := 33) (t := 43) g (dt dt_X11_told 20 rfl) rfl (fun hc => ?_) (fun hc => ?_)
      · have h := iteF hc h
        refine SW.iload_n (pc := 43) g (dt dt_X11_told 24 rfl) rfl ?_
        refine SW.iconst (pc := 44) (v := 1) g (dt dt_X11_told 25 rfl) ki_1 ?_
        refine SW.icmp_ne (pc := 45) (t := 55) g (dt dt_X11_told 26 rfl) rfl (fun hc => ?_) (fun hc => ?_)
        · have h := iteF hc h
          refine SW.iload_n (pc := 55) g (dt dt_X11_told 30 rfl) rfl ?_
          refine SW.iconst (pc := 56) (v := 2) g (dt dt_X11_told 31 rfl) ki_2 ?_
          refine SW.icmp_ne (pc := 57) (t := 67) g (dt dt_X11_told 32 rfl) rfl (fun hc => ?_) (fun hc => ?_)
          · have h := iteF hc h
            refine SW.aload_n (pc := 67) g (dt dt_X11_told 36 rfl) rfl ?_
            refine SW.getI (pc := 68) g (dt dt_X11_told 37 rfl) fl_X11_162 cell_63 rfl ?_
            exact SW.ireturn (pc := 71) g (leafW h ho) rfl (Nat.le_of_ble_eq_true rfl) (Nat.le_of_ble_eq_true rfl) (dt dt_X11_told 38 rfl)
          · have h := iteT hc h
            refine SW.aload_n (pc := 60) g (dt dt_X11_told 33 rfl) rfl ?_
            refine SW.getI (pc := 61) g (dt dt_X11_told 34 rfl) fl_X11_159 cell_63 rfl ?_
            refine SW.goto (pc := 64) (t := 71) g (dt dt_X11_told 35 rfl) rfl ?_
            exact SW.ireturn (pc := 71) g (leafW h ho) rfl (Nat.le_of_ble_eq_true rfl) (Nat.le_of_ble_eq_true rfl) (dt dt_X11_told 38 rfl)
        · have h := iteT hc h
          refine SW.aload_n (pc := 48) g (dt dt_X11_told 27 rfl) rfl ?_
          refine SW.getI (pc := 49) g (dt dt_X11_told 28 rfl) fl_X11_156 cell_63 rfl ?_
          refine SW.goto (pc := 52) (t := 71) g (dt dt_X11_told 29 rfl) rfl ?_
          exact SW.ireturn (pc := 71) g (leafW h ho) rfl (Nat.le_of_ble_eq_true rfl) (Nat.le_of_ble_eq_true rfl) (dt dt_X11_told 38 rfl)
      · have h := iteT hc h
        refine SW.aload_n (pc := 36) g (dt dt_X11_told 21 rfl) rfl ?_
        refine SW.getI (pc := 37) g (dt dt_X11_told 22 rfl) fl_X11_153 cell_63 rfl ?_
        refine SW.goto (pc := 40) (t := 71) g (dt dt_X11_told 23 rfl) rfl ?_
        exact SW.ireturn (pc := 71) g (leafW h ho) rfl (Nat.le_of_ble_eq_true rfl) (Nat.le_of_ble_eq_true rfl) (dt dt_X11_told 38 rfl)
  · have h := iteT hc h
    refine SW.iconst (pc := 21) (v := 0) g (dt dt_X11_told 12 rfl) ki_0 ?_
    exact SW.ireturn (pc := 22) g (leafW h ho) rfl (Nat.le_of_ble_eq_true rfl) (Nat.le_of_ble_eq_true rfl) (dt dt_X11_told 13 rfl)
set_option maxRecDepth 100000 in
set_option maxHeartbeats 4000000 in
theorem mt_f_m_told (l : Launch) (D : va_G) (cI cL : ClassId) (ad : Nat → Nat) (ν : sw_N)    (N : Nat) (μ : sw_M) (a1 : Int32) (o : Int32 × sw_M) (h : f_m_told N  μ a1 = some o) : MetR l D cI cL yX11_told cX11_told 2 (some .int) 3 0 0 (fun a => a = ad) ad [.ref 63, .int a1] lay0 μ ν (some (.int o.1)) lay0 o.2 ν :=
  MetR.of (n := 0) rfl (Nat.le_of_ble_eq_true rfl) (fun G g ho hm _ _ => ok_f_m_told  g hm  μ ho a1 h)
def f_m_isField (N : Nat)  (μ : sw_M) (a1 : Int32) (a2 : Int32) : Option (Int32 × sw_M) :=
  Option.bind (f_sm_within N  μ a1 0 ((μ 63 21) - 1)) (fun r1 =>
    Option.bind (f_m_may N  μ r1 a2 0) (fun r3 =>
      bl r3.1 (some (r3.1, r3.2))))
set_option maxRecDepth 100000 in
set_option maxHeartbeats 4000000 in
theorem ok_f_m_isField {G : sw_G} {ad : Nat → Nat} {ν : sw_N}   {N : Nat} {o : Int32 × sw_M} (g : sw_ok G cX11_isField "DeadWiresModel" (some .boolean) 2 0 0 ad) (hm : G.2.2.1.2.1.maxLocals = 3)  (μ : sw_M) (ho : sw_out G 0 0 (fun a => a = ad) (.inl (some (.int o.1))) lay0 o.2 ν) (a1 : Int32) (a2 : Int32) (h : f_m_isField N  μ a1 a2 = some o) : SW G ad lay0 ν 0 0 0 [some (.ref 63), some (.int a1), some (.int a2)] [] μ := by
  unfold f_m_isField at h
  refine SW.aload_n (pc := 0) g (dt dt_X11_isField 0 rfl) rfl ?_
  refine SW.iload_n (pc := 1) g (dt dt_X11_isField 1 rfl) rfl ?_
  refine SW.iconst (pc := 2) (v := 0) g (dt dt_X11_isField 2 rfl) ki_0 ?_
  refine SW.aload_n (pc := 3) g (dt dt_X11_isField 3 rfl) rfl ?_
  refine SW.getI (pc := 4) g (dt dt_X11_isField 4 rfl) fl_X11_153 cell_63 rfl ?_
  refine SW.iconst (pc := 7) (v := 1) g (dt dt_X11_isField 5 rfl) ki_1 ?_
  refine SW.isub (pc := 8) g (dt dt_X11_isField 6 rfl) ?_
  obtain ⟨r1, h2, h⟩ := bindI h
  refine SW.callSi (pc := 9) g (dt dt_X11_isField 7 rfl) (mt_f_sm_within _ _ _ _ ad ν lay0   N μ a1 0 ((μ 63 21) - 1) r1 h2) me_X11_within ms_X11_within ml_X11_374 rfl (Nat.le_of_ble_eq_true rfl) (Nat.le_of_ble_eq_true rfl) (Nat.le_of_ble_eq_true rfl) (Nat.le_of_ble_eq_true rfl) rfl ?_
  refine SW.iload_n (pc := 12) g (dt dt_X11_isField 8 rfl) rfl ?_
  refine SW.iconst (pc := 13) (v := 0) g (dt dt_X11_isField 9 rfl) ki_0 ?_
  obtain ⟨r3, h4, h⟩ := bindI h
  refine SW.callVi (pc := 14) g (dt dt_X11_isField 10 rfl) (mt_f_m_may _ _ _ _ ad ν   N μ r1 a2 0 r3 h4) me_X11_may mv_X11_may ml_X11_204 cell_63 rfl rfl (Nat.le_of_ble_eq_true rfl) (Nat.le_of_ble_eq_true rfl) (Nat.le_of_ble_eq_true rfl) (Nat.le_of_ble_eq_true rfl) rfl ?_
  obtain ⟨hn, h⟩ := blI h
  exact SW.zreturn (pc := 17) g (leafW h ho) rfl (Nat.le_of_ble_eq_true rfl) (Nat.le_of_ble_eq_true rfl) hn (dt dt_X11_isField 11 rfl)
set_option maxRecDepth 100000 in
set_option maxHeartbeats 4000000 in
theorem mt_f_m_isField (l : Launch) (D : va_G) (cI cL : ClassId) (ad : Nat → Nat) (ν : sw_N)    (N : Nat) (μ : sw_M) (a1 : Int32) (a2 : Int32) (o : Int32 × sw_M) (h : f_m_isField N  μ a1 a2 = some o) : MetR l D cI cL yX11_isField cX11_isField 3 (some .boolean) 2 0 0 (fun a => a = ad) ad [.ref 63, .int a1, .int a2] lay0 μ ν (some (.int o.1)) lay0 o.2 ν :=
  MetR.of (n := 0) rfl (Nat.le_of_ble_eq_true rfl) (fun G g ho hm _ _ => ok_f_m_isField  g hm  μ ho a1 a2 h)
def f_m_isWire (N : Nat)  (μ : sw_M) (a1 : Int32) (a2 : Int32) : Option (Int32 × sw_M) :=
  Option.bind (f_sm_within N  μ a1 0 ((μ 63 22) - 1)) (fun r1 =>
    Option.bind (f_m_may N  μ r1 a2 0) (fun r3 =>
      bl r3.1 (some (r3.1, r3.2))))
set_option maxRecDepth 100000 in
set_option maxHeartbeats 4000000 in
theorem ok_f_m_isWire {G : sw_G} {ad : Nat → Nat} {ν : sw_N}   {N : Nat} {o : Int32 × sw_M} (g : sw_ok G cX11_isWire "DeadWiresModel" (some .boolean) 2 0 0 ad) (hm : G.2.2.1.2.1.maxLocals = 3)  (μ : sw_M) (ho : sw_out G 0 0 (fun a => a = ad) (.inl (some (.int o.1))) lay0 o.2 ν) (a1 : Int32) (a2 : Int32) (h : f_m_isWire N  μ a1 a2 = some o) : SW G ad lay0 ν 0 0 0 [some (.ref 63), some (.int a1), some (.int a2)] [] μ := by
  unfold f_m_isWire at h
  refine SW.aload_n (pc := 0) g (dt dt_X11_isWire 0 rfl) rfl ?_
  refine SW.iload_n (pc := 1) g (dt dt_X11_isWire 1 rfl) rfl ?_
  refine SW.iconst (pc := 2) (v := 0) g (dt dt_X11_isWire 2 rfl) ki_0 ?_
  refine SW.aload_n (pc := 3) g (dt dt_X11_isWire 3 rfl) rfl ?_
  refine SW.getI (pc := 4) g (dt dt_X11_isWire 4 rfl) fl_X11_156 cell_63 rfl ?_
  refine SW.iconst (pc := 7) (v := 1) g (dt dt_X11_isWire 5 rfl) ki_1 ?_
  refine SW.isub (pc := 8) g (dt dt_X11_isWire 6 rfl) ?_
  obtain ⟨r1, h2, h⟩ := bindI h
  refine SW.callSi (pc := 9) g (dt dt_X11_isWire 7 rfl) (mt_f_sm_within _ _ _ _ ad ν lay0   N μ a1 0 ((μ 63 22) - 1) r1 h2) me_X11_within ms_X11_within ml_X11_374 rfl (Nat.le_of_ble_eq_true rfl) (Nat.le_of_ble_eq_true rfl) (Nat.le_of_ble_eq_true rfl) (Nat.le_of_ble_eq_true rfl) rfl ?_
  refine SW.iload_n (pc := 12) g (dt dt_X11_isWire 8 rfl) rfl ?_
  refine SW.iconst (pc := 13) (v := 0) g (dt dt_X11_isWire 9 rfl) ki_0 ?_
  obtain ⟨r3, h4, h⟩ := bindI h
  refine SW.callVi (pc := 14) g (dt dt_X11_isWire 10 rfl) (mt_f_m_may _ _ _ _ ad ν   N μ r1 a2 0 r3 h4) me_X11_may mv_X11_may ml_X11_204 cell_63 rfl rfl (Nat.le_of_ble_eq_true rfl) (Nat.le_of_ble_eq_true rfl) (Nat.le_of_ble_eq_true rfl) (Nat.le_of_ble_eq_true rfl) rfl ?_
  obtain ⟨hn, h⟩ := blI h
  exact SW.zreturn (pc := 17) g (leafW h ho) rfl (Nat.le_of_ble_eq_true rfl) (Nat.le_of_ble_eq_true rfl) hn (dt dt_X11_isWire 11 rfl)
set_option maxRecDepth 100000 in
set_option maxHeartbeats 4000000 in
theorem mt_f_m_isWire (l : Launch) (D : va_G) (cI cL : ClassId) (ad : Nat → Nat) (ν : sw_N)    (N : Nat) (μ : sw_M) (a1 : Int32) (a2 : Int32) (o : Int32 × sw_M) (h : f_m_isWire N  μ a1 a2 = some o) : MetR l D cI cL yX11_isWire cX11_isWire 3 (some .boolean) 2 0 0 (fun a => a = ad) ad [.ref 63, .int a1, .int a2] lay0 μ ν (some (.int o.1)) lay0 o.2 ν :=
  MetR.of (n := 0) rfl (Nat.le_of_ble_eq_true rfl) (fun G g ho hm _ _ => ok_f_m_isWire  g hm  μ ho a1 a2 h)
def f_m_isPerson (N : Nat)  (μ : sw_M) (a1 : Int32) (a2 : Int32) : Option (Int32 × sw_M) :=
  Option.bind (f_sm_within N  μ a1 0 ((μ 63 24) - 1)) (fun r1 =>
    Option.bind (f_m_may N  μ r1 a2 0) (fun r3 =>
      bl r3.1 (some (r3.1, r3.2))))
set_option maxRecDepth 100000 in
set_option maxHeartbeats 4000000 in
theorem ok_f_m_isPerson {G : sw_G} {ad : Nat → Nat} {ν : sw_N}   {N : Nat} {o : Int32 × sw_M} (g : sw_ok G cX11_isPerson "DeadWiresModel" (some .boolean) 2 0 0 ad) (hm : G.2.2.1.2.1.maxLocals = 3)  (μ : sw_M) (ho : sw_out G 0 0 (fun a => a = ad) (.inl (some (.int o.1))) lay0 o.2 ν) (a1 : Int32) (a2 : Int32) (h : f_m_isPerson N  μ a1 a2 = some o) : SW G ad lay0 ν 0 0 0 [some (.ref 63), some (.int a1), some (.int a2)] [] μ := by
  unfold f_m_isPerson at h
  refine SW.aload_n (pc := 0) g (dt dt_X11_isPerson 0 rfl) rfl ?_
  refine SW.iload_n (pc := 1) g (dt dt_X11_isPerson 1 rfl) rfl ?_
  refine SW.iconst (pc := 2) (v := 0) g (dt dt_X11_isPerson 2 rfl) ki_0 ?_
  refine SW.aload_n (pc := 3) g (dt dt_X11_isPerson 3 rfl) rfl ?_
  refine SW.getI (pc := 4) g (dt dt_X11_isPerson 4 rfl) fl_X11_162 cell_63 rfl ?_
  refine SW.iconst (pc := 7) (v := 1) g (dt dt_X11_isPerson 5 rfl) ki_1 ?_
  refine SW.isub (pc := 8) g (dt dt_X11_isPerson 6 rfl) ?_
  obtain ⟨r1, h2, h⟩ := bindI h
  refine SW.callSi (pc := 9) g (dt dt_X11_isPerson 7 rfl) (mt_f_sm_within _ _ _ _ ad ν lay0   N μ a1 0 ((μ 63 24) - 1) r1 h2) me_X11_within ms_X11_within ml_X11_374 rfl (Nat.le_of_ble_eq_true rfl) (Nat.le_of_ble_eq_true rfl) (Nat.le_of_ble_eq_true rfl) (Nat.le_of_ble_eq_true rfl) rfl ?_
  refine SW.iload_n (pc := 12) g (dt dt_X11_isPerson 8 rfl) rfl ?_
  refine SW.iconst (pc := 13) (v := 0) g (dt dt_X11_isPerson 9 rfl) ki_0 ?_
  obtain ⟨r3, h4, h⟩ := bindI h
  refine SW.callVi (pc := 14) g (dt dt_X11_isPerson 10 rfl) (mt_f_m_may _ _ _ _ ad ν   N μ r1 a2 0 r3 h4) me_X11_may mv_X11_may ml_X11_204 cell_63 rfl rfl (Nat.le_of_ble_eq_true rfl) (Nat.le_of_ble_eq_true rfl) (Nat.le_of_ble_eq_true rfl) (Nat.le_of_ble_eq_true rfl) rfl ?_
  obtain ⟨hn, h⟩ := blI h
  exact SW.zreturn (pc := 17) g (leafW h ho) rfl (Nat.le_of_ble_eq_true rfl) (Nat.le_of_ble_eq_true rfl) hn (dt dt_X11_isPerson 11 rfl)
set_option maxRecDepth 100000 in
set_option maxHeartbeats 4000000 in
theorem mt_f_m_isPerson (l : Launch) (D : va_G) (cI cL : ClassId) (ad : Nat → Nat) (ν : sw_N)    (N : Nat) (μ : sw_M) (a1 : Int32) (a2 : Int32) (o : Int32 × sw_M) (h : f_m_isPerson N  μ a1 a2 = some o) : MetR l D cI cL yX11_isPerson cX11_isPerson 3 (some .boolean) 2 0 0 (fun a => a = ad) ad [.ref 63, .int a1, .int a2] lay0 μ ν (some (.int o.1)) lay0 o.2 ν :=
  MetR.of (n := 0) rfl (Nat.le_of_ble_eq_true rfl) (fun G g ho hm _ _ => ok_f_m_isPerson  g hm  μ ho a1 a2 h)
def f_m_lyingIn_46 (N : Nat)  (μ : sw_M) (k_4 : Int32 → Int32 → Int32 → Option (Int32)) (x1 : Int32) (x3 : Int32) (s0 : Int32) (s1 : Int32) : Option (Int32) :=
  ib (s1 ||| s0) (fun y1 =>
    k_4  x1 y1 (x3 + 1))
def f_m_lyingIn_45 (N : Nat)  (μ : sw_M) (k_4 : Int32 → Int32 → Int32 → Option (Int32)) (x1 : Int32) (x3 : Int32) (s0 : Int32) : Option (Int32) :=
  f_m_lyingIn_46 N  μ k_4  x1 x3 0 s0
def f_m_lyingIn_4 (N : Nat)  (μ : sw_M)  : Nat → Int32 → Int32 → Int32 → Option (Int32)
  | 0, _, _, _ => none
  | n + 1, x1, x2, x3 =>
    if (μ 63 23) ≤ x3 then
      some x2
    else
      inb ((30 : Int32) + x3) 49 (
        if (μ 81 ((30 : Int32) + x3).toNatClampNeg) = (-1) then
          inb ((24 : Int32) + x3) 49 (
            if (μ 81 ((24 : Int32) + x3).toNatClampNeg) = x1 then
              f_m_lyingIn_46 N  μ (f_m_lyingIn_4 N  μ  n)  x1 x3 ((1 : Int32) <<< (x3 &&& 31)) x2
            else
              f_m_lyingIn_45 N  μ (f_m_lyingIn_4 N  μ  n)  x1 x3 x2)
        else
          f_m_lyingIn_45 N  μ (f_m_lyingIn_4 N  μ  n)  x1 x3 x2)
def f_m_lyingIn (N : Nat)  (μ : sw_M) (a1 : Int32) : Option (Int32) :=
  f_m_lyingIn_4 N  μ  N a1 0 0
set_option maxRecDepth 100000 in
set_option maxHeartbeats 4000000 in
theorem ok_f_m_lyingIn_46 {G : sw_G} {ad : Nat → Nat} {ν : sw_N}   {N : Nat} {o : Int32} (g : sw_ok G cX11_lyingIn "DeadWiresModel" (some .int) 1 0 0 ad) (hm : G.2.2.1.2.1.maxLocals = 4)  (μ : sw_M) (ho : sw_out G 0 0 (fun a => a = ad) (.inl (some (.int o))) lay0 μ ν) (k_4 : Int32 → Int32 → Int32 → Option (Int32)) (hk_4 : ∀ (x1 : Int32) (x2 : Int32) (x3 : Int32), k_4 x1 x2 x3 = some o → SW G ad lay0 ν 0 0 4 [some (.ref 63), some (.int x1), some (.int x2), some (.int x3)] [] μ) (x1 : Int32) (x3 : Int32) (s0 : Int32) (s1 : Int32) (h : f_m_lyingIn_46 N  μ k_4  x1 x3 s0 s1 = some o) : SW G ad lay0 ν 0 0 46 [some (.ref 63), some (.int x1), none, some (.int x3)] [.int s0, .int s1] μ := by
  unfold f_m_lyingIn_46 at h
  refine SW.ior (pc := 46) g (dt dt_X11_lyingIn 30 rfl) ?_
  refine SW.istore_n (pc := 47) g (dt dt_X11_lyingIn 31 rfl) (sw_ltm hm (Nat.le_of_ble_eq_true rfl)) rfl ?_
  refine SW.genL h (fun y1 h => ?_)
  refine SW.iinc (pc := 48) (v := x3 + 1) g (dt dt_X11_lyingIn 32 rfl) rfl (kn_1 _) (sw_ltm hm (Nat.le_of_ble_eq_true rfl)) rfl ?_
  refine SW.goto (pc := 51) (t := 4) g (dt dt_X11_lyingIn 33 rfl) rfl ?_
  refine SW.msk [true, true, true, true] ?_
  exact hk_4  x1 y1 (x3 + 1) h
set_option maxRecDepth 100000 in
set_option maxHeartbeats 4000000 in
theorem ok_f_m_lyingIn_45 {G : sw_G} {ad : Nat → Nat} {ν : sw_N}   {N : Nat} {o : Int32} (g : sw_ok G cX11_lyingIn "DeadWiresModel" (some .int) 1 0 0 ad) (hm : G.2.2.1.2.1.maxLocals = 4)  (μ : sw_M) (ho : sw_out G 0 0 (fun a => a = ad) (.inl (some (.int o))) lay0 μ ν) (k_4 : Int32 → Int32 → Int32 → Option (Int32)) (hk_4 : ∀ (x1 : Int32) (x2 : Int32) (x3 : Int32), k_4 x1 x2 x3 = some o → SW G ad lay0 ν 0 0 4 [some (.ref 63), some (.int x1), some (.int x2), some (.int x3)] [] μ) (x1 : Int32) (x3 : Int32) (s0 : Int32) (h : f_m_lyingIn_45 N  μ k_4  x1 x3 s0 = some o) : SW G ad lay0 ν 0 0 45 [some (.ref 63), some (.int x1), none, some (.int x3)] [.int s0] μ := by
  unfold f_m_lyingIn_45 at h
  refine SW.iconst (pc := 45) (v := 0) g (dt dt_X11_lyingIn 29 rfl) ki_0 ?_
  refine SW.msk [true, true, false, true] ?_
  exact ok_f_m_lyingIn_46  g hm  μ ho k_4 hk_4  x1 x3 0 s0 h
set_option maxRecDepth 100000 in
set_option maxHeartbeats 4000000 in
theorem ok_f_m_lyingIn_4 {G : sw_G} {ad : Nat → Nat} {ν : sw_N}   {N : Nat} {o : Int32} (g : sw_ok G cX11_lyingIn "DeadWiresModel" (some .int) 1 0 0 ad) (hm : G.2.2.1.2.1.maxLocals = 4)  (μ : sw_M) (ho : sw_out G 0 0 (fun a => a = ad) (.inl (some (.int o))) lay0 μ ν)  : ∀ (n : Nat) (x1 : Int32) (x2 : Int32) (x3 : Int32) (h : f_m_lyingIn_4 N  μ  n x1 x2 x3 = some o), SW G ad lay0 ν 0 0 4 [some (.ref 63), some (.int x1), some (.int x2), some (.int x3)] [] μ := by
  intro n
  induction n with
  | zero => intro x1 x2 x3 h; simp only [f_m_lyingIn_4] at h; cases h
  | succ n ih =>
    intro x1 x2 x3 h
    unfold f_m_lyingIn_4 at h
    refine SW.iload_n (pc := 4) g (dt dt_X11_lyingIn 4 rfl) rfl ?_
    refine SW.aload_n (pc := 5) g (dt dt_X11_lyingIn 5 rfl) rfl ?_
    refine SW.getI (pc := 6) g (dt dt_X11_lyingIn 6 rfl) fl_X11_159 cell_63 rfl ?_
    refine SW.icmp_ge (pc := 9) (t := 54) g (dt dt_X11_lyingIn 7 rfl) rfl (fun hc => ?_) (fun hc => ?_)
    · have h := iteT hc h
      refine SW.iload_n (pc := 54) g (dt dt_X11_lyingIn 34 rfl) rfl ?_
      exact SW.ireturn (pc := 55) g (leafI h ho) rfl (Nat.le_of_ble_eq_true rfl) (Nat.le_of_ble_eq_true rfl) (dt dt_X11_lyingIn 35 rfl)
    · have h := iteF hc h
      refine SW.iload_n (pc := 12) g (dt dt_X11_lyingIn 8 rfl) rfl ?_
      refine SW.aload_n (pc := 13) g (dt dt_X11_lyingIn 9 rfl) rfl ?_
      refine SW.getR (pc := 14) g (dt dt_X11_lyingIn 10 rfl) fl_X11_68 cell_63 rfl ?_
      refine SW.bipush (pc := 17) (v := 30) g (dt dt_X11_lyingIn 11 rfl) kb_30 ?_
      refine SW.iload_n (pc := 19) g (dt dt_X11_lyingIn 12 rfl) rfl ?_
      refine SW.iadd (pc := 20) g (dt dt_X11_lyingIn 13 rfl) ?_
      obtain ⟨hb1, h⟩ := inbI h
      refine SW.iaload (pc := 21) g (dt dt_X11_lyingIn 14 rfl) cell_81 hb1 ?_
      refine SW.iconst (pc := 22) (v := (-1)) g (dt dt_X11_lyingIn 15 rfl) ki_m1 ?_
      refine SW.icmp_ne (pc := 23) (t := 45) g (dt dt_X11_lyingIn 16 rfl) rfl (fun hc => ?_) (fun hc => ?_)
      · have h := iteF hc h
        refine SW.msk [true, true, false, true] ?_
        exact ok_f_m_lyingIn_45  g hm  μ ho (f_m_lyingIn_4 N  μ  n) ih  x1 x3 x2 h
      · have h := iteT hc h
        refine SW.aload_n (pc := 26) g (dt dt_X11_lyingIn 17 rfl) rfl ?_
        refine SW.getR (pc := 27) g (dt dt_X11_lyingIn 18 rfl) fl_X11_68 cell_63 rfl ?_
        refine SW.bipush (pc := 30) (v := 24) g (dt dt_X11_lyingIn 19 rfl) kb_24 ?_
        refine SW.iload_n (pc := 32) g (dt dt_X11_lyingIn 20 rfl) rfl ?_
        refine SW.iadd (pc := 33) g (dt dt_X11_lyingIn 21 rfl) ?_
        obtain ⟨hb2, h⟩ := inbI h
        refine SW.iaload (pc := 34) g (dt dt_X11_lyingIn 22 rfl) cell_81 hb2 ?_
        refine SW.iload_n (pc := 35) g (dt dt_X11_lyingIn 23 rfl) rfl ?_
        refine SW.icmp_ne (pc := 36) (t := 45) g (dt dt_X11_lyingIn 24 rfl) rfl (fun hc => ?_) (fun hc => ?_)
        · have h := iteF hc h
          refine SW.msk [true, true, false, true] ?_
          exact ok_f_m_lyingIn_45  g hm  μ ho (f_m_lyingIn_4 N  μ  n) ih  x1 x3 x2 h
        · have h := iteT hc h
          refine SW.iconst (pc := 39) (v := 1) g (dt dt_X11_lyingIn 25 rfl) ki_1 ?_
          refine SW.iload_n (pc := 40) g (dt dt_X11_lyingIn 26 rfl) rfl ?_
          refine SW.ishl (pc := 41) g (dt dt_X11_lyingIn 27 rfl) ?_
          refine SW.goto (pc := 42) (t := 46) g (dt dt_X11_lyingIn 28 rfl) rfl ?_
          refine SW.msk [true, true, false, true] ?_
          exact ok_f_m_lyingIn_46  g hm  μ ho (f_m_lyingIn_4 N  μ  n) ih  x1 x3 ((1 : Int32) <<< (x3 &&& 31)) x2 h
set_option maxRecDepth 100000 in
set_option maxHeartbeats 4000000 in
theorem ok_f_m_lyingIn {G : sw_G} {ad : Nat → Nat} {ν : sw_N}   {N : Nat} {o : Int32} (g : sw_ok G cX11_lyingIn "DeadWiresModel" (some .int) 1 0 0 ad) (hm : G.2.2.1.2.1.maxLocals = 4)  (μ : sw_M) (ho : sw_out G 0 0 (fun a => a = ad) (.inl (some (.int o))) lay0 μ ν) (a1 : Int32) (h : f_m_lyingIn N  μ a1 = some o) : SW G ad lay0 ν 0 0 0 [some (.ref 63), some (.int a1), none, none] [] μ := by
  unfold f_m_lyingIn at h
  refine SW.iconst (pc := 0) (v := 0) g (dt dt_X11_lyingIn 0 rfl) ki_0 ?_
  refine SW.istore_n (pc := 1) g (dt dt_X11_lyingIn 1 rfl) (sw_ltm hm (Nat.le_of_ble_eq_true rfl)) rfl ?_
  refine SW.iconst (pc := 2) (v := 0) g (dt dt_X11_lyingIn 2 rfl) ki_0 ?_
  refine SW.istore_n (pc := 3) g (dt dt_X11_lyingIn 3 rfl) (sw_ltm hm (Nat.le_of_ble_eq_true rfl)) rfl ?_
  refine SW.msk [true, true, true, true] ?_
  exact ok_f_m_lyingIn_4  g hm  μ ho   N a1 0 0 h
set_option maxRecDepth 100000 in
set_option maxHeartbeats 4000000 in
theorem mt_f_m_lyingIn (l : Launch) (D : va_G) (cI cL : ClassId) (ad : Nat → Nat) (ν : sw_N)    (N : Nat) (μ : sw_M) (a1 : Int32) (o : Int32) (h : f_m_lyingIn N  μ a1 = some o) : MetR l D cI cL yX11_lyingIn cX11_lyingIn 4 (some .int) 1 0 0 (fun a => a = ad) ad [.ref 63, .int a1] lay0 μ ν (some (.int o)) lay0 μ ν :=
  MetR.of (n := 2) rfl (Nat.le_of_ble_eq_true rfl) (fun G g ho hm _ _ => ok_f_m_lyingIn  g hm  μ ho a1 h)
def f_m_onFrom_71 (N : Nat)  (μ : sw_M) (k_6 : Int32 → Int32 → Int32 → Int32 → Int32 → Option (Int32)) (x1 : Int32) (x2 : Int32) (x3 : Int32) (x5 : Int32) (s0 : Int32) (s1 : Int32) : Option (Int32) :=
  ib (s1 ||| s0) (fun y1 =>
    k_6  x1 x2 x3 y1 (x5 + 1))
def f_m_onFrom_6 (N : Nat)  (μ : sw_M)  : Nat → Int32 → Int32 → Int32 → Int32 → Int32 → Option (Int32)
  | 0, _, _, _, _, _ => none
  | n + 1, x1, x2, x3, x4, x5 =>
    if (μ 63 22) ≤ x5 then
      some x4
    else
      Option.bind (f_m_isLive N  μ x5 x2 x3) (fun r1 =>
        if r1 = 0 then
          inb ((3 : Int32) * x5) 36 (
            inb (((3 : Int32) * x5) + 1) 36 (
              ib (((1 : Int32) <<< ((μ 69 ((3 : Int32) * x5).toNatClampNeg) &&& 31)) ||| ((1 : Int32) <<< ((μ 69 (((3 : Int32) * x5) + 1).toNatClampNeg) &&& 31))) (fun y5 =>
                if (x1 &&& y5) = 0 then
                  f_m_onFrom_71 N  μ (f_m_onFrom_6 N  μ  n)  x1 x2 x3 x5 0 x4
                else
                  f_m_onFrom_71 N  μ (f_m_onFrom_6 N  μ  n)  x1 x2 x3 x5 y5 x4)))
        else
          f_m_onFrom_6 N  μ  n x1 x2 x3 x4 (x5 + 1))
def f_m_onFrom (N : Nat)  (μ : sw_M) (a1 : Int32) (a2 : Int32) (a3 : Int32) : Option (Int32) :=
  f_m_onFrom_6 N  μ  N a1 a2 a3 a1 0
set_option maxRecDepth 100000 in
set_option maxHeartbeats 4000000 in
theorem ok_f_m_onFrom_71 {G : sw_G} {ad : Nat → Nat} {ν : sw_N}   {N : Nat} {o : Int32} (g : sw_ok G cX11_onFrom "DeadWiresModel" (some .int) 2 0 0 ad) (hm : G.2.2.1.2.1.maxLocals = 7)  (μ : sw_M) (ho : sw_out G 0 0 (fun a => a = ad) (.inl (some (.int o))) lay0 μ ν) (k_6 : Int32 → Int32 → Int32 → Int32 → Int32 → Option (Int32)) (hk_6 : ∀ (x1 : Int32) (x2 : Int32) (x3 : Int32) (x4 : Int32) (x5 : Int32), k_6 x1 x2 x3 x4 x5 = some o → SW G ad lay0 ν 0 0 6 [some (.ref 63), some (.int x1), some (.int x2), some (.int x3), some (.int x4), some (.int x5), none] [] μ) (x1 : Int32) (x2 : Int32) (x3 : Int32) (x5 : Int32) (s0 : Int32) (s1 : Int32) (h : f_m_onFrom_71 N  μ k_6  x1 x2 x3 x5 s0 s1 = some o) : SW G ad lay0 ν 0 0 71 [some (.ref 63), some (.int x1), some (.int x2), some (.int x3), none, some (.int x5), none] [.int s0, .int s1] μ := by
  unfold f_m_onFrom_71 at h
  refine SW.ior (pc := 71) g (dt dt_X11_onFrom 43 rfl) ?_
  refine SW.istore (pc := 72) g (dt dt_X11_onFrom 44 rfl) (sw_ltm hm (Nat.le_of_ble_eq_true rfl)) rfl ?_
  refine SW.genL h (fun y1 h => ?_)
  refine SW.iinc (pc := 74) (v := x5 + 1) g (dt dt_X11_onFrom 45 rfl) rfl (kn_1 _) (sw_ltm hm (Nat.le_of_ble_eq_true rfl)) rfl ?_
  refine SW.goto (pc := 77) (t := 6) g (dt dt_X11_onFrom 46 rfl) rfl ?_
  refine SW.msk [true, true, true, true, true, true, false] ?_
  exact hk_6  x1 x2 x3 y1 (x5 + 1) h
set_option maxRecDepth 100000 in
set_option maxHeartbeats 4000000 in
theorem ok_f_m_onFrom_6 {G : sw_G} {ad : Nat → Nat} {ν : sw_N}   {N : Nat} {o : Int32} (g : sw_ok G cX11_onFrom "DeadWiresModel" (some .int) 2 0 0 ad) (hm : G.2.2.1.2.1.maxLocals = 7)  (μ : sw_M) (ho : sw_out G 0 0 (fun a => a = ad) (.inl (some (.int o))) lay0 μ ν)  : ∀ (n : Nat) (x1 : Int32) (x2 : Int32) (x3 : Int32) (x4 : Int32) (x5 : Int32) (h : f_m_onFrom_6 N  μ  n x1 x2 x3 x4 x5 = some o), SW G ad lay0 ν 0 0 6 [some (.ref 63), some (.int x1), some (.int x2), some (.int x3), some (.int x4), some (.int x5), none] [] μ := by
  intro n
  induction n with
  | zero => intro x1 x2 x3 x4 x5 h; simp only [f_m_onFrom_6] at h; cases h
  | succ n ih =>
    intro x1 x2 x3 x4 x5 h
    unfold f_m_onFrom_6 at h
    refine SW.iload (pc := 6) g (dt dt_X11_onFrom 4 rfl) rfl ?_
    refine SW.aload_n (pc := 8) g (dt dt_X11_onFrom 5 rfl) rfl ?_
    refine SW.getI (pc := 9) g (dt dt_X11_onFrom 6 rfl) fl_X11_156 cell_63 rfl ?_
    refine SW.icmp_ge (pc := 12) (t := 80) g (dt dt_X11_onFrom 7 rfl) rfl (fun hc => ?_) (fun hc => ?_)
    · have h := iteT hc h
      refine SW.iload (pc := 80) g (dt dt_X11_onFrom 47 rfl) rfl ?_
      exact SW.ireturn (pc := 82) g (leafI h ho) rfl (Nat.le_of_ble_eq_true rfl) (Nat.le_of_ble_eq_true rfl) (dt dt_X11_onFrom 48 rfl)
    · have h := iteF hc h
      refine SW.aload_n (pc := 15) g (dt dt_X11_onFrom 8 rfl) rfl ?_
      refine SW.iload (pc := 16) g (dt dt_X11_onFrom 9 rfl) rfl ?_
      refine SW.iload_n (pc := 18) g (dt dt_X11_onFrom 10 rfl) rfl ?_
      refine SW.iload_n (pc := 19) g (dt dt_X11_onFrom 11 rfl) rfl ?_
      obtain ⟨r1, h2, h⟩ := bindI h
      refine SW.callVi (pc := 20) g (dt dt_X11_onFrom 12 rfl) (mt_f_m_isLive _ _ _ _ ad ν   N μ x5 x2 x3 r1 h2) me_X11_isLive mv_X11_isLive ml_X11_350 cell_63 rfl rfl (Nat.le_of_ble_eq_true rfl) (Nat.le_of_ble_eq_true rfl) (Nat.le_of_ble_eq_true rfl) (Nat.le_of_ble_eq_true rfl) rfl ?_
      refine SW.if_eq (pc := 23) (t := 29) g (dt dt_X11_onFrom 13 rfl) rfl (fun hc => ?_) (fun hc => ?_)
      · have h := iteT hc h
        refine SW.iconst (pc := 29) (v := 1) g (dt dt_X11_onFrom 15 rfl) ki_1 ?_
        refine SW.aload_n (pc := 30) g (dt dt_X11_onFrom 16 rfl) rfl ?_
        refine SW.getR (pc := 31) g (dt dt_X11_onFrom 17 rfl) fl_X11_32 cell_63 rfl ?_
        refine SW.iconst (pc := 34) (v := 3) g (dt dt_X11_onFrom 18 rfl) ki_3 ?_
        refine SW.iload (pc := 35) g (dt dt_X11_onFrom 19 rfl) rfl ?_
        refine SW.imul (pc := 37) g (dt dt_X11_onFrom 20 rfl) ?_
        obtain ⟨hb3, h⟩ := inbI h
        refine SW.iaload (pc := 38) g (dt dt_X11_onFrom 21 rfl) cell_69 hb3 ?_
        refine SW.ishl (pc := 39) g (dt dt_X11_onFrom 22 rfl) ?_
        refine SW.iconst (pc := 40) (v := 1) g (dt dt_X11_onFrom 23 rfl) ki_1 ?_
        refine SW.aload_n (pc := 41) g (dt dt_X11_onFrom 24 rfl) rfl ?_
        refine SW.getR (pc := 42) g (dt dt_X11_onFrom 25 rfl) fl_X11_32 cell_63 rfl ?_
        refine SW.iconst (pc := 45) (v := 3) g (dt dt_X11_onFrom 26 rfl) ki_3 ?_
        refine SW.iload (pc := 46) g (dt dt_X11_onFrom 27 rfl) rfl ?_
        refine SW.imul (pc := 48) g (dt dt_X11_onFrom 28 rfl) ?_
        refine SW.iconst (pc := 49) (v := 1) g (dt dt_X11_onFrom 29 rfl) ki_1 ?_
        refine SW.iadd (pc := 50) g (dt dt_X11_onFrom 30 rfl) ?_
        obtain ⟨hb4, h⟩ := inbI h
        refine SW.iaload (pc := 51) g (dt dt_X11_onFrom 31 rfl) cell_69 hb4 ?_
        refine SW.ishl (pc := 52) g (dt dt_X11_onFrom 32 rfl) ?_
        refine SW.ior (pc := 53) g (dt dt_X11_onFrom 33 rfl) ?_
        refine SW.istore (pc := 54) g (dt dt_X11_onFrom 34 rfl) (sw_ltm hm (Nat.le_of_ble_eq_true rfl)) rfl ?_
        refine SW.genL h (fun y5 h => ?_)
        refine SW.iload (pc := 56) g (dt dt_X11_onFrom 35 rfl) rfl ?_
        refine SW.iload_n (pc := 58) g (dt dt_X11_onFrom 36 rfl) rfl ?_
        refine SW.iload (pc := 59) g (dt dt_X11_onFrom 37 rfl) rfl ?_
        refine SW.iand (pc := 61) g (dt dt_X11_onFrom 38 rfl) ?_
        refine SW.if_ne (pc := 62) (t := 69) g (dt dt_X11_onFrom 39 rfl) rfl (fun hc => ?_) (fun hc => ?_)
        · have h := iteF hc h
          refine SW.iload (pc := 69) g (dt dt_X11_onFrom 42 rfl) rfl ?_
          refine SW.msk [true, true, true, true, false, true, false] ?_
          exact ok_f_m_onFrom_71  g hm  μ ho (f_m_onFrom_6 N  μ  n) ih  x1 x2 x3 x5 y5 x4 h
        · have h := iteT hc h
          refine SW.iconst (pc := 65) (v := 0) g (dt dt_X11_onFrom 40 rfl) ki_0 ?_
          refine SW.goto (pc := 66) (t := 71) g (dt dt_X11_onFrom 41 rfl) rfl ?_
          refine SW.msk [true, true, true, true, false, true, false] ?_
          exact ok_f_m_onFrom_71  g hm  μ ho (f_m_onFrom_6 N  μ  n) ih  x1 x2 x3 x5 0 x4 h
      · have h := iteF hc h
        refine SW.goto (pc := 26) (t := 74) g (dt dt_X11_onFrom 14 rfl) rfl ?_
        refine SW.iinc (pc := 74) (v := x5 + 1) g (dt dt_X11_onFrom 45 rfl) rfl (kn_1 _) (sw_ltm hm (Nat.le_of_ble_eq_true rfl)) rfl ?_
        refine SW.goto (pc := 77) (t := 6) g (dt dt_X11_onFrom 46 rfl) rfl ?_
        refine SW.msk [true, true, true, true, true, true, false] ?_
        exact ih  x1 x2 x3 x4 (x5 + 1) h
set_option maxRecDepth 100000 in
set_option maxHeartbeats 4000000 in
theorem ok_f_m_onFrom {G : sw_G} {ad : Nat → Nat} {ν : sw_N}   {N : Nat} {o : Int32} (g : sw_ok G cX11_onFrom "DeadWiresModel" (some .int) 2 0 0 ad) (hm : G.2.2.1.2.1.maxLocals = 7)  (μ : sw_M) (ho : sw_out G 0 0 (fun a => a = ad) (.inl (some (.int o))) lay0 μ ν) (a1 : Int32) (a2 : Int32) (a3 : Int32) (h : f_m_onFrom N  μ a1 a2 a3 = some o) : SW G ad lay0 ν 0 0 0 [some (.ref 63), some (.int a1), some (.int a2), some (.int a3), none, none, none] [] μ := by
  unfold f_m_onFrom at h
  refine SW.iload_n (pc := 0) g (dt dt_X11_onFrom 0 rfl) rfl ?_
  refine SW.istore (pc := 1) g (dt dt_X11_onFrom 1 rfl) (sw_ltm hm (Nat.le_of_ble_eq_true rfl)) rfl ?_
  refine SW.iconst (pc := 3) (v := 0) g (dt dt_X11_onFrom 2 rfl) ki_0 ?_
  refine SW.istore (pc := 4) g (dt dt_X11_onFrom 3 rfl) (sw_ltm hm (Nat.le_of_ble_eq_true rfl)) rfl ?_
  refine SW.msk [true, true, true, true, true, true, false] ?_
  exact ok_f_m_onFrom_6  g hm  μ ho   N a1 a2 a3 a1 0 h
set_option maxRecDepth 100000 in
set_option maxHeartbeats 4000000 in
theorem mt_f_m_onFrom (l : Launch) (D : va_G) (cI cL : ClassId) (ad : Nat → Nat) (ν : sw_N)    (N : Nat) (μ : sw_M) (a1 : Int32) (a2 : Int32) (a3 : Int32) (o : Int32) (h : f_m_onFrom N  μ a1 a2 a3 = some o) : MetR l D cI cL yX11_onFrom cX11_onFrom 7 (some .int) 2 0 0 (fun a => a = ad) ad [.ref 63, .int a1, .int a2, .int a3] lay0 μ ν (some (.int o)) lay0 μ ν :=
  MetR.of (n := 3) rfl (Nat.le_of_ble_eq_true rfl) (fun G g ho hm _ _ => ok_f_m_onFrom  g hm  μ ho a1 a2 a3 h)
def f_m_field_120 (N : Nat)  (k_88 : sw_M → Int32 → Int32 → Int32 → Option (Int32 × sw_M)) (μ : sw_M) (x1 : Int32) (x4 : Int32) (s0 : Int32) (s1 : Int32) : Option (Int32 × sw_M) :=
  ib (s1 ||| s0) (fun y1 =>
    k_88 μ x1 y1 (x4 + 1))
def f_m_field_88 (N : Nat)   : Nat → sw_M → Int32 → Int32 → Int32 → Option (Int32 × sw_M)
  | 0, _, _, _, _ => none
  | n + 1, μ, x1, x3, x4 =>
    if (μ 63 24) ≤ x4 then
      some (x3, μ)
    else
      inb ((36 : Int32) + x4) 49 (
        if (μ 81 ((36 : Int32) + x4).toNatClampNeg) = x1 then
          f_m_field_120 N  (f_m_field_88 N   n)  μ x1 x4 ((1 : Int32) <<< (x4 &&& 31)) x3
        else
          f_m_field_120 N  (f_m_field_88 N   n)  μ x1 x4 0 x3)
def f_m_field_44 (N : Nat)   (μ : sw_M) (x1 : Int32) (x2 : Int32) : Option (Int32 × sw_M) :=
  if x2 = 0 then
    Option.bind (f_m_lyingIn N  μ x1) (fun r3 =>
      some (r3, μ))
  else
    Option.bind (f_m_wiresAt N  μ x1) (fun r1 =>
      some (r1, μ))
def f_m_field (N : Nat)  (μ : sw_M) (a1 : Int32) (a2 : Int32) : Option (Int32 × sw_M) :=
  wb (wr μ 63 0 0) (fun μ1 =>
    Option.bind (f_m_isField N  μ1 a1 1) (fun r2 =>
      if r2.1 = 0 then
        some (0, r2.2)
      else
        Option.bind (f_sm_within N  r2.2 a2 0 3) (fun r4 =>
          Option.bind (f_m_may N  r2.2 r4 2 1) (fun r6 =>
            if r6.1 = 0 then
              some (0, r6.2)
            else
              Option.bind (f_m_take N  r6.2 ) (fun r8 =>
                if a2 = 0 then
                  f_m_field_44 N    r8 a1 a2
                else
                  if a2 = 2 then
                    f_m_field_44 N    r8 a1 a2
                  else
                    if a2 = 3 then
                      Option.bind (f_m_onFrom N  r8 ((1 : Int32) <<< (a1 &&& 31)) 0 0) (fun r10 =>
                        some (r10 &&& (((1 : Int32) <<< (a1 &&& 31)) ^^^ (-1)), r8))
                    else
                      f_m_field_88 N   N r8 a1 0 0)))))
set_option maxRecDepth 100000 in
set_option maxHeartbeats 4000000 in
theorem ok_f_m_field_120 {G : sw_G} {ad : Nat → Nat} {ν : sw_N}   {N : Nat} {o : Int32 × sw_M} (g : sw_ok G cX11_field "DeadWiresModel" (some .int) 3 0 0 ad) (hm : G.2.2.1.2.1.maxLocals = 5)  (ho : sw_out G 0 0 (fun a => a = ad) (.inl (some (.int o.1))) lay0 o.2 ν) (k_88 : sw_M → Int32 → Int32 → Int32 → Option (Int32 × sw_M)) (hk_88 : ∀ (μ : sw_M) (x1 : Int32) (x3 : Int32) (x4 : Int32), k_88 μ x1 x3 x4 = some o → SW G ad lay0 ν 0 0 88 [some (.ref 63), some (.int x1), none, some (.int x3), some (.int x4)] [] μ) (μ : sw_M) (x1 : Int32) (x4 : Int32) (s0 : Int32) (s1 : Int32) (h : f_m_field_120 N  k_88  μ x1 x4 s0 s1 = some o) : SW G ad lay0 ν 0 0 120 [some (.ref 63), some (.int x1), none, none, some (.int x4)] [.int s0, .int s1] μ := by
  unfold f_m_field_120 at h
  refine SW.ior (pc := 120) g (dt dt_X11_field 75 rfl) ?_
  refine SW.istore_n (pc := 121) g (dt dt_X11_field 76 rfl) (sw_ltm hm (Nat.le_of_ble_eq_true rfl)) rfl ?_
  refine SW.genL h (fun y1 h => ?_)
  refine SW.iinc (pc := 122) (v := x4 + 1) g (dt dt_X11_field 77 rfl) rfl (kn_1 _) (sw_ltm hm (Nat.le_of_ble_eq_true rfl)) rfl ?_
  refine SW.goto (pc := 125) (t := 88) g (dt dt_X11_field 78 rfl) rfl ?_
  refine SW.msk [true, true, false, true, true] ?_
  exact hk_88 μ x1 y1 (x4 + 1) h
set_option maxRecDepth 100000 in
set_option maxHeartbeats 4000000 in
theorem ok_f_m_field_88 {G : sw_G} {ad : Nat → Nat} {ν : sw_N}   {N : Nat} {o : Int32 × sw_M} (g : sw_ok G cX11_field "DeadWiresModel" (some .int) 3 0 0 ad) (hm : G.2.2.1.2.1.maxLocals = 5)  (ho : sw_out G 0 0 (fun a => a = ad) (.inl (some (.int o.1))) lay0 o.2 ν)  : ∀ (n : Nat) (μ : sw_M) (x1 : Int32) (x3 : Int32) (x4 : Int32) (h : f_m_field_88 N   n μ x1 x3 x4 = some o), SW G ad lay0 ν 0 0 88 [some (.ref 63), some (.int x1), none, some (.int x3), some (.int x4)] [] μ := by
  intro n
  induction n with
  | zero => intro μ x1 x3 x4 h; simp only [f_m_field_88] at h; cases h
  | succ n ih =>
    intro μ x1 x3 x4 h
    unfold f_m_field_88 at h
    refine SW.iload (pc := 88) g (dt dt_X11_field 57 rfl) rfl ?_
    refine SW.aload_n (pc := 90) g (dt dt_X11_field 58 rfl) rfl ?_
    refine SW.getI (pc := 91) g (dt dt_X11_field 59 rfl) fl_X11_162 cell_63 rfl ?_
    refine SW.icmp_ge (pc := 94) (t := 128) g (dt dt_X11_field 60 rfl) rfl (fun hc => ?_) (fun hc => ?_)
    · have h := iteT hc h
      refine SW.iload_n (pc := 128) g (dt dt_X11_field 79 rfl) rfl ?_
      exact SW.ireturn (pc := 129) g (leafW h ho) rfl (Nat.le_of_ble_eq_true rfl) (Nat.le_of_ble_eq_true rfl) (dt dt_X11_field 80 rfl)
    · have h := iteF hc h
      refine SW.iload_n (pc := 97) g (dt dt_X11_field 61 rfl) rfl ?_
      refine SW.aload_n (pc := 98) g (dt dt_X11_field 62 rfl) rfl ?_
      refine SW.getR (pc := 99) g (dt dt_X11_field 63 rfl) fl_X11_68 cell_63 rfl ?_
      refine SW.bipush (pc := 102) (v := 36) g (dt dt_X11_field 64 rfl) kb_36 ?_
      refine SW.iload (pc := 104) g (dt dt_X11_field 65 rfl) rfl ?_
      refine SW.iadd (pc := 106) g (dt dt_X11_field 66 rfl) ?_
      obtain ⟨hb1, h⟩ := inbI h
      refine SW.iaload (pc := 107) g (dt dt_X11_field 67 rfl) cell_81 hb1 ?_
      refine SW.iload_n (pc := 108) g (dt dt_X11_field 68 rfl) rfl ?_
      refine SW.icmp_ne (pc := 109) (t := 119) g (dt dt_X11_field 69 rfl) rfl (fun hc => ?_) (fun hc => ?_)
      · have h := iteF hc h
        refine SW.iconst (pc := 119) (v := 0) g (dt dt_X11_field 74 rfl) ki_0 ?_
        refine SW.msk [true, true, false, false, true] ?_
        exact ok_f_m_field_120  g hm  ho (f_m_field_88 N   n) ih  μ x1 x4 0 x3 h
      · have h := iteT hc h
        refine SW.iconst (pc := 112) (v := 1) g (dt dt_X11_field 70 rfl) ki_1 ?_
        refine SW.iload (pc := 113) g (dt dt_X11_field 71 rfl) rfl ?_
        refine SW.ishl (pc := 115) g (dt dt_X11_field 72 rfl) ?_
        refine SW.goto (pc := 116) (t := 120) g (dt dt_X11_field 73 rfl) rfl ?_
        refine SW.msk [true, true, false, false, true] ?_
        exact ok_f_m_field_120  g hm  ho (f_m_field_88 N   n) ih  μ x1 x4 ((1 : Int32) <<< (x4 &&& 31)) x3 h
set_option maxRecDepth 100000 in
set_option maxHeartbeats 4000000 in
theorem ok_f_m_field_44 {G : sw_G} {ad : Nat → Nat} {ν : sw_N}   {N : Nat} {o : Int32 × sw_M} (g : sw_ok G cX11_field "DeadWiresModel" (some .int) 3 0 0 ad) (hm : G.2.2.1.2.1.maxLocals = 5)  (ho : sw_out G 0 0 (fun a => a = ad) (.inl (some (.int o.1))) lay0 o.2 ν)  (μ : sw_M) (x1 : Int32) (x2 : Int32) (h : f_m_field_44 N    μ x1 x2 = some o) : SW G ad lay0 ν 0 0 44 [some (.ref 63), some (.int x1), some (.int x2), none, none] [] μ := by
  unfold f_m_field_44 at h
  refine SW.iload_n (pc := 44) g (dt dt_X11_field 26 rfl) rfl ?_
  refine SW.if_ne (pc := 45) (t := 56) g (dt dt_X11_field 27 rfl) rfl (fun hc => ?_) (fun hc => ?_)
  · have h := iteF hc h
    refine SW.aload_n (pc := 56) g (dt dt_X11_field 32 rfl) rfl ?_
    refine SW.iload_n (pc := 57) g (dt dt_X11_field 33 rfl) rfl ?_
    obtain ⟨r1, h2, h⟩ := bindI h
    refine SW.callVi (pc := 58) g (dt dt_X11_field 34 rfl) (mt_f_m_wiresAt _ _ _ _ ad ν   N μ x1 r1 h2) me_X11_wiresAt mv_X11_wiresAt ml_X11_343 cell_63 rfl rfl (Nat.le_of_ble_eq_true rfl) (Nat.le_of_ble_eq_true rfl) (Nat.le_of_ble_eq_true rfl) (Nat.le_of_ble_eq_true rfl) rfl ?_
    exact SW.ireturn (pc := 61) g (leafW h ho) rfl (Nat.le_of_ble_eq_true rfl) (Nat.le_of_ble_eq_true rfl) (dt dt_X11_field 35 rfl)
  · have h := iteT hc h
    refine SW.aload_n (pc := 48) g (dt dt_X11_field 28 rfl) rfl ?_
    refine SW.iload_n (pc := 49) g (dt dt_X11_field 29 rfl) rfl ?_
    obtain ⟨r3, h4, h⟩ := bindI h
    refine SW.callVi (pc := 50) g (dt dt_X11_field 30 rfl) (mt_f_m_lyingIn _ _ _ _ ad ν   N μ x1 r3 h4) me_X11_lyingIn mv_X11_lyingIn ml_X11_389 cell_63 rfl rfl (Nat.le_of_ble_eq_true rfl) (Nat.le_of_ble_eq_true rfl) (Nat.le_of_ble_eq_true rfl) (Nat.le_of_ble_eq_true rfl) rfl ?_
    refine SW.goto (pc := 53) (t := 61) g (dt dt_X11_field 31 rfl) rfl ?_
    exact SW.ireturn (pc := 61) g (leafW h ho) rfl (Nat.le_of_ble_eq_true rfl) (Nat.le_of_ble_eq_true rfl) (dt dt_X11_field 35 rfl)
set_option maxRecDepth 100000 in
set_option maxHeartbeats 4000000 in
theorem ok_f_m_field {G : sw_G} {ad : Nat → Nat} {ν : sw_N}   {N : Nat} {o : Int32 × sw_M} (g : sw_ok G cX11_field "DeadWiresModel" (some .int) 3 0 0 ad) (hm : G.2.2.1.2.1.maxLocals = 5)  (μ : sw_M) (ho : sw_out G 0 0 (fun a => a = ad) (.inl (some (.int o.1))) lay0 o.2 ν) (a1 : Int32) (a2 : Int32) (h : f_m_field N  μ a1 a2 = some o) : SW G ad lay0 ν 0 0 0 [some (.ref 63), some (.int a1), some (.int a2), none, none] [] μ := by
  unfold f_m_field at h
  refine SW.aload_n (pc := 0) g (dt dt_X11_field 0 rfl) rfl ?_
  refine SW.iconst (pc := 1) (v := 0) g (dt dt_X11_field 1 rfl) ki_0 ?_
  refine SW.putI (pc := 2) g (dt dt_X11_field 2 rfl) fl_X11_3 cell_63 rfl ?_
  refine SW.genM h (fun μ1 h => ?_)
  refine SW.aload_n (pc := 5) g (dt dt_X11_field 3 rfl) rfl ?_
  refine SW.iload_n (pc := 6) g (dt dt_X11_field 4 rfl) rfl ?_
  refine SW.iconst (pc := 7) (v := 1) g (dt dt_X11_field 5 rfl) ki_1 ?_
  obtain ⟨r2, h3, h⟩ := bindI h
  refine SW.callVi (pc := 8) g (dt dt_X11_field 6 rfl) (mt_f_m_isField _ _ _ _ ad ν   N μ1 a1 1 r2 h3) me_X11_isField mv_X11_isField ml_X11_386 cell_63 rfl rfl (Nat.le_of_ble_eq_true rfl) (Nat.le_of_ble_eq_true rfl) (Nat.le_of_ble_eq_true rfl) (Nat.le_of_ble_eq_true rfl) rfl ?_
  refine SW.if_eq (pc := 11) (t := 29) g (dt dt_X11_field 7 rfl) rfl (fun hc => ?_) (fun hc => ?_)
  · have h := iteT hc h
    refine SW.iconst (pc := 29) (v := 0) g (dt dt_X11_field 17 rfl) ki_0 ?_
    exact SW.ireturn (pc := 30) g (leafW h ho) rfl (Nat.le_of_ble_eq_true rfl) (Nat.le_of_ble_eq_true rfl) (dt dt_X11_field 18 rfl)
  · have h := iteF hc h
    refine SW.aload_n (pc := 14) g (dt dt_X11_field 8 rfl) rfl ?_
    refine SW.iload_n (pc := 15) g (dt dt_X11_field 9 rfl) rfl ?_
    refine SW.iconst (pc := 16) (v := 0) g (dt dt_X11_field 10 rfl) ki_0 ?_
    refine SW.iconst (pc := 17) (v := 3) g (dt dt_X11_field 11 rfl) ki_3 ?_
    obtain ⟨r4, h5, h⟩ := bindI h
    refine SW.callSi (pc := 18) g (dt dt_X11_field 12 rfl) (mt_f_sm_within _ _ _ _ ad ν lay0   N r2.2 a2 0 3 r4 h5) me_X11_within ms_X11_within ml_X11_374 rfl (Nat.le_of_ble_eq_true rfl) (Nat.le_of_ble_eq_true rfl) (Nat.le_of_ble_eq_true rfl) (Nat.le_of_ble_eq_true rfl) rfl ?_
    refine SW.iconst (pc := 21) (v := 2) g (dt dt_X11_field 13 rfl) ki_2 ?_
    refine SW.iconst (pc := 22) (v := 1) g (dt dt_X11_field 14 rfl) ki_1 ?_
    obtain ⟨r6, h7, h⟩ := bindI h
    refine SW.callVi (pc := 23) g (dt dt_X11_field 15 rfl) (mt_f_m_may _ _ _ _ ad ν   N r2.2 r4 2 1 r6 h7) me_X11_may mv_X11_may ml_X11_204 cell_63 rfl rfl (Nat.le_of_ble_eq_true rfl) (Nat.le_of_ble_eq_true rfl) (Nat.le_of_ble_eq_true rfl) (Nat.le_of_ble_eq_true rfl) rfl ?_
    refine SW.if_ne (pc := 26) (t := 31) g (dt dt_X11_field 16 rfl) rfl (fun hc => ?_) (fun hc => ?_)
    · have h := iteF hc h
      refine SW.aload_n (pc := 31) g (dt dt_X11_field 19 rfl) rfl ?_
      obtain ⟨r8, h9, h⟩ := bindI h
      refine SW.callVv (pc := 32) g (dt dt_X11_field 20 rfl) (mt_f_m_take _ _ _ _ ad ν   N r6.2  r8 h9) me_X11_take mv_X11_take ml_X11_305 cell_63 rfl rfl (Nat.le_of_ble_eq_true rfl) (Nat.le_of_ble_eq_true rfl) (Nat.le_of_ble_eq_true rfl) (Nat.le_of_ble_eq_true rfl) rfl ?_
      refine SW.iload_n (pc := 35) g (dt dt_X11_field 21 rfl) rfl ?_
      refine SW.if_eq (pc := 36) (t := 44) g (dt dt_X11_field 22 rfl) rfl (fun hc => ?_) (fun hc => ?_)
      · have h := iteT hc h
        refine SW.msk [true, true, true, false, false] ?_
        exact ok_f_m_field_44  g hm  ho    r8 a1 a2 h
      · have h := iteF hc h
        refine SW.iload_n (pc := 39) g (dt dt_X11_field 23 rfl) rfl ?_
        refine SW.iconst (pc := 40) (v := 2) g (dt dt_X11_field 24 rfl) ki_2 ?_
        refine SW.icmp_ne (pc := 41) (t := 62) g (dt dt_X11_field 25 rfl) rfl (fun hc => ?_) (fun hc => ?_)
        · have h := iteF hc h
          refine SW.iload_n (pc := 62) g (dt dt_X11_field 36 rfl) rfl ?_
          refine SW.iconst (pc := 63) (v := 3) g (dt dt_X11_field 37 rfl) ki_3 ?_
          refine SW.icmp_ne (pc := 64) (t := 83) g (dt dt_X11_field 38 rfl) rfl (fun hc => ?_) (fun hc => ?_)
          · have h := iteF hc h
            refine SW.iconst (pc := 83) (v := 0) g (dt dt_X11_field 53 rfl) ki_0 ?_
            refine SW.istore_n (pc := 84) g (dt dt_X11_field 54 rfl) (sw_ltm hm (Nat.le_of_ble_eq_true rfl)) rfl ?_
            refine SW.iconst (pc := 85) (v := 0) g (dt dt_X11_field 55 rfl) ki_0 ?_
            refine SW.istore (pc := 86) g (dt dt_X11_field 56 rfl) (sw_ltm hm (Nat.le_of_ble_eq_true rfl)) rfl ?_
            refine SW.msk [true, true, false, true, true] ?_
            exact ok_f_m_field_88  g hm  ho   N r8 a1 0 0 h
          · have h := iteT hc h
            refine SW.aload_n (pc := 67) g (dt dt_X11_field 39 rfl) rfl ?_
            refine SW.iconst (pc := 68) (v := 1) g (dt dt_X11_field 40 rfl) ki_1 ?_
            refine SW.iload_n (pc := 69) g (dt dt_X11_field 41 rfl) rfl ?_
            refine SW.ishl (pc := 70) g (dt dt_X11_field 42 rfl) ?_
            refine SW.iconst (pc := 71) (v := 0) g (dt dt_X11_field 43 rfl) ki_0 ?_
            refine SW.iconst (pc := 72) (v := 0) g (dt dt_X11_field 44 rfl) ki_0 ?_
            obtain ⟨r10, h11, h⟩ := bindI h
            refine SW.callVi (pc := 73) g (dt dt_X11_field 45 rfl) (mt_f_m_onFrom _ _ _ _ ad ν   N r8 ((1 : Int32) <<< (a1 &&& 31)) 0 0 r10 h11) me_X11_onFrom mv_X11_onFrom ml_X11_392 cell_63 rfl rfl (Nat.le_of_ble_eq_true rfl) (Nat.le_of_ble_eq_true rfl) (Nat.le_of_ble_eq_true rfl) (Nat.le_of_ble_eq_true rfl) rfl ?_
            refine SW.iconst (pc := 76) (v := 1) g (dt dt_X11_field 46 rfl) ki_1 ?_
            refine SW.iload_n (pc := 77) g (dt dt_X11_field 47 rfl) rfl ?_
            refine SW.ishl (pc := 78) g (dt dt_X11_field 48 rfl) ?_
            refine SW.iconst (pc := 79) (v := (-1)) g (dt dt_X11_field 49 rfl) ki_m1 ?_
            refine SW.ixor (pc := 80) g (dt dt_X11_field 50 rfl) ?_
            refine SW.iand (pc := 81) g (dt dt_X11_field 51 rfl) ?_
            exact SW.ireturn (pc := 82) g (leafW h ho) rfl (Nat.le_of_ble_eq_true rfl) (Nat.le_of_ble_eq_true rfl) (dt dt_X11_field 52 rfl)
        · have h := iteT hc h
          refine SW.msk [true, true, true, false, false] ?_
          exact ok_f_m_field_44  g hm  ho    r8 a1 a2 h
    · have h := iteT hc h
      refine SW.iconst (pc := 29) (v := 0) g (dt dt_X11_field 17 rfl) ki_0 ?_
      exact SW.ireturn (pc := 30) g (leafW h ho) rfl (Nat.le_of_ble_eq_true rfl) (Nat.le_of_ble_eq_true rfl) (dt dt_X11_field 18 rfl)
set_option maxRecDepth 100000 in
set_option maxHeartbeats 4000000 in
theorem mt_f_m_field (l : Launch) (D : va_G) (cI cL : ClassId) (ad : Nat → Nat) (ν : sw_N)    (N : Nat) (μ : sw_M) (a1 : Int32) (a2 : Int32) (o : Int32 × sw_M) (h : f_m_field N  μ a1 a2 = some o) : MetR l D cI cL yX11_field cX11_field 5 (some .int) 3 0 0 (fun a => a = ad) ad [.ref 63, .int a1, .int a2] lay0 μ ν (some (.int o.1)) lay0 o.2 ν :=
  MetR.of (n := 2) rfl (Nat.le_of_ble_eq_true rfl) (fun G g ho hm _ _ => ok_f_m_field  g hm  μ ho a1 a2 h)
