/-! ===== by program (wip/whole/all.py): functions over the memory, and that the machine does just that ===== -/
def f_m_moved_46 (N : Nat)  (k_9 : sw_M → Int32 → Int32 → Option (Int32 × sw_M)) (μ : sw_M) (x2 : Int32) (s0 : Int32) (s1 : Int32) : Option (Int32 × sw_M) :=
  ib (s1 ||| s0) (fun y1 =>
    k_9 μ y1 (x2 + 1))
def f_m_moved_9 (N : Nat)   : Nat → sw_M → Int32 → Int32 → Option (Int32 × sw_M)
  | 0, _, _, _ => none
  | n + 1, μ, x1, x2 =>
    if (μ 63 22) ≤ x2 then
      some (x1, μ)
    else
      inb ((0 : Int32) + x2) 49 (
        inb (((3 : Int32) * x2) + 2) 36 (
          if (μ 80 ((0 : Int32) + x2).toNatClampNeg) = (μ 69 (((3 : Int32) * x2) + 2).toNatClampNeg) then
            f_m_moved_46 N  (f_m_moved_9 N   n)  μ x2 0 x1
          else
            f_m_moved_46 N  (f_m_moved_9 N   n)  μ x2 ((1 : Int32) <<< (x2 &&& 31)) x1))
def f_m_moved (N : Nat)  (μ : sw_M)  : Option (Int32 × sw_M) :=
  wb (wr μ 63 0 0) (fun μ1 =>
    f_m_moved_9 N   N μ1 0 0)
set_option maxRecDepth 100000 in
set_option maxHeartbeats 4000000 in
theorem ok_f_m_moved_46 {G : sw_G} {ad : Nat → Nat} {ν : sw_N}   {N : Nat} {o : Int32 × sw_M} (g : sw_ok G cX11_moved "DeadWiresModel" (some .int) 1 0 0 ad) (hm : G.2.2.1.2.1.maxLocals = 3)  (ho : sw_out G 0 0 (fun a => a = ad) (.inl (some (.int o.1))) lay0 o.2 ν) (k_9 : sw_M → Int32 → Int32 → Option (Int32 × sw_M)) (hk_9 : ∀ (μ : sw_M) (x1 : Int32) (x2 : Int32), k_9 μ x1 x2 = some o → SW G ad lay0 ν 0 0 9 [some (.ref 63), some (.int x1), some (.int x2)] [] μ) (μ : sw_M) (x2 : Int32) (s0 : Int32) (s1 : Int32) (h : f_m_moved_46 N  k_9  μ x2 s0 s1 = some o) : SW G ad lay0 ν 0 0 46 [some (.ref 63), none, some (.int x2)] [.int s0, .int s1] μ := by
  unfold f_m_moved_46 at h
  refine SW.ior (pc := 46) g (dt dt_X11_moved 32 rfl) ?_
  refine SW.istore_n (pc := 47) g (dt dt_X11_moved 33 rfl) (sw_ltm hm (Nat.le_of_ble_eq_true rfl)) rfl ?_
  refine SW.genL h (fun y1 h => ?_)
  refine SW.iinc (pc := 48) (v := x2 + 1) g (dt dt_X11_moved 34 rfl) rfl (kn_1 _) (sw_ltm hm (Nat.le_of_ble_eq_true rfl)) rfl ?_
  refine SW.goto (pc := 51) (t := 9) g (dt dt_X11_moved 35 rfl) rfl ?_
  refine SW.msk [true, true, true] ?_
  exact hk_9 μ y1 (x2 + 1) h
set_option maxRecDepth 100000 in
set_option maxHeartbeats 4000000 in
theorem ok_f_m_moved_9 {G : sw_G} {ad : Nat → Nat} {ν : sw_N}   {N : Nat} {o : Int32 × sw_M} (g : sw_ok G cX11_moved "DeadWiresModel" (some .int) 1 0 0 ad) (hm : G.2.2.1.2.1.maxLocals = 3)  (ho : sw_out G 0 0 (fun a => a = ad) (.inl (some (.int o.1))) lay0 o.2 ν)  : ∀ (n : Nat) (μ : sw_M) (x1 : Int32) (x2 : Int32) (h : f_m_moved_9 N   n μ x1 x2 = some o), SW G ad lay0 ν 0 0 9 [some (.ref 63), some (.int x1), some (.int x2)] [] μ := by
  intro n
  induction n with
  | zero => intro μ x1 x2 h; simp only [f_m_moved_9] at h; cases h
  | succ n ih =>
    intro μ x1 x2 h
    unfold f_m_moved_9 at h
    refine SW.iload_n (pc := 9) g (dt dt_X11_moved 7 rfl) rfl ?_
    refine SW.aload_n (pc := 10) g (dt dt_X11_moved 8 rfl) rfl ?_
    refine SW.getI (pc := 11) g (dt dt_X11_moved 9 rfl) fl_X11_156 cell_63 rfl ?_
    refine SW.icmp_ge (pc := 14) (t := 54) g (dt dt_X11_moved 10 rfl) rfl (fun hc => ?_) (fun hc => ?_)
    · have h := iteT hc h
      refine SW.iload_n (pc := 54) g (dt dt_X11_moved 36 rfl) rfl ?_
      exact SW.ireturn (pc := 55) g (leafW h ho) rfl (Nat.le_of_ble_eq_true rfl) (Nat.le_of_ble_eq_true rfl) (dt dt_X11_moved 37 rfl)
    · have h := iteF hc h
      refine SW.iload_n (pc := 17) g (dt dt_X11_moved 11 rfl) rfl ?_
      refine SW.aload_n (pc := 18) g (dt dt_X11_moved 12 rfl) rfl ?_
      refine SW.getR (pc := 19) g (dt dt_X11_moved 13 rfl) fl_X11_65 cell_63 rfl ?_
      refine SW.iconst (pc := 22) (v := 0) g (dt dt_X11_moved 14 rfl) ki_0 ?_
      refine SW.iload_n (pc := 23) g (dt dt_X11_moved 15 rfl) rfl ?_
      refine SW.iadd (pc := 24) g (dt dt_X11_moved 16 rfl) ?_
      obtain ⟨hb1, h⟩ := inbI h
      refine SW.iaload (pc := 25) g (dt dt_X11_moved 17 rfl) cell_80 hb1 ?_
      refine SW.aload_n (pc := 26) g (dt dt_X11_moved 18 rfl) rfl ?_
      refine SW.getR (pc := 27) g (dt dt_X11_moved 19 rfl) fl_X11_32 cell_63 rfl ?_
      refine SW.iconst (pc := 30) (v := 3) g (dt dt_X11_moved 20 rfl) ki_3 ?_
      refine SW.iload_n (pc := 31) g (dt dt_X11_moved 21 rfl) rfl ?_
      refine SW.imul (pc := 32) g (dt dt_X11_moved 22 rfl) ?_
      refine SW.iconst (pc := 33) (v := 2) g (dt dt_X11_moved 23 rfl) ki_2 ?_
      refine SW.iadd (pc := 34) g (dt dt_X11_moved 24 rfl) ?_
      obtain ⟨hb2, h⟩ := inbI h
      refine SW.iaload (pc := 35) g (dt dt_X11_moved 25 rfl) cell_69 hb2 ?_
      refine SW.icmp_ne (pc := 36) (t := 43) g (dt dt_X11_moved 26 rfl) rfl (fun hc => ?_) (fun hc => ?_)
      · have h := iteF hc h
        refine SW.iconst (pc := 43) (v := 1) g (dt dt_X11_moved 29 rfl) ki_1 ?_
        refine SW.iload_n (pc := 44) g (dt dt_X11_moved 30 rfl) rfl ?_
        refine SW.ishl (pc := 45) g (dt dt_X11_moved 31 rfl) ?_
        refine SW.msk [true, false, true] ?_
        exact ok_f_m_moved_46  g hm  ho (f_m_moved_9 N   n) ih  μ x2 ((1 : Int32) <<< (x2 &&& 31)) x1 h
      · have h := iteT hc h
        refine SW.iconst (pc := 39) (v := 0) g (dt dt_X11_moved 27 rfl) ki_0 ?_
        refine SW.goto (pc := 40) (t := 46) g (dt dt_X11_moved 28 rfl) rfl ?_
        refine SW.msk [true, false, true] ?_
        exact ok_f_m_moved_46  g hm  ho (f_m_moved_9 N   n) ih  μ x2 0 x1 h
set_option maxRecDepth 100000 in
set_option maxHeartbeats 4000000 in
theorem ok_f_m_moved {G : sw_G} {ad : Nat → Nat} {ν : sw_N}   {N : Nat} {o : Int32 × sw_M} (g : sw_ok G cX11_moved "DeadWiresModel" (some .int) 1 0 0 ad) (hm : G.2.2.1.2.1.maxLocals = 3)  (μ : sw_M) (ho : sw_out G 0 0 (fun a => a = ad) (.inl (some (.int o.1))) lay0 o.2 ν)  (h : f_m_moved N  μ  = some o) : SW G ad lay0 ν 0 0 0 [some (.ref 63), none, none] [] μ := by
  unfold f_m_moved at h
  refine SW.aload_n (pc := 0) g (dt dt_X11_moved 0 rfl) rfl ?_
  refine SW.iconst (pc := 1) (v := 0) g (dt dt_X11_moved 1 rfl) ki_0 ?_
  refine SW.putI (pc := 2) g (dt dt_X11_moved 2 rfl) fl_X11_3 cell_63 rfl ?_
  refine SW.genM h (fun μ1 h => ?_)
  refine SW.iconst (pc := 5) (v := 0) g (dt dt_X11_moved 3 rfl) ki_0 ?_
  refine SW.istore_n (pc := 6) g (dt dt_X11_moved 4 rfl) (sw_ltm hm (Nat.le_of_ble_eq_true rfl)) rfl ?_
  refine SW.iconst (pc := 7) (v := 0) g (dt dt_X11_moved 5 rfl) ki_0 ?_
  refine SW.istore_n (pc := 8) g (dt dt_X11_moved 6 rfl) (sw_ltm hm (Nat.le_of_ble_eq_true rfl)) rfl ?_
  refine SW.msk [true, true, true] ?_
  exact ok_f_m_moved_9  g hm  ho   N μ1 0 0 h
set_option maxRecDepth 100000 in
set_option maxHeartbeats 4000000 in
theorem mt_f_m_moved (l : Launch) (D : va_G) (cI cL : ClassId) (ad : Nat → Nat) (ν : sw_N)    (N : Nat) (μ : sw_M)  (o : Int32 × sw_M) (h : f_m_moved N  μ  = some o) : MetR l D cI cL yX11_moved cX11_moved 3 (some .int) 1 0 0 (fun a => a = ad) ad [.ref 63] lay0 μ ν (some (.int o.1)) lay0 o.2 ν :=
  MetR.of (n := 2) rfl (Nat.le_of_ble_eq_true rfl) (fun G g ho hm _ _ => ok_f_m_moved  g hm  μ ho  h)
def f_m_gates_110 (N : Nat)  (k_40 : sw_M → Int32 → Int32 → Int32 → Int32 → Option (Int32 × sw_M)) (μ : sw_M) (x1 : Int32) (x2 : Int32) (x4 : Int32) (s0 : Int32) (s1 : Int32) : Option (Int32 × sw_M) :=
  ib (s1 ||| s0) (fun y1 =>
    k_40 μ x1 x2 y1 (x4 + 1))
def f_m_gates_109 (N : Nat)  (k_40 : sw_M → Int32 → Int32 → Int32 → Int32 → Option (Int32 × sw_M)) (μ : sw_M) (x1 : Int32) (x2 : Int32) (x4 : Int32) (s0 : Int32) : Option (Int32 × sw_M) :=
  f_m_gates_110 N  k_40  μ x1 x2 x4 0 s0
def f_m_gates_83 (N : Nat)  (k_40 : sw_M → Int32 → Int32 → Int32 → Int32 → Option (Int32 × sw_M)) (μ : sw_M) (x1 : Int32) (x2 : Int32) (x3 : Int32) (x4 : Int32) (s0 : Int32) : Option (Int32 × sw_M) :=
  Option.bind (f_m_isAt N  μ x4 x1) (fun r1 =>
    if r1 = 0 then
      f_m_gates_109 N  k_40  μ x1 x2 x4 x3
    else
      if s0 = x2 then
        f_m_gates_110 N  k_40  μ x1 x2 x4 ((1 : Int32) <<< (x4 &&& 31)) x3
      else
        f_m_gates_109 N  k_40  μ x1 x2 x4 x3)
def f_m_gates_40 (N : Nat)   : Nat → sw_M → Int32 → Int32 → Int32 → Int32 → Option (Int32 × sw_M)
  | 0, _, _, _, _, _ => none
  | n + 1, μ, x1, x2, x3, x4 =>
    if (μ 63 22) ≤ x4 then
      some (x3, μ)
    else
      Option.bind (f_m_isLive N  μ x4 0 0) (fun r1 =>
        if r1 = 0 then
          inb ((12 : Int32) + x4) 49 (
            if (μ 81 ((12 : Int32) + x4).toNatClampNeg) = 1 then
              f_m_gates_83 N  (f_m_gates_40 N   n)  μ x1 x2 x3 x4 1
            else
              f_m_gates_83 N  (f_m_gates_40 N   n)  μ x1 x2 x3 x4 2)
        else
          f_m_gates_83 N  (f_m_gates_40 N   n)  μ x1 x2 x3 x4 0)
def f_m_gates (N : Nat)  (μ : sw_M) (a1 : Int32) (a2 : Int32) : Option (Int32 × sw_M) :=
  wb (wr μ 63 0 0) (fun μ1 =>
    Option.bind (f_m_isField N  μ1 a1 1) (fun r2 =>
      if r2.1 = 0 then
        some (0, r2.2)
      else
        Option.bind (f_sm_within N  r2.2 a2 0 2) (fun r4 =>
          Option.bind (f_m_may N  r2.2 r4 2 1) (fun r6 =>
            if r6.1 = 0 then
              some (0, r6.2)
            else
              Option.bind (f_m_take N  r6.2 ) (fun r8 =>
                f_m_gates_40 N   N r8 a1 a2 0 0)))))
set_option maxRecDepth 100000 in
set_option maxHeartbeats 4000000 in
theorem ok_f_m_gates_110 {G : sw_G} {ad : Nat → Nat} {ν : sw_N}   {N : Nat} {o : Int32 × sw_M} (g : sw_ok G cX11_gates "DeadWiresModel" (some .int) 3 0 0 ad) (hm : G.2.2.1.2.1.maxLocals = 6)  (ho : sw_out G 0 0 (fun a => a = ad) (.inl (some (.int o.1))) lay0 o.2 ν) (k_40 : sw_M → Int32 → Int32 → Int32 → Int32 → Option (Int32 × sw_M)) (hk_40 : ∀ (μ : sw_M) (x1 : Int32) (x2 : Int32) (x3 : Int32) (x4 : Int32), k_40 μ x1 x2 x3 x4 = some o → SW G ad lay0 ν 0 0 40 [some (.ref 63), some (.int x1), some (.int x2), some (.int x3), some (.int x4), none] [] μ) (μ : sw_M) (x1 : Int32) (x2 : Int32) (x4 : Int32) (s0 : Int32) (s1 : Int32) (h : f_m_gates_110 N  k_40  μ x1 x2 x4 s0 s1 = some o) : SW G ad lay0 ν 0 0 110 [some (.ref 63), some (.int x1), some (.int x2), none, some (.int x4), none] [.int s0, .int s1] μ := by
  unfold f_m_gates_110 at h
  refine SW.ior (pc := 110) g (dt dt_X11_gates 63 rfl) ?_
  refine SW.istore_n (pc := 111) g (dt dt_X11_gates 64 rfl) (sw_ltm hm (Nat.le_of_ble_eq_true rfl)) rfl ?_
  refine SW.genL h (fun y1 h => ?_)
  refine SW.iinc (pc := 112) (v := x4 + 1) g (dt dt_X11_gates 65 rfl) rfl (kn_1 _) (sw_ltm hm (Nat.le_of_ble_eq_true rfl)) rfl ?_
  refine SW.goto (pc := 115) (t := 40) g (dt dt_X11_gates 66 rfl) rfl ?_
  refine SW.msk [true, true, true, true, true, false] ?_
  exact hk_40 μ x1 x2 y1 (x4 + 1) h
set_option maxRecDepth 100000 in
set_option maxHeartbeats 4000000 in
theorem ok_f_m_gates_109 {G : sw_G} {ad : Nat → Nat} {ν : sw_N}   {N : Nat} {o : Int32 × sw_M} (g : sw_ok G cX11_gates "DeadWiresModel" (some .int) 3 0 0 ad) (hm : G.2.2.1.2.1.maxLocals = 6)  (ho : sw_out G 0 0 (fun a => a = ad) (.inl (some (.int o.1))) lay0 o.2 ν) (k_40 : sw_M → Int32 → Int32 → Int32 → Int32 → Option (Int32 × sw_M)) (hk_40 : ∀ (μ : sw_M) (x1 : Int32) (x2 : Int32) (x3 : Int32) (x4 : Int32), k_40 μ x1 x2 x3 x4 = some o → SW G ad lay0 ν 0 0 40 [some (.ref 63), some (.int x1), some (.int x2), some (.int x3), some (.int x4), none] [] μ) (μ : sw_M) (x1 : Int32) (x2 : Int32) (x4 : Int32) (s0 : Int32) (h : f_m_gates_109 N  k_40  μ x1 x2 x4 s0 = some o) : SW G ad lay0 ν 0 0 109 [some (.ref 63), some (.int x1), some (.int x2), none, some (.int x4), none] [.int s0] μ := by
  unfold f_m_gates_109 at h
  refine SW.iconst (pc := 109) (v := 0) g (dt dt_X11_gates 62 rfl) ki_0 ?_
  refine SW.msk [true, true, true, false, true, false] ?_
  exact ok_f_m_gates_110  g hm  ho k_40 hk_40  μ x1 x2 x4 0 s0 h
set_option maxRecDepth 100000 in
set_option maxHeartbeats 4000000 in
theorem ok_f_m_gates_83 {G : sw_G} {ad : Nat → Nat} {ν : sw_N}   {N : Nat} {o : Int32 × sw_M} (g : sw_ok G cX11_gates "DeadWiresModel" (some .int) 3 0 0 ad) (hm : G.2.2.1.2.1.maxLocals = 6)  (ho : sw_out G 0 0 (fun a => a = ad) (.inl (some (.int o.1))) lay0 o.2 ν) (k_40 : sw_M → Int32 → Int32 → Int32 → Int32 → Option (Int32 × sw_M)) (hk_40 : ∀ (μ : sw_M) (x1 : Int32) (x2 : Int32) (x3 : Int32) (x4 : Int32), k_40 μ x1 x2 x3 x4 = some o → SW G ad lay0 ν 0 0 40 [some (.ref 63), some (.int x1), some (.int x2), some (.int x3), some (.int x4), none] [] μ) (μ : sw_M) (x1 : Int32) (x2 : Int32) (x3 : Int32) (x4 : Int32) (s0 : Int32) (h : f_m_gates_83 N  k_40  μ x1 x2 x3 x4 s0 = some o) : SW G ad lay0 ν 0 0 83 [some (.ref 63), some (.int x1), some (.int x2), some (.int x3), some (.int x4), none] [.int s0] μ := by
  unfold f_m_gates_83 at h
  refine SW.istore (pc := 83) g (dt dt_X11_gates 48 rfl) (sw_ltm hm (Nat.le_of_ble_eq_true rfl)) rfl ?_
  refine SW.iload_n (pc := 85) g (dt dt_X11_gates 49 rfl) rfl ?_
  refine SW.aload_n (pc := 86) g (dt dt_X11_gates 50 rfl) rfl ?_
  refine SW.iload (pc := 87) g (dt dt_X11_gates 51 rfl) rfl ?_
  refine SW.iload_n (pc := 89) g (dt dt_X11_gates 52 rfl) rfl ?_
  obtain ⟨r1, h2, h⟩ := bindI h
  refine SW.callVi (pc := 90) g (dt dt_X11_gates 53 rfl) (mt_f_m_isAt _ _ _ _ ad ν   N μ x4 x1 r1 h2) me_X11_isAt mv_X11_isAt ml_X11_324 cell_63 rfl rfl (Nat.le_of_ble_eq_true rfl) (Nat.le_of_ble_eq_true rfl) (Nat.le_of_ble_eq_true rfl) (Nat.le_of_ble_eq_true rfl) rfl ?_
  refine SW.if_eq (pc := 93) (t := 109) g (dt dt_X11_gates 54 rfl) rfl (fun hc => ?_) (fun hc => ?_)
  · have h := iteT hc h
    refine SW.msk [true, true, true, false, true, false] ?_
    exact ok_f_m_gates_109  g hm  ho k_40 hk_40  μ x1 x2 x4 x3 h
  · have h := iteF hc h
    refine SW.iload (pc := 96) g (dt dt_X11_gates 55 rfl) rfl ?_
    refine SW.iload_n (pc := 98) g (dt dt_X11_gates 56 rfl) rfl ?_
    refine SW.icmp_ne (pc := 99) (t := 109) g (dt dt_X11_gates 57 rfl) rfl (fun hc => ?_) (fun hc => ?_)
    · have h := iteF hc h
      refine SW.msk [true, true, true, false, true, false] ?_
      exact ok_f_m_gates_109  g hm  ho k_40 hk_40  μ x1 x2 x4 x3 h
    · have h := iteT hc h
      refine SW.iconst (pc := 102) (v := 1) g (dt dt_X11_gates 58 rfl) ki_1 ?_
      refine SW.iload (pc := 103) g (dt dt_X11_gates 59 rfl) rfl ?_
      refine SW.ishl (pc := 105) g (dt dt_X11_gates 60 rfl) ?_
      refine SW.goto (pc := 106) (t := 110) g (dt dt_X11_gates 61 rfl) rfl ?_
      refine SW.msk [true, true, true, false, true, false] ?_
      exact ok_f_m_gates_110  g hm  ho k_40 hk_40  μ x1 x2 x4 ((1 : Int32) <<< (x4 &&& 31)) x3 h
set_option maxRecDepth 100000 in
set_option maxHeartbeats 4000000 in
theorem ok_f_m_gates_40 {G : sw_G} {ad : Nat → Nat} {ν : sw_N}   {N : Nat} {o : Int32 × sw_M} (g : sw_ok G cX11_gates "DeadWiresModel" (some .int) 3 0 0 ad) (hm : G.2.2.1.2.1.maxLocals = 6)  (ho : sw_out G 0 0 (fun a => a = ad) (.inl (some (.int o.1))) lay0 o.2 ν)  : ∀ (n : Nat) (μ : sw_M) (x1 : Int32) (x2 : Int32) (x3 : Int32) (x4 : Int32) (h : f_m_gates_40 N   n μ x1 x2 x3 x4 = some o), SW G ad lay0 ν 0 0 40 [some (.ref 63), some (.int x1), some (.int x2), some (.int x3), some (.int x4), none] [] μ := by
  intro n
  induction n with
  | zero => intro μ x1 x2 x3 x4 h; simp only [f_m_gates_40] at h; cases h
  | succ n ih =>
    intro μ x1 x2 x3 x4 h
    unfold f_m_gates_40 at h
    refine SW.iload (pc := 40) g (dt dt_X11_gates 25 rfl) rfl ?_
    refine SW.aload_n (pc := 42) g (dt dt_X11_gates 26 rfl) rfl ?_
    refine SW.getI (pc := 43) g (dt dt_X11_gates 27 rfl) fl_X11_156 cell_63 rfl ?_
    refine SW.icmp_ge (pc := 46) (t := 118) g (dt dt_X11_gates 28 rfl) rfl (fun hc => ?_) (fun hc => ?_)
    · have h := iteT hc h
      refine SW.iload_n (pc := 118) g (dt dt_X11_gates 67 rfl) rfl ?_
      exact SW.ireturn (pc := 119) g (leafW h ho) rfl (Nat.le_of_ble_eq_true rfl) (Nat.le_of_ble_eq_true rfl) (dt dt_X11_gates 68 rfl)
    · have h := iteF hc h
      refine SW.aload_n (pc := 49) g (dt dt_X11_gates 29 rfl) rfl ?_
      refine SW.iload (pc := 50) g (dt dt_X11_gates 30 rfl) rfl ?_
      refine SW.iconst (pc := 52) (v := 0) g (dt dt_X11_gates 31 rfl) ki_0 ?_
      refine SW.iconst (pc := 53) (v := 0) g (dt dt_X11_gates 32 rfl) ki_0 ?_
      obtain ⟨r1, h2, h⟩ := bindI h
      refine SW.callVi (pc := 54) g (dt dt_X11_gates 33 rfl) (mt_f_m_isLive _ _ _ _ ad ν   N μ x4 0 0 r1 h2) me_X11_isLive mv_X11_isLive ml_X11_350 cell_63 rfl rfl (Nat.le_of_ble_eq_true rfl) (Nat.le_of_ble_eq_true rfl) (Nat.le_of_ble_eq_true rfl) (Nat.le_of_ble_eq_true rfl) rfl ?_
      refine SW.if_eq (pc := 57) (t := 64) g (dt dt_X11_gates 34 rfl) rfl (fun hc => ?_) (fun hc => ?_)
      · have h := iteT hc h
        refine SW.aload_n (pc := 64) g (dt dt_X11_gates 37 rfl) rfl ?_
        refine SW.getR (pc := 65) g (dt dt_X11_gates 38 rfl) fl_X11_68 cell_63 rfl ?_
        refine SW.bipush (pc := 68) (v := 12) g (dt dt_X11_gates 39 rfl) kb_12 ?_
        refine SW.iload (pc := 70) g (dt dt_X11_gates 40 rfl) rfl ?_
        refine SW.iadd (pc := 72) g (dt dt_X11_gates 41 rfl) ?_
        obtain ⟨hb3, h⟩ := inbI h
        refine SW.iaload (pc := 73) g (dt dt_X11_gates 42 rfl) cell_81 hb3 ?_
        refine SW.iconst (pc := 74) (v := 1) g (dt dt_X11_gates 43 rfl) ki_1 ?_
        refine SW.icmp_ne (pc := 75) (t := 82) g (dt dt_X11_gates 44 rfl) rfl (fun hc => ?_) (fun hc => ?_)
        · have h := iteF hc h
          refine SW.iconst (pc := 82) (v := 2) g (dt dt_X11_gates 47 rfl) ki_2 ?_
          refine SW.msk [true, true, true, true, true, false] ?_
          exact ok_f_m_gates_83  g hm  ho (f_m_gates_40 N   n) ih  μ x1 x2 x3 x4 2 h
        · have h := iteT hc h
          refine SW.iconst (pc := 78) (v := 1) g (dt dt_X11_gates 45 rfl) ki_1 ?_
          refine SW.goto (pc := 79) (t := 83) g (dt dt_X11_gates 46 rfl) rfl ?_
          refine SW.msk [true, true, true, true, true, false] ?_
          exact ok_f_m_gates_83  g hm  ho (f_m_gates_40 N   n) ih  μ x1 x2 x3 x4 1 h
      · have h := iteF hc h
        refine SW.iconst (pc := 60) (v := 0) g (dt dt_X11_gates 35 rfl) ki_0 ?_
        refine SW.goto (pc := 61) (t := 83) g (dt dt_X11_gates 36 rfl) rfl ?_
        refine SW.msk [true, true, true, true, true, false] ?_
        exact ok_f_m_gates_83  g hm  ho (f_m_gates_40 N   n) ih  μ x1 x2 x3 x4 0 h
set_option maxRecDepth 100000 in
set_option maxHeartbeats 4000000 in
theorem ok_f_m_gates {G : sw_G} {ad : Nat → Nat} {ν : sw_N}   {N : Nat} {o : Int32 × sw_M} (g : sw_ok G cX11_gates "DeadWiresModel" (some .int) 3 0 0 ad) (hm : G.2.2.1.2.1.maxLocals = 6)  (μ : sw_M) (ho : sw_out G 0 0 (fun a => a = ad) (.inl (some (.int o.1))) lay0 o.2 ν) (a1 : Int32) (a2 : Int32) (h : f_m_gates N  μ a1 a2 = some o) : SW G ad lay0 ν 0 0 0 [some (.ref 63), some (.int a1), some (.int a2), none, none, none] [] μ := by
  unfold f_m_gates at h
  refine SW.aload_n (pc := 0) g (dt dt_X11_gates 0 rfl) rfl ?_
  refine SW.iconst (pc := 1) (v := 0) g (dt dt_X11_gates 1 rfl) ki_0 ?_
  refine SW.putI (pc := 2) g (dt dt_X11_gates 2 rfl) fl_X11_3 cell_63 rfl ?_
  refine SW.genM h (fun μ1 h => ?_)
  refine SW.aload_n (pc := 5) g (dt dt_X11_gates 3 rfl) rfl ?_
  refine SW.iload_n (pc := 6) g (dt dt_X11_gates 4 rfl) rfl ?_
  refine SW.iconst (pc := 7) (v := 1) g (dt dt_X11_gates 5 rfl) ki_1 ?_
  obtain ⟨r2, h3, h⟩ := bindI h
  refine SW.callVi (pc := 8) g (dt dt_X11_gates 6 rfl) (mt_f_m_isField _ _ _ _ ad ν   N μ1 a1 1 r2 h3) me_X11_isField mv_X11_isField ml_X11_386 cell_63 rfl rfl (Nat.le_of_ble_eq_true rfl) (Nat.le_of_ble_eq_true rfl) (Nat.le_of_ble_eq_true rfl) (Nat.le_of_ble_eq_true rfl) rfl ?_
  refine SW.if_eq (pc := 11) (t := 29) g (dt dt_X11_gates 7 rfl) rfl (fun hc => ?_) (fun hc => ?_)
  · have h := iteT hc h
    refine SW.iconst (pc := 29) (v := 0) g (dt dt_X11_gates 17 rfl) ki_0 ?_
    exact SW.ireturn (pc := 30) g (leafW h ho) rfl (Nat.le_of_ble_eq_true rfl) (Nat.le_of_ble_eq_true rfl) (dt dt_X11_gates 18 rfl)
  · have h := iteF hc h
    refine SW.aload_n (pc := 14) g (dt dt_X11_gates 8 rfl) rfl ?_
    refine SW.iload_n (pc := 15) g (dt dt_X11_gates 9 rfl) rfl ?_
    refine SW.iconst (pc := 16) (v := 0) g (dt dt_X11_gates 10 rfl) ki_0 ?_
    refine SW.iconst (pc := 17) (v := 2) g (dt dt_X11_gates 11 rfl) ki_2 ?_
    obtain ⟨r4, h5, h⟩ := bindI h
    refine SW.callSi (pc := 18) g (dt dt_X11_gates 12 rfl) (mt_f_sm_within _ _ _ _ ad ν lay0   N r2.2 a2 0 2 r4 h5) me_X11_within ms_X11_within ml_X11_374 rfl (Nat.le_of_ble_eq_true rfl) (Nat.le_of_ble_eq_true rfl) (Nat.le_of_ble_eq_true rfl) (Nat.le_of_ble_eq_true rfl) rfl ?_
    refine SW.iconst (pc := 21) (v := 2) g (dt dt_X11_gates 13 rfl) ki_2 ?_
    refine SW.iconst (pc := 22) (v := 1) g (dt dt_X11_gates 14 rfl) ki_1 ?_
    obtain ⟨r6, h7, h⟩ := bindI h
    refine SW.callVi (pc := 23) g (dt dt_X11_gates 15 rfl) (mt_f_m_may _ _ _ _ ad ν   N r2.2 r4 2 1 r6 h7) me_X11_may mv_X11_may ml_X11_204 cell_63 rfl rfl (Nat.le_of_ble_eq_true rfl) (Nat.le_of_ble_eq_true rfl) (Nat.le_of_ble_eq_true rfl) (Nat.le_of_ble_eq_true rfl) rfl ?_
    refine SW.if_ne (pc := 26) (t := 31) g (dt dt_X11_gates 16 rfl) rfl (fun hc => ?_) (fun hc => ?_)
    · have h := iteF hc h
      refine SW.aload_n (pc := 31) g (dt dt_X11_gates 19 rfl) rfl ?_
      obtain ⟨r8, h9, h⟩ := bindI h
      refine SW.callVv (pc := 32) g (dt dt_X11_gates 20 rfl) (mt_f_m_take _ _ _ _ ad ν   N r6.2  r8 h9) me_X11_take mv_X11_take ml_X11_305 cell_63 rfl rfl (Nat.le_of_ble_eq_true rfl) (Nat.le_of_ble_eq_true rfl) (Nat.le_of_ble_eq_true rfl) (Nat.le_of_ble_eq_true rfl) rfl ?_
      refine SW.iconst (pc := 35) (v := 0) g (dt dt_X11_gates 21 rfl) ki_0 ?_
      refine SW.istore_n (pc := 36) g (dt dt_X11_gates 22 rfl) (sw_ltm hm (Nat.le_of_ble_eq_true rfl)) rfl ?_
      refine SW.iconst (pc := 37) (v := 0) g (dt dt_X11_gates 23 rfl) ki_0 ?_
      refine SW.istore (pc := 38) g (dt dt_X11_gates 24 rfl) (sw_ltm hm (Nat.le_of_ble_eq_true rfl)) rfl ?_
      refine SW.msk [true, true, true, true, true, false] ?_
      exact ok_f_m_gates_40  g hm  ho   N r8 a1 a2 0 0 h
    · have h := iteT hc h
      refine SW.iconst (pc := 29) (v := 0) g (dt dt_X11_gates 17 rfl) ki_0 ?_
      exact SW.ireturn (pc := 30) g (leafW h ho) rfl (Nat.le_of_ble_eq_true rfl) (Nat.le_of_ble_eq_true rfl) (dt dt_X11_gates 18 rfl)
set_option maxRecDepth 100000 in
set_option maxHeartbeats 4000000 in
theorem mt_f_m_gates (l : Launch) (D : va_G) (cI cL : ClassId) (ad : Nat → Nat) (ν : sw_N)    (N : Nat) (μ : sw_M) (a1 : Int32) (a2 : Int32) (o : Int32 × sw_M) (h : f_m_gates N  μ a1 a2 = some o) : MetR l D cI cL yX11_gates cX11_gates 6 (some .int) 3 0 0 (fun a => a = ad) ad [.ref 63, .int a1, .int a2] lay0 μ ν (some (.int o.1)) lay0 o.2 ν :=
  MetR.of (n := 3) rfl (Nat.le_of_ble_eq_true rfl) (fun G g ho hm _ _ => ok_f_m_gates  g hm  μ ho a1 a2 h)
def f_m_ground_43 (N : Nat)   : Nat → sw_M → Int32 → Int32 → Int32 → Option (Int32 × sw_M)
  | 0, _, _, _, _ => none
  | n + 1, μ, x2, x3, x4 =>
    if x2 ≤ x4 then
      some (x3, μ)
    else
      Option.bind (f_m_onFrom N  μ x3 x4 0) (fun r1 =>
        f_m_ground_43 N   n μ x2 r1 (x4 + 1))
def f_m_ground (N : Nat)  (μ : sw_M) (a1 : Int32) (a2 : Int32) : Option (Int32 × sw_M) :=
  wb (wr μ 63 0 0) (fun μ1 =>
    Option.bind (f_m_isField N  μ1 a1 1) (fun r2 =>
      if r2.1 = 0 then
        some (0, r2.2)
      else
        Option.bind (f_sm_within N  r2.2 a2 0 99) (fun r4 =>
          Option.bind (f_m_may N  r2.2 r4 2 1) (fun r6 =>
            if r6.1 = 0 then
              some (0, r6.2)
            else
              Option.bind (f_m_take N  r6.2 ) (fun r8 =>
                ib ((1 : Int32) <<< (a1 &&& 31)) (fun y10 =>
                  f_m_ground_43 N   N r8 a2 y10 0))))))
set_option maxRecDepth 100000 in
set_option maxHeartbeats 4000000 in
theorem ok_f_m_ground_43 {G : sw_G} {ad : Nat → Nat} {ν : sw_N}   {N : Nat} {o : Int32 × sw_M} (g : sw_ok G cX11_ground "DeadWiresModel" (some .int) 3 0 0 ad) (hm : G.2.2.1.2.1.maxLocals = 5)  (ho : sw_out G 0 0 (fun a => a = ad) (.inl (some (.int o.1))) lay0 o.2 ν)  : ∀ (n : Nat) (μ : sw_M) (x2 : Int32) (x3 : Int32) (x4 : Int32) (h : f_m_ground_43 N   n μ x2 x3 x4 = some o), SW G ad lay0 ν 0 0 43 [some (.ref 63), none, some (.int x2), some (.int x3), some (.int x4)] [] μ := by
  intro n
  induction n with
  | zero => intro μ x2 x3 x4 h; simp only [f_m_ground_43] at h; cases h
  | succ n ih =>
    intro μ x2 x3 x4 h
    unfold f_m_ground_43 at h
    refine SW.iload (pc := 43) g (dt dt_X11_ground 27 rfl) rfl ?_
    refine SW.iload_n (pc := 45) g (dt dt_X11_ground 28 rfl) rfl ?_
    refine SW.icmp_ge (pc := 46) (t := 64) g (dt dt_X11_ground 29 rfl) rfl (fun hc => ?_) (fun hc => ?_)
    · have h := iteT hc h
      refine SW.iload_n (pc := 64) g (dt dt_X11_ground 38 rfl) rfl ?_
      exact SW.ireturn (pc := 65) g (leafW h ho) rfl (Nat.le_of_ble_eq_true rfl) (Nat.le_of_ble_eq_true rfl) (dt dt_X11_ground 39 rfl)
    · have h := iteF hc h
      refine SW.aload_n (pc := 49) g (dt dt_X11_ground 30 rfl) rfl ?_
      refine SW.iload_n (pc := 50) g (dt dt_X11_ground 31 rfl) rfl ?_
      refine SW.iload (pc := 51) g (dt dt_X11_ground 32 rfl) rfl ?_
      refine SW.iconst (pc := 53) (v := 0) g (dt dt_X11_ground 33 rfl) ki_0 ?_
      obtain ⟨r1, h2, h⟩ := bindI h
      refine SW.callVi (pc := 54) g (dt dt_X11_ground 34 rfl) (mt_f_m_onFrom _ _ _ _ ad ν   N μ x3 x4 0 r1 h2) me_X11_onFrom mv_X11_onFrom ml_X11_392 cell_63 rfl rfl (Nat.le_of_ble_eq_true rfl) (Nat.le_of_ble_eq_true rfl) (Nat.le_of_ble_eq_true rfl) (Nat.le_of_ble_eq_true rfl) rfl ?_
      refine SW.istore_n (pc := 57) g (dt dt_X11_ground 35 rfl) (sw_ltm hm (Nat.le_of_ble_eq_true rfl)) rfl ?_
      refine SW.iinc (pc := 58) (v := x4 + 1) g (dt dt_X11_ground 36 rfl) rfl (kn_1 _) (sw_ltm hm (Nat.le_of_ble_eq_true rfl)) rfl ?_
      refine SW.goto (pc := 61) (t := 43) g (dt dt_X11_ground 37 rfl) rfl ?_
      refine SW.msk [true, false, true, true, true] ?_
      exact ih μ x2 r1 (x4 + 1) h
set_option maxRecDepth 100000 in
set_option maxHeartbeats 4000000 in
theorem ok_f_m_ground {G : sw_G} {ad : Nat → Nat} {ν : sw_N}   {N : Nat} {o : Int32 × sw_M} (g : sw_ok G cX11_ground "DeadWiresModel" (some .int) 3 0 0 ad) (hm : G.2.2.1.2.1.maxLocals = 5)  (μ : sw_M) (ho : sw_out G 0 0 (fun a => a = ad) (.inl (some (.int o.1))) lay0 o.2 ν) (a1 : Int32) (a2 : Int32) (h : f_m_ground N  μ a1 a2 = some o) : SW G ad lay0 ν 0 0 0 [some (.ref 63), some (.int a1), some (.int a2), none, none] [] μ := by
  unfold f_m_ground at h
  refine SW.aload_n (pc := 0) g (dt dt_X11_ground 0 rfl) rfl ?_
  refine SW.iconst (pc := 1) (v := 0) g (dt dt_X11_ground 1 rfl) ki_0 ?_
  refine SW.putI (pc := 2) g (dt dt_X11_ground 2 rfl) fl_X11_3 cell_63 rfl ?_
  refine SW.genM h (fun μ1 h => ?_)
  refine SW.aload_n (pc := 5) g (dt dt_X11_ground 3 rfl) rfl ?_
  refine SW.iload_n (pc := 6) g (dt dt_X11_ground 4 rfl) rfl ?_
  refine SW.iconst (pc := 7) (v := 1) g (dt dt_X11_ground 5 rfl) ki_1 ?_
  obtain ⟨r2, h3, h⟩ := bindI h
  refine SW.callVi (pc := 8) g (dt dt_X11_ground 6 rfl) (mt_f_m_isField _ _ _ _ ad ν   N μ1 a1 1 r2 h3) me_X11_isField mv_X11_isField ml_X11_386 cell_63 rfl rfl (Nat.le_of_ble_eq_true rfl) (Nat.le_of_ble_eq_true rfl) (Nat.le_of_ble_eq_true rfl) (Nat.le_of_ble_eq_true rfl) rfl ?_
  refine SW.if_eq (pc := 11) (t := 30) g (dt dt_X11_ground 7 rfl) rfl (fun hc => ?_) (fun hc => ?_)
  · have h := iteT hc h
    refine SW.iconst (pc := 30) (v := 0) g (dt dt_X11_ground 17 rfl) ki_0 ?_
    exact SW.ireturn (pc := 31) g (leafW h ho) rfl (Nat.le_of_ble_eq_true rfl) (Nat.le_of_ble_eq_true rfl) (dt dt_X11_ground 18 rfl)
  · have h := iteF hc h
    refine SW.aload_n (pc := 14) g (dt dt_X11_ground 8 rfl) rfl ?_
    refine SW.iload_n (pc := 15) g (dt dt_X11_ground 9 rfl) rfl ?_
    refine SW.iconst (pc := 16) (v := 0) g (dt dt_X11_ground 10 rfl) ki_0 ?_
    refine SW.bipush (pc := 17) (v := 99) g (dt dt_X11_ground 11 rfl) kb_99 ?_
    obtain ⟨r4, h5, h⟩ := bindI h
    refine SW.callSi (pc := 19) g (dt dt_X11_ground 12 rfl) (mt_f_sm_within _ _ _ _ ad ν lay0   N r2.2 a2 0 99 r4 h5) me_X11_within ms_X11_within ml_X11_374 rfl (Nat.le_of_ble_eq_true rfl) (Nat.le_of_ble_eq_true rfl) (Nat.le_of_ble_eq_true rfl) (Nat.le_of_ble_eq_true rfl) rfl ?_
    refine SW.iconst (pc := 22) (v := 2) g (dt dt_X11_ground 13 rfl) ki_2 ?_
    refine SW.iconst (pc := 23) (v := 1) g (dt dt_X11_ground 14 rfl) ki_1 ?_
    obtain ⟨r6, h7, h⟩ := bindI h
    refine SW.callVi (pc := 24) g (dt dt_X11_ground 15 rfl) (mt_f_m_may _ _ _ _ ad ν   N r2.2 r4 2 1 r6 h7) me_X11_may mv_X11_may ml_X11_204 cell_63 rfl rfl (Nat.le_of_ble_eq_true rfl) (Nat.le_of_ble_eq_true rfl) (Nat.le_of_ble_eq_true rfl) (Nat.le_of_ble_eq_true rfl) rfl ?_
    refine SW.if_ne (pc := 27) (t := 32) g (dt dt_X11_ground 16 rfl) rfl (fun hc => ?_) (fun hc => ?_)
    · have h := iteF hc h
      refine SW.aload_n (pc := 32) g (dt dt_X11_ground 19 rfl) rfl ?_
      obtain ⟨r8, h9, h⟩ := bindI h
      refine SW.callVv (pc := 33) g (dt dt_X11_ground 20 rfl) (mt_f_m_take _ _ _ _ ad ν   N r6.2  r8 h9) me_X11_take mv_X11_take ml_X11_305 cell_63 rfl rfl (Nat.le_of_ble_eq_true rfl) (Nat.le_of_ble_eq_true rfl) (Nat.le_of_ble_eq_true rfl) (Nat.le_of_ble_eq_true rfl) rfl ?_
      refine SW.iconst (pc := 36) (v := 1) g (dt dt_X11_ground 21 rfl) ki_1 ?_
      refine SW.iload_n (pc := 37) g (dt dt_X11_ground 22 rfl) rfl ?_
      refine SW.ishl (pc := 38) g (dt dt_X11_ground 23 rfl) ?_
      refine SW.istore_n (pc := 39) g (dt dt_X11_ground 24 rfl) (sw_ltm hm (Nat.le_of_ble_eq_true rfl)) rfl ?_
      refine SW.genL h (fun y10 h => ?_)
      refine SW.iconst (pc := 40) (v := 0) g (dt dt_X11_ground 25 rfl) ki_0 ?_
      refine SW.istore (pc := 41) g (dt dt_X11_ground 26 rfl) (sw_ltm hm (Nat.le_of_ble_eq_true rfl)) rfl ?_
      refine SW.msk [true, false, true, true, true] ?_
      exact ok_f_m_ground_43  g hm  ho   N r8 a2 y10 0 h
    · have h := iteT hc h
      refine SW.iconst (pc := 30) (v := 0) g (dt dt_X11_ground 17 rfl) ki_0 ?_
      exact SW.ireturn (pc := 31) g (leafW h ho) rfl (Nat.le_of_ble_eq_true rfl) (Nat.le_of_ble_eq_true rfl) (dt dt_X11_ground 18 rfl)
set_option maxRecDepth 100000 in
set_option maxHeartbeats 4000000 in
theorem mt_f_m_ground (l : Launch) (D : va_G) (cI cL : ClassId) (ad : Nat → Nat) (ν : sw_N)    (N : Nat) (μ : sw_M) (a1 : Int32) (a2 : Int32) (o : Int32 × sw_M) (h : f_m_ground N  μ a1 a2 = some o) : MetR l D cI cL yX11_ground cX11_ground 5 (some .int) 3 0 0 (fun a => a = ad) ad [.ref 63, .int a1, .int a2] lay0 μ ν (some (.int o.1)) lay0 o.2 ν :=
  MetR.of (n := 2) rfl (Nat.le_of_ble_eq_true rfl) (fun G g ho hm _ _ => ok_f_m_ground  g hm  μ ho a1 a2 h)
def f_m_freest_33 (N : Nat)   : Nat → sw_M → Int32 → Int32 → Int32 → Int32 → Option (Int32 × sw_M)
  | 0, _, _, _, _, _ => none
  | n + 1, μ, x1, x2, x3, x4 =>
    if (μ 63 24) ≤ x4 then
      if x1 = 0 then
        some (x2, μ)
      else
        some (x3, μ)
    else
      inb (((2 : Int32) * x4) + 1) 10 (
        Option.bind (f_m_loadOf N  μ x4) (fun r2 =>
          ib ((μ 71 (((2 : Int32) * x4) + 1).toNatClampNeg) - r2) (fun y4 =>
            if x3 < y4 then
              f_m_freest_33 N   n μ x1 x4 y4 (x4 + 1)
            else
              f_m_freest_33 N   n μ x1 x2 x3 (x4 + 1))))
def f_m_freest (N : Nat)  (μ : sw_M) (a1 : Int32) : Option (Int32 × sw_M) :=
  wb (wr μ 63 0 0) (fun μ1 =>
    Option.bind (f_sm_within N  μ1 a1 0 1) (fun r2 =>
      Option.bind (f_m_may N  μ1 r2 1 1) (fun r4 =>
        if r4.1 = 0 then
          some (0, r4.2)
        else
          Option.bind (f_m_take N  r4.2 ) (fun r6 =>
            f_m_freest_33 N   N r6 a1 (-1) (-1) 0))))
set_option maxRecDepth 100000 in
set_option maxHeartbeats 4000000 in
theorem ok_f_m_freest_33 {G : sw_G} {ad : Nat → Nat} {ν : sw_N}   {N : Nat} {o : Int32 × sw_M} (g : sw_ok G cX11_freest "DeadWiresModel" (some .int) 3 0 0 ad) (hm : G.2.2.1.2.1.maxLocals = 6)  (ho : sw_out G 0 0 (fun a => a = ad) (.inl (some (.int o.1))) lay0 o.2 ν)  : ∀ (n : Nat) (μ : sw_M) (x1 : Int32) (x2 : Int32) (x3 : Int32) (x4 : Int32) (h : f_m_freest_33 N   n μ x1 x2 x3 x4 = some o), SW G ad lay0 ν 0 0 33 [some (.ref 63), some (.int x1), some (.int x2), some (.int x3), some (.int x4), none] [] μ := by
  intro n
  induction n with
  | zero => intro μ x1 x2 x3 x4 h; simp only [f_m_freest_33] at h; cases h
  | succ n ih =>
    intro μ x1 x2 x3 x4 h
    unfold f_m_freest_33 at h
    refine SW.iload (pc := 33) g (dt dt_X11_freest 22 rfl) rfl ?_
    refine SW.aload_n (pc := 35) g (dt dt_X11_freest 23 rfl) rfl ?_
    refine SW.getI (pc := 36) g (dt dt_X11_freest 24 rfl) fl_X11_162 cell_63 rfl ?_
    refine SW.icmp_ge (pc := 39) (t := 83) g (dt dt_X11_freest 25 rfl) rfl (fun hc => ?_) (fun hc => ?_)
    · have h := iteT hc h
      refine SW.iload_n (pc := 83) g (dt dt_X11_freest 49 rfl) rfl ?_
      refine SW.if_ne (pc := 84) (t := 91) g (dt dt_X11_freest 50 rfl) rfl (fun hc => ?_) (fun hc => ?_)
      · have h := iteF hc h
        refine SW.iload_n (pc := 91) g (dt dt_X11_freest 53 rfl) rfl ?_
        exact SW.ireturn (pc := 92) g (leafW h ho) rfl (Nat.le_of_ble_eq_true rfl) (Nat.le_of_ble_eq_true rfl) (dt dt_X11_freest 54 rfl)
      · have h := iteT hc h
        refine SW.iload_n (pc := 87) g (dt dt_X11_freest 51 rfl) rfl ?_
        refine SW.goto (pc := 88) (t := 92) g (dt dt_X11_freest 52 rfl) rfl ?_
        exact SW.ireturn (pc := 92) g (leafW h ho) rfl (Nat.le_of_ble_eq_true rfl) (Nat.le_of_ble_eq_true rfl) (dt dt_X11_freest 54 rfl)
    · have h := iteF hc h
      refine SW.aload_n (pc := 42) g (dt dt_X11_freest 26 rfl) rfl ?_
      refine SW.getR (pc := 43) g (dt dt_X11_freest 27 rfl) fl_X11_38 cell_63 rfl ?_
      refine SW.iconst (pc := 46) (v := 2) g (dt dt_X11_freest 28 rfl) ki_2 ?_
      refine SW.iload (pc := 47) g (dt dt_X11_freest 29 rfl) rfl ?_
      refine SW.imul (pc := 49) g (dt dt_X11_freest 30 rfl) ?_
      refine SW.iconst (pc := 50) (v := 1) g (dt dt_X11_freest 31 rfl) ki_1 ?_
      refine SW.iadd (pc := 51) g (dt dt_X11_freest 32 rfl) ?_
      obtain ⟨hb1, h⟩ := inbI h
      refine SW.iaload (pc := 52) g (dt dt_X11_freest 33 rfl) cell_71 hb1 ?_
      refine SW.aload_n (pc := 53) g (dt dt_X11_freest 34 rfl) rfl ?_
      refine SW.iload (pc := 54) g (dt dt_X11_freest 35 rfl) rfl ?_
      obtain ⟨r2, h3, h⟩ := bindI h
      refine SW.callVi (pc := 56) g (dt dt_X11_freest 36 rfl) (mt_f_m_loadOf _ _ _ _ ad ν   N μ x4 r2 h3) me_X11_loadOf mv_X11_loadOf ml_X11_337 cell_63 rfl rfl (Nat.le_of_ble_eq_true rfl) (Nat.le_of_ble_eq_true rfl) (Nat.le_of_ble_eq_true rfl) (Nat.le_of_ble_eq_true rfl) rfl ?_
      refine SW.isub (pc := 59) g (dt dt_X11_freest 37 rfl) ?_
      refine SW.istore (pc := 60) g (dt dt_X11_freest 38 rfl) (sw_ltm hm (Nat.le_of_ble_eq_true rfl)) rfl ?_
      refine SW.genL h (fun y4 h => ?_)
      refine SW.iload (pc := 62) g (dt dt_X11_freest 39 rfl) rfl ?_
      refine SW.iload_n (pc := 64) g (dt dt_X11_freest 40 rfl) rfl ?_
      refine SW.icmp_gt (pc := 65) (t := 71) g (dt dt_X11_freest 41 rfl) rfl (fun hc => ?_) (fun hc => ?_)
      · have h := iteT hc h
        refine SW.iload (pc := 71) g (dt dt_X11_freest 43 rfl) rfl ?_
        refine SW.istore_n (pc := 73) g (dt dt_X11_freest 44 rfl) (sw_ltm hm (Nat.le_of_ble_eq_true rfl)) rfl ?_
        refine SW.iload (pc := 74) g (dt dt_X11_freest 45 rfl) rfl ?_
        refine SW.istore_n (pc := 76) g (dt dt_X11_freest 46 rfl) (sw_ltm hm (Nat.le_of_ble_eq_true rfl)) rfl ?_
        refine SW.iinc (pc := 77) (v := x4 + 1) g (dt dt_X11_freest 47 rfl) rfl (kn_1 _) (sw_ltm hm (Nat.le_of_ble_eq_true rfl)) rfl ?_
        refine SW.goto (pc := 80) (t := 33) g (dt dt_X11_freest 48 rfl) rfl ?_
        refine SW.msk [true, true, true, true, true, false] ?_
        exact ih μ x1 x4 y4 (x4 + 1) h
      · have h := iteF hc h
        refine SW.goto (pc := 68) (t := 77) g (dt dt_X11_freest 42 rfl) rfl ?_
        refine SW.iinc (pc := 77) (v := x4 + 1) g (dt dt_X11_freest 47 rfl) rfl (kn_1 _) (sw_ltm hm (Nat.le_of_ble_eq_true rfl)) rfl ?_
        refine SW.goto (pc := 80) (t := 33) g (dt dt_X11_freest 48 rfl) rfl ?_
        refine SW.msk [true, true, true, true, true, false] ?_
        exact ih μ x1 x2 x3 (x4 + 1) h
set_option maxRecDepth 100000 in
set_option maxHeartbeats 4000000 in
theorem ok_f_m_freest {G : sw_G} {ad : Nat → Nat} {ν : sw_N}   {N : Nat} {o : Int32 × sw_M} (g : sw_ok G cX11_freest "DeadWiresModel" (some .int) 3 0 0 ad) (hm : G.2.2.1.2.1.maxLocals = 6)  (μ : sw_M) (ho : sw_out G 0 0 (fun a => a = ad) (.inl (some (.int o.1))) lay0 o.2 ν) (a1 : Int32) (h : f_m_freest N  μ a1 = some o) : SW G ad lay0 ν 0 0 0 [some (.ref 63), some (.int a1), none, none, none, none] [] μ := by
  unfold f_m_freest at h
  refine SW.aload_n (pc := 0) g (dt dt_X11_freest 0 rfl) rfl ?_
  refine SW.iconst (pc := 1) (v := 0) g (dt dt_X11_freest 1 rfl) ki_0 ?_
  refine SW.putI (pc := 2) g (dt dt_X11_freest 2 rfl) fl_X11_3 cell_63 rfl ?_
  refine SW.genM h (fun μ1 h => ?_)
  refine SW.aload_n (pc := 5) g (dt dt_X11_freest 3 rfl) rfl ?_
  refine SW.iload_n (pc := 6) g (dt dt_X11_freest 4 rfl) rfl ?_
  refine SW.iconst (pc := 7) (v := 0) g (dt dt_X11_freest 5 rfl) ki_0 ?_
  refine SW.iconst (pc := 8) (v := 1) g (dt dt_X11_freest 6 rfl) ki_1 ?_
  obtain ⟨r2, h3, h⟩ := bindI h
  refine SW.callSi (pc := 9) g (dt dt_X11_freest 7 rfl) (mt_f_sm_within _ _ _ _ ad ν lay0   N μ1 a1 0 1 r2 h3) me_X11_within ms_X11_within ml_X11_374 rfl (Nat.le_of_ble_eq_true rfl) (Nat.le_of_ble_eq_true rfl) (Nat.le_of_ble_eq_true rfl) (Nat.le_of_ble_eq_true rfl) rfl ?_
  refine SW.iconst (pc := 12) (v := 1) g (dt dt_X11_freest 8 rfl) ki_1 ?_
  refine SW.iconst (pc := 13) (v := 1) g (dt dt_X11_freest 9 rfl) ki_1 ?_
  obtain ⟨r4, h5, h⟩ := bindI h
  refine SW.callVi (pc := 14) g (dt dt_X11_freest 10 rfl) (mt_f_m_may _ _ _ _ ad ν   N μ1 r2 1 1 r4 h5) me_X11_may mv_X11_may ml_X11_204 cell_63 rfl rfl (Nat.le_of_ble_eq_true rfl) (Nat.le_of_ble_eq_true rfl) (Nat.le_of_ble_eq_true rfl) (Nat.le_of_ble_eq_true rfl) rfl ?_
  refine SW.if_ne (pc := 17) (t := 22) g (dt dt_X11_freest 11 rfl) rfl (fun hc => ?_) (fun hc => ?_)
  · have h := iteF hc h
    refine SW.aload_n (pc := 22) g (dt dt_X11_freest 14 rfl) rfl ?_
    obtain ⟨r6, h7, h⟩ := bindI h
    refine SW.callVv (pc := 23) g (dt dt_X11_freest 15 rfl) (mt_f_m_take _ _ _ _ ad ν   N r4.2  r6 h7) me_X11_take mv_X11_take ml_X11_305 cell_63 rfl rfl (Nat.le_of_ble_eq_true rfl) (Nat.le_of_ble_eq_true rfl) (Nat.le_of_ble_eq_true rfl) (Nat.le_of_ble_eq_true rfl) rfl ?_
    refine SW.iconst (pc := 26) (v := (-1)) g (dt dt_X11_freest 16 rfl) ki_m1 ?_
    refine SW.istore_n (pc := 27) g (dt dt_X11_freest 17 rfl) (sw_ltm hm (Nat.le_of_ble_eq_true rfl)) rfl ?_
    refine SW.iconst (pc := 28) (v := (-1)) g (dt dt_X11_freest 18 rfl) ki_m1 ?_
    refine SW.istore_n (pc := 29) g (dt dt_X11_freest 19 rfl) (sw_ltm hm (Nat.le_of_ble_eq_true rfl)) rfl ?_
    refine SW.iconst (pc := 30) (v := 0) g (dt dt_X11_freest 20 rfl) ki_0 ?_
    refine SW.istore (pc := 31) g (dt dt_X11_freest 21 rfl) (sw_ltm hm (Nat.le_of_ble_eq_true rfl)) rfl ?_
    refine SW.msk [true, true, true, true, true, false] ?_
    exact ok_f_m_freest_33  g hm  ho   N r6 a1 (-1) (-1) 0 h
  · have h := iteT hc h
    refine SW.iconst (pc := 20) (v := 0) g (dt dt_X11_freest 12 rfl) ki_0 ?_
    exact SW.ireturn (pc := 21) g (leafW h ho) rfl (Nat.le_of_ble_eq_true rfl) (Nat.le_of_ble_eq_true rfl) (dt dt_X11_freest 13 rfl)
set_option maxRecDepth 100000 in
set_option maxHeartbeats 4000000 in
theorem mt_f_m_freest (l : Launch) (D : va_G) (cI cL : ClassId) (ad : Nat → Nat) (ν : sw_N)    (N : Nat) (μ : sw_M) (a1 : Int32) (o : Int32 × sw_M) (h : f_m_freest N  μ a1 = some o) : MetR l D cI cL yX11_freest cX11_freest 6 (some .int) 3 0 0 (fun a => a = ad) ad [.ref 63, .int a1] lay0 μ ν (some (.int o.1)) lay0 o.2 ν :=
  MetR.of (n := 4) rfl (Nat.le_of_ble_eq_true rfl) (fun G g ho hm _ _ => ok_f_m_freest  g hm  μ ho a1 h)
def f_m_draws (N : Nat)  (μ : sw_M) (a1 : Int32) : Option (Int32 × sw_M) :=
  wb (wr μ 63 48 (((μ 63 48) * 1103515245) + 12345)) (fun μ1 =>
    nz a1
      (some ((((μ1 63 48) >>> ((16 : Int32) &&& 31)) &&& 32767) - (((μ1 63 48) >>> ((16 : Int32) &&& 31)) &&& 32767) / a1 * a1, μ1)))
set_option maxRecDepth 100000 in
set_option maxHeartbeats 4000000 in
theorem ok_f_m_draws {G : sw_G} {ad : Nat → Nat} {ν : sw_N}   {N : Nat} {o : Int32 × sw_M} (g : sw_ok G cX11_draws "DeadWiresModel" (some .int) 1 0 0 ad) (hm : G.2.2.1.2.1.maxLocals = 2)  (μ : sw_M) (ho : sw_out G 0 0 (fun a => a = ad) (.inl (some (.int o.1))) lay0 o.2 ν) (a1 : Int32) (h : f_m_draws N  μ a1 = some o) : SW G ad lay0 ν 0 0 0 [some (.ref 63), some (.int a1)] [] μ := by
  unfold f_m_draws at h
  refine SW.aload_n (pc := 0) g (dt dt_X11_draws 0 rfl) rfl ?_
  refine SW.aload_n (pc := 1) g (dt dt_X11_draws 1 rfl) rfl ?_
  refine SW.getI (pc := 2) g (dt dt_X11_draws 2 rfl) fl_X11_431 cell_63 rfl ?_
  refine SW.ldcw (pc := 5) g (dt dt_X11_draws 3 rfl) ko_X11_434 ?_
  refine SW.imul (pc := 8) g (dt dt_X11_draws 4 rfl) ?_
  refine SW.sipush (pc := 9) (v := 12345) g (dt dt_X11_draws 5 rfl) ks_12345 ?_
  refine SW.iadd (pc := 12) g (dt dt_X11_draws 6 rfl) ?_
  refine SW.putI (pc := 13) g (dt dt_X11_draws 7 rfl) fl_X11_431 cell_63 rfl ?_
  refine SW.genM h (fun μ1 h => ?_)
  refine SW.aload_n (pc := 16) g (dt dt_X11_draws 8 rfl) rfl ?_
  refine SW.getI (pc := 17) g (dt dt_X11_draws 9 rfl) fl_X11_431 cell_63 rfl ?_
  refine SW.bipush (pc := 20) (v := 16) g (dt dt_X11_draws 10 rfl) kb_16 ?_
  refine SW.ishr (pc := 22) g (dt dt_X11_draws 11 rfl) ?_
  refine SW.sipush (pc := 23) (v := 32767) g (dt dt_X11_draws 12 rfl) ks_32767 ?_
  refine SW.iand (pc := 26) g (dt dt_X11_draws 13 rfl) ?_
  refine SW.iload_n (pc := 27) g (dt dt_X11_draws 14 rfl) rfl ?_
  obtain ⟨hz2, h⟩ := nzI h
  refine SW.irem (pc := 28) g (dt dt_X11_draws 15 rfl) hz2 ?_
  exact SW.ireturn (pc := 29) g (leafW h ho) rfl (Nat.le_of_ble_eq_true rfl) (Nat.le_of_ble_eq_true rfl) (dt dt_X11_draws 16 rfl)
set_option maxRecDepth 100000 in
set_option maxHeartbeats 4000000 in
theorem mt_f_m_draws (l : Launch) (D : va_G) (cI cL : ClassId) (ad : Nat → Nat) (ν : sw_N)    (N : Nat) (μ : sw_M) (a1 : Int32) (o : Int32 × sw_M) (h : f_m_draws N  μ a1 = some o) : MetR l D cI cL yX11_draws cX11_draws 2 (some .int) 1 0 0 (fun a => a = ad) ad [.ref 63, .int a1] lay0 μ ν (some (.int o.1)) lay0 o.2 ν :=
  MetR.of (n := 0) rfl (Nat.le_of_ble_eq_true rfl) (fun G g ho hm _ _ => ok_f_m_draws  g hm  μ ho a1 h)
def f_m_autumnGoes_101 (N : Nat)  (k_12 : sw_M → Int32 → Int32 → Int32 → Option (sw_M)) (μ : sw_M) (x2 : Int32) (x3 : Int32) (x4 : Int32) : Option (sw_M) :=
  Option.bind (f_m_goesOn N  μ ) (fun r1 =>
    k_12 r1 x2 x3 (x4 + 1))
def f_m_autumnGoes_83 (N : Nat)  (k_12 : sw_M → Int32 → Int32 → Int32 → Option (sw_M)) (μ : sw_M) (x2 : Int32) (x3 : Int32) (x4 : Int32) (x6 : Int32) : Option (sw_M) :=
  Option.bind (f_m_draws N  μ 16) (fun r1 =>
    if x2 ≤ r1.1 then
      f_m_autumnGoes_101 N  k_12  r1.2 x2 x3 x4
    else
      Option.bind (f_m_moves N  r1.2 x6 3) (fun r3 =>
        f_m_autumnGoes_101 N  k_12  r3.2 x2 x3 x4))
def f_m_autumnGoes_12 (N : Nat)   : Nat → sw_M → Int32 → Int32 → Int32 → Option (sw_M)
  | 0, _, _, _, _ => none
  | n + 1, μ, x2, x3, x4 =>
    if x3 ≤ x4 then
      some μ
    else
      if (μ 63 24) ≤ 0 then
        f_m_autumnGoes_101 N  (f_m_autumnGoes_12 N   n)  μ x2 x3 x4
      else
        if (μ 63 22) ≤ 0 then
          f_m_autumnGoes_101 N  (f_m_autumnGoes_12 N   n)  μ x2 x3 x4
        else
          Option.bind (f_m_draws N  μ (μ 63 24)) (fun r1 =>
            Option.bind (f_m_draws N  r1.2 (r1.2 63 22)) (fun r3 =>
              Option.bind (f_m_crosses N  r3.2 r1.1 r3.1) (fun r5 =>
                if (r5.2 63 23) ≤ 0 then
                  f_m_autumnGoes_83 N  (f_m_autumnGoes_12 N   n)  r5.2 x2 x3 x4 r3.1
                else
                  Option.bind (f_m_draws N  r5.2 (r5.2 63 23)) (fun r7 =>
                    Option.bind (f_m_lifts N  r7.2 r1.1 r7.1) (fun r9 =>
                      f_m_autumnGoes_83 N  (f_m_autumnGoes_12 N   n)  r9.2 x2 x3 x4 r3.1)))))
def f_m_autumnGoes (N : Nat)  (μ : sw_M) (a1 : Int32) (a2 : Int32) (a3 : Int32) : Option (sw_M) :=
  Option.bind (f_m_take N  μ ) (fun r1 =>
    wb (wr r1 63 48 a1) (fun μ3 =>
      f_m_autumnGoes_12 N   N μ3 a2 a3 0))
set_option maxRecDepth 100000 in
set_option maxHeartbeats 4000000 in
theorem ok_f_m_autumnGoes_101 {G : sw_G} {ad : Nat → Nat} {ν : sw_N}   {N : Nat} {o : sw_M} (g : sw_ok G cX11_autumnGoes "DeadWiresModel" none 8 0 0 ad) (hm : G.2.2.1.2.1.maxLocals = 7)  (ho : sw_out G 0 0 (fun a => a = ad) (.inl none) lay0 o ν) (k_12 : sw_M → Int32 → Int32 → Int32 → Option (sw_M)) (hk_12 : ∀ (μ : sw_M) (x2 : Int32) (x3 : Int32) (x4 : Int32), k_12 μ x2 x3 x4 = some o → SW G ad lay0 ν 0 0 12 [some (.ref 63), none, some (.int x2), some (.int x3), some (.int x4), none, none] [] μ) (μ : sw_M) (x2 : Int32) (x3 : Int32) (x4 : Int32) (h : f_m_autumnGoes_101 N  k_12  μ x2 x3 x4 = some o) : SW G ad lay0 ν 0 0 101 [some (.ref 63), none, some (.int x2), some (.int x3), some (.int x4), none, none] [] μ := by
  unfold f_m_autumnGoes_101 at h
  refine SW.aload_n (pc := 101) g (dt dt_X11_autumnGoes 52 rfl) rfl ?_
  obtain ⟨r1, h2, h⟩ := bindI h
  refine SW.callVv (pc := 102) g (dt dt_X11_autumnGoes 53 rfl) (mt_f_m_goesOn _ _ _ _ ad ν   N μ  r1 h2) me_X11_goesOn mv_X11_goesOn ml_X11_371 cell_63 rfl rfl (Nat.le_of_ble_eq_true rfl) (Nat.le_of_ble_eq_true rfl) (Nat.le_of_ble_eq_true rfl) (Nat.le_of_ble_eq_true rfl) rfl ?_
  refine SW.iinc (pc := 105) (v := x4 + 1) g (dt dt_X11_autumnGoes 54 rfl) rfl (kn_1 _) (sw_ltm hm (Nat.le_of_ble_eq_true rfl)) rfl ?_
  refine SW.goto (pc := 108) (t := 12) g (dt dt_X11_autumnGoes 55 rfl) rfl ?_
  refine SW.msk [true, false, true, true, true, false, false] ?_
  exact hk_12 r1 x2 x3 (x4 + 1) h
set_option maxRecDepth 100000 in
set_option maxHeartbeats 4000000 in
theorem ok_f_m_autumnGoes_83 {G : sw_G} {ad : Nat → Nat} {ν : sw_N}   {N : Nat} {o : sw_M} (g : sw_ok G cX11_autumnGoes "DeadWiresModel" none 8 0 0 ad) (hm : G.2.2.1.2.1.maxLocals = 7)  (ho : sw_out G 0 0 (fun a => a = ad) (.inl none) lay0 o ν) (k_12 : sw_M → Int32 → Int32 → Int32 → Option (sw_M)) (hk_12 : ∀ (μ : sw_M) (x2 : Int32) (x3 : Int32) (x4 : Int32), k_12 μ x2 x3 x4 = some o → SW G ad lay0 ν 0 0 12 [some (.ref 63), none, some (.int x2), some (.int x3), some (.int x4), none, none] [] μ) (μ : sw_M) (x2 : Int32) (x3 : Int32) (x4 : Int32) (x6 : Int32) (h : f_m_autumnGoes_83 N  k_12  μ x2 x3 x4 x6 = some o) : SW G ad lay0 ν 0 0 83 [some (.ref 63), none, some (.int x2), some (.int x3), some (.int x4), none, some (.int x6)] [] μ := by
  unfold f_m_autumnGoes_83 at h
  refine SW.aload_n (pc := 83) g (dt dt_X11_autumnGoes 42 rfl) rfl ?_
  refine SW.bipush (pc := 84) (v := 16) g (dt dt_X11_autumnGoes 43 rfl) kb_16 ?_
  obtain ⟨r1, h2, h⟩ := bindI h
  refine SW.callVi (pc := 86) g (dt dt_X11_autumnGoes 44 rfl) (mt_f_m_draws _ _ _ _ ad ν   N μ 16 r1 h2) me_X11_draws mv_X11_draws ml_X11_435 cell_63 rfl rfl (Nat.le_of_ble_eq_true rfl) (Nat.le_of_ble_eq_true rfl) (Nat.le_of_ble_eq_true rfl) (Nat.le_of_ble_eq_true rfl) rfl ?_
  refine SW.iload_n (pc := 89) g (dt dt_X11_autumnGoes 45 rfl) rfl ?_
  refine SW.icmp_ge (pc := 90) (t := 101) g (dt dt_X11_autumnGoes 46 rfl) rfl (fun hc => ?_) (fun hc => ?_)
  · have h := iteT hc h
    refine SW.msk [true, false, true, true, true, false, false] ?_
    exact ok_f_m_autumnGoes_101  g hm  ho k_12 hk_12  r1.2 x2 x3 x4 h
  · have h := iteF hc h
    refine SW.aload_n (pc := 93) g (dt dt_X11_autumnGoes 47 rfl) rfl ?_
    refine SW.iload (pc := 94) g (dt dt_X11_autumnGoes 48 rfl) rfl ?_
    refine SW.iconst (pc := 96) (v := 3) g (dt dt_X11_autumnGoes 49 rfl) ki_3 ?_
    obtain ⟨r3, h4, h⟩ := bindI h
    refine SW.callVi (pc := 97) g (dt dt_X11_autumnGoes 50 rfl) (mt_f_m_moves _ _ _ _ ad ν   N r1.2 x6 3 r3 h4) me_X11_moves mv_X11_moves ml_X11_365 cell_63 rfl rfl (Nat.le_of_ble_eq_true rfl) (Nat.le_of_ble_eq_true rfl) (Nat.le_of_ble_eq_true rfl) (Nat.le_of_ble_eq_true rfl) rfl ?_
    refine SW.pop (pc := 100) g (dt dt_X11_autumnGoes 51 rfl) rfl ?_
    refine SW.msk [true, false, true, true, true, false, false] ?_
    exact ok_f_m_autumnGoes_101  g hm  ho k_12 hk_12  r3.2 x2 x3 x4 h
set_option maxRecDepth 100000 in
set_option maxHeartbeats 4000000 in
theorem ok_f_m_autumnGoes_12 {G : sw_G} {ad : Nat → Nat} {ν : sw_N}   {N : Nat} {o : sw_M} (g : sw_ok G cX11_autumnGoes "DeadWiresModel" none 8 0 0 ad) (hm : G.2.2.1.2.1.maxLocals = 7)  (ho : sw_out G 0 0 (fun a => a = ad) (.inl none) lay0 o ν)  : ∀ (n : Nat) (μ : sw_M) (x2 : Int32) (x3 : Int32) (x4 : Int32) (h : f_m_autumnGoes_12 N   n μ x2 x3 x4 = some o), SW G ad lay0 ν 0 0 12 [some (.ref 63), none, some (.int x2), some (.int x3), some (.int x4), none, none] [] μ := by
  intro n
  induction n with
  | zero => intro μ x2 x3 x4 h; simp only [f_m_autumnGoes_12] at h; cases h
  | succ n ih =>
    intro μ x2 x3 x4 h
    unfold f_m_autumnGoes_12 at h
    refine SW.iload (pc := 12) g (dt dt_X11_autumnGoes 7 rfl) rfl ?_
    refine SW.iload_n (pc := 14) g (dt dt_X11_autumnGoes 8 rfl) rfl ?_
    refine SW.icmp_ge (pc := 15) (t := 111) g (dt dt_X11_autumnGoes 9 rfl) rfl (fun hc => ?_) (fun hc => ?_)
    · have h := iteT hc h
      exact SW.vreturn (pc := 111) g (leafV h ho) rfl (Nat.le_of_ble_eq_true rfl) (Nat.le_of_ble_eq_true rfl) (dt dt_X11_autumnGoes 56 rfl)
    · have h := iteF hc h
      refine SW.aload_n (pc := 18) g (dt dt_X11_autumnGoes 10 rfl) rfl ?_
      refine SW.getI (pc := 19) g (dt dt_X11_autumnGoes 11 rfl) fl_X11_162 cell_63 rfl ?_
      refine SW.if_le (pc := 22) (t := 101) g (dt dt_X11_autumnGoes 12 rfl) rfl (fun hc => ?_) (fun hc => ?_)
      · have h := iteT hc h
        refine SW.msk [true, false, true, true, true, false, false] ?_
        exact ok_f_m_autumnGoes_101  g hm  ho (f_m_autumnGoes_12 N   n) ih  μ x2 x3 x4 h
      · have h := iteF hc h
        refine SW.aload_n (pc := 25) g (dt dt_X11_autumnGoes 13 rfl) rfl ?_
        refine SW.getI (pc := 26) g (dt dt_X11_autumnGoes 14 rfl) fl_X11_156 cell_63 rfl ?_
        refine SW.if_le (pc := 29) (t := 101) g (dt dt_X11_autumnGoes 15 rfl) rfl (fun hc => ?_) (fun hc => ?_)
        · have h := iteT hc h
          refine SW.msk [true, false, true, true, true, false, false] ?_
          exact ok_f_m_autumnGoes_101  g hm  ho (f_m_autumnGoes_12 N   n) ih  μ x2 x3 x4 h
        · have h := iteF hc h
          refine SW.aload_n (pc := 32) g (dt dt_X11_autumnGoes 16 rfl) rfl ?_
          refine SW.aload_n (pc := 33) g (dt dt_X11_autumnGoes 17 rfl) rfl ?_
          refine SW.getI (pc := 34) g (dt dt_X11_autumnGoes 18 rfl) fl_X11_162 cell_63 rfl ?_
          obtain ⟨r1, h2, h⟩ := bindI h
          refine SW.callVi (pc := 37) g (dt dt_X11_autumnGoes 19 rfl) (mt_f_m_draws _ _ _ _ ad ν   N μ (μ 63 24) r1 h2) me_X11_draws mv_X11_draws ml_X11_435 cell_63 rfl rfl (Nat.le_of_ble_eq_true rfl) (Nat.le_of_ble_eq_true rfl) (Nat.le_of_ble_eq_true rfl) (Nat.le_of_ble_eq_true rfl) rfl ?_
          refine SW.istore (pc := 40) g (dt dt_X11_autumnGoes 20 rfl) (sw_ltm hm (Nat.le_of_ble_eq_true rfl)) rfl ?_
          refine SW.aload_n (pc := 42) g (dt dt_X11_autumnGoes 21 rfl) rfl ?_
          refine SW.aload_n (pc := 43) g (dt dt_X11_autumnGoes 22 rfl) rfl ?_
          refine SW.getI (pc := 44) g (dt dt_X11_autumnGoes 23 rfl) fl_X11_156 cell_63 rfl ?_
          obtain ⟨r3, h4, h⟩ := bindI h
          refine SW.callVi (pc := 47) g (dt dt_X11_autumnGoes 24 rfl) (mt_f_m_draws _ _ _ _ ad ν   N r1.2 (r1.2 63 22) r3 h4) me_X11_draws mv_X11_draws ml_X11_435 cell_63 rfl rfl (Nat.le_of_ble_eq_true rfl) (Nat.le_of_ble_eq_true rfl) (Nat.le_of_ble_eq_true rfl) (Nat.le_of_ble_eq_true rfl) rfl ?_
          refine SW.istore (pc := 50) g (dt dt_X11_autumnGoes 25 rfl) (sw_ltm hm (Nat.le_of_ble_eq_true rfl)) rfl ?_
          refine SW.aload_n (pc := 52) g (dt dt_X11_autumnGoes 26 rfl) rfl ?_
          refine SW.iload (pc := 53) g (dt dt_X11_autumnGoes 27 rfl) rfl ?_
          refine SW.iload (pc := 55) g (dt dt_X11_autumnGoes 28 rfl) rfl ?_
          obtain ⟨r5, h6, h⟩ := bindI h
          refine SW.callVi (pc := 57) g (dt dt_X11_autumnGoes 29 rfl) (mt_f_m_crosses _ _ _ _ ad ν   N r3.2 r1.1 r3.1 r5 h6) me_X11_crosses mv_X11_crosses ml_X11_362 cell_63 rfl rfl (Nat.le_of_ble_eq_true rfl) (Nat.le_of_ble_eq_true rfl) (Nat.le_of_ble_eq_true rfl) (Nat.le_of_ble_eq_true rfl) rfl ?_
          refine SW.pop (pc := 60) g (dt dt_X11_autumnGoes 30 rfl) rfl ?_
          refine SW.aload_n (pc := 61) g (dt dt_X11_autumnGoes 31 rfl) rfl ?_
          refine SW.getI (pc := 62) g (dt dt_X11_autumnGoes 32 rfl) fl_X11_159 cell_63 rfl ?_
          refine SW.if_le (pc := 65) (t := 83) g (dt dt_X11_autumnGoes 33 rfl) rfl (fun hc => ?_) (fun hc => ?_)
          · have h := iteT hc h
            refine SW.msk [true, false, true, true, true, false, true] ?_
            exact ok_f_m_autumnGoes_83  g hm  ho (f_m_autumnGoes_12 N   n) ih  r5.2 x2 x3 x4 r3.1 h
          · have h := iteF hc h
            refine SW.aload_n (pc := 68) g (dt dt_X11_autumnGoes 34 rfl) rfl ?_
            refine SW.iload (pc := 69) g (dt dt_X11_autumnGoes 35 rfl) rfl ?_
            refine SW.aload_n (pc := 71) g (dt dt_X11_autumnGoes 36 rfl) rfl ?_
            refine SW.aload_n (pc := 72) g (dt dt_X11_autumnGoes 37 rfl) rfl ?_
            refine SW.getI (pc := 73) g (dt dt_X11_autumnGoes 38 rfl) fl_X11_159 cell_63 rfl ?_
            obtain ⟨r7, h8, h⟩ := bindI h
            refine SW.callVi (pc := 76) g (dt dt_X11_autumnGoes 39 rfl) (mt_f_m_draws _ _ _ _ ad ν   N r5.2 (r5.2 63 23) r7 h8) me_X11_draws mv_X11_draws ml_X11_435 cell_63 rfl rfl (Nat.le_of_ble_eq_true rfl) (Nat.le_of_ble_eq_true rfl) (Nat.le_of_ble_eq_true rfl) (Nat.le_of_ble_eq_true rfl) rfl ?_
            obtain ⟨r9, h10, h⟩ := bindI h
            refine SW.callVi (pc := 79) g (dt dt_X11_autumnGoes 40 rfl) (mt_f_m_lifts _ _ _ _ ad ν   N r7.2 r1.1 r7.1 r9 h10) me_X11_lifts mv_X11_lifts ml_X11_359 cell_63 rfl rfl (Nat.le_of_ble_eq_true rfl) (Nat.le_of_ble_eq_true rfl) (Nat.le_of_ble_eq_true rfl) (Nat.le_of_ble_eq_true rfl) rfl ?_
            refine SW.pop (pc := 82) g (dt dt_X11_autumnGoes 41 rfl) rfl ?_
            refine SW.msk [true, false, true, true, true, false, true] ?_
            exact ok_f_m_autumnGoes_83  g hm  ho (f_m_autumnGoes_12 N   n) ih  r9.2 x2 x3 x4 r3.1 h
set_option maxRecDepth 100000 in
set_option maxHeartbeats 4000000 in
theorem ok_f_m_autumnGoes {G : sw_G} {ad : Nat → Nat} {ν : sw_N}   {N : Nat} {o : sw_M} (g : sw_ok G cX11_autumnGoes "DeadWiresModel" none 8 0 0 ad) (hm : G.2.2.1.2.1.maxLocals = 7)  (μ : sw_M) (ho : sw_out G 0 0 (fun a => a = ad) (.inl none) lay0 o ν) (a1 : Int32) (a2 : Int32) (a3 : Int32) (h : f_m_autumnGoes N  μ a1 a2 a3 = some o) : SW G ad lay0 ν 0 0 0 [some (.ref 63), some (.int a1), some (.int a2), some (.int a3), none, none, none] [] μ := by
  unfold f_m_autumnGoes at h
  refine SW.aload_n (pc := 0) g (dt dt_X11_autumnGoes 0 rfl) rfl ?_
  obtain ⟨r1, h2, h⟩ := bindI h
  refine SW.callVv (pc := 1) g (dt dt_X11_autumnGoes 1 rfl) (mt_f_m_take _ _ _ _ ad ν   N μ  r1 h2) me_X11_take mv_X11_take ml_X11_305 cell_63 rfl rfl (Nat.le_of_ble_eq_true rfl) (Nat.le_of_ble_eq_true rfl) (Nat.le_of_ble_eq_true rfl) (Nat.le_of_ble_eq_true rfl) rfl ?_
  refine SW.aload_n (pc := 4) g (dt dt_X11_autumnGoes 2 rfl) rfl ?_
  refine SW.iload_n (pc := 5) g (dt dt_X11_autumnGoes 3 rfl) rfl ?_
  refine SW.putI (pc := 6) g (dt dt_X11_autumnGoes 4 rfl) fl_X11_431 cell_63 rfl ?_
  refine SW.genM h (fun μ3 h => ?_)
  refine SW.iconst (pc := 9) (v := 0) g (dt dt_X11_autumnGoes 5 rfl) ki_0 ?_
  refine SW.istore (pc := 10) g (dt dt_X11_autumnGoes 6 rfl) (sw_ltm hm (Nat.le_of_ble_eq_true rfl)) rfl ?_
  refine SW.msk [true, false, true, true, true, false, false] ?_
  exact ok_f_m_autumnGoes_12  g hm  ho   N μ3 a2 a3 0 h
set_option maxRecDepth 100000 in
set_option maxHeartbeats 4000000 in
theorem mt_f_m_autumnGoes (l : Launch) (D : va_G) (cI cL : ClassId) (ad : Nat → Nat) (ν : sw_N)    (N : Nat) (μ : sw_M) (a1 : Int32) (a2 : Int32) (a3 : Int32) (o : sw_M) (h : f_m_autumnGoes N  μ a1 a2 a3 = some o) : MetR l D cI cL yX11_autumnGoes cX11_autumnGoes 7 none 8 0 0 (fun a => a = ad) ad [.ref 63, .int a1, .int a2, .int a3] lay0 μ ν none lay0 o ν :=
  MetR.of (n := 3) rfl (Nat.le_of_ble_eq_true rfl) (fun G g ho hm _ _ => ok_f_m_autumnGoes  g hm  μ ho a1 a2 a3 h)
def f_sm_isAutumn (N : Nat)  (μ : sw_M) (a0 : Int32) (a1 : Int32) : Option (Int32) :=
  if a0 < 0 then
    some 0
  else
    if 16 < a0 then
      some 0
    else
      if a1 < 1 then
        some 0
      else
        if 96 < a1 then
          some 0
        else
          some 1
set_option maxRecDepth 100000 in
set_option maxHeartbeats 4000000 in
theorem ok_f_sm_isAutumn {G : sw_G} {ad : Nat → Nat} {ν : sw_N} {L : sw_L}  {N : Nat} {o : Int32} (g : sw_ok G cX11_isAutumn "DeadWiresModel" (some .boolean) 1 0 0 ad) (hm : G.2.2.1.2.1.maxLocals = 2)  (μ : sw_M) (ho : sw_out G 0 0 (fun a => a = ad) (.inl (some (.int o))) L μ ν) (a0 : Int32) (a1 : Int32) (h : f_sm_isAutumn N  μ a0 a1 = some o) : SW G ad L ν 0 0 0 [some (.int a0), some (.int a1)] [] μ := by
  unfold f_sm_isAutumn at h
  refine SW.iload_n (pc := 0) g (dt dt_X11_isAutumn 0 rfl) rfl ?_
  refine SW.if_lt (pc := 1) (t := 25) g (dt dt_X11_isAutumn 1 rfl) rfl (fun hc => ?_) (fun hc => ?_)
  · have h := iteT hc h
    refine SW.iconst (pc := 25) (v := 0) g (dt dt_X11_isAutumn 13 rfl) ki_0 ?_
    exact SW.zreturn (pc := 26) g (leafI h ho) rfl (Nat.le_of_ble_eq_true rfl) (Nat.le_of_ble_eq_true rfl) (by decide) (dt dt_X11_isAutumn 14 rfl)
  · have h := iteF hc h
    refine SW.iload_n (pc := 4) g (dt dt_X11_isAutumn 2 rfl) rfl ?_
    refine SW.bipush (pc := 5) (v := 16) g (dt dt_X11_isAutumn 3 rfl) kb_16 ?_
    refine SW.icmp_gt (pc := 7) (t := 25) g (dt dt_X11_isAutumn 4 rfl) rfl (fun hc => ?_) (fun hc => ?_)
    · have h := iteT hc h
      refine SW.iconst (pc := 25) (v := 0) g (dt dt_X11_isAutumn 13 rfl) ki_0 ?_
      exact SW.zreturn (pc := 26) g (leafI h ho) rfl (Nat.le_of_ble_eq_true rfl) (Nat.le_of_ble_eq_true rfl) (by decide) (dt dt_X11_isAutumn 14 rfl)
    · have h := iteF hc h
      refine SW.iload_n (pc := 10) g (dt dt_X11_isAutumn 5 rfl) rfl ?_
      refine SW.iconst (pc := 11) (v := 1) g (dt dt_X11_isAutumn 6 rfl) ki_1 ?_
      refine SW.icmp_lt (pc := 12) (t := 25) g (dt dt_X11_isAutumn 7 rfl) rfl (fun hc => ?_) (fun hc => ?_)
      · have h := iteT hc h
        refine SW.iconst (pc := 25) (v := 0) g (dt dt_X11_isAutumn 13 rfl) ki_0 ?_
        exact SW.zreturn (pc := 26) g (leafI h ho) rfl (Nat.le_of_ble_eq_true rfl) (Nat.le_of_ble_eq_true rfl) (by decide) (dt dt_X11_isAutumn 14 rfl)
      · have h := iteF hc h
        refine SW.iload_n (pc := 15) g (dt dt_X11_isAutumn 8 rfl) rfl ?_
        refine SW.bipush (pc := 16) (v := 96) g (dt dt_X11_isAutumn 9 rfl) kb_96 ?_
        refine SW.icmp_gt (pc := 18) (t := 25) g (dt dt_X11_isAutumn 10 rfl) rfl (fun hc => ?_) (fun hc => ?_)
        · have h := iteT hc h
          refine SW.iconst (pc := 25) (v := 0) g (dt dt_X11_isAutumn 13 rfl) ki_0 ?_
          exact SW.zreturn (pc := 26) g (leafI h ho) rfl (Nat.le_of_ble_eq_true rfl) (Nat.le_of_ble_eq_true rfl) (by decide) (dt dt_X11_isAutumn 14 rfl)
        · have h := iteF hc h
          refine SW.iconst (pc := 21) (v := 1) g (dt dt_X11_isAutumn 11 rfl) ki_1 ?_
          refine SW.goto (pc := 22) (t := 26) g (dt dt_X11_isAutumn 12 rfl) rfl ?_
          exact SW.zreturn (pc := 26) g (leafI h ho) rfl (Nat.le_of_ble_eq_true rfl) (Nat.le_of_ble_eq_true rfl) (by decide) (dt dt_X11_isAutumn 14 rfl)
set_option maxRecDepth 100000 in
set_option maxHeartbeats 4000000 in
theorem mt_f_sm_isAutumn (l : Launch) (D : va_G) (cI cL : ClassId) (ad : Nat → Nat) (ν : sw_N) (L : sw_L)   (N : Nat) (μ : sw_M) (a0 : Int32) (a1 : Int32) (o : Int32) (h : f_sm_isAutumn N  μ a0 a1 = some o) : MetR l D cI cL yX11_isAutumn cX11_isAutumn 2 (some .boolean) 1 0 0 (fun a => a = ad) ad [.int a0, .int a1] L μ ν (some (.int o)) L μ ν :=
  MetR.of (n := 0) rfl (Nat.le_of_ble_eq_true rfl) (fun G g ho hm _ _ => ok_f_sm_isAutumn  g hm  μ ho a0 a1 h)
def f_m_autumn_29 (N : Nat)   (μ : sw_M) (x1 : Int32) (x2 : Int32) (x3 : Int32) (x4 : Int32) (s0 : Int32) : Option (Int32 × sw_M) :=
  Option.bind (f_m_may N  μ s0 1 1) (fun r1 =>
    if r1.1 = 0 then
      some (0, r1.2)
    else
      Option.bind (f_m_autumnGoes N  r1.2 x1 x2 x3) (fun r3 =>
        if x4 = 0 then
          inb 47 49 (
            inb 47 49 (
              some ((r3 81 (47 : Int32).toNatClampNeg) - (r3 80 (47 : Int32).toNatClampNeg), r3)))
        else
          if x4 = 1 then
            Option.bind (f_m_carried N  r3 ) (fun r9 =>
              some (r9, r3))
          else
            if x4 = 2 then
              Option.bind (f_m_liveIn N  r3 0) (fun r7 =>
                some (r7, r3))
            else
              Option.bind (f_m_tiredAll N  r3 ) (fun r5 =>
                some (r5, r3))))
def f_m_autumn_28 (N : Nat)   (μ : sw_M) (x1 : Int32) (x2 : Int32) (x3 : Int32) (x4 : Int32) : Option (Int32 × sw_M) :=
  f_m_autumn_29 N    μ x1 x2 x3 x4 0
def f_m_autumn (N : Nat)  (μ : sw_M) (a1 : Int32) (a2 : Int32) (a3 : Int32) (a4 : Int32) : Option (Int32 × sw_M) :=
  wb (wr μ 63 0 0) (fun μ1 =>
    Option.bind (f_sm_isAutumn N  μ1 a2 a3) (fun r2 =>
      if r2 = 0 then
        f_m_autumn_28 N    μ1 a1 a2 a3 a4
      else
        Option.bind (f_sm_within N  μ1 a4 0 3) (fun r4 =>
          if r4 = 0 then
            f_m_autumn_28 N    μ1 a1 a2 a3 a4
          else
            f_m_autumn_29 N    μ1 a1 a2 a3 a4 1)))
set_option maxRecDepth 100000 in
set_option maxHeartbeats 4000000 in
theorem ok_f_m_autumn_29 {G : sw_G} {ad : Nat → Nat} {ν : sw_N}   {N : Nat} {o : Int32 × sw_M} (g : sw_ok G cX11_autumn "DeadWiresModel" (some .int) 9 0 0 ad) (hm : G.2.2.1.2.1.maxLocals = 5)  (ho : sw_out G 0 0 (fun a => a = ad) (.inl (some (.int o.1))) lay0 o.2 ν)  (μ : sw_M) (x1 : Int32) (x2 : Int32) (x3 : Int32) (x4 : Int32) (s0 : Int32) (h : f_m_autumn_29 N    μ x1 x2 x3 x4 s0 = some o) : SW G ad lay0 ν 0 0 29 [some (.ref 63), some (.int x1), some (.int x2), some (.int x3), some (.int x4)] [.int s0, .ref 63] μ := by
  unfold f_m_autumn_29 at h
  refine SW.iconst (pc := 29) (v := 1) g (dt dt_X11_autumn 16 rfl) ki_1 ?_
  refine SW.iconst (pc := 30) (v := 1) g (dt dt_X11_autumn 17 rfl) ki_1 ?_
  obtain ⟨r1, h2, h⟩ := bindI h
  refine SW.callVi (pc := 31) g (dt dt_X11_autumn 18 rfl) (mt_f_m_may _ _ _ _ ad ν   N μ s0 1 1 r1 h2) me_X11_may mv_X11_may ml_X11_204 cell_63 rfl rfl (Nat.le_of_ble_eq_true rfl) (Nat.le_of_ble_eq_true rfl) (Nat.le_of_ble_eq_true rfl) (Nat.le_of_ble_eq_true rfl) rfl ?_
  refine SW.if_ne (pc := 34) (t := 39) g (dt dt_X11_autumn 19 rfl) rfl (fun hc => ?_) (fun hc => ?_)
  · have h := iteF hc h
    refine SW.aload_n (pc := 39) g (dt dt_X11_autumn 22 rfl) rfl ?_
    refine SW.iload_n (pc := 40) g (dt dt_X11_autumn 23 rfl) rfl ?_
    refine SW.iload_n (pc := 41) g (dt dt_X11_autumn 24 rfl) rfl ?_
    refine SW.iload_n (pc := 42) g (dt dt_X11_autumn 25 rfl) rfl ?_
    obtain ⟨r3, h4, h⟩ := bindI h
    refine SW.callVv (pc := 43) g (dt dt_X11_autumn 26 rfl) (mt_f_m_autumnGoes _ _ _ _ ad ν   N r1.2 x1 x2 x3 r3 h4) me_X11_autumnGoes mv_X11_autumnGoes ml_X11_441 cell_63 rfl rfl (Nat.le_of_ble_eq_true rfl) (Nat.le_of_ble_eq_true rfl) (Nat.le_of_ble_eq_true rfl) (Nat.le_of_ble_eq_true rfl) rfl ?_
    refine SW.iload (pc := 46) g (dt dt_X11_autumn 27 rfl) rfl ?_
    refine SW.if_ne (pc := 48) (t := 69) g (dt dt_X11_autumn 28 rfl) rfl (fun hc => ?_) (fun hc => ?_)
    · have h := iteF hc h
      refine SW.iload (pc := 69) g (dt dt_X11_autumn 39 rfl) rfl ?_
      refine SW.iconst (pc := 71) (v := 1) g (dt dt_X11_autumn 40 rfl) ki_1 ?_
      refine SW.icmp_ne (pc := 72) (t := 82) g (dt dt_X11_autumn 41 rfl) rfl (fun hc => ?_) (fun hc => ?_)
      · have h := iteF hc h
        refine SW.iload (pc := 82) g (dt dt_X11_autumn 45 rfl) rfl ?_
        refine SW.iconst (pc := 84) (v := 2) g (dt dt_X11_autumn 46 rfl) ki_2 ?_
        refine SW.icmp_ne (pc := 85) (t := 96) g (dt dt_X11_autumn 47 rfl) rfl (fun hc => ?_) (fun hc => ?_)
        · have h := iteF hc h
          refine SW.aload_n (pc := 96) g (dt dt_X11_autumn 52 rfl) rfl ?_
          obtain ⟨r5, h6, h⟩ := bindI h
          refine SW.callVi (pc := 97) g (dt dt_X11_autumn 53 rfl) (mt_f_m_tiredAll _ _ _ _ ad ν   N r3  r5 h6) me_X11_tiredAll mv_X11_tiredAll ml_X11_401 cell_63 rfl rfl (Nat.le_of_ble_eq_true rfl) (Nat.le_of_ble_eq_true rfl) (Nat.le_of_ble_eq_true rfl) (Nat.le_of_ble_eq_true rfl) rfl ?_
          exact SW.ireturn (pc := 100) g (leafW h ho) rfl (Nat.le_of_ble_eq_true rfl) (Nat.le_of_ble_eq_true rfl) (dt dt_X11_autumn 54 rfl)
        · have h := iteT hc h
          refine SW.aload_n (pc := 88) g (dt dt_X11_autumn 48 rfl) rfl ?_
          refine SW.iconst (pc := 89) (v := 0) g (dt dt_X11_autumn 49 rfl) ki_0 ?_
          obtain ⟨r7, h8, h⟩ := bindI h
          refine SW.callVi (pc := 90) g (dt dt_X11_autumn 50 rfl) (mt_f_m_liveIn _ _ _ _ ad ν   N r3 0 r7 h8) me_X11_liveIn mv_X11_liveIn ml_X11_377 cell_63 rfl rfl (Nat.le_of_ble_eq_true rfl) (Nat.le_of_ble_eq_true rfl) (Nat.le_of_ble_eq_true rfl) (Nat.le_of_ble_eq_true rfl) rfl ?_
          refine SW.goto (pc := 93) (t := 100) g (dt dt_X11_autumn 51 rfl) rfl ?_
          exact SW.ireturn (pc := 100) g (leafW h ho) rfl (Nat.le_of_ble_eq_true rfl) (Nat.le_of_ble_eq_true rfl) (dt dt_X11_autumn 54 rfl)
      · have h := iteT hc h
        refine SW.aload_n (pc := 75) g (dt dt_X11_autumn 42 rfl) rfl ?_
        obtain ⟨r9, h10, h⟩ := bindI h
        refine SW.callVi (pc := 76) g (dt dt_X11_autumn 43 rfl) (mt_f_m_carried _ _ _ _ ad ν   N r3  r9 h10) me_X11_carried mv_X11_carried ml_X11_383 cell_63 rfl rfl (Nat.le_of_ble_eq_true rfl) (Nat.le_of_ble_eq_true rfl) (Nat.le_of_ble_eq_true rfl) (Nat.le_of_ble_eq_true rfl) rfl ?_
        refine SW.goto (pc := 79) (t := 100) g (dt dt_X11_autumn 44 rfl) rfl ?_
        exact SW.ireturn (pc := 100) g (leafW h ho) rfl (Nat.le_of_ble_eq_true rfl) (Nat.le_of_ble_eq_true rfl) (dt dt_X11_autumn 54 rfl)
    · have h := iteT hc h
      refine SW.aload_n (pc := 51) g (dt dt_X11_autumn 29 rfl) rfl ?_
      refine SW.getR (pc := 52) g (dt dt_X11_autumn 30 rfl) fl_X11_68 cell_63 rfl ?_
      refine SW.bipush (pc := 55) (v := 47) g (dt dt_X11_autumn 31 rfl) kb_47 ?_
      obtain ⟨hb11, h⟩ := inbI h
      refine SW.iaload (pc := 57) g (dt dt_X11_autumn 32 rfl) cell_81 hb11 ?_
      refine SW.aload_n (pc := 58) g (dt dt_X11_autumn 33 rfl) rfl ?_
      refine SW.getR (pc := 59) g (dt dt_X11_autumn 34 rfl) fl_X11_65 cell_63 rfl ?_
      refine SW.bipush (pc := 62) (v := 47) g (dt dt_X11_autumn 35 rfl) kb_47 ?_
      obtain ⟨hb12, h⟩ := inbI h
      refine SW.iaload (pc := 64) g (dt dt_X11_autumn 36 rfl) cell_80 hb12 ?_
      refine SW.isub (pc := 65) g (dt dt_X11_autumn 37 rfl) ?_
      refine SW.goto (pc := 66) (t := 100) g (dt dt_X11_autumn 38 rfl) rfl ?_
      exact SW.ireturn (pc := 100) g (leafW h ho) rfl (Nat.le_of_ble_eq_true rfl) (Nat.le_of_ble_eq_true rfl) (dt dt_X11_autumn 54 rfl)
  · have h := iteT hc h
    refine SW.iconst (pc := 37) (v := 0) g (dt dt_X11_autumn 20 rfl) ki_0 ?_
    exact SW.ireturn (pc := 38) g (leafW h ho) rfl (Nat.le_of_ble_eq_true rfl) (Nat.le_of_ble_eq_true rfl) (dt dt_X11_autumn 21 rfl)
set_option maxRecDepth 100000 in
set_option maxHeartbeats 4000000 in
theorem ok_f_m_autumn_28 {G : sw_G} {ad : Nat → Nat} {ν : sw_N}   {N : Nat} {o : Int32 × sw_M} (g : sw_ok G cX11_autumn "DeadWiresModel" (some .int) 9 0 0 ad) (hm : G.2.2.1.2.1.maxLocals = 5)  (ho : sw_out G 0 0 (fun a => a = ad) (.inl (some (.int o.1))) lay0 o.2 ν)  (μ : sw_M) (x1 : Int32) (x2 : Int32) (x3 : Int32) (x4 : Int32) (h : f_m_autumn_28 N    μ x1 x2 x3 x4 = some o) : SW G ad lay0 ν 0 0 28 [some (.ref 63), some (.int x1), some (.int x2), some (.int x3), some (.int x4)] [.ref 63] μ := by
  unfold f_m_autumn_28 at h
  refine SW.iconst (pc := 28) (v := 0) g (dt dt_X11_autumn 15 rfl) ki_0 ?_
  refine SW.msk [true, true, true, true, true] ?_
  exact ok_f_m_autumn_29  g hm  ho    μ x1 x2 x3 x4 0 h
set_option maxRecDepth 100000 in
set_option maxHeartbeats 4000000 in
theorem ok_f_m_autumn {G : sw_G} {ad : Nat → Nat} {ν : sw_N}   {N : Nat} {o : Int32 × sw_M} (g : sw_ok G cX11_autumn "DeadWiresModel" (some .int) 9 0 0 ad) (hm : G.2.2.1.2.1.maxLocals = 5)  (μ : sw_M) (ho : sw_out G 0 0 (fun a => a = ad) (.inl (some (.int o.1))) lay0 o.2 ν) (a1 : Int32) (a2 : Int32) (a3 : Int32) (a4 : Int32) (h : f_m_autumn N  μ a1 a2 a3 a4 = some o) : SW G ad lay0 ν 0 0 0 [some (.ref 63), some (.int a1), some (.int a2), some (.int a3), some (.int a4)] [] μ := by
  unfold f_m_autumn at h
  refine SW.aload_n (pc := 0) g (dt dt_X11_autumn 0 rfl) rfl ?_
  refine SW.iconst (pc := 1) (v := 0) g (dt dt_X11_autumn 1 rfl) ki_0 ?_
  refine SW.putI (pc := 2) g (dt dt_X11_autumn 2 rfl) fl_X11_3 cell_63 rfl ?_
  refine SW.genM h (fun μ1 h => ?_)
  refine SW.aload_n (pc := 5) g (dt dt_X11_autumn 3 rfl) rfl ?_
  refine SW.iload_n (pc := 6) g (dt dt_X11_autumn 4 rfl) rfl ?_
  refine SW.iload_n (pc := 7) g (dt dt_X11_autumn 5 rfl) rfl ?_
  obtain ⟨r2, h3, h⟩ := bindI h
  refine SW.callSi (pc := 8) g (dt dt_X11_autumn 6 rfl) (mt_f_sm_isAutumn _ _ _ _ ad ν lay0   N μ1 a2 a3 r2 h3) me_X11_isAutumn ms_X11_isAutumn ml_X11_438 rfl (Nat.le_of_ble_eq_true rfl) (Nat.le_of_ble_eq_true rfl) (Nat.le_of_ble_eq_true rfl) (Nat.le_of_ble_eq_true rfl) rfl ?_
  refine SW.if_eq (pc := 11) (t := 28) g (dt dt_X11_autumn 7 rfl) rfl (fun hc => ?_) (fun hc => ?_)
  · have h := iteT hc h
    refine SW.msk [true, true, true, true, true] ?_
    exact ok_f_m_autumn_28  g hm  ho    μ1 a1 a2 a3 a4 h
  · have h := iteF hc h
    refine SW.iload (pc := 14) g (dt dt_X11_autumn 8 rfl) rfl ?_
    refine SW.iconst (pc := 16) (v := 0) g (dt dt_X11_autumn 9 rfl) ki_0 ?_
    refine SW.iconst (pc := 17) (v := 3) g (dt dt_X11_autumn 10 rfl) ki_3 ?_
    obtain ⟨r4, h5, h⟩ := bindI h
    refine SW.callSi (pc := 18) g (dt dt_X11_autumn 11 rfl) (mt_f_sm_within _ _ _ _ ad ν lay0   N μ1 a4 0 3 r4 h5) me_X11_within ms_X11_within ml_X11_374 rfl (Nat.le_of_ble_eq_true rfl) (Nat.le_of_ble_eq_true rfl) (Nat.le_of_ble_eq_true rfl) (Nat.le_of_ble_eq_true rfl) rfl ?_
    refine SW.if_eq (pc := 21) (t := 28) g (dt dt_X11_autumn 12 rfl) rfl (fun hc => ?_) (fun hc => ?_)
    · have h := iteT hc h
      refine SW.msk [true, true, true, true, true] ?_
      exact ok_f_m_autumn_28  g hm  ho    μ1 a1 a2 a3 a4 h
    · have h := iteF hc h
      refine SW.iconst (pc := 24) (v := 1) g (dt dt_X11_autumn 13 rfl) ki_1 ?_
      refine SW.goto (pc := 25) (t := 29) g (dt dt_X11_autumn 14 rfl) rfl ?_
      refine SW.msk [true, true, true, true, true] ?_
      exact ok_f_m_autumn_29  g hm  ho    μ1 a1 a2 a3 a4 1 h
set_option maxRecDepth 100000 in
set_option maxHeartbeats 4000000 in
theorem mt_f_m_autumn (l : Launch) (D : va_G) (cI cL : ClassId) (ad : Nat → Nat) (ν : sw_N)    (N : Nat) (μ : sw_M) (a1 : Int32) (a2 : Int32) (a3 : Int32) (a4 : Int32) (o : Int32 × sw_M) (h : f_m_autumn N  μ a1 a2 a3 a4 = some o) : MetR l D cI cL yX11_autumn cX11_autumn 5 (some .int) 9 0 0 (fun a => a = ad) ad [.ref 63, .int a1, .int a2, .int a3, .int a4] lay0 μ ν (some (.int o.1)) lay0 o.2 ν :=
  MetR.of (n := 0) rfl (Nat.le_of_ble_eq_true rfl) (fun G g ho hm _ _ => ok_f_m_autumn  g hm  μ ho a1 a2 a3 a4 h)
def f_m_span_179 (N : Nat)  (k_77 : sw_M → Int32 → Int32 → Int32 → Int32 → Int32 → Int32 → Int32 → Int32 → Int32 → Int32 → Option (Int32 × sw_M)) (μ : sw_M) (x1 : Int32) (x2 : Int32) (x3 : Int32) (x4 : Int32) (x5 : Int32) (x6 : Int32) (x7 : Int32) (x8 : Int32) (x10 : Int32) (s0 : Int32) (s1 : Int32) : Option (Int32 × sw_M) :=
  ib (s1 + s0) (fun y1 =>
    k_77 μ x1 x2 x3 x4 x5 x6 x7 x8 y1 (x10 + 1))
def f_m_span_147 (N : Nat)  (k_77 : sw_M → Int32 → Int32 → Int32 → Int32 → Int32 → Int32 → Int32 → Int32 → Int32 → Int32 → Option (Int32 × sw_M)) (μ : sw_M) (x1 : Int32) (x2 : Int32) (x3 : Int32) (x4 : Int32) (x5 : Int32) (x6 : Int32) (x7 : Int32) (x9 : Int32) (x10 : Int32) (s0 : Int32) : Option (Int32 × sw_M) :=
  inb ((36 : Int32) + x6) 49 (
    inb ((36 : Int32) + x6) 49 (
      if (μ 81 ((36 : Int32) + x6).toNatClampNeg) = (μ 80 ((36 : Int32) + x6).toNatClampNeg) then
        f_m_span_179 N  k_77  μ x1 x2 x3 x4 x5 x6 x7 s0 x10 0 x9
      else
        f_m_span_179 N  k_77  μ x1 x2 x3 x4 x5 x6 x7 s0 x10 1 x9))
def f_m_span_131 (N : Nat)  (k_77 : sw_M → Int32 → Int32 → Int32 → Int32 → Int32 → Int32 → Int32 → Int32 → Int32 → Int32 → Option (Int32 × sw_M)) (μ : sw_M) (x1 : Int32) (x2 : Int32) (x3 : Int32) (x4 : Int32) (x5 : Int32) (x6 : Int32) (x8 : Int32) (x9 : Int32) (x10 : Int32) (x11 : Int32) (s0 : Int32) : Option (Int32 × sw_M) :=
  if x11 ≤ x8 then
    f_m_span_147 N  k_77  μ x1 x2 x3 x4 x5 x6 s0 x9 x10 x8
  else
    f_m_span_147 N  k_77  μ x1 x2 x3 x4 x5 x6 s0 x9 x10 x11
def f_m_span_124 (N : Nat)  (k_77 : sw_M → Int32 → Int32 → Int32 → Int32 → Int32 → Int32 → Int32 → Int32 → Int32 → Int32 → Option (Int32 × sw_M)) (μ : sw_M) (x1 : Int32) (x2 : Int32) (x3 : Int32) (x4 : Int32) (x5 : Int32) (x6 : Int32) (x8 : Int32) (x9 : Int32) (x10 : Int32) (x11 : Int32) : Option (Int32 × sw_M) :=
  f_m_span_131 N  k_77  μ x1 x2 x3 x4 x5 x6 x8 x9 x10 x11 x11
def f_m_span_77 (N : Nat)   : Nat → sw_M → Int32 → Int32 → Int32 → Int32 → Int32 → Int32 → Int32 → Int32 → Int32 → Int32 → Option (Int32 × sw_M)
  | 0, _, _, _, _, _, _, _, _, _, _, _ => none
  | n + 1, μ, x1, x2, x3, x4, x5, x6, x7, x8, x9, x10 =>
    if x2 ≤ x10 then
      if x5 = 0 then
        some (x7, μ)
      else
        if x5 = 1 then
          some (x8, μ)
        else
          some (x9, μ)
    else
      Option.bind (f_m_autumnGoes N  μ (x1 + x10) x3 x4) (fun r1 =>
        inb 47 49 (
          inb 47 49 (
            ib ((r1 81 (47 : Int32).toNatClampNeg) - (r1 80 (47 : Int32).toNatClampNeg)) (fun y5 =>
              if x7 = (-1) then
                f_m_span_124 N  (f_m_span_77 N   n)  r1 x1 x2 x3 x4 x5 x6 x8 x9 x10 y5
              else
                if x7 ≤ y5 then
                  f_m_span_131 N  (f_m_span_77 N   n)  r1 x1 x2 x3 x4 x5 x6 x8 x9 x10 y5 x7
                else
                  f_m_span_124 N  (f_m_span_77 N   n)  r1 x1 x2 x3 x4 x5 x6 x8 x9 x10 y5))))
def f_m_span_55 (N : Nat)   (μ : sw_M) (x1 : Int32) (x2 : Int32) (x3 : Int32) (x4 : Int32) (x5 : Int32) (x6 : Int32) (s0 : Int32) : Option (Int32 × sw_M) :=
  Option.bind (f_m_may N  μ s0 1 1) (fun r1 =>
    if r1.1 = 0 then
      some (0, r1.2)
    else
      f_m_span_77 N   N r1.2 x1 x2 x3 x4 x5 x6 (-1) 0 0 0)
def f_m_span_54 (N : Nat)   (μ : sw_M) (x1 : Int32) (x2 : Int32) (x3 : Int32) (x4 : Int32) (x5 : Int32) (x6 : Int32) : Option (Int32 × sw_M) :=
  f_m_span_55 N    μ x1 x2 x3 x4 x5 x6 0
def f_m_span (N : Nat)  (μ : sw_M) (a1 : Int32) (a2 : Int32) (a3 : Int32) (a4 : Int32) (a5 : Int32) (a6 : Int32) : Option (Int32 × sw_M) :=
  wb (wr μ 63 0 0) (fun μ1 =>
    Option.bind (f_sm_within N  μ1 a2 1 20) (fun r2 =>
      if r2 = 0 then
        f_m_span_54 N    μ1 a1 a2 a3 a4 a5 a6
      else
        Option.bind (f_sm_isAutumn N  μ1 a3 a4) (fun r4 =>
          if r4 = 0 then
            f_m_span_54 N    μ1 a1 a2 a3 a4 a5 a6
          else
            Option.bind (f_sm_within N  μ1 a5 0 2) (fun r6 =>
              if r6 = 0 then
                f_m_span_54 N    μ1 a1 a2 a3 a4 a5 a6
              else
                Option.bind (f_sm_within N  μ1 a6 0 ((μ1 63 24) - 1)) (fun r8 =>
                  if r8 = 0 then
                    f_m_span_54 N    μ1 a1 a2 a3 a4 a5 a6
                  else
                    f_m_span_55 N    μ1 a1 a2 a3 a4 a5 a6 1)))))
set_option maxRecDepth 100000 in
set_option maxHeartbeats 4000000 in
theorem ok_f_m_span_179 {G : sw_G} {ad : Nat → Nat} {ν : sw_N}   {N : Nat} {o : Int32 × sw_M} (g : sw_ok G cX11_span "DeadWiresModel" (some .int) 9 0 0 ad) (hm : G.2.2.1.2.1.maxLocals = 12)  (ho : sw_out G 0 0 (fun a => a = ad) (.inl (some (.int o.1))) lay0 o.2 ν) (k_77 : sw_M → Int32 → Int32 → Int32 → Int32 → Int32 → Int32 → Int32 → Int32 → Int32 → Int32 → Option (Int32 × sw_M)) (hk_77 : ∀ (μ : sw_M) (x1 : Int32) (x2 : Int32) (x3 : Int32) (x4 : Int32) (x5 : Int32) (x6 : Int32) (x7 : Int32) (x8 : Int32) (x9 : Int32) (x10 : Int32), k_77 μ x1 x2 x3 x4 x5 x6 x7 x8 x9 x10 = some o → SW G ad lay0 ν 0 0 77 [some (.ref 63), some (.int x1), some (.int x2), some (.int x3), some (.int x4), some (.int x5), some (.int x6), some (.int x7), some (.int x8), some (.int x9), some (.int x10), none] [] μ) (μ : sw_M) (x1 : Int32) (x2 : Int32) (x3 : Int32) (x4 : Int32) (x5 : Int32) (x6 : Int32) (x7 : Int32) (x8 : Int32) (x10 : Int32) (s0 : Int32) (s1 : Int32) (h : f_m_span_179 N  k_77  μ x1 x2 x3 x4 x5 x6 x7 x8 x10 s0 s1 = some o) : SW G ad lay0 ν 0 0 179 [some (.ref 63), some (.int x1), some (.int x2), some (.int x3), some (.int x4), some (.int x5), some (.int x6), some (.int x7), some (.int x8), none, some (.int x10), none] [.int s0, .int s1] μ := by
  unfold f_m_span_179 at h
  refine SW.iadd (pc := 179) g (dt dt_X11_span 97 rfl) ?_
  refine SW.istore (pc := 180) g (dt dt_X11_span 98 rfl) (sw_ltm hm (Nat.le_of_ble_eq_true rfl)) rfl ?_
  refine SW.genL h (fun y1 h => ?_)
  refine SW.iinc (pc := 182) (v := x10 + 1) g (dt dt_X11_span 99 rfl) rfl (kn_1 _) (sw_ltm hm (Nat.le_of_ble_eq_true rfl)) rfl ?_
  refine SW.goto (pc := 185) (t := 77) g (dt dt_X11_span 100 rfl) rfl ?_
  refine SW.msk [true, true, true, true, true, true, true, true, true, true, true, false] ?_
  exact hk_77 μ x1 x2 x3 x4 x5 x6 x7 x8 y1 (x10 + 1) h
set_option maxRecDepth 100000 in
set_option maxHeartbeats 4000000 in
theorem ok_f_m_span_147 {G : sw_G} {ad : Nat → Nat} {ν : sw_N}   {N : Nat} {o : Int32 × sw_M} (g : sw_ok G cX11_span "DeadWiresModel" (some .int) 9 0 0 ad) (hm : G.2.2.1.2.1.maxLocals = 12)  (ho : sw_out G 0 0 (fun a => a = ad) (.inl (some (.int o.1))) lay0 o.2 ν) (k_77 : sw_M → Int32 → Int32 → Int32 → Int32 → Int32 → Int32 → Int32 → Int32 → Int32 → Int32 → Option (Int32 × sw_M)) (hk_77 : ∀ (μ : sw_M) (x1 : Int32) (x2 : Int32) (x3 : Int32) (x4 : Int32) (x5 : Int32) (x6 : Int32) (x7 : Int32) (x8 : Int32) (x9 : Int32) (x10 : Int32), k_77 μ x1 x2 x3 x4 x5 x6 x7 x8 x9 x10 = some o → SW G ad lay0 ν 0 0 77 [some (.ref 63), some (.int x1), some (.int x2), some (.int x3), some (.int x4), some (.int x5), some (.int x6), some (.int x7), some (.int x8), some (.int x9), some (.int x10), none] [] μ) (μ : sw_M) (x1 : Int32) (x2 : Int32) (x3 : Int32) (x4 : Int32) (x5 : Int32) (x6 : Int32) (x7 : Int32) (x9 : Int32) (x10 : Int32) (s0 : Int32) (h : f_m_span_147 N  k_77  μ x1 x2 x3 x4 x5 x6 x7 x9 x10 s0 = some o) : SW G ad lay0 ν 0 0 147 [some (.ref 63), some (.int x1), some (.int x2), some (.int x3), some (.int x4), some (.int x5), some (.int x6), some (.int x7), none, some (.int x9), some (.int x10), none] [.int s0] μ := by
  unfold f_m_span_147 at h
  refine SW.istore (pc := 147) g (dt dt_X11_span 79 rfl) (sw_ltm hm (Nat.le_of_ble_eq_true rfl)) rfl ?_
  refine SW.iload (pc := 149) g (dt dt_X11_span 80 rfl) rfl ?_
  refine SW.aload_n (pc := 151) g (dt dt_X11_span 81 rfl) rfl ?_
  refine SW.getR (pc := 152) g (dt dt_X11_span 82 rfl) fl_X11_68 cell_63 rfl ?_
  refine SW.bipush (pc := 155) (v := 36) g (dt dt_X11_span 83 rfl) kb_36 ?_
  refine SW.iload (pc := 157) g (dt dt_X11_span 84 rfl) rfl ?_
  refine SW.iadd (pc := 159) g (dt dt_X11_span 85 rfl) ?_
  obtain ⟨hb1, h⟩ := inbI h
  refine SW.iaload (pc := 160) g (dt dt_X11_span 86 rfl) cell_81 hb1 ?_
  refine SW.aload_n (pc := 161) g (dt dt_X11_span 87 rfl) rfl ?_
  refine SW.getR (pc := 162) g (dt dt_X11_span 88 rfl) fl_X11_65 cell_63 rfl ?_
  refine SW.bipush (pc := 165) (v := 36) g (dt dt_X11_span 89 rfl) kb_36 ?_
  refine SW.iload (pc := 167) g (dt dt_X11_span 90 rfl) rfl ?_
  refine SW.iadd (pc := 169) g (dt dt_X11_span 91 rfl) ?_
  obtain ⟨hb2, h⟩ := inbI h
  refine SW.iaload (pc := 170) g (dt dt_X11_span 92 rfl) cell_80 hb2 ?_
  refine SW.icmp_ne (pc := 171) (t := 178) g (dt dt_X11_span 93 rfl) rfl (fun hc => ?_) (fun hc => ?_)
  · have h := iteF hc h
    refine SW.iconst (pc := 178) (v := 1) g (dt dt_X11_span 96 rfl) ki_1 ?_
    refine SW.msk [true, true, true, true, true, true, true, true, true, false, true, false] ?_
    exact ok_f_m_span_179  g hm  ho k_77 hk_77  μ x1 x2 x3 x4 x5 x6 x7 s0 x10 1 x9 h
  · have h := iteT hc h
    refine SW.iconst (pc := 174) (v := 0) g (dt dt_X11_span 94 rfl) ki_0 ?_
    refine SW.goto (pc := 175) (t := 179) g (dt dt_X11_span 95 rfl) rfl ?_
    refine SW.msk [true, true, true, true, true, true, true, true, true, false, true, false] ?_
    exact ok_f_m_span_179  g hm  ho k_77 hk_77  μ x1 x2 x3 x4 x5 x6 x7 s0 x10 0 x9 h
set_option maxRecDepth 100000 in
set_option maxHeartbeats 4000000 in
theorem ok_f_m_span_131 {G : sw_G} {ad : Nat → Nat} {ν : sw_N}   {N : Nat} {o : Int32 × sw_M} (g : sw_ok G cX11_span "DeadWiresModel" (some .int) 9 0 0 ad) (hm : G.2.2.1.2.1.maxLocals = 12)  (ho : sw_out G 0 0 (fun a => a = ad) (.inl (some (.int o.1))) lay0 o.2 ν) (k_77 : sw_M → Int32 → Int32 → Int32 → Int32 → Int32 → Int32 → Int32 → Int32 → Int32 → Int32 → Option (Int32 × sw_M)) (hk_77 : ∀ (μ : sw_M) (x1 : Int32) (x2 : Int32) (x3 : Int32) (x4 : Int32) (x5 : Int32) (x6 : Int32) (x7 : Int32) (x8 : Int32) (x9 : Int32) (x10 : Int32), k_77 μ x1 x2 x3 x4 x5 x6 x7 x8 x9 x10 = some o → SW G ad lay0 ν 0 0 77 [some (.ref 63), some (.int x1), some (.int x2), some (.int x3), some (.int x4), some (.int x5), some (.int x6), some (.int x7), some (.int x8), some (.int x9), some (.int x10), none] [] μ) (μ : sw_M) (x1 : Int32) (x2 : Int32) (x3 : Int32) (x4 : Int32) (x5 : Int32) (x6 : Int32) (x8 : Int32) (x9 : Int32) (x10 : Int32) (x11 : Int32) (s0 : Int32) (h : f_m_span_131 N  k_77  μ x1 x2 x3 x4 x5 x6 x8 x9 x10 x11 s0 = some o) : SW G ad lay0 ν 0 0 131 [some (.ref 63), some (.int x1), some (.int x2), some (.int x3), some (.int x4), some (.int x5), some (.int x6), none, some (.int x8), some (.int x9), some (.int x10), some (.int x11)] [.int s0] μ := by
  unfold f_m_span_131 at h
  refine SW.istore (pc := 131) g (dt dt_X11_span 72 rfl) (sw_ltm hm (Nat.le_of_ble_eq_true rfl)) rfl ?_
  refine SW.iload (pc := 133) g (dt dt_X11_span 73 rfl) rfl ?_
  refine SW.iload (pc := 135) g (dt dt_X11_span 74 rfl) rfl ?_
  refine SW.icmp_le (pc := 137) (t := 145) g (dt dt_X11_span 75 rfl) rfl (fun hc => ?_) (fun hc => ?_)
  · have h := iteT hc h
    refine SW.iload (pc := 145) g (dt dt_X11_span 78 rfl) rfl ?_
    refine SW.msk [true, true, true, true, true, true, true, true, false, true, true, false] ?_
    exact ok_f_m_span_147  g hm  ho k_77 hk_77  μ x1 x2 x3 x4 x5 x6 s0 x9 x10 x8 h
  · have h := iteF hc h
    refine SW.iload (pc := 140) g (dt dt_X11_span 76 rfl) rfl ?_
    refine SW.goto (pc := 142) (t := 147) g (dt dt_X11_span 77 rfl) rfl ?_
    refine SW.msk [true, true, true, true, true, true, true, true, false, true, true, false] ?_
    exact ok_f_m_span_147  g hm  ho k_77 hk_77  μ x1 x2 x3 x4 x5 x6 s0 x9 x10 x11 h
set_option maxRecDepth 100000 in
set_option maxHeartbeats 4000000 in
theorem ok_f_m_span_124 {G : sw_G} {ad : Nat → Nat} {ν : sw_N}   {N : Nat} {o : Int32 × sw_M} (g : sw_ok G cX11_span "DeadWiresModel" (some .int) 9 0 0 ad) (hm : G.2.2.1.2.1.maxLocals = 12)  (ho : sw_out G 0 0 (fun a => a = ad) (.inl (some (.int o.1))) lay0 o.2 ν) (k_77 : sw_M → Int32 → Int32 → Int32 → Int32 → Int32 → Int32 → Int32 → Int32 → Int32 → Int32 → Option (Int32 × sw_M)) (hk_77 : ∀ (μ : sw_M) (x1 : Int32) (x2 : Int32) (x3 : Int32) (x4 : Int32) (x5 : Int32) (x6 : Int32) (x7 : Int32) (x8 : Int32) (x9 : Int32) (x10 : Int32), k_77 μ x1 x2 x3 x4 x5 x6 x7 x8 x9 x10 = some o → SW G ad lay0 ν 0 0 77 [some (.ref 63), some (.int x1), some (.int x2), some (.int x3), some (.int x4), some (.int x5), some (.int x6), some (.int x7), some (.int x8), some (.int x9), some (.int x10), none] [] μ) (μ : sw_M) (x1 : Int32) (x2 : Int32) (x3 : Int32) (x4 : Int32) (x5 : Int32) (x6 : Int32) (x8 : Int32) (x9 : Int32) (x10 : Int32) (x11 : Int32) (h : f_m_span_124 N  k_77  μ x1 x2 x3 x4 x5 x6 x8 x9 x10 x11 = some o) : SW G ad lay0 ν 0 0 124 [some (.ref 63), some (.int x1), some (.int x2), some (.int x3), some (.int x4), some (.int x5), some (.int x6), none, some (.int x8), some (.int x9), some (.int x10), some (.int x11)] [] μ := by
  unfold f_m_span_124 at h
  refine SW.iload (pc := 124) g (dt dt_X11_span 69 rfl) rfl ?_
  refine SW.goto (pc := 126) (t := 131) g (dt dt_X11_span 70 rfl) rfl ?_
  refine SW.msk [true, true, true, true, true, true, true, false, true, true, true, true] ?_
  exact ok_f_m_span_131  g hm  ho k_77 hk_77  μ x1 x2 x3 x4 x5 x6 x8 x9 x10 x11 x11 h
set_option maxRecDepth 100000 in
set_option maxHeartbeats 4000000 in
theorem ok_f_m_span_77 {G : sw_G} {ad : Nat → Nat} {ν : sw_N}   {N : Nat} {o : Int32 × sw_M} (g : sw_ok G cX11_span "DeadWiresModel" (some .int) 9 0 0 ad) (hm : G.2.2.1.2.1.maxLocals = 12)  (ho : sw_out G 0 0 (fun a => a = ad) (.inl (some (.int o.1))) lay0 o.2 ν)  : ∀ (n : Nat) (μ : sw_M) (x1 : Int32) (x2 : Int32) (x3 : Int32) (x4 : Int32) (x5 : Int32) (x6 : Int32) (x7 : Int32) (x8 : Int32) (x9 : Int32) (x10 : Int32) (h : f_m_span_77 N   n μ x1 x2 x3 x4 x5 x6 x7 x8 x9 x10 = some o), SW G ad lay0 ν 0 0 77 [some (.ref 63), some (.int x1), some (.int x2), some (.int x3), some (.int x4), some (.int x5), some (.int x6), some (.int x7), some (.int x8), some (.int x9), some (.int x10), none] [] μ := by
  intro n
  induction n with
  | zero => intro μ x1 x2 x3 x4 x5 x6 x7 x8 x9 x10 h; simp only [f_m_span_77] at h; cases h
  | succ n ih =>
    intro μ x1 x2 x3 x4 x5 x6 x7 x8 x9 x10 h
    unfold f_m_span_77 at h
    refine SW.iload (pc := 77) g (dt dt_X11_span 43 rfl) rfl ?_
    refine SW.iload_n (pc := 79) g (dt dt_X11_span 44 rfl) rfl ?_
    refine SW.icmp_ge (pc := 80) (t := 188) g (dt dt_X11_span 45 rfl) rfl (fun hc => ?_) (fun hc => ?_)
    · have h := iteT hc h
      refine SW.iload (pc := 188) g (dt dt_X11_span 101 rfl) rfl ?_
      refine SW.if_ne (pc := 190) (t := 198) g (dt dt_X11_span 102 rfl) rfl (fun hc => ?_) (fun hc => ?_)
      · have h := iteF hc h
        refine SW.iload (pc := 198) g (dt dt_X11_span 105 rfl) rfl ?_
        refine SW.iconst (pc := 200) (v := 1) g (dt dt_X11_span 106 rfl) ki_1 ?_
        refine SW.icmp_ne (pc := 201) (t := 209) g (dt dt_X11_span 107 rfl) rfl (fun hc => ?_) (fun hc => ?_)
        · have h := iteF hc h
          refine SW.iload (pc := 209) g (dt dt_X11_span 110 rfl) rfl ?_
          exact SW.ireturn (pc := 211) g (leafW h ho) rfl (Nat.le_of_ble_eq_true rfl) (Nat.le_of_ble_eq_true rfl) (dt dt_X11_span 111 rfl)
        · have h := iteT hc h
          refine SW.iload (pc := 204) g (dt dt_X11_span 108 rfl) rfl ?_
          refine SW.goto (pc := 206) (t := 211) g (dt dt_X11_span 109 rfl) rfl ?_
          exact SW.ireturn (pc := 211) g (leafW h ho) rfl (Nat.le_of_ble_eq_true rfl) (Nat.le_of_ble_eq_true rfl) (dt dt_X11_span 111 rfl)
      · have h := iteT hc h
        refine SW.iload (pc := 193) g (dt dt_X11_span 103 rfl) rfl ?_
        refine SW.goto (pc := 195) (t := 211) g (dt dt_X11_span 104 rfl) rfl ?_
        exact SW.ireturn (pc := 211) g (leafW h ho) rfl (Nat.le_of_ble_eq_true rfl) (Nat.le_of_ble_eq_true rfl) (dt dt_X11_span 111 rfl)
    · have h := iteF hc h
      refine SW.aload_n (pc := 83) g (dt dt_X11_span 46 rfl) rfl ?_
      refine SW.iload_n (pc := 84) g (dt dt_X11_span 47 rfl) rfl ?_
      refine SW.iload (pc := 85) g (dt dt_X11_span 48 rfl) rfl ?_
      refine SW.iadd (pc := 87) g (dt dt_X11_span 49 rfl) ?_
      refine SW.iload_n (pc := 88) g (dt dt_X11_span 50 rfl) rfl ?_
      refine SW.iload (pc := 89) g (dt dt_X11_span 51 rfl) rfl ?_
      obtain ⟨r1, h2, h⟩ := bindI h
      refine SW.callVv (pc := 91) g (dt dt_X11_span 52 rfl) (mt_f_m_autumnGoes _ _ _ _ ad ν   N μ (x1 + x10) x3 x4 r1 h2) me_X11_autumnGoes mv_X11_autumnGoes ml_X11_441 cell_63 rfl rfl (Nat.le_of_ble_eq_true rfl) (Nat.le_of_ble_eq_true rfl) (Nat.le_of_ble_eq_true rfl) (Nat.le_of_ble_eq_true rfl) rfl ?_
      refine SW.aload_n (pc := 94) g (dt dt_X11_span 53 rfl) rfl ?_
      refine SW.getR (pc := 95) g (dt dt_X11_span 54 rfl) fl_X11_68 cell_63 rfl ?_
      refine SW.bipush (pc := 98) (v := 47) g (dt dt_X11_span 55 rfl) kb_47 ?_
      obtain ⟨hb3, h⟩ := inbI h
      refine SW.iaload (pc := 100) g (dt dt_X11_span 56 rfl) cell_81 hb3 ?_
      refine SW.aload_n (pc := 101) g (dt dt_X11_span 57 rfl) rfl ?_
      refine SW.getR (pc := 102) g (dt dt_X11_span 58 rfl) fl_X11_65 cell_63 rfl ?_
      refine SW.bipush (pc := 105) (v := 47) g (dt dt_X11_span 59 rfl) kb_47 ?_
      obtain ⟨hb4, h⟩ := inbI h
      refine SW.iaload (pc := 107) g (dt dt_X11_span 60 rfl) cell_80 hb4 ?_
      refine SW.isub (pc := 108) g (dt dt_X11_span 61 rfl) ?_
      refine SW.istore (pc := 109) g (dt dt_X11_span 62 rfl) (sw_ltm hm (Nat.le_of_ble_eq_true rfl)) rfl ?_
      refine SW.genL h (fun y5 h => ?_)
      refine SW.iload (pc := 111) g (dt dt_X11_span 63 rfl) rfl ?_
      refine SW.iconst (pc := 113) (v := (-1)) g (dt dt_X11_span 64 rfl) ki_m1 ?_
      refine SW.icmp_eq (pc := 114) (t := 124) g (dt dt_X11_span 65 rfl) rfl (fun hc => ?_) (fun hc => ?_)
      · have h := iteT hc h
        refine SW.msk [true, true, true, true, true, true, true, false, true, true, true, true] ?_
        exact ok_f_m_span_124  g hm  ho (f_m_span_77 N   n) ih  r1 x1 x2 x3 x4 x5 x6 x8 x9 x10 y5 h
      · have h := iteF hc h
        refine SW.iload (pc := 117) g (dt dt_X11_span 66 rfl) rfl ?_
        refine SW.iload (pc := 119) g (dt dt_X11_span 67 rfl) rfl ?_
        refine SW.icmp_ge (pc := 121) (t := 129) g (dt dt_X11_span 68 rfl) rfl (fun hc => ?_) (fun hc => ?_)
        · have h := iteT hc h
          refine SW.iload (pc := 129) g (dt dt_X11_span 71 rfl) rfl ?_
          refine SW.msk [true, true, true, true, true, true, true, false, true, true, true, true] ?_
          exact ok_f_m_span_131  g hm  ho (f_m_span_77 N   n) ih  r1 x1 x2 x3 x4 x5 x6 x8 x9 x10 y5 x7 h
        · have h := iteF hc h
          refine SW.msk [true, true, true, true, true, true, true, false, true, true, true, true] ?_
          exact ok_f_m_span_124  g hm  ho (f_m_span_77 N   n) ih  r1 x1 x2 x3 x4 x5 x6 x8 x9 x10 y5 h
set_option maxRecDepth 100000 in
set_option maxHeartbeats 4000000 in
theorem ok_f_m_span_55 {G : sw_G} {ad : Nat → Nat} {ν : sw_N}   {N : Nat} {o : Int32 × sw_M} (g : sw_ok G cX11_span "DeadWiresModel" (some .int) 9 0 0 ad) (hm : G.2.2.1.2.1.maxLocals = 12)  (ho : sw_out G 0 0 (fun a => a = ad) (.inl (some (.int o.1))) lay0 o.2 ν)  (μ : sw_M) (x1 : Int32) (x2 : Int32) (x3 : Int32) (x4 : Int32) (x5 : Int32) (x6 : Int32) (s0 : Int32) (h : f_m_span_55 N    μ x1 x2 x3 x4 x5 x6 s0 = some o) : SW G ad lay0 ν 0 0 55 [some (.ref 63), some (.int x1), some (.int x2), some (.int x3), some (.int x4), some (.int x5), some (.int x6), none, none, none, none, none] [.int s0, .ref 63] μ := by
  unfold f_m_span_55 at h
  refine SW.iconst (pc := 55) (v := 1) g (dt dt_X11_span 29 rfl) ki_1 ?_
  refine SW.iconst (pc := 56) (v := 1) g (dt dt_X11_span 30 rfl) ki_1 ?_
  obtain ⟨r1, h2, h⟩ := bindI h
  refine SW.callVi (pc := 57) g (dt dt_X11_span 31 rfl) (mt_f_m_may _ _ _ _ ad ν   N μ s0 1 1 r1 h2) me_X11_may mv_X11_may ml_X11_204 cell_63 rfl rfl (Nat.le_of_ble_eq_true rfl) (Nat.le_of_ble_eq_true rfl) (Nat.le_of_ble_eq_true rfl) (Nat.le_of_ble_eq_true rfl) rfl ?_
  refine SW.if_ne (pc := 60) (t := 65) g (dt dt_X11_span 32 rfl) rfl (fun hc => ?_) (fun hc => ?_)
  · have h := iteF hc h
    refine SW.iconst (pc := 65) (v := (-1)) g (dt dt_X11_span 35 rfl) ki_m1 ?_
    refine SW.istore (pc := 66) g (dt dt_X11_span 36 rfl) (sw_ltm hm (Nat.le_of_ble_eq_true rfl)) rfl ?_
    refine SW.iconst (pc := 68) (v := 0) g (dt dt_X11_span 37 rfl) ki_0 ?_
    refine SW.istore (pc := 69) g (dt dt_X11_span 38 rfl) (sw_ltm hm (Nat.le_of_ble_eq_true rfl)) rfl ?_
    refine SW.iconst (pc := 71) (v := 0) g (dt dt_X11_span 39 rfl) ki_0 ?_
    refine SW.istore (pc := 72) g (dt dt_X11_span 40 rfl) (sw_ltm hm (Nat.le_of_ble_eq_true rfl)) rfl ?_
    refine SW.iconst (pc := 74) (v := 0) g (dt dt_X11_span 41 rfl) ki_0 ?_
    refine SW.istore (pc := 75) g (dt dt_X11_span 42 rfl) (sw_ltm hm (Nat.le_of_ble_eq_true rfl)) rfl ?_
    refine SW.msk [true, true, true, true, true, true, true, true, true, true, true, false] ?_
    exact ok_f_m_span_77  g hm  ho   N r1.2 x1 x2 x3 x4 x5 x6 (-1) 0 0 0 h
  · have h := iteT hc h
    refine SW.iconst (pc := 63) (v := 0) g (dt dt_X11_span 33 rfl) ki_0 ?_
    exact SW.ireturn (pc := 64) g (leafW h ho) rfl (Nat.le_of_ble_eq_true rfl) (Nat.le_of_ble_eq_true rfl) (dt dt_X11_span 34 rfl)
set_option maxRecDepth 100000 in
set_option maxHeartbeats 4000000 in
theorem ok_f_m_span_54 {G : sw_G} {ad : Nat → Nat} {ν : sw_N}   {N : Nat} {o : Int32 × sw_M} (g : sw_ok G cX11_span "DeadWiresModel" (some .int) 9 0 0 ad) (hm : G.2.2.1.2.1.maxLocals = 12)  (ho : sw_out G 0 0 (fun a => a = ad) (.inl (some (.int o.1))) lay0 o.2 ν)  (μ : sw_M) (x1 : Int32) (x2 : Int32) (x3 : Int32) (x4 : Int32) (x5 : Int32) (x6 : Int32) (h : f_m_span_54 N    μ x1 x2 x3 x4 x5 x6 = some o) : SW G ad lay0 ν 0 0 54 [some (.ref 63), some (.int x1), some (.int x2), some (.int x3), some (.int x4), some (.int x5), some (.int x6), none, none, none, none, none] [.ref 63] μ := by
  unfold f_m_span_54 at h
  refine SW.iconst (pc := 54) (v := 0) g (dt dt_X11_span 28 rfl) ki_0 ?_
  refine SW.msk [true, true, true, true, true, true, true, false, false, false, false, false] ?_
  exact ok_f_m_span_55  g hm  ho    μ x1 x2 x3 x4 x5 x6 0 h
set_option maxRecDepth 100000 in
set_option maxHeartbeats 4000000 in
theorem ok_f_m_span {G : sw_G} {ad : Nat → Nat} {ν : sw_N}   {N : Nat} {o : Int32 × sw_M} (g : sw_ok G cX11_span "DeadWiresModel" (some .int) 9 0 0 ad) (hm : G.2.2.1.2.1.maxLocals = 12)  (μ : sw_M) (ho : sw_out G 0 0 (fun a => a = ad) (.inl (some (.int o.1))) lay0 o.2 ν) (a1 : Int32) (a2 : Int32) (a3 : Int32) (a4 : Int32) (a5 : Int32) (a6 : Int32) (h : f_m_span N  μ a1 a2 a3 a4 a5 a6 = some o) : SW G ad lay0 ν 0 0 0 [some (.ref 63), some (.int a1), some (.int a2), some (.int a3), some (.int a4), some (.int a5), some (.int a6), none, none, none, none, none] [] μ := by
  unfold f_m_span at h
  refine SW.aload_n (pc := 0) g (dt dt_X11_span 0 rfl) rfl ?_
  refine SW.iconst (pc := 1) (v := 0) g (dt dt_X11_span 1 rfl) ki_0 ?_
  refine SW.putI (pc := 2) g (dt dt_X11_span 2 rfl) fl_X11_3 cell_63 rfl ?_
  refine SW.genM h (fun μ1 h => ?_)
  refine SW.aload_n (pc := 5) g (dt dt_X11_span 3 rfl) rfl ?_
  refine SW.iload_n (pc := 6) g (dt dt_X11_span 4 rfl) rfl ?_
  refine SW.iconst (pc := 7) (v := 1) g (dt dt_X11_span 5 rfl) ki_1 ?_
  refine SW.bipush (pc := 8) (v := 20) g (dt dt_X11_span 6 rfl) kb_20 ?_
  obtain ⟨r2, h3, h⟩ := bindI h
  refine SW.callSi (pc := 10) g (dt dt_X11_span 7 rfl) (mt_f_sm_within _ _ _ _ ad ν lay0   N μ1 a2 1 20 r2 h3) me_X11_within ms_X11_within ml_X11_374 rfl (Nat.le_of_ble_eq_true rfl) (Nat.le_of_ble_eq_true rfl) (Nat.le_of_ble_eq_true rfl) (Nat.le_of_ble_eq_true rfl) rfl ?_
  refine SW.if_eq (pc := 13) (t := 54) g (dt dt_X11_span 8 rfl) rfl (fun hc => ?_) (fun hc => ?_)
  · have h := iteT hc h
    refine SW.msk [true, true, true, true, true, true, true, false, false, false, false, false] ?_
    exact ok_f_m_span_54  g hm  ho    μ1 a1 a2 a3 a4 a5 a6 h
  · have h := iteF hc h
    refine SW.iload_n (pc := 16) g (dt dt_X11_span 9 rfl) rfl ?_
    refine SW.iload (pc := 17) g (dt dt_X11_span 10 rfl) rfl ?_
    obtain ⟨r4, h5, h⟩ := bindI h
    refine SW.callSi (pc := 19) g (dt dt_X11_span 11 rfl) (mt_f_sm_isAutumn _ _ _ _ ad ν lay0   N μ1 a3 a4 r4 h5) me_X11_isAutumn ms_X11_isAutumn ml_X11_438 rfl (Nat.le_of_ble_eq_true rfl) (Nat.le_of_ble_eq_true rfl) (Nat.le_of_ble_eq_true rfl) (Nat.le_of_ble_eq_true rfl) rfl ?_
    refine SW.if_eq (pc := 22) (t := 54) g (dt dt_X11_span 12 rfl) rfl (fun hc => ?_) (fun hc => ?_)
    · have h := iteT hc h
      refine SW.msk [true, true, true, true, true, true, true, false, false, false, false, false] ?_
      exact ok_f_m_span_54  g hm  ho    μ1 a1 a2 a3 a4 a5 a6 h
    · have h := iteF hc h
      refine SW.iload (pc := 25) g (dt dt_X11_span 13 rfl) rfl ?_
      refine SW.iconst (pc := 27) (v := 0) g (dt dt_X11_span 14 rfl) ki_0 ?_
      refine SW.iconst (pc := 28) (v := 2) g (dt dt_X11_span 15 rfl) ki_2 ?_
      obtain ⟨r6, h7, h⟩ := bindI h
      refine SW.callSi (pc := 29) g (dt dt_X11_span 16 rfl) (mt_f_sm_within _ _ _ _ ad ν lay0   N μ1 a5 0 2 r6 h7) me_X11_within ms_X11_within ml_X11_374 rfl (Nat.le_of_ble_eq_true rfl) (Nat.le_of_ble_eq_true rfl) (Nat.le_of_ble_eq_true rfl) (Nat.le_of_ble_eq_true rfl) rfl ?_
      refine SW.if_eq (pc := 32) (t := 54) g (dt dt_X11_span 17 rfl) rfl (fun hc => ?_) (fun hc => ?_)
      · have h := iteT hc h
        refine SW.msk [true, true, true, true, true, true, true, false, false, false, false, false] ?_
        exact ok_f_m_span_54  g hm  ho    μ1 a1 a2 a3 a4 a5 a6 h
      · have h := iteF hc h
        refine SW.iload (pc := 35) g (dt dt_X11_span 18 rfl) rfl ?_
        refine SW.iconst (pc := 37) (v := 0) g (dt dt_X11_span 19 rfl) ki_0 ?_
        refine SW.aload_n (pc := 38) g (dt dt_X11_span 20 rfl) rfl ?_
        refine SW.getI (pc := 39) g (dt dt_X11_span 21 rfl) fl_X11_162 cell_63 rfl ?_
        refine SW.iconst (pc := 42) (v := 1) g (dt dt_X11_span 22 rfl) ki_1 ?_
        refine SW.isub (pc := 43) g (dt dt_X11_span 23 rfl) ?_
        obtain ⟨r8, h9, h⟩ := bindI h
        refine SW.callSi (pc := 44) g (dt dt_X11_span 24 rfl) (mt_f_sm_within _ _ _ _ ad ν lay0   N μ1 a6 0 ((μ1 63 24) - 1) r8 h9) me_X11_within ms_X11_within ml_X11_374 rfl (Nat.le_of_ble_eq_true rfl) (Nat.le_of_ble_eq_true rfl) (Nat.le_of_ble_eq_true rfl) (Nat.le_of_ble_eq_true rfl) rfl ?_
        refine SW.if_eq (pc := 47) (t := 54) g (dt dt_X11_span 25 rfl) rfl (fun hc => ?_) (fun hc => ?_)
        · have h := iteT hc h
          refine SW.msk [true, true, true, true, true, true, true, false, false, false, false, false] ?_
          exact ok_f_m_span_54  g hm  ho    μ1 a1 a2 a3 a4 a5 a6 h
        · have h := iteF hc h
          refine SW.iconst (pc := 50) (v := 1) g (dt dt_X11_span 26 rfl) ki_1 ?_
          refine SW.goto (pc := 51) (t := 55) g (dt dt_X11_span 27 rfl) rfl ?_
          refine SW.msk [true, true, true, true, true, true, true, false, false, false, false, false] ?_
          exact ok_f_m_span_55  g hm  ho    μ1 a1 a2 a3 a4 a5 a6 1 h
set_option maxRecDepth 100000 in
set_option maxHeartbeats 4000000 in
theorem mt_f_m_span (l : Launch) (D : va_G) (cI cL : ClassId) (ad : Nat → Nat) (ν : sw_N)    (N : Nat) (μ : sw_M) (a1 : Int32) (a2 : Int32) (a3 : Int32) (a4 : Int32) (a5 : Int32) (a6 : Int32) (o : Int32 × sw_M) (h : f_m_span N  μ a1 a2 a3 a4 a5 a6 = some o) : MetR l D cI cL yX11_span cX11_span 12 (some .int) 9 0 0 (fun a => a = ad) ad [.ref 63, .int a1, .int a2, .int a3, .int a4, .int a5, .int a6] lay0 μ ν (some (.int o.1)) lay0 o.2 ν :=
  MetR.of (n := 5) rfl (Nat.le_of_ble_eq_true rfl) (fun G g ho hm _ _ => ok_f_m_span  g hm  μ ho a1 a2 a3 a4 a5 a6 h)
def f_m_keepsRow_3 (N : Nat) (k0 n0 : Nat)  : Nat → sw_M → Int32 → Int32 → Int32 → Int32 → Option (Int32 × sw_M)
  | 0, _, _, _, _, _ => none
  | n + 1, μ, x1, x3, x4, x5 =>
    if x3 ≤ x5 then
      some (x1 + x3, μ)
    else
      if x4 = 0 then
        inb (x1 + x5) 2502 (
          inb x5 n0 (wb (wr μ k0 x5.toNatClampNeg (μ 86 (x1 + x5).toNatClampNeg)) (fun μ3 =>
            f_m_keepsRow_3 N k0 n0  n μ3 x1 x3 x4 (x5 + 1))))
      else
        inb x5 n0 (
          inb (x1 + x5) 2502 (wb (wr μ 86 (x1 + x5).toNatClampNeg (μ k0 x5.toNatClampNeg)) (fun μ6 =>
            f_m_keepsRow_3 N k0 n0  n μ6 x1 x3 x4 (x5 + 1))))
def f_m_keepsRow (N : Nat) (k0 n0 : Nat) (μ : sw_M) (a1 : Int32) (a3 : Int32) (a4 : Int32) : Option (Int32 × sw_M) :=
  f_m_keepsRow_3 N k0 n0  N μ a1 a3 a4 0
set_option maxRecDepth 100000 in
set_option maxHeartbeats 4000000 in
theorem ok_f_m_keepsRow_3 {G : sw_G} {ad : Nat → Nat} {ν : sw_N}  (k0 n0 : Nat) {N : Nat} {o : Int32 × sw_M} (g : sw_ok G cX11_keepsRow "DeadWiresModel" (some .int) 1 0 0 ad) (hm : G.2.2.1.2.1.maxLocals = 6) (hk0 : lay0[k0]? = some (.inl (false, n0))) (ho : sw_out G 0 0 (fun a => a = ad) (.inl (some (.int o.1))) lay0 o.2 ν)  : ∀ (n : Nat) (μ : sw_M) (x1 : Int32) (x3 : Int32) (x4 : Int32) (x5 : Int32) (h : f_m_keepsRow_3 N k0 n0  n μ x1 x3 x4 x5 = some o), SW G ad lay0 ν 0 0 3 [some (.ref 63), some (.int x1), some (.ref k0), some (.int x3), some (.int x4), some (.int x5)] [] μ := by
  intro n
  induction n with
  | zero => intro μ x1 x3 x4 x5 h; simp only [f_m_keepsRow_3] at h; cases h
  | succ n ih =>
    intro μ x1 x3 x4 x5 h
    unfold f_m_keepsRow_3 at h
    refine SW.iload (pc := 3) g (dt dt_X11_keepsRow 2 rfl) rfl ?_
    refine SW.iload_n (pc := 5) g (dt dt_X11_keepsRow 3 rfl) rfl ?_
    refine SW.icmp_ge (pc := 6) (t := 49) g (dt dt_X11_keepsRow 4 rfl) rfl (fun hc => ?_) (fun hc => ?_)
    · have h := iteT hc h
      refine SW.iload_n (pc := 49) g (dt dt_X11_keepsRow 28 rfl) rfl ?_
      refine SW.iload_n (pc := 50) g (dt dt_X11_keepsRow 29 rfl) rfl ?_
      refine SW.iadd (pc := 51) g (dt dt_X11_keepsRow 30 rfl) ?_
      exact SW.ireturn (pc := 52) g (leafW h ho) rfl (Nat.le_of_ble_eq_true rfl) (Nat.le_of_ble_eq_true rfl) (dt dt_X11_keepsRow 31 rfl)
    · have h := iteF hc h
      refine SW.iload (pc := 9) g (dt dt_X11_keepsRow 5 rfl) rfl ?_
      refine SW.if_eq (pc := 11) (t := 30) g (dt dt_X11_keepsRow 6 rfl) rfl (fun hc => ?_) (fun hc => ?_)
      · have h := iteT hc h
        refine SW.aload_n (pc := 30) g (dt dt_X11_keepsRow 17 rfl) rfl ?_
        refine SW.iload (pc := 31) g (dt dt_X11_keepsRow 18 rfl) rfl ?_
        refine SW.aload_n (pc := 33) g (dt dt_X11_keepsRow 19 rfl) rfl ?_
        refine SW.getR (pc := 34) g (dt dt_X11_keepsRow 20 rfl) fl_X11_83 cell_63 rfl ?_
        refine SW.iload_n (pc := 37) g (dt dt_X11_keepsRow 21 rfl) rfl ?_
        refine SW.iload (pc := 38) g (dt dt_X11_keepsRow 22 rfl) rfl ?_
        refine SW.iadd (pc := 40) g (dt dt_X11_keepsRow 23 rfl) ?_
        obtain ⟨hb1, h⟩ := inbI h
        refine SW.iaload (pc := 41) g (dt dt_X11_keepsRow 24 rfl) cell_86 hb1 ?_
        obtain ⟨hb2, h⟩ := inbI h
        refine SW.iastore (pc := 42) g (dt dt_X11_keepsRow 25 rfl) hk0 hb2 ?_
        refine SW.genM h (fun μ3 h => ?_)
        refine SW.iinc (pc := 43) (v := x5 + 1) g (dt dt_X11_keepsRow 26 rfl) rfl (kn_1 _) (sw_ltm hm (Nat.le_of_ble_eq_true rfl)) rfl ?_
        refine SW.goto (pc := 46) (t := 3) g (dt dt_X11_keepsRow 27 rfl) rfl ?_
        refine SW.msk [true, true, true, true, true, true] ?_
        exact ih μ3 x1 x3 x4 (x5 + 1) h
      · have h := iteF hc h
        refine SW.aload_n (pc := 14) g (dt dt_X11_keepsRow 7 rfl) rfl ?_
        refine SW.getR (pc := 15) g (dt dt_X11_keepsRow 8 rfl) fl_X11_83 cell_63 rfl ?_
        refine SW.iload_n (pc := 18) g (dt dt_X11_keepsRow 9 rfl) rfl ?_
        refine SW.iload (pc := 19) g (dt dt_X11_keepsRow 10 rfl) rfl ?_
        refine SW.iadd (pc := 21) g (dt dt_X11_keepsRow 11 rfl) ?_
        refine SW.aload_n (pc := 22) g (dt dt_X11_keepsRow 12 rfl) rfl ?_
        refine SW.iload (pc := 23) g (dt dt_X11_keepsRow 13 rfl) rfl ?_
        obtain ⟨hb4, h⟩ := inbI h
        refine SW.iaload (pc := 25) g (dt dt_X11_keepsRow 14 rfl) hk0 hb4 ?_
        obtain ⟨hb5, h⟩ := inbI h
        refine SW.iastore (pc := 26) g (dt dt_X11_keepsRow 15 rfl) cell_86 hb5 ?_
        refine SW.genM h (fun μ6 h => ?_)
        refine SW.goto (pc := 27) (t := 43) g (dt dt_X11_keepsRow 16 rfl) rfl ?_
        refine SW.iinc (pc := 43) (v := x5 + 1) g (dt dt_X11_keepsRow 26 rfl) rfl (kn_1 _) (sw_ltm hm (Nat.le_of_ble_eq_true rfl)) rfl ?_
        refine SW.goto (pc := 46) (t := 3) g (dt dt_X11_keepsRow 27 rfl) rfl ?_
        refine SW.msk [true, true, true, true, true, true] ?_
        exact ih μ6 x1 x3 x4 (x5 + 1) h
set_option maxRecDepth 100000 in
set_option maxHeartbeats 4000000 in
theorem ok_f_m_keepsRow {G : sw_G} {ad : Nat → Nat} {ν : sw_N}  (k0 n0 : Nat) {N : Nat} {o : Int32 × sw_M} (g : sw_ok G cX11_keepsRow "DeadWiresModel" (some .int) 1 0 0 ad) (hm : G.2.2.1.2.1.maxLocals = 6) (hk0 : lay0[k0]? = some (.inl (false, n0))) (μ : sw_M) (ho : sw_out G 0 0 (fun a => a = ad) (.inl (some (.int o.1))) lay0 o.2 ν) (a1 : Int32) (a3 : Int32) (a4 : Int32) (h : f_m_keepsRow N k0 n0 μ a1 a3 a4 = some o) : SW G ad lay0 ν 0 0 0 [some (.ref 63), some (.int a1), some (.ref k0), some (.int a3), some (.int a4), none] [] μ := by
  unfold f_m_keepsRow at h
  refine SW.iconst (pc := 0) (v := 0) g (dt dt_X11_keepsRow 0 rfl) ki_0 ?_
  refine SW.istore (pc := 1) g (dt dt_X11_keepsRow 1 rfl) (sw_ltm hm (Nat.le_of_ble_eq_true rfl)) rfl ?_
  refine SW.msk [true, true, true, true, true, true] ?_
  exact ok_f_m_keepsRow_3 k0 n0 g hm hk0 ho   N μ a1 a3 a4 0 h
set_option maxRecDepth 100000 in
set_option maxHeartbeats 4000000 in
theorem mt_f_m_keepsRow (l : Launch) (D : va_G) (cI cL : ClassId) (ad : Nat → Nat) (ν : sw_N)  (k0 n0 : Nat) (hk0 : lay0[k0]? = some (.inl (false, n0))) (N : Nat) (μ : sw_M) (a1 : Int32) (a3 : Int32) (a4 : Int32) (o : Int32 × sw_M) (h : f_m_keepsRow N k0 n0 μ a1 a3 a4 = some o) : MetR l D cI cL yX11_keepsRow cX11_keepsRow 6 (some .int) 1 0 0 (fun a => a = ad) ad [.ref 63, .int a1, .ref k0, .int a3, .int a4] lay0 μ ν (some (.int o.1)) lay0 o.2 ν :=
  MetR.of (n := 1) rfl (Nat.le_of_ble_eq_true rfl) (fun G g ho hm _ _ => ok_f_m_keepsRow k0 n0 g hm hk0 μ ho a1 a3 a4 h)
def f_m_keepsAll (N : Nat)  (μ : sw_M) (a1 : Int32) (a2 : Int32) : Option (sw_M) :=
  Option.bind (f_m_keepsRow N 80 49 μ ((834 : Int32) * a1) 49 a2) (fun r1 =>
    Option.bind (f_m_keepsRow N 82 784 r1.2 r1.1 784 a2) (fun r3 =>
      if a2 = 0 then
        inb r3.1 2502 (
          wb (wr r3.2 63 36 (r3.2 86 r3.1.toNatClampNeg)) (fun μ6 =>
            some μ6))
      else
        inb r3.1 2502 (wb (wr r3.2 86 r3.1.toNatClampNeg (r3.2 63 36)) (fun μ8 =>
          some μ8))))
set_option maxRecDepth 100000 in
set_option maxHeartbeats 4000000 in
theorem ok_f_m_keepsAll {G : sw_G} {ad : Nat → Nat} {ν : sw_N}   {N : Nat} {o : sw_M} (g : sw_ok G cX11_keepsAll "DeadWiresModel" none 2 0 0 ad) (hm : G.2.2.1.2.1.maxLocals = 4)  (μ : sw_M) (ho : sw_out G 0 0 (fun a => a = ad) (.inl none) lay0 o ν) (a1 : Int32) (a2 : Int32) (h : f_m_keepsAll N  μ a1 a2 = some o) : SW G ad lay0 ν 0 0 0 [some (.ref 63), some (.int a1), some (.int a2), none] [] μ := by
  unfold f_m_keepsAll at h
  refine SW.aload_n (pc := 0) g (dt dt_X11_keepsAll 0 rfl) rfl ?_
  refine SW.sipush (pc := 1) (v := 834) g (dt dt_X11_keepsAll 1 rfl) ks_834 ?_
  refine SW.iload_n (pc := 4) g (dt dt_X11_keepsAll 2 rfl) rfl ?_
  refine SW.imul (pc := 5) g (dt dt_X11_keepsAll 3 rfl) ?_
  refine SW.aload_n (pc := 6) g (dt dt_X11_keepsAll 4 rfl) rfl ?_
  refine SW.getR (pc := 7) g (dt dt_X11_keepsAll 5 rfl) fl_X11_65 cell_63 rfl ?_
  refine SW.bipush (pc := 10) (v := 49) g (dt dt_X11_keepsAll 6 rfl) kb_49 ?_
  refine SW.iload_n (pc := 12) g (dt dt_X11_keepsAll 7 rfl) rfl ?_
  obtain ⟨r1, h2, h⟩ := bindI h
  refine SW.callVi (pc := 13) g (dt dt_X11_keepsAll 8 rfl) (mt_f_m_keepsRow _ _ _ _ ad ν 80 49 cell_80 N μ ((834 : Int32) * a1) 49 a2 r1 h2) me_X11_keepsRow mv_X11_keepsRow ml_X11_444 cell_63 rfl rfl (Nat.le_of_ble_eq_true rfl) (Nat.le_of_ble_eq_true rfl) (Nat.le_of_ble_eq_true rfl) (Nat.le_of_ble_eq_true rfl) rfl ?_
  refine SW.istore_n (pc := 16) g (dt dt_X11_keepsAll 9 rfl) (sw_ltm hm (Nat.le_of_ble_eq_true rfl)) rfl ?_
  refine SW.aload_n (pc := 17) g (dt dt_X11_keepsAll 10 rfl) rfl ?_
  refine SW.iload_n (pc := 18) g (dt dt_X11_keepsAll 11 rfl) rfl ?_
  refine SW.aload_n (pc := 19) g (dt dt_X11_keepsAll 12 rfl) rfl ?_
  refine SW.getR (pc := 20) g (dt dt_X11_keepsAll 13 rfl) fl_X11_71 cell_63 rfl ?_
  refine SW.sipush (pc := 23) (v := 784) g (dt dt_X11_keepsAll 14 rfl) ks_784 ?_
  refine SW.iload_n (pc := 26) g (dt dt_X11_keepsAll 15 rfl) rfl ?_
  obtain ⟨r3, h4, h⟩ := bindI h
  refine SW.callVi (pc := 27) g (dt dt_X11_keepsAll 16 rfl) (mt_f_m_keepsRow _ _ _ _ ad ν 82 784 cell_82 N r1.2 r1.1 784 a2 r3 h4) me_X11_keepsRow mv_X11_keepsRow ml_X11_444 cell_63 rfl rfl (Nat.le_of_ble_eq_true rfl) (Nat.le_of_ble_eq_true rfl) (Nat.le_of_ble_eq_true rfl) (Nat.le_of_ble_eq_true rfl) rfl ?_
  refine SW.istore_n (pc := 30) g (dt dt_X11_keepsAll 17 rfl) (sw_ltm hm (Nat.le_of_ble_eq_true rfl)) rfl ?_
  refine SW.iload_n (pc := 31) g (dt dt_X11_keepsAll 18 rfl) rfl ?_
  refine SW.if_eq (pc := 32) (t := 48) g (dt dt_X11_keepsAll 19 rfl) rfl (fun hc => ?_) (fun hc => ?_)
  · have h := iteT hc h
    refine SW.aload_n (pc := 48) g (dt dt_X11_keepsAll 27 rfl) rfl ?_
    refine SW.aload_n (pc := 49) g (dt dt_X11_keepsAll 28 rfl) rfl ?_
    refine SW.getR (pc := 50) g (dt dt_X11_keepsAll 29 rfl) fl_X11_83 cell_63 rfl ?_
    refine SW.iload_n (pc := 53) g (dt dt_X11_keepsAll 30 rfl) rfl ?_
    obtain ⟨hb5, h⟩ := inbI h
    refine SW.iaload (pc := 54) g (dt dt_X11_keepsAll 31 rfl) cell_86 hb5 ?_
    refine SW.putI (pc := 55) g (dt dt_X11_keepsAll 32 rfl) fl_X11_175 cell_63 rfl ?_
    refine SW.genM h (fun μ6 h => ?_)
    exact SW.vreturn (pc := 58) g (leafV h ho) rfl (Nat.le_of_ble_eq_true rfl) (Nat.le_of_ble_eq_true rfl) (dt dt_X11_keepsAll 33 rfl)
  · have h := iteF hc h
    refine SW.aload_n (pc := 35) g (dt dt_X11_keepsAll 20 rfl) rfl ?_
    refine SW.getR (pc := 36) g (dt dt_X11_keepsAll 21 rfl) fl_X11_83 cell_63 rfl ?_
    refine SW.iload_n (pc := 39) g (dt dt_X11_keepsAll 22 rfl) rfl ?_
    refine SW.aload_n (pc := 40) g (dt dt_X11_keepsAll 23 rfl) rfl ?_
    refine SW.getI (pc := 41) g (dt dt_X11_keepsAll 24 rfl) fl_X11_175 cell_63 rfl ?_
    obtain ⟨hb7, h⟩ := inbI h
    refine SW.iastore (pc := 44) g (dt dt_X11_keepsAll 25 rfl) cell_86 hb7 ?_
    refine SW.genM h (fun μ8 h => ?_)
    refine SW.goto (pc := 45) (t := 58) g (dt dt_X11_keepsAll 26 rfl) rfl ?_
    exact SW.vreturn (pc := 58) g (leafV h ho) rfl (Nat.le_of_ble_eq_true rfl) (Nat.le_of_ble_eq_true rfl) (dt dt_X11_keepsAll 33 rfl)
set_option maxRecDepth 100000 in
set_option maxHeartbeats 4000000 in
theorem mt_f_m_keepsAll (l : Launch) (D : va_G) (cI cL : ClassId) (ad : Nat → Nat) (ν : sw_N)    (N : Nat) (μ : sw_M) (a1 : Int32) (a2 : Int32) (o : sw_M) (h : f_m_keepsAll N  μ a1 a2 = some o) : MetR l D cI cL yX11_keepsAll cX11_keepsAll 4 none 2 0 0 (fun a => a = ad) ad [.ref 63, .int a1, .int a2] lay0 μ ν none lay0 o ν :=
  MetR.of (n := 1) rfl (Nat.le_of_ble_eq_true rfl) (fun G g ho hm _ _ => ok_f_m_keepsAll  g hm  μ ho a1 a2 h)
def f_m_image (N : Nat)  (μ : sw_M)  : Option (Int32 × sw_M) :=
  wb (wr μ 63 0 0) (fun μ1 =>
    if (μ1 63 50) = 3 then
      some ((-1), μ1)
    else
      Option.bind (f_m_keepsAll N  μ1 (μ1 63 50) 1) (fun r2 =>
        wb (wr r2 63 50 ((r2 63 50) + 1)) (fun μ4 =>
          some (μ4 63 50, μ4))))
set_option maxRecDepth 100000 in
set_option maxHeartbeats 4000000 in
theorem ok_f_m_image {G : sw_G} {ad : Nat → Nat} {ν : sw_N}   {N : Nat} {o : Int32 × sw_M} (g : sw_ok G cX11_image "DeadWiresModel" (some .int) 3 0 0 ad) (hm : G.2.2.1.2.1.maxLocals = 1)  (μ : sw_M) (ho : sw_out G 0 0 (fun a => a = ad) (.inl (some (.int o.1))) lay0 o.2 ν)  (h : f_m_image N  μ  = some o) : SW G ad lay0 ν 0 0 0 [some (.ref 63)] [] μ := by
  unfold f_m_image at h
  refine SW.aload_n (pc := 0) g (dt dt_X11_image 0 rfl) rfl ?_
  refine SW.iconst (pc := 1) (v := 0) g (dt dt_X11_image 1 rfl) ki_0 ?_
  refine SW.putI (pc := 2) g (dt dt_X11_image 2 rfl) fl_X11_3 cell_63 rfl ?_
  refine SW.genM h (fun μ1 h => ?_)
  refine SW.aload_n (pc := 5) g (dt dt_X11_image 3 rfl) rfl ?_
  refine SW.getI (pc := 6) g (dt dt_X11_image 4 rfl) fl_X11_178 cell_63 rfl ?_
  refine SW.iconst (pc := 9) (v := 3) g (dt dt_X11_image 5 rfl) ki_3 ?_
  refine SW.icmp_ne (pc := 10) (t := 15) g (dt dt_X11_image 6 rfl) rfl (fun hc => ?_) (fun hc => ?_)
  · have h := iteF hc h
    refine SW.aload_n (pc := 15) g (dt dt_X11_image 9 rfl) rfl ?_
    refine SW.aload_n (pc := 16) g (dt dt_X11_image 10 rfl) rfl ?_
    refine SW.getI (pc := 17) g (dt dt_X11_image 11 rfl) fl_X11_178 cell_63 rfl ?_
    refine SW.iconst (pc := 20) (v := 1) g (dt dt_X11_image 12 rfl) ki_1 ?_
    obtain ⟨r2, h3, h⟩ := bindI h
    refine SW.callVv (pc := 21) g (dt dt_X11_image 13 rfl) (mt_f_m_keepsAll _ _ _ _ ad ν   N μ1 (μ1 63 50) 1 r2 h3) me_X11_keepsAll mv_X11_keepsAll ml_X11_448 cell_63 rfl rfl (Nat.le_of_ble_eq_true rfl) (Nat.le_of_ble_eq_true rfl) (Nat.le_of_ble_eq_true rfl) (Nat.le_of_ble_eq_true rfl) rfl ?_
    refine SW.aload_n (pc := 24) g (dt dt_X11_image 14 rfl) rfl ?_
    refine SW.dup (pc := 25) g (dt dt_X11_image 15 rfl) rfl ?_
    refine SW.getI (pc := 26) g (dt dt_X11_image 16 rfl) fl_X11_178 cell_63 rfl ?_
    refine SW.iconst (pc := 29) (v := 1) g (dt dt_X11_image 17 rfl) ki_1 ?_
    refine SW.iadd (pc := 30) g (dt dt_X11_image 18 rfl) ?_
    refine SW.putI (pc := 31) g (dt dt_X11_image 19 rfl) fl_X11_178 cell_63 rfl ?_
    refine SW.genM h (fun μ4 h => ?_)
    refine SW.aload_n (pc := 34) g (dt dt_X11_image 20 rfl) rfl ?_
    refine SW.getI (pc := 35) g (dt dt_X11_image 21 rfl) fl_X11_178 cell_63 rfl ?_
    exact SW.ireturn (pc := 38) g (leafW h ho) rfl (Nat.le_of_ble_eq_true rfl) (Nat.le_of_ble_eq_true rfl) (dt dt_X11_image 22 rfl)
  · have h := iteT hc h
    refine SW.iconst (pc := 13) (v := (-1)) g (dt dt_X11_image 7 rfl) ki_m1 ?_
    exact SW.ireturn (pc := 14) g (leafW h ho) rfl (Nat.le_of_ble_eq_true rfl) (Nat.le_of_ble_eq_true rfl) (dt dt_X11_image 8 rfl)
set_option maxRecDepth 100000 in
set_option maxHeartbeats 4000000 in
theorem mt_f_m_image (l : Launch) (D : va_G) (cI cL : ClassId) (ad : Nat → Nat) (ν : sw_N)    (N : Nat) (μ : sw_M)  (o : Int32 × sw_M) (h : f_m_image N  μ  = some o) : MetR l D cI cL yX11_image cX11_image 1 (some .int) 3 0 0 (fun a => a = ad) ad [.ref 63] lay0 μ ν (some (.int o.1)) lay0 o.2 ν :=
  MetR.of (n := 0) rfl (Nat.le_of_ble_eq_true rfl) (fun G g ho hm _ _ => ok_f_m_image  g hm  μ ho  h)
def f_m_restore (N : Nat)  (μ : sw_M)  : Option (Int32 × sw_M) :=
  wb (wr μ 63 0 0) (fun μ1 =>
    if (μ1 63 50) = 0 then
      some ((-1), μ1)
    else
      wb (wr μ1 63 50 ((μ1 63 50) - 1)) (fun μ2 =>
        Option.bind (f_m_keepsAll N  μ2 (μ2 63 50) 0) (fun r3 =>
          wb (wr r3 63 37 0) (fun μ5 =>
            some (μ5 63 50, μ5)))))
set_option maxRecDepth 100000 in
set_option maxHeartbeats 4000000 in
theorem ok_f_m_restore {G : sw_G} {ad : Nat → Nat} {ν : sw_N}   {N : Nat} {o : Int32 × sw_M} (g : sw_ok G cX11_restore "DeadWiresModel" (some .int) 3 0 0 ad) (hm : G.2.2.1.2.1.maxLocals = 1)  (μ : sw_M) (ho : sw_out G 0 0 (fun a => a = ad) (.inl (some (.int o.1))) lay0 o.2 ν)  (h : f_m_restore N  μ  = some o) : SW G ad lay0 ν 0 0 0 [some (.ref 63)] [] μ := by
  unfold f_m_restore at h
  refine SW.aload_n (pc := 0) g (dt dt_X11_restore 0 rfl) rfl ?_
  refine SW.iconst (pc := 1) (v := 0) g (dt dt_X11_restore 1 rfl) ki_0 ?_
  refine SW.putI (pc := 2) g (dt dt_X11_restore 2 rfl) fl_X11_3 cell_63 rfl ?_
  refine SW.genM h (fun μ1 h => ?_)
  refine SW.aload_n (pc := 5) g (dt dt_X11_restore 3 rfl) rfl ?_
  refine SW.getI (pc := 6) g (dt dt_X11_restore 4 rfl) fl_X11_178 cell_63 rfl ?_
  refine SW.if_ne (pc := 9) (t := 14) g (dt dt_X11_restore 5 rfl) rfl (fun hc => ?_) (fun hc => ?_)
  · have h := iteF hc h
    refine SW.aload_n (pc := 14) g (dt dt_X11_restore 8 rfl) rfl ?_
    refine SW.dup (pc := 15) g (dt dt_X11_restore 9 rfl) rfl ?_
    refine SW.getI (pc := 16) g (dt dt_X11_restore 10 rfl) fl_X11_178 cell_63 rfl ?_
    refine SW.iconst (pc := 19) (v := 1) g (dt dt_X11_restore 11 rfl) ki_1 ?_
    refine SW.isub (pc := 20) g (dt dt_X11_restore 12 rfl) ?_
    refine SW.putI (pc := 21) g (dt dt_X11_restore 13 rfl) fl_X11_178 cell_63 rfl ?_
    refine SW.genM h (fun μ2 h => ?_)
    refine SW.aload_n (pc := 24) g (dt dt_X11_restore 14 rfl) rfl ?_
    refine SW.aload_n (pc := 25) g (dt dt_X11_restore 15 rfl) rfl ?_
    refine SW.getI (pc := 26) g (dt dt_X11_restore 16 rfl) fl_X11_178 cell_63 rfl ?_
    refine SW.iconst (pc := 29) (v := 0) g (dt dt_X11_restore 17 rfl) ki_0 ?_
    obtain ⟨r3, h4, h⟩ := bindI h
    refine SW.callVv (pc := 30) g (dt dt_X11_restore 18 rfl) (mt_f_m_keepsAll _ _ _ _ ad ν   N μ2 (μ2 63 50) 0 r3 h4) me_X11_keepsAll mv_X11_keepsAll ml_X11_448 cell_63 rfl rfl (Nat.le_of_ble_eq_true rfl) (Nat.le_of_ble_eq_true rfl) (Nat.le_of_ble_eq_true rfl) (Nat.le_of_ble_eq_true rfl) rfl ?_
    refine SW.aload_n (pc := 33) g (dt dt_X11_restore 19 rfl) rfl ?_
    refine SW.iconst (pc := 34) (v := 0) g (dt dt_X11_restore 20 rfl) ki_0 ?_
    refine SW.putI (pc := 35) g (dt dt_X11_restore 21 rfl) fl_X11_181 cell_63 rfl ?_
    refine SW.genM h (fun μ5 h => ?_)
    refine SW.aload_n (pc := 38) g (dt dt_X11_restore 22 rfl) rfl ?_
    refine SW.getI (pc := 39) g (dt dt_X11_restore 23 rfl) fl_X11_178 cell_63 rfl ?_
    exact SW.ireturn (pc := 42) g (leafW h ho) rfl (Nat.le_of_ble_eq_true rfl) (Nat.le_of_ble_eq_true rfl) (dt dt_X11_restore 24 rfl)
  · have h := iteT hc h
    refine SW.iconst (pc := 12) (v := (-1)) g (dt dt_X11_restore 6 rfl) ki_m1 ?_
    exact SW.ireturn (pc := 13) g (leafW h ho) rfl (Nat.le_of_ble_eq_true rfl) (Nat.le_of_ble_eq_true rfl) (dt dt_X11_restore 7 rfl)
set_option maxRecDepth 100000 in
set_option maxHeartbeats 4000000 in
theorem mt_f_m_restore (l : Launch) (D : va_G) (cI cL : ClassId) (ad : Nat → Nat) (ν : sw_N)    (N : Nat) (μ : sw_M)  (o : Int32 × sw_M) (h : f_m_restore N  μ  = some o) : MetR l D cI cL yX11_restore cX11_restore 1 (some .int) 3 0 0 (fun a => a = ad) ad [.ref 63] lay0 μ ν (some (.int o.1)) lay0 o.2 ν :=
  MetR.of (n := 0) rfl (Nat.le_of_ble_eq_true rfl) (fun G g ho hm _ _ => ok_f_m_restore  g hm  μ ho  h)
def f_m_status (N : Nat)  (μ : sw_M) (a1 : Int32) : Option (Int32 × sw_M) :=
  wb (wr μ 63 0 0) (fun μ1 =>
    Option.bind (f_sm_within N  μ1 a1 0 1) (fun r2 =>
      if r2 = 0 then
        some ((-1), μ1)
      else
        inb a1 2 (
          some (μ1 64 a1.toNatClampNeg, μ1))))
set_option maxRecDepth 100000 in
set_option maxHeartbeats 4000000 in
theorem ok_f_m_status {G : sw_G} {ad : Nat → Nat} {ν : sw_N}   {N : Nat} {o : Int32 × sw_M} (g : sw_ok G cX11_status "DeadWiresModel" (some .int) 2 0 0 ad) (hm : G.2.2.1.2.1.maxLocals = 2)  (μ : sw_M) (ho : sw_out G 0 0 (fun a => a = ad) (.inl (some (.int o.1))) lay0 o.2 ν) (a1 : Int32) (h : f_m_status N  μ a1 = some o) : SW G ad lay0 ν 0 0 0 [some (.ref 63), some (.int a1)] [] μ := by
  unfold f_m_status at h
  refine SW.aload_n (pc := 0) g (dt dt_X11_status 0 rfl) rfl ?_
  refine SW.iconst (pc := 1) (v := 0) g (dt dt_X11_status 1 rfl) ki_0 ?_
  refine SW.putI (pc := 2) g (dt dt_X11_status 2 rfl) fl_X11_3 cell_63 rfl ?_
  refine SW.genM h (fun μ1 h => ?_)
  refine SW.iload_n (pc := 5) g (dt dt_X11_status 3 rfl) rfl ?_
  refine SW.iconst (pc := 6) (v := 0) g (dt dt_X11_status 4 rfl) ki_0 ?_
  refine SW.iconst (pc := 7) (v := 1) g (dt dt_X11_status 5 rfl) ki_1 ?_
  obtain ⟨r2, h3, h⟩ := bindI h
  refine SW.callSi (pc := 8) g (dt dt_X11_status 6 rfl) (mt_f_sm_within _ _ _ _ ad ν lay0   N μ1 a1 0 1 r2 h3) me_X11_within ms_X11_within ml_X11_374 rfl (Nat.le_of_ble_eq_true rfl) (Nat.le_of_ble_eq_true rfl) (Nat.le_of_ble_eq_true rfl) (Nat.le_of_ble_eq_true rfl) rfl ?_
  refine SW.if_eq (pc := 11) (t := 23) g (dt dt_X11_status 7 rfl) rfl (fun hc => ?_) (fun hc => ?_)
  · have h := iteT hc h
    refine SW.iconst (pc := 23) (v := (-1)) g (dt dt_X11_status 13 rfl) ki_m1 ?_
    exact SW.ireturn (pc := 24) g (leafW h ho) rfl (Nat.le_of_ble_eq_true rfl) (Nat.le_of_ble_eq_true rfl) (dt dt_X11_status 14 rfl)
  · have h := iteF hc h
    refine SW.aload_n (pc := 14) g (dt dt_X11_status 8 rfl) rfl ?_
    refine SW.getR (pc := 15) g (dt dt_X11_status 9 rfl) fl_X11_7 cell_63 rfl ?_
    refine SW.iload_n (pc := 18) g (dt dt_X11_status 10 rfl) rfl ?_
    obtain ⟨hb4, h⟩ := inbI h
    refine SW.iaload (pc := 19) g (dt dt_X11_status 11 rfl) cell_64 hb4 ?_
    refine SW.goto (pc := 20) (t := 24) g (dt dt_X11_status 12 rfl) rfl ?_
    exact SW.ireturn (pc := 24) g (leafW h ho) rfl (Nat.le_of_ble_eq_true rfl) (Nat.le_of_ble_eq_true rfl) (dt dt_X11_status 14 rfl)
set_option maxRecDepth 100000 in
set_option maxHeartbeats 4000000 in
theorem mt_f_m_status (l : Launch) (D : va_G) (cI cL : ClassId) (ad : Nat → Nat) (ν : sw_N)    (N : Nat) (μ : sw_M) (a1 : Int32) (o : Int32 × sw_M) (h : f_m_status N  μ a1 = some o) : MetR l D cI cL yX11_status cX11_status 2 (some .int) 2 0 0 (fun a => a = ad) ad [.ref 63, .int a1] lay0 μ ν (some (.int o.1)) lay0 o.2 ν :=
  MetR.of (n := 0) rfl (Nat.le_of_ble_eq_true rfl) (fun G g ho hm _ _ => ok_f_m_status  g hm  μ ho a1 h)
def f_m_count (N : Nat)  (μ : sw_M) (a1 : Int32) : Option (Int32 × sw_M) :=
  wb (wr μ 63 0 0) (fun μ1 =>
    if a1 = 0 then
      some (μ1 63 50, μ1)
    else
      if a1 = 1 then
        some (μ1 63 2, μ1)
      else
        if a1 = 2 then
          some (μ1 63 36, μ1)
        else
          some ((-1), μ1))
set_option maxRecDepth 100000 in
set_option maxHeartbeats 4000000 in
theorem ok_f_m_count {G : sw_G} {ad : Nat → Nat} {ν : sw_N}   {N : Nat} {o : Int32 × sw_M} (g : sw_ok G cX11_count "DeadWiresModel" (some .int) 1 0 0 ad) (hm : G.2.2.1.2.1.maxLocals = 2)  (μ : sw_M) (ho : sw_out G 0 0 (fun a => a = ad) (.inl (some (.int o.1))) lay0 o.2 ν) (a1 : Int32) (h : f_m_count N  μ a1 = some o) : SW G ad lay0 ν 0 0 0 [some (.ref 63), some (.int a1)] [] μ := by
  unfold f_m_count at h
  refine SW.aload_n (pc := 0) g (dt dt_X11_count 0 rfl) rfl ?_
  refine SW.iconst (pc := 1) (v := 0) g (dt dt_X11_count 1 rfl) ki_0 ?_
  refine SW.putI (pc := 2) g (dt dt_X11_count 2 rfl) fl_X11_3 cell_63 rfl ?_
  refine SW.genM h (fun μ1 h => ?_)
  refine SW.iload_n (pc := 5) g (dt dt_X11_count 3 rfl) rfl ?_
  refine SW.if_ne (pc := 6) (t := 16) g (dt dt_X11_count 4 rfl) rfl (fun hc => ?_) (fun hc => ?_)
  · have h := iteF hc h
    refine SW.iload_n (pc := 16) g (dt dt_X11_count 8 rfl) rfl ?_
    refine SW.iconst (pc := 17) (v := 1) g (dt dt_X11_count 9 rfl) ki_1 ?_
    refine SW.icmp_ne (pc := 18) (t := 28) g (dt dt_X11_count 10 rfl) rfl (fun hc => ?_) (fun hc => ?_)
    · have h := iteF hc h
      refine SW.iload_n (pc := 28) g (dt dt_X11_count 14 rfl) rfl ?_
      refine SW.iconst (pc := 29) (v := 2) g (dt dt_X11_count 15 rfl) ki_2 ?_
      refine SW.icmp_ne (pc := 30) (t := 40) g (dt dt_X11_count 16 rfl) rfl (fun hc => ?_) (fun hc => ?_)
      · have h := iteF hc h
        refine SW.iconst (pc := 40) (v := (-1)) g (dt dt_X11_count 20 rfl) ki_m1 ?_
        exact SW.ireturn (pc := 41) g (leafW h ho) rfl (Nat.le_of_ble_eq_true rfl) (Nat.le_of_ble_eq_true rfl) (dt dt_X11_count 21 rfl)
      · have h := iteT hc h
        refine SW.aload_n (pc := 33) g (dt dt_X11_count 17 rfl) rfl ?_
        refine SW.getI (pc := 34) g (dt dt_X11_count 18 rfl) fl_X11_175 cell_63 rfl ?_
        refine SW.goto (pc := 37) (t := 41) g (dt dt_X11_count 19 rfl) rfl ?_
        exact SW.ireturn (pc := 41) g (leafW h ho) rfl (Nat.le_of_ble_eq_true rfl) (Nat.le_of_ble_eq_true rfl) (dt dt_X11_count 21 rfl)
    · have h := iteT hc h
      refine SW.aload_n (pc := 21) g (dt dt_X11_count 11 rfl) rfl ?_
      refine SW.getI (pc := 22) g (dt dt_X11_count 12 rfl) fl_X11_92 cell_63 rfl ?_
      refine SW.goto (pc := 25) (t := 41) g (dt dt_X11_count 13 rfl) rfl ?_
      exact SW.ireturn (pc := 41) g (leafW h ho) rfl (Nat.le_of_ble_eq_true rfl) (Nat.le_of_ble_eq_true rfl) (dt dt_X11_count 21 rfl)
  · have h := iteT hc h
    refine SW.aload_n (pc := 9) g (dt dt_X11_count 5 rfl) rfl ?_
    refine SW.getI (pc := 10) g (dt dt_X11_count 6 rfl) fl_X11_178 cell_63 rfl ?_
    refine SW.goto (pc := 13) (t := 41) g (dt dt_X11_count 7 rfl) rfl ?_
    exact SW.ireturn (pc := 41) g (leafW h ho) rfl (Nat.le_of_ble_eq_true rfl) (Nat.le_of_ble_eq_true rfl) (dt dt_X11_count 21 rfl)
set_option maxRecDepth 100000 in
set_option maxHeartbeats 4000000 in
theorem mt_f_m_count (l : Launch) (D : va_G) (cI cL : ClassId) (ad : Nat → Nat) (ν : sw_N)    (N : Nat) (μ : sw_M) (a1 : Int32) (o : Int32 × sw_M) (h : f_m_count N  μ a1 = some o) : MetR l D cI cL yX11_count cX11_count 2 (some .int) 1 0 0 (fun a => a = ad) ad [.ref 63, .int a1] lay0 μ ν (some (.int o.1)) lay0 o.2 ν :=
  MetR.of (n := 0) rfl (Nat.le_of_ble_eq_true rfl) (fun G g ho hm _ _ => ok_f_m_count  g hm  μ ho a1 h)
def f_tape_hasRoom (N : Nat)  (μ : sw_M)  : Option (Int32) :=
  if 600 < ((μ 1 3) + 20) then
    some 0
  else
    some 1
set_option maxRecDepth 100000 in
set_option maxHeartbeats 4000000 in
theorem ok_f_tape_hasRoom {G : sw_G} {ad : Nat → Nat} {ν : sw_N}   {N : Nat} {o : Int32} (g : sw_ok G cX7_hasRoom "DeadWires$Tape" (some .boolean) 1 0 0 ad) (hm : G.2.2.1.2.1.maxLocals = 1)  (μ : sw_M) (ho : sw_out G 0 0 (fun a => a = ad) (.inl (some (.int o))) lay0 μ ν)  (h : f_tape_hasRoom N  μ  = some o) : SW G ad lay0 ν 0 0 0 [some (.ref 1)] [] μ := by
  unfold f_tape_hasRoom at h
  refine SW.aload_n (pc := 0) g (dt dt_X7_hasRoom 0 rfl) rfl ?_
  refine SW.getI (pc := 1) g (dt dt_X7_hasRoom 1 rfl) fl_X7_22 cell_1 rfl ?_
  refine SW.bipush (pc := 4) (v := 20) g (dt dt_X7_hasRoom 2 rfl) kb_20 ?_
  refine SW.iadd (pc := 6) g (dt dt_X7_hasRoom 3 rfl) ?_
  refine SW.sipush (pc := 7) (v := 600) g (dt dt_X7_hasRoom 4 rfl) ks_600 ?_
  refine SW.icmp_gt (pc := 10) (t := 17) g (dt dt_X7_hasRoom 5 rfl) rfl (fun hc => ?_) (fun hc => ?_)
  · have h := iteT hc h
    refine SW.iconst (pc := 17) (v := 0) g (dt dt_X7_hasRoom 8 rfl) ki_0 ?_
    exact SW.zreturn (pc := 18) g (leafI h ho) rfl (Nat.le_of_ble_eq_true rfl) (Nat.le_of_ble_eq_true rfl) (by decide) (dt dt_X7_hasRoom 9 rfl)
  · have h := iteF hc h
    refine SW.iconst (pc := 13) (v := 1) g (dt dt_X7_hasRoom 6 rfl) ki_1 ?_
    refine SW.goto (pc := 14) (t := 18) g (dt dt_X7_hasRoom 7 rfl) rfl ?_
    exact SW.zreturn (pc := 18) g (leafI h ho) rfl (Nat.le_of_ble_eq_true rfl) (Nat.le_of_ble_eq_true rfl) (by decide) (dt dt_X7_hasRoom 9 rfl)
set_option maxRecDepth 100000 in
set_option maxHeartbeats 4000000 in
theorem mt_f_tape_hasRoom (l : Launch) (D : va_G) (cI cL : ClassId) (ad : Nat → Nat) (ν : sw_N)    (N : Nat) (μ : sw_M)  (o : Int32) (h : f_tape_hasRoom N  μ  = some o) : MetR l D cI cL yX7_hasRoom cX7_hasRoom 1 (some .boolean) 1 0 0 (fun a => a = ad) ad [.ref 1] lay0 μ ν (some (.int o)) lay0 μ ν :=
  MetR.of (n := 0) rfl (Nat.le_of_ble_eq_true rfl) (fun G g ho hm _ _ => ok_f_tape_hasRoom  g hm  μ ho  h)
def f_tape_add_3 (N : Nat)   : Nat → sw_M → Int32 → Int32 → Option (sw_M)
  | 0, _, _, _ => none
  | n + 1, μ, x1, x2 =>
    if x2 < 0 then
      some μ
    else
      if (Int32.ofNat 600) ≤ (μ 1 3) then
        f_tape_add_3 N   n μ x1 (x2 + (-8))
      else
        inb (μ 1 3) 600 (wb (wr μ 2 (μ 1 3).toNatClampNeg (((x1.toUInt32 >>> (x2.toUInt32 &&& Int32.toUInt32 31)).toInt32) &&& 255)) (fun μ2 =>
          wb (wr μ2 1 3 ((μ2 1 3) + 1)) (fun μ3 =>
            f_tape_add_3 N   n μ3 x1 (x2 + (-8)))))
def f_tape_add (N : Nat)  (μ : sw_M) (a1 : Int32) : Option (sw_M) :=
  f_tape_add_3 N   N μ a1 24
set_option maxRecDepth 100000 in
set_option maxHeartbeats 4000000 in
theorem ok_f_tape_add_3 {G : sw_G} {ad : Nat → Nat} {ν : sw_N}   {N : Nat} {o : sw_M} (g : sw_ok G cX7_add "DeadWires$Tape" none 1 0 0 ad) (hm : G.2.2.1.2.1.maxLocals = 3)  (ho : sw_out G 0 0 (fun a => a = ad) (.inl none) lay0 o ν)  : ∀ (n : Nat) (μ : sw_M) (x1 : Int32) (x2 : Int32) (h : f_tape_add_3 N   n μ x1 x2 = some o), SW G ad lay0 ν 0 0 3 [some (.ref 1), some (.int x1), some (.int x2)] [] μ := by
  intro n
  induction n with
  | zero => intro μ x1 x2 h; simp only [f_tape_add_3] at h; cases h
  | succ n ih =>
    intro μ x1 x2 h
    unfold f_tape_add_3 at h
    refine SW.iload_n (pc := 3) g (dt dt_X7_add 2 rfl) rfl ?_
    refine SW.if_lt (pc := 4) (t := 51) g (dt dt_X7_add 3 rfl) rfl (fun hc => ?_) (fun hc => ?_)
    · have h := iteT hc h
      exact SW.vreturn (pc := 51) g (leafV h ho) rfl (Nat.le_of_ble_eq_true rfl) (Nat.le_of_ble_eq_true rfl) (dt dt_X7_add 28 rfl)
    · have h := iteF hc h
      refine SW.aload_n (pc := 7) g (dt dt_X7_add 4 rfl) rfl ?_
      refine SW.getI (pc := 8) g (dt dt_X7_add 5 rfl) fl_X7_22 cell_1 rfl ?_
      refine SW.aload_n (pc := 11) g (dt dt_X7_add 6 rfl) rfl ?_
      refine SW.getR (pc := 12) g (dt dt_X7_add 7 rfl) fl_X7_9 cell_1 rfl ?_
      refine SW.alen (pc := 15) g (dt dt_X7_add 8 rfl) cell_2 ?_
      refine SW.icmp_ge (pc := 16) (t := 45) g (dt dt_X7_add 9 rfl) rfl (fun hc => ?_) (fun hc => ?_)
      · have h := iteT hc h
        refine SW.iinc (pc := 45) (v := x2 + (-8)) g (dt dt_X7_add 26 rfl) rfl (kn_m8 _) (sw_ltm hm (Nat.le_of_ble_eq_true rfl)) rfl ?_
        refine SW.goto (pc := 48) (t := 3) g (dt dt_X7_add 27 rfl) rfl ?_
        refine SW.msk [true, true, true] ?_
        exact ih μ x1 (x2 + (-8)) h
      · have h := iteF hc h
        refine SW.aload_n (pc := 19) g (dt dt_X7_add 10 rfl) rfl ?_
        refine SW.getR (pc := 20) g (dt dt_X7_add 11 rfl) fl_X7_9 cell_1 rfl ?_
        refine SW.aload_n (pc := 23) g (dt dt_X7_add 12 rfl) rfl ?_
        refine SW.getI (pc := 24) g (dt dt_X7_add 13 rfl) fl_X7_22 cell_1 rfl ?_
        refine SW.iload_n (pc := 27) g (dt dt_X7_add 14 rfl) rfl ?_
        refine SW.iload_n (pc := 28) g (dt dt_X7_add 15 rfl) rfl ?_
        refine SW.iushr (pc := 29) g (dt dt_X7_add 16 rfl) ?_
        refine SW.sipush (pc := 30) (v := 255) g (dt dt_X7_add 17 rfl) ks_255 ?_
        refine SW.iand (pc := 33) g (dt dt_X7_add 18 rfl) ?_
        obtain ⟨hb1, h⟩ := inbI h
        refine SW.iastore (pc := 34) g (dt dt_X7_add 19 rfl) cell_2 hb1 ?_
        refine SW.genM h (fun μ2 h => ?_)
        refine SW.aload_n (pc := 35) g (dt dt_X7_add 20 rfl) rfl ?_
        refine SW.dup (pc := 36) g (dt dt_X7_add 21 rfl) rfl ?_
        refine SW.getI (pc := 37) g (dt dt_X7_add 22 rfl) fl_X7_22 cell_1 rfl ?_
        refine SW.iconst (pc := 40) (v := 1) g (dt dt_X7_add 23 rfl) ki_1 ?_
        refine SW.iadd (pc := 41) g (dt dt_X7_add 24 rfl) ?_
        refine SW.putI (pc := 42) g (dt dt_X7_add 25 rfl) fl_X7_22 cell_1 rfl ?_
        refine SW.genM h (fun μ3 h => ?_)
        refine SW.iinc (pc := 45) (v := x2 + (-8)) g (dt dt_X7_add 26 rfl) rfl (kn_m8 _) (sw_ltm hm (Nat.le_of_ble_eq_true rfl)) rfl ?_
        refine SW.goto (pc := 48) (t := 3) g (dt dt_X7_add 27 rfl) rfl ?_
        refine SW.msk [true, true, true] ?_
        exact ih μ3 x1 (x2 + (-8)) h
set_option maxRecDepth 100000 in
set_option maxHeartbeats 4000000 in
theorem ok_f_tape_add {G : sw_G} {ad : Nat → Nat} {ν : sw_N}   {N : Nat} {o : sw_M} (g : sw_ok G cX7_add "DeadWires$Tape" none 1 0 0 ad) (hm : G.2.2.1.2.1.maxLocals = 3)  (μ : sw_M) (ho : sw_out G 0 0 (fun a => a = ad) (.inl none) lay0 o ν) (a1 : Int32) (h : f_tape_add N  μ a1 = some o) : SW G ad lay0 ν 0 0 0 [some (.ref 1), some (.int a1), none] [] μ := by
  unfold f_tape_add at h
  refine SW.bipush (pc := 0) (v := 24) g (dt dt_X7_add 0 rfl) kb_24 ?_
  refine SW.istore_n (pc := 2) g (dt dt_X7_add 1 rfl) (sw_ltm hm (Nat.le_of_ble_eq_true rfl)) rfl ?_
  refine SW.msk [true, true, true] ?_
  exact ok_f_tape_add_3  g hm  ho   N μ a1 24 h
set_option maxRecDepth 100000 in
set_option maxHeartbeats 4000000 in
theorem mt_f_tape_add (l : Launch) (D : va_G) (cI cL : ClassId) (ad : Nat → Nat) (ν : sw_N)    (N : Nat) (μ : sw_M) (a1 : Int32) (o : sw_M) (h : f_tape_add N  μ a1 = some o) : MetR l D cI cL yX7_add cX7_add 3 none 1 0 0 (fun a => a = ad) ad [.ref 1, .int a1] lay0 μ ν none lay0 o ν :=
  MetR.of (n := 1) rfl (Nat.le_of_ble_eq_true rfl) (fun G g ho hm _ _ => ok_f_tape_add  g hm  μ ho a1 h)
def f_tape_drop (N : Nat)  (μ : sw_M)  : Option (sw_M) :=
  wb (wr μ 1 3 0) (fun μ1 =>
    wb (wr μ1 1 7 0) (fun μ2 =>
      wb (wr μ2 1 8 (-1)) (fun μ3 =>
        some μ3)))
set_option maxRecDepth 100000 in
set_option maxHeartbeats 4000000 in
theorem ok_f_tape_drop {G : sw_G} {ad : Nat → Nat} {ν : sw_N}   {N : Nat} {o : sw_M} (g : sw_ok G cX7_drop "DeadWires$Tape" none 1 0 0 ad) (hm : G.2.2.1.2.1.maxLocals = 1)  (μ : sw_M) (ho : sw_out G 0 0 (fun a => a = ad) (.inl none) lay0 o ν)  (h : f_tape_drop N  μ  = some o) : SW G ad lay0 ν 0 0 0 [some (.ref 1)] [] μ := by
  unfold f_tape_drop at h
  refine SW.aload_n (pc := 0) g (dt dt_X7_drop 0 rfl) rfl ?_
  refine SW.iconst (pc := 1) (v := 0) g (dt dt_X7_drop 1 rfl) ki_0 ?_
  refine SW.putI (pc := 2) g (dt dt_X7_drop 2 rfl) fl_X7_22 cell_1 rfl ?_
  refine SW.genM h (fun μ1 h => ?_)
  refine SW.aload_n (pc := 5) g (dt dt_X7_drop 3 rfl) rfl ?_
  refine SW.iconst (pc := 6) (v := 0) g (dt dt_X7_drop 4 rfl) ki_0 ?_
  refine SW.putI (pc := 7) g (dt dt_X7_drop 5 rfl) fl_X7_25 cell_1 rfl ?_
  refine SW.genM h (fun μ2 h => ?_)
  refine SW.aload_n (pc := 10) g (dt dt_X7_drop 6 rfl) rfl ?_
  refine SW.iconst (pc := 11) (v := (-1)) g (dt dt_X7_drop 7 rfl) ki_m1 ?_
  refine SW.putI (pc := 12) g (dt dt_X7_drop 8 rfl) fl_X7_19 cell_1 rfl ?_
  refine SW.genM h (fun μ3 h => ?_)
  exact SW.vreturn (pc := 15) g (leafV h ho) rfl (Nat.le_of_ble_eq_true rfl) (Nat.le_of_ble_eq_true rfl) (dt dt_X7_drop 9 rfl)
set_option maxRecDepth 100000 in
set_option maxHeartbeats 4000000 in
theorem mt_f_tape_drop (l : Launch) (D : va_G) (cI cL : ClassId) (ad : Nat → Nat) (ν : sw_N)    (N : Nat) (μ : sw_M)  (o : sw_M) (h : f_tape_drop N  μ  = some o) : MetR l D cI cL yX7_drop cX7_drop 1 none 1 0 0 (fun a => a = ad) ad [.ref 1] lay0 μ ν none lay0 o ν :=
  MetR.of (n := 0) rfl (Nat.le_of_ble_eq_true rfl) (fun G g ho hm _ _ => ok_f_tape_drop  g hm  μ ho  h)
def f_sx_clamp (N : Nat)  (μ : sw_M) (a0 : Int32) (a1 : Int32) (a2 : Int32) : Option (Int32) :=
  if a1 ≤ a0 then
    if a0 ≤ a2 then
      some a0
    else
      some a2
  else
    some a1
set_option maxRecDepth 100000 in
set_option maxHeartbeats 4000000 in
theorem ok_f_sx_clamp {G : sw_G} {ad : Nat → Nat} {ν : sw_N} {L : sw_L}  {N : Nat} {o : Int32} (g : sw_ok G cX10_clamp "DeadWires" (some .int) 1 0 0 ad) (hm : G.2.2.1.2.1.maxLocals = 3)  (μ : sw_M) (ho : sw_out G 0 0 (fun a => a = ad) (.inl (some (.int o))) L μ ν) (a0 : Int32) (a1 : Int32) (a2 : Int32) (h : f_sx_clamp N  μ a0 a1 a2 = some o) : SW G ad L ν 0 0 0 [some (.int a0), some (.int a1), some (.int a2)] [] μ := by
  unfold f_sx_clamp at h
  refine SW.iload_n (pc := 0) g (dt dt_X10_clamp 0 rfl) rfl ?_
  refine SW.iload_n (pc := 1) g (dt dt_X10_clamp 1 rfl) rfl ?_
  refine SW.icmp_ge (pc := 2) (t := 7) g (dt dt_X10_clamp 2 rfl) rfl (fun hc => ?_) (fun hc => ?_)
  · have h := iteT hc h
    refine SW.iload_n (pc := 7) g (dt dt_X10_clamp 5 rfl) rfl ?_
    refine SW.iload_n (pc := 8) g (dt dt_X10_clamp 6 rfl) rfl ?_
    refine SW.icmp_le (pc := 9) (t := 16) g (dt dt_X10_clamp 7 rfl) rfl (fun hc => ?_) (fun hc => ?_)
    · have h := iteT hc h
      refine SW.iload_n (pc := 16) g (dt dt_X10_clamp 10 rfl) rfl ?_
      exact SW.ireturn (pc := 17) g (leafI h ho) rfl (Nat.le_of_ble_eq_true rfl) (Nat.le_of_ble_eq_true rfl) (dt dt_X10_clamp 11 rfl)
    · have h := iteF hc h
      refine SW.iload_n (pc := 12) g (dt dt_X10_clamp 8 rfl) rfl ?_
      refine SW.goto (pc := 13) (t := 17) g (dt dt_X10_clamp 9 rfl) rfl ?_
      exact SW.ireturn (pc := 17) g (leafI h ho) rfl (Nat.le_of_ble_eq_true rfl) (Nat.le_of_ble_eq_true rfl) (dt dt_X10_clamp 11 rfl)
  · have h := iteF hc h
    refine SW.iload_n (pc := 5) g (dt dt_X10_clamp 3 rfl) rfl ?_
    exact SW.ireturn (pc := 6) g (leafI h ho) rfl (Nat.le_of_ble_eq_true rfl) (Nat.le_of_ble_eq_true rfl) (dt dt_X10_clamp 4 rfl)
set_option maxRecDepth 100000 in
set_option maxHeartbeats 4000000 in
theorem mt_f_sx_clamp (l : Launch) (D : va_G) (cI cL : ClassId) (ad : Nat → Nat) (ν : sw_N) (L : sw_L)   (N : Nat) (μ : sw_M) (a0 : Int32) (a1 : Int32) (a2 : Int32) (o : Int32) (h : f_sx_clamp N  μ a0 a1 a2 = some o) : MetR l D cI cL yX10_clamp cX10_clamp 3 (some .int) 1 0 0 (fun a => a = ad) ad [.int a0, .int a1, .int a2] L μ ν (some (.int o)) L μ ν :=
  MetR.of (n := 0) rfl (Nat.le_of_ble_eq_true rfl) (fun G g ho hm _ _ => ok_f_sx_clamp  g hm  μ ho a0 a1 a2 h)
def f_tape_advance_275 (N : Nat)   (μ : sw_M)  : Option (sw_M) :=
  wb (wr μ 1 2 ((μ 1 2) + 1)) (fun μ1 =>
    some μ1)
def f_tape_advance_223 (N : Nat)   : Nat → sw_M → Option (sw_M)
  | 0, _ => none
  | n + 1, μ =>
    if (μ 1 1) ≤ (μ 1 2) then
      some μ
    else
      inb (μ 1 2) 600 (
        if (μ 2 (μ 1 2).toNatClampNeg) < 97 then
          some μ
        else
          inb (μ 1 2) 600 (
            if 122 < (μ 2 (μ 1 2).toNatClampNeg) then
              some μ
            else
              wb (wr μ 1 2 ((μ 1 2) + 1)) (fun μ3 =>
                f_tape_advance_223 N   n μ3 )))
def f_tape_advance_198 (N : Nat)   (μ : sw_M)  : Option (sw_M) :=
  if (μ 1 4) < 97 then
    f_tape_advance_275 N    μ 
  else
    if 122 < (μ 1 4) then
      f_tape_advance_275 N    μ 
    else
      wb (wr μ 1 4 258) (fun μ1 =>
        f_tape_advance_223 N   N μ1 )
def f_tape_advance_182 (N : Nat)  (k_108 : sw_M → Option (sw_M)) (μ : sw_M) (s0 : Int32) : Option (sw_M) :=
  wb (wr μ 1 6 s0) (fun μ1 =>
    wb (wr μ1 1 2 ((μ1 1 2) + 1)) (fun μ2 =>
      k_108 μ2 ))
def f_tape_advance_108 (N : Nat)   : Nat → sw_M → Option (sw_M)
  | 0, _ => none
  | n + 1, μ =>
    if (μ 1 1) ≤ (μ 1 2) then
      some μ
    else
      inb (μ 1 2) 600 (
        if (μ 2 (μ 1 2).toNatClampNeg) < 48 then
          some μ
        else
          inb (μ 1 2) 600 (
            if 57 < (μ 2 (μ 1 2).toNatClampNeg) then
              some μ
            else
              if (μ 1 6) < 1000000 then
                inb (μ 1 2) 600 (
                  f_tape_advance_182 N  (f_tape_advance_108 N   n)  μ ((((μ 1 6) * 10) + (μ 2 (μ 1 2).toNatClampNeg)) - 48))
              else
                f_tape_advance_182 N  (f_tape_advance_108 N   n)  μ 1000000))
def f_tape_advance_38 (N : Nat)   (μ : sw_M)  : Option (sw_M) :=
  wb (wr μ 1 5 (μ 1 2)) (fun μ1 =>
    if (μ1 1 2) < (μ1 1 1) then
      inb (μ1 1 2) 600 (
        wb (wr μ1 1 4 (μ1 2 (μ1 1 2).toNatClampNeg)) (fun μ3 =>
          if (μ3 1 4) < 48 then
            f_tape_advance_198 N    μ3 
          else
            if 57 < (μ3 1 4) then
              f_tape_advance_198 N    μ3 
            else
              wb (wr μ3 1 4 257) (fun μ4 =>
                wb (wr μ4 1 6 0) (fun μ5 =>
                  f_tape_advance_108 N   N μ5 ))))
    else
      wb (wr μ1 1 4 256) (fun μ6 =>
        some μ6))
def f_tape_advance_0 (N : Nat)   : Nat → sw_M → Option (sw_M)
  | 0, _ => none
  | n + 1, μ =>
    if (μ 1 1) ≤ (μ 1 2) then
      f_tape_advance_38 N    μ 
    else
      inb (μ 1 2) 600 (
        if (μ 2 (μ 1 2).toNatClampNeg) = 32 then
          wb (wr μ 1 2 ((μ 1 2) + 1)) (fun μ2 =>
            f_tape_advance_0 N   n μ2 )
        else
          f_tape_advance_38 N    μ )
def f_tape_advance (N : Nat)  (μ : sw_M)  : Option (sw_M) := f_tape_advance_0 N    N μ 
set_option maxRecDepth 100000 in
set_option maxHeartbeats 4000000 in
theorem ok_f_tape_advance_275 {G : sw_G} {ad : Nat → Nat} {ν : sw_N}   {N : Nat} {o : sw_M} (g : sw_ok G cX7_advance "DeadWires$Tape" none 1 0 0 ad) (hm : G.2.2.1.2.1.maxLocals = 1)  (ho : sw_out G 0 0 (fun a => a = ad) (.inl none) lay0 o ν)  (μ : sw_M)  (h : f_tape_advance_275 N    μ  = some o) : SW G ad lay0 ν 0 0 275 [some (.ref 1)] [] μ := by
  unfold f_tape_advance_275 at h
  refine SW.aload_n (pc := 275) g (dt dt_X7_advance 136 rfl) rfl ?_
  refine SW.dup (pc := 276) g (dt dt_X7_advance 137 rfl) rfl ?_
  refine SW.getI (pc := 277) g (dt dt_X7_advance 138 rfl) fl_X7_38 cell_1 rfl ?_
  refine SW.iconst (pc := 280) (v := 1) g (dt dt_X7_advance 139 rfl) ki_1 ?_
  refine SW.iadd (pc := 281) g (dt dt_X7_advance 140 rfl) ?_
  refine SW.putI (pc := 282) g (dt dt_X7_advance 141 rfl) fl_X7_38 cell_1 rfl ?_
  refine SW.genM h (fun μ1 h => ?_)
  exact SW.vreturn (pc := 285) g (leafV h ho) rfl (Nat.le_of_ble_eq_true rfl) (Nat.le_of_ble_eq_true rfl) (dt dt_X7_advance 142 rfl)
set_option maxRecDepth 100000 in
set_option maxHeartbeats 4000000 in
theorem ok_f_tape_advance_223 {G : sw_G} {ad : Nat → Nat} {ν : sw_N}   {N : Nat} {o : sw_M} (g : sw_ok G cX7_advance "DeadWires$Tape" none 1 0 0 ad) (hm : G.2.2.1.2.1.maxLocals = 1)  (ho : sw_out G 0 0 (fun a => a = ad) (.inl none) lay0 o ν)  : ∀ (n : Nat) (μ : sw_M)  (h : f_tape_advance_223 N   n μ  = some o), SW G ad lay0 ν 0 0 223 [some (.ref 1)] [] μ := by
  intro n
  induction n with
  | zero => intro μ  h; simp only [f_tape_advance_223] at h; cases h
  | succ n ih =>
    intro μ  h
    unfold f_tape_advance_223 at h
    refine SW.aload_n (pc := 223) g (dt dt_X7_advance 110 rfl) rfl ?_
    refine SW.getI (pc := 224) g (dt dt_X7_advance 111 rfl) fl_X7_38 cell_1 rfl ?_
    refine SW.aload_n (pc := 227) g (dt dt_X7_advance 112 rfl) rfl ?_
    refine SW.getI (pc := 228) g (dt dt_X7_advance 113 rfl) fl_X7_35 cell_1 rfl ?_
    refine SW.icmp_ge (pc := 231) (t := 285) g (dt dt_X7_advance 114 rfl) rfl (fun hc => ?_) (fun hc => ?_)
    · have h := iteT hc h
      exact SW.vreturn (pc := 285) g (leafV h ho) rfl (Nat.le_of_ble_eq_true rfl) (Nat.le_of_ble_eq_true rfl) (dt dt_X7_advance 142 rfl)
    · have h := iteF hc h
      refine SW.aload_n (pc := 234) g (dt dt_X7_advance 115 rfl) rfl ?_
      refine SW.getR (pc := 235) g (dt dt_X7_advance 116 rfl) fl_X7_9 cell_1 rfl ?_
      refine SW.aload_n (pc := 238) g (dt dt_X7_advance 117 rfl) rfl ?_
      refine SW.getI (pc := 239) g (dt dt_X7_advance 118 rfl) fl_X7_38 cell_1 rfl ?_
      obtain ⟨hb1, h⟩ := inbI h
      refine SW.iaload (pc := 242) g (dt dt_X7_advance 119 rfl) cell_2 hb1 ?_
      refine SW.bipush (pc := 243) (v := 97) g (dt dt_X7_advance 120 rfl) kb_97 ?_
      refine SW.icmp_lt (pc := 245) (t := 285) g (dt dt_X7_advance 121 rfl) rfl (fun hc => ?_) (fun hc => ?_)
      · have h := iteT hc h
        exact SW.vreturn (pc := 285) g (leafV h ho) rfl (Nat.le_of_ble_eq_true rfl) (Nat.le_of_ble_eq_true rfl) (dt dt_X7_advance 142 rfl)
      · have h := iteF hc h
        refine SW.aload_n (pc := 248) g (dt dt_X7_advance 122 rfl) rfl ?_
        refine SW.getR (pc := 249) g (dt dt_X7_advance 123 rfl) fl_X7_9 cell_1 rfl ?_
        refine SW.aload_n (pc := 252) g (dt dt_X7_advance 124 rfl) rfl ?_
        refine SW.getI (pc := 253) g (dt dt_X7_advance 125 rfl) fl_X7_38 cell_1 rfl ?_
        obtain ⟨hb2, h⟩ := inbI h
        refine SW.iaload (pc := 256) g (dt dt_X7_advance 126 rfl) cell_2 hb2 ?_
        refine SW.bipush (pc := 257) (v := 122) g (dt dt_X7_advance 127 rfl) kb_122 ?_
        refine SW.icmp_gt (pc := 259) (t := 285) g (dt dt_X7_advance 128 rfl) rfl (fun hc => ?_) (fun hc => ?_)
        · have h := iteT hc h
          exact SW.vreturn (pc := 285) g (leafV h ho) rfl (Nat.le_of_ble_eq_true rfl) (Nat.le_of_ble_eq_true rfl) (dt dt_X7_advance 142 rfl)
        · have h := iteF hc h
          refine SW.aload_n (pc := 262) g (dt dt_X7_advance 129 rfl) rfl ?_
          refine SW.dup (pc := 263) g (dt dt_X7_advance 130 rfl) rfl ?_
          refine SW.getI (pc := 264) g (dt dt_X7_advance 131 rfl) fl_X7_38 cell_1 rfl ?_
          refine SW.iconst (pc := 267) (v := 1) g (dt dt_X7_advance 132 rfl) ki_1 ?_
          refine SW.iadd (pc := 268) g (dt dt_X7_advance 133 rfl) ?_
          refine SW.putI (pc := 269) g (dt dt_X7_advance 134 rfl) fl_X7_38 cell_1 rfl ?_
          refine SW.genM h (fun μ3 h => ?_)
          refine SW.goto (pc := 272) (t := 223) g (dt dt_X7_advance 135 rfl) rfl ?_
          refine SW.msk [true] ?_
          exact ih μ3  h
set_option maxRecDepth 100000 in
set_option maxHeartbeats 4000000 in
theorem ok_f_tape_advance_198 {G : sw_G} {ad : Nat → Nat} {ν : sw_N}   {N : Nat} {o : sw_M} (g : sw_ok G cX7_advance "DeadWires$Tape" none 1 0 0 ad) (hm : G.2.2.1.2.1.maxLocals = 1)  (ho : sw_out G 0 0 (fun a => a = ad) (.inl none) lay0 o ν)  (μ : sw_M)  (h : f_tape_advance_198 N    μ  = some o) : SW G ad lay0 ν 0 0 198 [some (.ref 1)] [] μ := by
  unfold f_tape_advance_198 at h
  refine SW.aload_n (pc := 198) g (dt dt_X7_advance 99 rfl) rfl ?_
  refine SW.getI (pc := 199) g (dt dt_X7_advance 100 rfl) fl_X7_15 cell_1 rfl ?_
  refine SW.bipush (pc := 202) (v := 97) g (dt dt_X7_advance 101 rfl) kb_97 ?_
  refine SW.icmp_lt (pc := 204) (t := 275) g (dt dt_X7_advance 102 rfl) rfl (fun hc => ?_) (fun hc => ?_)
  · have h := iteT hc h
    refine SW.msk [true] ?_
    exact ok_f_tape_advance_275  g hm  ho    μ  h
  · have h := iteF hc h
    refine SW.aload_n (pc := 207) g (dt dt_X7_advance 103 rfl) rfl ?_
    refine SW.getI (pc := 208) g (dt dt_X7_advance 104 rfl) fl_X7_15 cell_1 rfl ?_
    refine SW.bipush (pc := 211) (v := 122) g (dt dt_X7_advance 105 rfl) kb_122 ?_
    refine SW.icmp_gt (pc := 213) (t := 275) g (dt dt_X7_advance 106 rfl) rfl (fun hc => ?_) (fun hc => ?_)
    · have h := iteT hc h
      refine SW.msk [true] ?_
      exact ok_f_tape_advance_275  g hm  ho    μ  h
    · have h := iteF hc h
      refine SW.aload_n (pc := 216) g (dt dt_X7_advance 107 rfl) rfl ?_
      refine SW.sipush (pc := 217) (v := 258) g (dt dt_X7_advance 108 rfl) ks_258 ?_
      refine SW.putI (pc := 220) g (dt dt_X7_advance 109 rfl) fl_X7_15 cell_1 rfl ?_
      refine SW.genM h (fun μ1 h => ?_)
      refine SW.msk [true] ?_
      exact ok_f_tape_advance_223  g hm  ho   N μ1  h
set_option maxRecDepth 100000 in
set_option maxHeartbeats 4000000 in
theorem ok_f_tape_advance_182 {G : sw_G} {ad : Nat → Nat} {ν : sw_N}   {N : Nat} {o : sw_M} (g : sw_ok G cX7_advance "DeadWires$Tape" none 1 0 0 ad) (hm : G.2.2.1.2.1.maxLocals = 1)  (ho : sw_out G 0 0 (fun a => a = ad) (.inl none) lay0 o ν) (k_108 : sw_M → Option (sw_M)) (hk_108 : ∀ (μ : sw_M), k_108 μ  = some o → SW G ad lay0 ν 0 0 108 [some (.ref 1)] [] μ) (μ : sw_M) (s0 : Int32) (h : f_tape_advance_182 N  k_108  μ s0 = some o) : SW G ad lay0 ν 0 0 182 [some (.ref 1)] [.int s0, .ref 1] μ := by
  unfold f_tape_advance_182 at h
  refine SW.putI (pc := 182) g (dt dt_X7_advance 91 rfl) fl_X7_47 cell_1 rfl ?_
  refine SW.genM h (fun μ1 h => ?_)
  refine SW.aload_n (pc := 185) g (dt dt_X7_advance 92 rfl) rfl ?_
  refine SW.dup (pc := 186) g (dt dt_X7_advance 93 rfl) rfl ?_
  refine SW.getI (pc := 187) g (dt dt_X7_advance 94 rfl) fl_X7_38 cell_1 rfl ?_
  refine SW.iconst (pc := 190) (v := 1) g (dt dt_X7_advance 95 rfl) ki_1 ?_
  refine SW.iadd (pc := 191) g (dt dt_X7_advance 96 rfl) ?_
  refine SW.putI (pc := 192) g (dt dt_X7_advance 97 rfl) fl_X7_38 cell_1 rfl ?_
  refine SW.genM h (fun μ2 h => ?_)
  refine SW.goto (pc := 195) (t := 108) g (dt dt_X7_advance 98 rfl) rfl ?_
  refine SW.msk [true] ?_
  exact hk_108 μ2  h
set_option maxRecDepth 100000 in
set_option maxHeartbeats 4000000 in
theorem ok_f_tape_advance_108 {G : sw_G} {ad : Nat → Nat} {ν : sw_N}   {N : Nat} {o : sw_M} (g : sw_ok G cX7_advance "DeadWires$Tape" none 1 0 0 ad) (hm : G.2.2.1.2.1.maxLocals = 1)  (ho : sw_out G 0 0 (fun a => a = ad) (.inl none) lay0 o ν)  : ∀ (n : Nat) (μ : sw_M)  (h : f_tape_advance_108 N   n μ  = some o), SW G ad lay0 ν 0 0 108 [some (.ref 1)] [] μ := by
  intro n
  induction n with
  | zero => intro μ  h; simp only [f_tape_advance_108] at h; cases h
  | succ n ih =>
    intro μ  h
    unfold f_tape_advance_108 at h
    refine SW.aload_n (pc := 108) g (dt dt_X7_advance 53 rfl) rfl ?_
    refine SW.getI (pc := 109) g (dt dt_X7_advance 54 rfl) fl_X7_38 cell_1 rfl ?_
    refine SW.aload_n (pc := 112) g (dt dt_X7_advance 55 rfl) rfl ?_
    refine SW.getI (pc := 113) g (dt dt_X7_advance 56 rfl) fl_X7_35 cell_1 rfl ?_
    refine SW.icmp_ge (pc := 116) (t := 285) g (dt dt_X7_advance 57 rfl) rfl (fun hc => ?_) (fun hc => ?_)
    · have h := iteT hc h
      exact SW.vreturn (pc := 285) g (leafV h ho) rfl (Nat.le_of_ble_eq_true rfl) (Nat.le_of_ble_eq_true rfl) (dt dt_X7_advance 142 rfl)
    · have h := iteF hc h
      refine SW.aload_n (pc := 119) g (dt dt_X7_advance 58 rfl) rfl ?_
      refine SW.getR (pc := 120) g (dt dt_X7_advance 59 rfl) fl_X7_9 cell_1 rfl ?_
      refine SW.aload_n (pc := 123) g (dt dt_X7_advance 60 rfl) rfl ?_
      refine SW.getI (pc := 124) g (dt dt_X7_advance 61 rfl) fl_X7_38 cell_1 rfl ?_
      obtain ⟨hb1, h⟩ := inbI h
      refine SW.iaload (pc := 127) g (dt dt_X7_advance 62 rfl) cell_2 hb1 ?_
      refine SW.bipush (pc := 128) (v := 48) g (dt dt_X7_advance 63 rfl) kb_48 ?_
      refine SW.icmp_lt (pc := 130) (t := 285) g (dt dt_X7_advance 64 rfl) rfl (fun hc => ?_) (fun hc => ?_)
      · have h := iteT hc h
        exact SW.vreturn (pc := 285) g (leafV h ho) rfl (Nat.le_of_ble_eq_true rfl) (Nat.le_of_ble_eq_true rfl) (dt dt_X7_advance 142 rfl)
      · have h := iteF hc h
        refine SW.aload_n (pc := 133) g (dt dt_X7_advance 65 rfl) rfl ?_
        refine SW.getR (pc := 134) g (dt dt_X7_advance 66 rfl) fl_X7_9 cell_1 rfl ?_
        refine SW.aload_n (pc := 137) g (dt dt_X7_advance 67 rfl) rfl ?_
        refine SW.getI (pc := 138) g (dt dt_X7_advance 68 rfl) fl_X7_38 cell_1 rfl ?_
        obtain ⟨hb2, h⟩ := inbI h
        refine SW.iaload (pc := 141) g (dt dt_X7_advance 69 rfl) cell_2 hb2 ?_
        refine SW.bipush (pc := 142) (v := 57) g (dt dt_X7_advance 70 rfl) kb_57 ?_
        refine SW.icmp_gt (pc := 144) (t := 285) g (dt dt_X7_advance 71 rfl) rfl (fun hc => ?_) (fun hc => ?_)
        · have h := iteT hc h
          exact SW.vreturn (pc := 285) g (leafV h ho) rfl (Nat.le_of_ble_eq_true rfl) (Nat.le_of_ble_eq_true rfl) (dt dt_X7_advance 142 rfl)
        · have h := iteF hc h
          refine SW.aload_n (pc := 147) g (dt dt_X7_advance 72 rfl) rfl ?_
          refine SW.aload_n (pc := 148) g (dt dt_X7_advance 73 rfl) rfl ?_
          refine SW.getI (pc := 149) g (dt dt_X7_advance 74 rfl) fl_X7_47 cell_1 rfl ?_
          refine SW.ldc (pc := 152) g (dt dt_X7_advance 75 rfl) ko_X7_50 ?_
          refine SW.icmp_lt (pc := 154) (t := 162) g (dt dt_X7_advance 76 rfl) rfl (fun hc => ?_) (fun hc => ?_)
          · have h := iteT hc h
            refine SW.aload_n (pc := 162) g (dt dt_X7_advance 79 rfl) rfl ?_
            refine SW.getI (pc := 163) g (dt dt_X7_advance 80 rfl) fl_X7_47 cell_1 rfl ?_
            refine SW.bipush (pc := 166) (v := 10) g (dt dt_X7_advance 81 rfl) kb_10 ?_
            refine SW.imul (pc := 168) g (dt dt_X7_advance 82 rfl) ?_
            refine SW.aload_n (pc := 169) g (dt dt_X7_advance 83 rfl) rfl ?_
            refine SW.getR (pc := 170) g (dt dt_X7_advance 84 rfl) fl_X7_9 cell_1 rfl ?_
            refine SW.aload_n (pc := 173) g (dt dt_X7_advance 85 rfl) rfl ?_
            refine SW.getI (pc := 174) g (dt dt_X7_advance 86 rfl) fl_X7_38 cell_1 rfl ?_
            obtain ⟨hb3, h⟩ := inbI h
            refine SW.iaload (pc := 177) g (dt dt_X7_advance 87 rfl) cell_2 hb3 ?_
            refine SW.iadd (pc := 178) g (dt dt_X7_advance 88 rfl) ?_
            refine SW.bipush (pc := 179) (v := 48) g (dt dt_X7_advance 89 rfl) kb_48 ?_
            refine SW.isub (pc := 181) g (dt dt_X7_advance 90 rfl) ?_
            refine SW.msk [true] ?_
            exact ok_f_tape_advance_182  g hm  ho (f_tape_advance_108 N   n) ih  μ ((((μ 1 6) * 10) + (μ 2 (μ 1 2).toNatClampNeg)) - 48) h
          · have h := iteF hc h
            refine SW.ldc (pc := 157) g (dt dt_X7_advance 77 rfl) ko_X7_50 ?_
            refine SW.goto (pc := 159) (t := 182) g (dt dt_X7_advance 78 rfl) rfl ?_
            refine SW.msk [true] ?_
            exact ok_f_tape_advance_182  g hm  ho (f_tape_advance_108 N   n) ih  μ 1000000 h
set_option maxRecDepth 100000 in
set_option maxHeartbeats 4000000 in
theorem ok_f_tape_advance_38 {G : sw_G} {ad : Nat → Nat} {ν : sw_N}   {N : Nat} {o : sw_M} (g : sw_ok G cX7_advance "DeadWires$Tape" none 1 0 0 ad) (hm : G.2.2.1.2.1.maxLocals = 1)  (ho : sw_out G 0 0 (fun a => a = ad) (.inl none) lay0 o ν)  (μ : sw_M)  (h : f_tape_advance_38 N    μ  = some o) : SW G ad lay0 ν 0 0 38 [some (.ref 1)] [] μ := by
  unfold f_tape_advance_38 at h
  refine SW.aload_n (pc := 38) g (dt dt_X7_advance 19 rfl) rfl ?_
  refine SW.aload_n (pc := 39) g (dt dt_X7_advance 20 rfl) rfl ?_
  refine SW.getI (pc := 40) g (dt dt_X7_advance 21 rfl) fl_X7_38 cell_1 rfl ?_
  refine SW.putI (pc := 43) g (dt dt_X7_advance 22 rfl) fl_X7_44 cell_1 rfl ?_
  refine SW.genM h (fun μ1 h => ?_)
  refine SW.aload_n (pc := 46) g (dt dt_X7_advance 23 rfl) rfl ?_
  refine SW.getI (pc := 47) g (dt dt_X7_advance 24 rfl) fl_X7_38 cell_1 rfl ?_
  refine SW.aload_n (pc := 50) g (dt dt_X7_advance 25 rfl) rfl ?_
  refine SW.getI (pc := 51) g (dt dt_X7_advance 26 rfl) fl_X7_35 cell_1 rfl ?_
  refine SW.icmp_lt (pc := 54) (t := 65) g (dt dt_X7_advance 27 rfl) rfl (fun hc => ?_) (fun hc => ?_)
  · have h := iteT hc h
    refine SW.aload_n (pc := 65) g (dt dt_X7_advance 32 rfl) rfl ?_
    refine SW.aload_n (pc := 66) g (dt dt_X7_advance 33 rfl) rfl ?_
    refine SW.getR (pc := 67) g (dt dt_X7_advance 34 rfl) fl_X7_9 cell_1 rfl ?_
    refine SW.aload_n (pc := 70) g (dt dt_X7_advance 35 rfl) rfl ?_
    refine SW.getI (pc := 71) g (dt dt_X7_advance 36 rfl) fl_X7_38 cell_1 rfl ?_
    obtain ⟨hb2, h⟩ := inbI h
    refine SW.iaload (pc := 74) g (dt dt_X7_advance 37 rfl) cell_2 hb2 ?_
    refine SW.putI (pc := 75) g (dt dt_X7_advance 38 rfl) fl_X7_15 cell_1 rfl ?_
    refine SW.genM h (fun μ3 h => ?_)
    refine SW.aload_n (pc := 78) g (dt dt_X7_advance 39 rfl) rfl ?_
    refine SW.getI (pc := 79) g (dt dt_X7_advance 40 rfl) fl_X7_15 cell_1 rfl ?_
    refine SW.bipush (pc := 82) (v := 48) g (dt dt_X7_advance 41 rfl) kb_48 ?_
    refine SW.icmp_lt (pc := 84) (t := 198) g (dt dt_X7_advance 42 rfl) rfl (fun hc => ?_) (fun hc => ?_)
    · have h := iteT hc h
      refine SW.msk [true] ?_
      exact ok_f_tape_advance_198  g hm  ho    μ3  h
    · have h := iteF hc h
      refine SW.aload_n (pc := 87) g (dt dt_X7_advance 43 rfl) rfl ?_
      refine SW.getI (pc := 88) g (dt dt_X7_advance 44 rfl) fl_X7_15 cell_1 rfl ?_
      refine SW.bipush (pc := 91) (v := 57) g (dt dt_X7_advance 45 rfl) kb_57 ?_
      refine SW.icmp_gt (pc := 93) (t := 198) g (dt dt_X7_advance 46 rfl) rfl (fun hc => ?_) (fun hc => ?_)
      · have h := iteT hc h
        refine SW.msk [true] ?_
        exact ok_f_tape_advance_198  g hm  ho    μ3  h
      · have h := iteF hc h
        refine SW.aload_n (pc := 96) g (dt dt_X7_advance 47 rfl) rfl ?_
        refine SW.sipush (pc := 97) (v := 257) g (dt dt_X7_advance 48 rfl) ks_257 ?_
        refine SW.putI (pc := 100) g (dt dt_X7_advance 49 rfl) fl_X7_15 cell_1 rfl ?_
        refine SW.genM h (fun μ4 h => ?_)
        refine SW.aload_n (pc := 103) g (dt dt_X7_advance 50 rfl) rfl ?_
        refine SW.iconst (pc := 104) (v := 0) g (dt dt_X7_advance 51 rfl) ki_0 ?_
        refine SW.putI (pc := 105) g (dt dt_X7_advance 52 rfl) fl_X7_47 cell_1 rfl ?_
        refine SW.genM h (fun μ5 h => ?_)
        refine SW.msk [true] ?_
        exact ok_f_tape_advance_108  g hm  ho   N μ5  h
  · have h := iteF hc h
    refine SW.aload_n (pc := 57) g (dt dt_X7_advance 28 rfl) rfl ?_
    refine SW.sipush (pc := 58) (v := 256) g (dt dt_X7_advance 29 rfl) ks_256 ?_
    refine SW.putI (pc := 61) g (dt dt_X7_advance 30 rfl) fl_X7_15 cell_1 rfl ?_
    refine SW.genM h (fun μ6 h => ?_)
    exact SW.vreturn (pc := 64) g (leafV h ho) rfl (Nat.le_of_ble_eq_true rfl) (Nat.le_of_ble_eq_true rfl) (dt dt_X7_advance 31 rfl)
set_option maxRecDepth 100000 in
set_option maxHeartbeats 4000000 in
theorem ok_f_tape_advance_0 {G : sw_G} {ad : Nat → Nat} {ν : sw_N}   {N : Nat} {o : sw_M} (g : sw_ok G cX7_advance "DeadWires$Tape" none 1 0 0 ad) (hm : G.2.2.1.2.1.maxLocals = 1)  (ho : sw_out G 0 0 (fun a => a = ad) (.inl none) lay0 o ν)  : ∀ (n : Nat) (μ : sw_M)  (h : f_tape_advance_0 N   n μ  = some o), SW G ad lay0 ν 0 0 0 [some (.ref 1)] [] μ := by
  intro n
  induction n with
  | zero => intro μ  h; simp only [f_tape_advance_0] at h; cases h
  | succ n ih =>
    intro μ  h
    unfold f_tape_advance_0 at h
    refine SW.aload_n (pc := 0) g (dt dt_X7_advance 0 rfl) rfl ?_
    refine SW.getI (pc := 1) g (dt dt_X7_advance 1 rfl) fl_X7_38 cell_1 rfl ?_
    refine SW.aload_n (pc := 4) g (dt dt_X7_advance 2 rfl) rfl ?_
    refine SW.getI (pc := 5) g (dt dt_X7_advance 3 rfl) fl_X7_35 cell_1 rfl ?_
    refine SW.icmp_ge (pc := 8) (t := 38) g (dt dt_X7_advance 4 rfl) rfl (fun hc => ?_) (fun hc => ?_)
    · have h := iteT hc h
      refine SW.msk [true] ?_
      exact ok_f_tape_advance_38  g hm  ho    μ  h
    · have h := iteF hc h
      refine SW.aload_n (pc := 11) g (dt dt_X7_advance 5 rfl) rfl ?_
      refine SW.getR (pc := 12) g (dt dt_X7_advance 6 rfl) fl_X7_9 cell_1 rfl ?_
      refine SW.aload_n (pc := 15) g (dt dt_X7_advance 7 rfl) rfl ?_
      refine SW.getI (pc := 16) g (dt dt_X7_advance 8 rfl) fl_X7_38 cell_1 rfl ?_
      obtain ⟨hb1, h⟩ := inbI h
      refine SW.iaload (pc := 19) g (dt dt_X7_advance 9 rfl) cell_2 hb1 ?_
      refine SW.bipush (pc := 20) (v := 32) g (dt dt_X7_advance 10 rfl) kb_32 ?_
      refine SW.icmp_ne (pc := 22) (t := 38) g (dt dt_X7_advance 11 rfl) rfl (fun hc => ?_) (fun hc => ?_)
      · have h := iteF hc h
        refine SW.msk [true] ?_
        exact ok_f_tape_advance_38  g hm  ho    μ  h
      · have h := iteT hc h
        refine SW.aload_n (pc := 25) g (dt dt_X7_advance 12 rfl) rfl ?_
        refine SW.dup (pc := 26) g (dt dt_X7_advance 13 rfl) rfl ?_
        refine SW.getI (pc := 27) g (dt dt_X7_advance 14 rfl) fl_X7_38 cell_1 rfl ?_
        refine SW.iconst (pc := 30) (v := 1) g (dt dt_X7_advance 15 rfl) ki_1 ?_
        refine SW.iadd (pc := 31) g (dt dt_X7_advance 16 rfl) ?_
        refine SW.putI (pc := 32) g (dt dt_X7_advance 17 rfl) fl_X7_38 cell_1 rfl ?_
        refine SW.genM h (fun μ2 h => ?_)
        refine SW.goto (pc := 35) (t := 0) g (dt dt_X7_advance 18 rfl) rfl ?_
        refine SW.msk [true] ?_
        exact ih μ2  h
set_option maxRecDepth 100000 in
set_option maxHeartbeats 4000000 in
theorem mt_f_tape_advance (l : Launch) (D : va_G) (cI cL : ClassId) (ad : Nat → Nat) (ν : sw_N)    (N : Nat) (μ : sw_M)  (o : sw_M) (h : f_tape_advance N  μ  = some o) : MetR l D cI cL yX7_advance cX7_advance 1 none 1 0 0 (fun a => a = ad) ad [.ref 1] lay0 μ ν none lay0 o ν :=
  MetR.of (n := 0) rfl (Nat.le_of_ble_eq_true rfl) (fun G g ho hm _ _ => SW.msk [true] (ok_f_tape_advance_0  g hm  ho    N μ  h))
def f_tape_open (N : Nat)  (μ : sw_M) (a1 : Int32) : Option (sw_M) :=
  Option.bind (f_tape_drop N  μ ) (fun r1 =>
    Option.bind (f_sx_clamp N  r1 a1 0 (Int32.ofNat 600)) (fun r3 =>
      wb (wr r1 1 1 r3) (fun μ5 =>
        wb (wr μ5 1 2 0) (fun μ6 =>
          Option.bind (f_tape_advance N  μ6 ) (fun r7 =>
            some r7)))))
set_option maxRecDepth 100000 in
set_option maxHeartbeats 4000000 in
theorem ok_f_tape_open {G : sw_G} {ad : Nat → Nat} {ν : sw_N}   {N : Nat} {o : sw_M} (g : sw_ok G cX7_open "DeadWires$Tape" none 2 0 0 ad) (hm : G.2.2.1.2.1.maxLocals = 2)  (μ : sw_M) (ho : sw_out G 0 0 (fun a => a = ad) (.inl none) lay0 o ν) (a1 : Int32) (h : f_tape_open N  μ a1 = some o) : SW G ad lay0 ν 0 0 0 [some (.ref 1), some (.int a1)] [] μ := by
  unfold f_tape_open at h
  refine SW.aload_n (pc := 0) g (dt dt_X7_open 0 rfl) rfl ?_
  obtain ⟨r1, h2, h⟩ := bindI h
  refine SW.callVv (pc := 1) g (dt dt_X7_open 1 rfl) (mt_f_tape_drop _ _ _ _ ad ν   N μ  r1 h2) me_X7_drop mv_X7_drop ml_X7_28 cell_1 rfl rfl (Nat.le_of_ble_eq_true rfl) (Nat.le_of_ble_eq_true rfl) (Nat.le_of_ble_eq_true rfl) (Nat.le_of_ble_eq_true rfl) rfl ?_
  refine SW.aload_n (pc := 4) g (dt dt_X7_open 2 rfl) rfl ?_
  refine SW.iload_n (pc := 5) g (dt dt_X7_open 3 rfl) rfl ?_
  refine SW.iconst (pc := 6) (v := 0) g (dt dt_X7_open 4 rfl) ki_0 ?_
  refine SW.aload_n (pc := 7) g (dt dt_X7_open 5 rfl) rfl ?_
  refine SW.getR (pc := 8) g (dt dt_X7_open 6 rfl) fl_X7_9 cell_1 rfl ?_
  refine SW.alen (pc := 11) g (dt dt_X7_open 7 rfl) cell_2 ?_
  obtain ⟨r3, h4, h⟩ := bindI h
  refine SW.callSNi (pc := 12) g (dt dt_X7_open 8 rfl) (mt_f_sx_clamp _ _ _ _ ad ν lay0   N r1 a1 0 (Int32.ofNat 600) r3 h4) me_X10_clamp ms_X10_clamp mn_X7_31 rfl (Nat.le_of_ble_eq_true rfl) (Nat.le_of_ble_eq_true rfl) (Nat.le_of_ble_eq_true rfl) (Nat.le_of_ble_eq_true rfl) rfl ?_
  refine SW.putI (pc := 15) g (dt dt_X7_open 9 rfl) fl_X7_35 cell_1 rfl ?_
  refine SW.genM h (fun μ5 h => ?_)
  refine SW.aload_n (pc := 18) g (dt dt_X7_open 10 rfl) rfl ?_
  refine SW.iconst (pc := 19) (v := 0) g (dt dt_X7_open 11 rfl) ki_0 ?_
  refine SW.putI (pc := 20) g (dt dt_X7_open 12 rfl) fl_X7_38 cell_1 rfl ?_
  refine SW.genM h (fun μ6 h => ?_)
  refine SW.aload_n (pc := 23) g (dt dt_X7_open 13 rfl) rfl ?_
  obtain ⟨r7, h8, h⟩ := bindI h
  refine SW.callVv (pc := 24) g (dt dt_X7_open 14 rfl) (mt_f_tape_advance _ _ _ _ ad ν   N μ6  r7 h8) me_X7_advance mv_X7_advance ml_X7_41 cell_1 rfl rfl (Nat.le_of_ble_eq_true rfl) (Nat.le_of_ble_eq_true rfl) (Nat.le_of_ble_eq_true rfl) (Nat.le_of_ble_eq_true rfl) rfl ?_
  exact SW.vreturn (pc := 27) g (leafV h ho) rfl (Nat.le_of_ble_eq_true rfl) (Nat.le_of_ble_eq_true rfl) (dt dt_X7_open 15 rfl)
set_option maxRecDepth 100000 in
set_option maxHeartbeats 4000000 in
theorem mt_f_tape_open (l : Launch) (D : va_G) (cI cL : ClassId) (ad : Nat → Nat) (ν : sw_N)    (N : Nat) (μ : sw_M) (a1 : Int32) (o : sw_M) (h : f_tape_open N  μ a1 = some o) : MetR l D cI cL yX7_open cX7_open 2 none 2 0 0 (fun a => a = ad) ad [.ref 1, .int a1] lay0 μ ν none lay0 o ν :=
  MetR.of (n := 0) rfl (Nat.le_of_ble_eq_true rfl) (fun G g ho hm _ _ => ok_f_tape_open  g hm  μ ho a1 h)
def f_sx_at (N : Nat) (k0 n0 : Nat) (μ : sw_M) (a1 : Int32) : Option (Int32) :=
  if a1 < 0 then
    some (-1)
  else
    if (Int32.ofNat n0) ≤ a1 then
      some (-1)
    else
      inb a1 n0 (
        some (μ k0 a1.toNatClampNeg))
set_option maxRecDepth 100000 in
set_option maxHeartbeats 4000000 in
theorem ok_f_sx_at {G : sw_G} {ad : Nat → Nat} {ν : sw_N} {L : sw_L} (k0 n0 : Nat) {N : Nat} {o : Int32} (g : sw_ok G cX10_at "DeadWires" (some .int) 1 0 0 ad) (hm : G.2.2.1.2.1.maxLocals = 2) (hk0 : L[k0]? = some (.inl (false, n0))) (μ : sw_M) (ho : sw_out G 0 0 (fun a => a = ad) (.inl (some (.int o))) L μ ν) (a1 : Int32) (h : f_sx_at N k0 n0 μ a1 = some o) : SW G ad L ν 0 0 0 [some (.ref k0), some (.int a1)] [] μ := by
  unfold f_sx_at at h
  refine SW.iload_n (pc := 0) g (dt dt_X10_at 0 rfl) rfl ?_
  refine SW.if_lt (pc := 1) (t := 16) g (dt dt_X10_at 1 rfl) rfl (fun hc => ?_) (fun hc => ?_)
  · have h := iteT hc h
    refine SW.iconst (pc := 16) (v := (-1)) g (dt dt_X10_at 10 rfl) ki_m1 ?_
    exact SW.ireturn (pc := 17) g (leafI h ho) rfl (Nat.le_of_ble_eq_true rfl) (Nat.le_of_ble_eq_true rfl) (dt dt_X10_at 11 rfl)
  · have h := iteF hc h
    refine SW.iload_n (pc := 4) g (dt dt_X10_at 2 rfl) rfl ?_
    refine SW.aload_n (pc := 5) g (dt dt_X10_at 3 rfl) rfl ?_
    refine SW.alen (pc := 6) g (dt dt_X10_at 4 rfl) hk0 ?_
    refine SW.icmp_ge (pc := 7) (t := 16) g (dt dt_X10_at 5 rfl) rfl (fun hc => ?_) (fun hc => ?_)
    · have h := iteT hc h
      refine SW.iconst (pc := 16) (v := (-1)) g (dt dt_X10_at 10 rfl) ki_m1 ?_
      exact SW.ireturn (pc := 17) g (leafI h ho) rfl (Nat.le_of_ble_eq_true rfl) (Nat.le_of_ble_eq_true rfl) (dt dt_X10_at 11 rfl)
    · have h := iteF hc h
      refine SW.aload_n (pc := 10) g (dt dt_X10_at 6 rfl) rfl ?_
      refine SW.iload_n (pc := 11) g (dt dt_X10_at 7 rfl) rfl ?_
      obtain ⟨hb1, h⟩ := inbI h
      refine SW.iaload (pc := 12) g (dt dt_X10_at 8 rfl) hk0 hb1 ?_
      refine SW.goto (pc := 13) (t := 17) g (dt dt_X10_at 9 rfl) rfl ?_
      exact SW.ireturn (pc := 17) g (leafI h ho) rfl (Nat.le_of_ble_eq_true rfl) (Nat.le_of_ble_eq_true rfl) (dt dt_X10_at 11 rfl)
set_option maxRecDepth 100000 in
set_option maxHeartbeats 4000000 in
theorem mt_f_sx_at (l : Launch) (D : va_G) (cI cL : ClassId) (ad : Nat → Nat) (ν : sw_N) (L : sw_L) (k0 n0 : Nat) (hk0 : L[k0]? = some (.inl (false, n0))) (N : Nat) (μ : sw_M) (a1 : Int32) (o : Int32) (h : f_sx_at N k0 n0 μ a1 = some o) : MetR l D cI cL yX10_at cX10_at 2 (some .int) 1 0 0 (fun a => a = ad) ad [.ref k0, .int a1] L μ ν (some (.int o)) L μ ν :=
  MetR.of (n := 0) rfl (Nat.le_of_ble_eq_true rfl) (fun G g ho hm _ _ => ok_f_sx_at k0 n0 g hm hk0 μ ho a1 h)
def f_tape_isWord_30 (N : Nat) (j0 : Nat) (μ : sw_M)  : Nat → Int32 → Option (Int32)
  | 0, _ => none
  | n + 1, x2 =>
    Option.bind (f_js_length N j0 μ ) (fun r1 =>
      if r1 ≤ x2 then
        some 1
      else
        Option.bind (f_sx_at N 2 600 μ ((μ 1 5) + x2)) (fun r3 =>
          Option.bind (f_js_charAt N j0 μ x2) (fun r5 =>
            if r3 = r5 then
              f_tape_isWord_30 N j0 μ  n (x2 + 1)
            else
              some 0)))
def f_tape_isWord (N : Nat) (j0 : Nat) (μ : sw_M)  : Option (Int32) :=
  if (μ 1 4) = 258 then
    Option.bind (f_js_length N j0 μ ) (fun r1 =>
      if ((μ 1 2) - (μ 1 5)) = r1 then
        f_tape_isWord_30 N j0 μ  N 0
      else
        some 0)
  else
    some 0
set_option maxRecDepth 100000 in
set_option maxHeartbeats 4000000 in
theorem ok_f_tape_isWord_30 {G : sw_G} {ad : Nat → Nat} {ν : sw_N}  (j0 : Nat) {N : Nat} {o : Int32} (g : sw_ok G cX7_isWord "DeadWires$Tape" (some .boolean) 5 0 0 ad) (hm : G.2.2.1.2.1.maxLocals = 3) (hj0 : j0 < strT.length) (μ : sw_M) (ho : sw_out G 0 0 (fun a => a = ad) (.inl (some (.int o))) lay0 μ ν)  : ∀ (n : Nat) (x2 : Int32) (h : f_tape_isWord_30 N j0 μ  n x2 = some o), SW G ad lay0 ν 0 0 30 [some (.ref 1), some (.ref (1000 + j0)), some (.int x2)] [] μ := by
  intro n
  induction n with
  | zero => intro x2 h; simp only [f_tape_isWord_30] at h; cases h
  | succ n ih =>
    intro x2 h
    unfold f_tape_isWord_30 at h
    refine SW.iload_n (pc := 30) g (dt dt_X7_isWord 16 rfl) rfl ?_
    refine SW.aload_n (pc := 31) g (dt dt_X7_isWord 17 rfl) rfl ?_
    obtain ⟨r1, h2, h⟩ := bindI h
    refine SW.callT (pc := 32) g (dt dt_X7_isWord 18 rfl) (mt_f_js_length _ _ _ _ ad ν lay0 j0 hj0 N μ  r1 h2) me_J0_length_8abf5 mv_J0_length_8abf5 ml_X7_51 hj0 rfl rfl (Nat.le_of_ble_eq_true rfl) (Nat.le_of_ble_eq_true rfl) (Nat.le_of_ble_eq_true rfl) (Nat.le_of_ble_eq_true rfl) rfl ?_
    refine SW.icmp_ge (pc := 35) (t := 67) g (dt dt_X7_isWord 19 rfl) rfl (fun hc => ?_) (fun hc => ?_)
    · have h := iteT hc h
      refine SW.iconst (pc := 67) (v := 1) g (dt dt_X7_isWord 35 rfl) ki_1 ?_
      exact SW.zreturn (pc := 68) g (leafI h ho) rfl (Nat.le_of_ble_eq_true rfl) (Nat.le_of_ble_eq_true rfl) (by decide) (dt dt_X7_isWord 36 rfl)
    · have h := iteF hc h
      refine SW.aload_n (pc := 38) g (dt dt_X7_isWord 20 rfl) rfl ?_
      refine SW.getR (pc := 39) g (dt dt_X7_isWord 21 rfl) fl_X7_9 cell_1 rfl ?_
      refine SW.aload_n (pc := 42) g (dt dt_X7_isWord 22 rfl) rfl ?_
      refine SW.getI (pc := 43) g (dt dt_X7_isWord 23 rfl) fl_X7_44 cell_1 rfl ?_
      refine SW.iload_n (pc := 46) g (dt dt_X7_isWord 24 rfl) rfl ?_
      refine SW.iadd (pc := 47) g (dt dt_X7_isWord 25 rfl) ?_
      obtain ⟨r3, h4, h⟩ := bindI h
      refine SW.callSNi (pc := 48) g (dt dt_X7_isWord 26 rfl) (mt_f_sx_at _ _ _ _ ad ν lay0 2 600 cell_2 N μ ((μ 1 5) + x2) r3 h4) me_X10_at ms_X10_at mn_X7_56 rfl (Nat.le_of_ble_eq_true rfl) (Nat.le_of_ble_eq_true rfl) (Nat.le_of_ble_eq_true rfl) (Nat.le_of_ble_eq_true rfl) rfl ?_
      refine SW.aload_n (pc := 51) g (dt dt_X7_isWord 27 rfl) rfl ?_
      refine SW.iload_n (pc := 52) g (dt dt_X7_isWord 28 rfl) rfl ?_
      obtain ⟨r5, h6, h⟩ := bindI h
      refine SW.callT (pc := 53) g (dt dt_X7_isWord 29 rfl) (mt_f_js_charAt _ _ _ _ ad ν lay0 j0 hj0 N μ x2 r5 h6) me_J0_charAt_5068e mv_J0_charAt_5068e ml_X7_60 hj0 rfl rfl (Nat.le_of_ble_eq_true rfl) (Nat.le_of_ble_eq_true rfl) (Nat.le_of_ble_eq_true rfl) (Nat.le_of_ble_eq_true rfl) rfl ?_
      refine SW.icmp_eq (pc := 56) (t := 61) g (dt dt_X7_isWord 30 rfl) rfl (fun hc => ?_) (fun hc => ?_)
      · have h := iteT hc h
        refine SW.iinc (pc := 61) (v := x2 + 1) g (dt dt_X7_isWord 33 rfl) rfl (kn_1 _) (sw_ltm hm (Nat.le_of_ble_eq_true rfl)) rfl ?_
        refine SW.goto (pc := 64) (t := 30) g (dt dt_X7_isWord 34 rfl) rfl ?_
        refine SW.msk [true, true, true] ?_
        exact ih  (x2 + 1) h
      · have h := iteF hc h
        refine SW.iconst (pc := 59) (v := 0) g (dt dt_X7_isWord 31 rfl) ki_0 ?_
        exact SW.zreturn (pc := 60) g (leafI h ho) rfl (Nat.le_of_ble_eq_true rfl) (Nat.le_of_ble_eq_true rfl) (by decide) (dt dt_X7_isWord 32 rfl)
set_option maxRecDepth 100000 in
set_option maxHeartbeats 4000000 in
theorem ok_f_tape_isWord {G : sw_G} {ad : Nat → Nat} {ν : sw_N}  (j0 : Nat) {N : Nat} {o : Int32} (g : sw_ok G cX7_isWord "DeadWires$Tape" (some .boolean) 5 0 0 ad) (hm : G.2.2.1.2.1.maxLocals = 3) (hj0 : j0 < strT.length) (μ : sw_M) (ho : sw_out G 0 0 (fun a => a = ad) (.inl (some (.int o))) lay0 μ ν)  (h : f_tape_isWord N j0 μ  = some o) : SW G ad lay0 ν 0 0 0 [some (.ref 1), some (.ref (1000 + j0)), none] [] μ := by
  unfold f_tape_isWord at h
  refine SW.aload_n (pc := 0) g (dt dt_X7_isWord 0 rfl) rfl ?_
  refine SW.getI (pc := 1) g (dt dt_X7_isWord 1 rfl) fl_X7_15 cell_1 rfl ?_
  refine SW.sipush (pc := 4) (v := 258) g (dt dt_X7_isWord 2 rfl) ks_258 ?_
  refine SW.icmp_ne (pc := 7) (t := 26) g (dt dt_X7_isWord 3 rfl) rfl (fun hc => ?_) (fun hc => ?_)
  · have h := iteF hc h
    refine SW.iconst (pc := 26) (v := 0) g (dt dt_X7_isWord 12 rfl) ki_0 ?_
    exact SW.zreturn (pc := 27) g (leafI h ho) rfl (Nat.le_of_ble_eq_true rfl) (Nat.le_of_ble_eq_true rfl) (by decide) (dt dt_X7_isWord 13 rfl)
  · have h := iteT hc h
    refine SW.aload_n (pc := 10) g (dt dt_X7_isWord 4 rfl) rfl ?_
    refine SW.getI (pc := 11) g (dt dt_X7_isWord 5 rfl) fl_X7_38 cell_1 rfl ?_
    refine SW.aload_n (pc := 14) g (dt dt_X7_isWord 6 rfl) rfl ?_
    refine SW.getI (pc := 15) g (dt dt_X7_isWord 7 rfl) fl_X7_44 cell_1 rfl ?_
    refine SW.isub (pc := 18) g (dt dt_X7_isWord 8 rfl) ?_
    refine SW.aload_n (pc := 19) g (dt dt_X7_isWord 9 rfl) rfl ?_
    obtain ⟨r1, h2, h⟩ := bindI h
    refine SW.callT (pc := 20) g (dt dt_X7_isWord 10 rfl) (mt_f_js_length _ _ _ _ ad ν lay0 j0 hj0 N μ  r1 h2) me_J0_length_8abf5 mv_J0_length_8abf5 ml_X7_51 hj0 rfl rfl (Nat.le_of_ble_eq_true rfl) (Nat.le_of_ble_eq_true rfl) (Nat.le_of_ble_eq_true rfl) (Nat.le_of_ble_eq_true rfl) rfl ?_
    refine SW.icmp_eq (pc := 23) (t := 28) g (dt dt_X7_isWord 11 rfl) rfl (fun hc => ?_) (fun hc => ?_)
    · have h := iteT hc h
      refine SW.iconst (pc := 28) (v := 0) g (dt dt_X7_isWord 14 rfl) ki_0 ?_
      refine SW.istore_n (pc := 29) g (dt dt_X7_isWord 15 rfl) (sw_ltm hm (Nat.le_of_ble_eq_true rfl)) rfl ?_
      refine SW.msk [true, true, true] ?_
      exact ok_f_tape_isWord_30 j0 g hm hj0 μ ho   N 0 h
    · have h := iteF hc h
      refine SW.iconst (pc := 26) (v := 0) g (dt dt_X7_isWord 12 rfl) ki_0 ?_
      exact SW.zreturn (pc := 27) g (leafI h ho) rfl (Nat.le_of_ble_eq_true rfl) (Nat.le_of_ble_eq_true rfl) (by decide) (dt dt_X7_isWord 13 rfl)
set_option maxRecDepth 100000 in
set_option maxHeartbeats 4000000 in
theorem mt_f_tape_isWord (l : Launch) (D : va_G) (cI cL : ClassId) (ad : Nat → Nat) (ν : sw_N)  (j0 : Nat) (hj0 : j0 < strT.length) (N : Nat) (μ : sw_M)  (o : Int32) (h : f_tape_isWord N j0 μ  = some o) : MetR l D cI cL yX7_isWord cX7_isWord 3 (some .boolean) 5 0 0 (fun a => a = ad) ad [.ref 1, .ref (1000 + j0)] lay0 μ ν (some (.int o)) lay0 μ ν :=
  MetR.of (n := 1) rfl (Nat.le_of_ble_eq_true rfl) (fun G g ho hm _ _ => ok_f_tape_isWord j0 g hm hj0 μ ho  h)
def f_tape_fail (N : Nat)  (μ : sw_M) (a1 : Int32) : Option (Int32 × sw_M) :=
  wb (wr μ 1 7 a1) (fun μ1 =>
    wb (wr μ1 1 8 (μ1 1 5)) (fun μ2 =>
      some (0, μ2)))
set_option maxRecDepth 100000 in
set_option maxHeartbeats 4000000 in
theorem ok_f_tape_fail {G : sw_G} {ad : Nat → Nat} {ν : sw_N}   {N : Nat} {o : Int32 × sw_M} (g : sw_ok G cX7_fail "DeadWires$Tape" (some .boolean) 1 0 0 ad) (hm : G.2.2.1.2.1.maxLocals = 2)  (μ : sw_M) (ho : sw_out G 0 0 (fun a => a = ad) (.inl (some (.int o.1))) lay0 o.2 ν) (a1 : Int32) (h : f_tape_fail N  μ a1 = some o) : SW G ad lay0 ν 0 0 0 [some (.ref 1), some (.int a1)] [] μ := by
  unfold f_tape_fail at h
  refine SW.aload_n (pc := 0) g (dt dt_X7_fail 0 rfl) rfl ?_
  refine SW.iload_n (pc := 1) g (dt dt_X7_fail 1 rfl) rfl ?_
  refine SW.putI (pc := 2) g (dt dt_X7_fail 2 rfl) fl_X7_25 cell_1 rfl ?_
  refine SW.genM h (fun μ1 h => ?_)
  refine SW.aload_n (pc := 5) g (dt dt_X7_fail 3 rfl) rfl ?_
  refine SW.aload_n (pc := 6) g (dt dt_X7_fail 4 rfl) rfl ?_
  refine SW.getI (pc := 7) g (dt dt_X7_fail 5 rfl) fl_X7_44 cell_1 rfl ?_
  refine SW.putI (pc := 10) g (dt dt_X7_fail 6 rfl) fl_X7_19 cell_1 rfl ?_
  refine SW.genM h (fun μ2 h => ?_)
  refine SW.iconst (pc := 13) (v := 0) g (dt dt_X7_fail 7 rfl) ki_0 ?_
  exact SW.zreturn (pc := 14) g (leafW h ho) rfl (Nat.le_of_ble_eq_true rfl) (Nat.le_of_ble_eq_true rfl) (by decide) (dt dt_X7_fail 8 rfl)
set_option maxRecDepth 100000 in
set_option maxHeartbeats 4000000 in
theorem mt_f_tape_fail (l : Launch) (D : va_G) (cI cL : ClassId) (ad : Nat → Nat) (ν : sw_N)    (N : Nat) (μ : sw_M) (a1 : Int32) (o : Int32 × sw_M) (h : f_tape_fail N  μ a1 = some o) : MetR l D cI cL yX7_fail cX7_fail 2 (some .boolean) 1 0 0 (fun a => a = ad) ad [.ref 1, .int a1] lay0 μ ν (some (.int o.1)) lay0 o.2 ν :=
  MetR.of (n := 0) rfl (Nat.le_of_ble_eq_true rfl) (fun G g ho hm _ _ => ok_f_tape_fail  g hm  μ ho a1 h)
def f_tape_takeUnless (N : Nat)  (μ : sw_M) (a1 : Int32) : Option (Int32 × sw_M) :=
  if a1 = 0 then
    Option.bind (f_tape_advance N  μ ) (fun r1 =>
      some (1, r1))
  else
    Option.bind (f_tape_fail N  μ 3) (fun r3 =>
      bl r3.1 (some (r3.1, r3.2)))
set_option maxRecDepth 100000 in
set_option maxHeartbeats 4000000 in
theorem ok_f_tape_takeUnless {G : sw_G} {ad : Nat → Nat} {ν : sw_N}   {N : Nat} {o : Int32 × sw_M} (g : sw_ok G cX7_takeUnless "DeadWires$Tape" (some .boolean) 2 0 0 ad) (hm : G.2.2.1.2.1.maxLocals = 2)  (μ : sw_M) (ho : sw_out G 0 0 (fun a => a = ad) (.inl (some (.int o.1))) lay0 o.2 ν) (a1 : Int32) (h : f_tape_takeUnless N  μ a1 = some o) : SW G ad lay0 ν 0 0 0 [some (.ref 1), some (.int a1)] [] μ := by
  unfold f_tape_takeUnless at h
  refine SW.iload_n (pc := 0) g (dt dt_X7_takeUnless 0 rfl) rfl ?_
  refine SW.if_eq (pc := 1) (t := 10) g (dt dt_X7_takeUnless 1 rfl) rfl (fun hc => ?_) (fun hc => ?_)
  · have h := iteT hc h
    refine SW.aload_n (pc := 10) g (dt dt_X7_takeUnless 6 rfl) rfl ?_
    obtain ⟨r1, h2, h⟩ := bindI h
    refine SW.callVv (pc := 11) g (dt dt_X7_takeUnless 7 rfl) (mt_f_tape_advance _ _ _ _ ad ν   N μ  r1 h2) me_X7_advance mv_X7_advance ml_X7_41 cell_1 rfl rfl (Nat.le_of_ble_eq_true rfl) (Nat.le_of_ble_eq_true rfl) (Nat.le_of_ble_eq_true rfl) (Nat.le_of_ble_eq_true rfl) rfl ?_
    refine SW.iconst (pc := 14) (v := 1) g (dt dt_X7_takeUnless 8 rfl) ki_1 ?_
    exact SW.zreturn (pc := 15) g (leafW h ho) rfl (Nat.le_of_ble_eq_true rfl) (Nat.le_of_ble_eq_true rfl) (by decide) (dt dt_X7_takeUnless 9 rfl)
  · have h := iteF hc h
    refine SW.aload_n (pc := 4) g (dt dt_X7_takeUnless 2 rfl) rfl ?_
    refine SW.iconst (pc := 5) (v := 3) g (dt dt_X7_takeUnless 3 rfl) ki_3 ?_
    obtain ⟨r3, h4, h⟩ := bindI h
    refine SW.callVi (pc := 6) g (dt dt_X7_takeUnless 4 rfl) (mt_f_tape_fail _ _ _ _ ad ν   N μ 3 r3 h4) me_X7_fail mv_X7_fail ml_X7_64 cell_1 rfl rfl (Nat.le_of_ble_eq_true rfl) (Nat.le_of_ble_eq_true rfl) (Nat.le_of_ble_eq_true rfl) (Nat.le_of_ble_eq_true rfl) rfl ?_
    obtain ⟨hn, h⟩ := blI h
    exact SW.zreturn (pc := 9) g (leafW h ho) rfl (Nat.le_of_ble_eq_true rfl) (Nat.le_of_ble_eq_true rfl) hn (dt dt_X7_takeUnless 5 rfl)
set_option maxRecDepth 100000 in
set_option maxHeartbeats 4000000 in
theorem mt_f_tape_takeUnless (l : Launch) (D : va_G) (cI cL : ClassId) (ad : Nat → Nat) (ν : sw_N)    (N : Nat) (μ : sw_M) (a1 : Int32) (o : Int32 × sw_M) (h : f_tape_takeUnless N  μ a1 = some o) : MetR l D cI cL yX7_takeUnless cX7_takeUnless 2 (some .boolean) 2 0 0 (fun a => a = ad) ad [.ref 1, .int a1] lay0 μ ν (some (.int o.1)) lay0 o.2 ν :=
  MetR.of (n := 0) rfl (Nat.le_of_ble_eq_true rfl) (fun G g ho hm _ _ => ok_f_tape_takeUnless  g hm  μ ho a1 h)
def f_sx_within (N : Nat)  (μ : sw_M) (a0 : Int32) (a1 : Int32) (a2 : Int32) : Option (Int32) :=
  if a0 < a1 then
    some 0
  else
    if a2 < a0 then
      some 0
    else
      some 1
set_option maxRecDepth 100000 in
set_option maxHeartbeats 4000000 in
theorem ok_f_sx_within {G : sw_G} {ad : Nat → Nat} {ν : sw_N} {L : sw_L}  {N : Nat} {o : Int32} (g : sw_ok G cX10_within "DeadWires" (some .boolean) 1 0 0 ad) (hm : G.2.2.1.2.1.maxLocals = 3)  (μ : sw_M) (ho : sw_out G 0 0 (fun a => a = ad) (.inl (some (.int o))) L μ ν) (a0 : Int32) (a1 : Int32) (a2 : Int32) (h : f_sx_within N  μ a0 a1 a2 = some o) : SW G ad L ν 0 0 0 [some (.int a0), some (.int a1), some (.int a2)] [] μ := by
  unfold f_sx_within at h
  refine SW.iload_n (pc := 0) g (dt dt_X10_within 0 rfl) rfl ?_
  refine SW.iload_n (pc := 1) g (dt dt_X10_within 1 rfl) rfl ?_
  refine SW.icmp_lt (pc := 2) (t := 14) g (dt dt_X10_within 2 rfl) rfl (fun hc => ?_) (fun hc => ?_)
  · have h := iteT hc h
    refine SW.iconst (pc := 14) (v := 0) g (dt dt_X10_within 8 rfl) ki_0 ?_
    exact SW.zreturn (pc := 15) g (leafI h ho) rfl (Nat.le_of_ble_eq_true rfl) (Nat.le_of_ble_eq_true rfl) (by decide) (dt dt_X10_within 9 rfl)
  · have h := iteF hc h
    refine SW.iload_n (pc := 5) g (dt dt_X10_within 3 rfl) rfl ?_
    refine SW.iload_n (pc := 6) g (dt dt_X10_within 4 rfl) rfl ?_
    refine SW.icmp_gt (pc := 7) (t := 14) g (dt dt_X10_within 5 rfl) rfl (fun hc => ?_) (fun hc => ?_)
    · have h := iteT hc h
      refine SW.iconst (pc := 14) (v := 0) g (dt dt_X10_within 8 rfl) ki_0 ?_
      exact SW.zreturn (pc := 15) g (leafI h ho) rfl (Nat.le_of_ble_eq_true rfl) (Nat.le_of_ble_eq_true rfl) (by decide) (dt dt_X10_within 9 rfl)
    · have h := iteF hc h
      refine SW.iconst (pc := 10) (v := 1) g (dt dt_X10_within 6 rfl) ki_1 ?_
      refine SW.goto (pc := 11) (t := 15) g (dt dt_X10_within 7 rfl) rfl ?_
      exact SW.zreturn (pc := 15) g (leafI h ho) rfl (Nat.le_of_ble_eq_true rfl) (Nat.le_of_ble_eq_true rfl) (by decide) (dt dt_X10_within 9 rfl)
set_option maxRecDepth 100000 in
set_option maxHeartbeats 4000000 in
theorem mt_f_sx_within (l : Launch) (D : va_G) (cI cL : ClassId) (ad : Nat → Nat) (ν : sw_N) (L : sw_L)   (N : Nat) (μ : sw_M) (a0 : Int32) (a1 : Int32) (a2 : Int32) (o : Int32) (h : f_sx_within N  μ a0 a1 a2 = some o) : MetR l D cI cL yX10_within cX10_within 3 (some .boolean) 1 0 0 (fun a => a = ad) ad [.int a0, .int a1, .int a2] L μ ν (some (.int o)) L μ ν :=
  MetR.of (n := 0) rfl (Nat.le_of_ble_eq_true rfl) (fun G g ho hm _ _ => ok_f_sx_within  g hm  μ ho a0 a1 a2 h)
def f_tape_takeNumber (N : Nat)  (μ : sw_M) (a1 : Int32) (a2 : Int32) : Option (Int32 × sw_M) :=
  if (μ 1 4) = 257 then
    ib (μ 1 6) (fun y1 =>
      Option.bind (f_sx_within N  μ y1 a1 a2) (fun r2 =>
        if r2 = 0 then
          Option.bind (f_tape_fail N  μ 2) (fun r6 =>
            some ((-1), r6.2))
        else
          Option.bind (f_tape_advance N  μ ) (fun r4 =>
            some (y1, r4))))
  else
    Option.bind (f_tape_fail N  μ 1) (fun r8 =>
      some ((-1), r8.2))
set_option maxRecDepth 100000 in
set_option maxHeartbeats 4000000 in
theorem ok_f_tape_takeNumber {G : sw_G} {ad : Nat → Nat} {ν : sw_N}   {N : Nat} {o : Int32 × sw_M} (g : sw_ok G cX7_takeNumber "DeadWires$Tape" (some .int) 2 0 0 ad) (hm : G.2.2.1.2.1.maxLocals = 4)  (μ : sw_M) (ho : sw_out G 0 0 (fun a => a = ad) (.inl (some (.int o.1))) lay0 o.2 ν) (a1 : Int32) (a2 : Int32) (h : f_tape_takeNumber N  μ a1 a2 = some o) : SW G ad lay0 ν 0 0 0 [some (.ref 1), some (.int a1), some (.int a2), none] [] μ := by
  unfold f_tape_takeNumber at h
  refine SW.aload_n (pc := 0) g (dt dt_X7_takeNumber 0 rfl) rfl ?_
  refine SW.getI (pc := 1) g (dt dt_X7_takeNumber 1 rfl) fl_X7_15 cell_1 rfl ?_
  refine SW.sipush (pc := 4) (v := 257) g (dt dt_X7_takeNumber 2 rfl) ks_257 ?_
  refine SW.icmp_eq (pc := 7) (t := 18) g (dt dt_X7_takeNumber 3 rfl) rfl (fun hc => ?_) (fun hc => ?_)
  · have h := iteT hc h
    refine SW.aload_n (pc := 18) g (dt dt_X7_takeNumber 10 rfl) rfl ?_
    refine SW.getI (pc := 19) g (dt dt_X7_takeNumber 11 rfl) fl_X7_47 cell_1 rfl ?_
    refine SW.istore_n (pc := 22) g (dt dt_X7_takeNumber 12 rfl) (sw_ltm hm (Nat.le_of_ble_eq_true rfl)) rfl ?_
    refine SW.genL h (fun y1 h => ?_)
    refine SW.iload_n (pc := 23) g (dt dt_X7_takeNumber 13 rfl) rfl ?_
    refine SW.iload_n (pc := 24) g (dt dt_X7_takeNumber 14 rfl) rfl ?_
    refine SW.iload_n (pc := 25) g (dt dt_X7_takeNumber 15 rfl) rfl ?_
    obtain ⟨r2, h3, h⟩ := bindI h
    refine SW.callSNi (pc := 26) g (dt dt_X7_takeNumber 16 rfl) (mt_f_sx_within _ _ _ _ ad ν lay0   N μ y1 a1 a2 r2 h3) me_X10_within ms_X10_within mn_X7_68 rfl (Nat.le_of_ble_eq_true rfl) (Nat.le_of_ble_eq_true rfl) (Nat.le_of_ble_eq_true rfl) (Nat.le_of_ble_eq_true rfl) rfl ?_
    refine SW.if_ne (pc := 29) (t := 40) g (dt dt_X7_takeNumber 17 rfl) rfl (fun hc => ?_) (fun hc => ?_)
    · have h := iteF hc h
      refine SW.aload_n (pc := 40) g (dt dt_X7_takeNumber 24 rfl) rfl ?_
      obtain ⟨r4, h5, h⟩ := bindI h
      refine SW.callVv (pc := 41) g (dt dt_X7_takeNumber 25 rfl) (mt_f_tape_advance _ _ _ _ ad ν   N μ  r4 h5) me_X7_advance mv_X7_advance ml_X7_41 cell_1 rfl rfl (Nat.le_of_ble_eq_true rfl) (Nat.le_of_ble_eq_true rfl) (Nat.le_of_ble_eq_true rfl) (Nat.le_of_ble_eq_true rfl) rfl ?_
      refine SW.iload_n (pc := 44) g (dt dt_X7_takeNumber 26 rfl) rfl ?_
      exact SW.ireturn (pc := 45) g (leafW h ho) rfl (Nat.le_of_ble_eq_true rfl) (Nat.le_of_ble_eq_true rfl) (dt dt_X7_takeNumber 27 rfl)
    · have h := iteT hc h
      refine SW.aload_n (pc := 32) g (dt dt_X7_takeNumber 18 rfl) rfl ?_
      refine SW.iconst (pc := 33) (v := 2) g (dt dt_X7_takeNumber 19 rfl) ki_2 ?_
      obtain ⟨r6, h7, h⟩ := bindI h
      refine SW.callVi (pc := 34) g (dt dt_X7_takeNumber 20 rfl) (mt_f_tape_fail _ _ _ _ ad ν   N μ 2 r6 h7) me_X7_fail mv_X7_fail ml_X7_64 cell_1 rfl rfl (Nat.le_of_ble_eq_true rfl) (Nat.le_of_ble_eq_true rfl) (Nat.le_of_ble_eq_true rfl) (Nat.le_of_ble_eq_true rfl) rfl ?_
      refine SW.pop (pc := 37) g (dt dt_X7_takeNumber 21 rfl) rfl ?_
      refine SW.iconst (pc := 38) (v := (-1)) g (dt dt_X7_takeNumber 22 rfl) ki_m1 ?_
      exact SW.ireturn (pc := 39) g (leafW h ho) rfl (Nat.le_of_ble_eq_true rfl) (Nat.le_of_ble_eq_true rfl) (dt dt_X7_takeNumber 23 rfl)
  · have h := iteF hc h
    refine SW.aload_n (pc := 10) g (dt dt_X7_takeNumber 4 rfl) rfl ?_
    refine SW.iconst (pc := 11) (v := 1) g (dt dt_X7_takeNumber 5 rfl) ki_1 ?_
    obtain ⟨r8, h9, h⟩ := bindI h
    refine SW.callVi (pc := 12) g (dt dt_X7_takeNumber 6 rfl) (mt_f_tape_fail _ _ _ _ ad ν   N μ 1 r8 h9) me_X7_fail mv_X7_fail ml_X7_64 cell_1 rfl rfl (Nat.le_of_ble_eq_true rfl) (Nat.le_of_ble_eq_true rfl) (Nat.le_of_ble_eq_true rfl) (Nat.le_of_ble_eq_true rfl) rfl ?_
    refine SW.pop (pc := 15) g (dt dt_X7_takeNumber 7 rfl) rfl ?_
    refine SW.iconst (pc := 16) (v := (-1)) g (dt dt_X7_takeNumber 8 rfl) ki_m1 ?_
    exact SW.ireturn (pc := 17) g (leafW h ho) rfl (Nat.le_of_ble_eq_true rfl) (Nat.le_of_ble_eq_true rfl) (dt dt_X7_takeNumber 9 rfl)
set_option maxRecDepth 100000 in
set_option maxHeartbeats 4000000 in
theorem mt_f_tape_takeNumber (l : Launch) (D : va_G) (cI cL : ClassId) (ad : Nat → Nat) (ν : sw_N)    (N : Nat) (μ : sw_M) (a1 : Int32) (a2 : Int32) (o : Int32 × sw_M) (h : f_tape_takeNumber N  μ a1 a2 = some o) : MetR l D cI cL yX7_takeNumber cX7_takeNumber 4 (some .int) 2 0 0 (fun a => a = ad) ad [.ref 1, .int a1, .int a2] lay0 μ ν (some (.int o.1)) lay0 o.2 ν :=
  MetR.of (n := 1) rfl (Nat.le_of_ble_eq_true rfl) (fun G g ho hm _ _ => ok_f_tape_takeNumber  g hm  μ ho a1 a2 h)
def f_landR_readPliers (N : Nat)  (μ : sw_M)  : Option (Int32 × sw_M) :=
  Option.bind (f_tape_takeNumber N  μ 0 9) (fun r1 =>
    if r1.1 = (-1) then
      some (0, r1.2)
    else
      wb (wr r1.2 11 4 r1.1) (fun μ3 =>
        some (1, μ3)))
set_option maxRecDepth 100000 in
set_option maxHeartbeats 4000000 in
theorem ok_f_landR_readPliers {G : sw_G} {ad : Nat → Nat} {ν : sw_N}   {N : Nat} {o : Int32 × sw_M} (g : sw_ok G cX4_readPliers "DeadWires$Land" (some .boolean) 3 0 0 ad) (hm : G.2.2.1.2.1.maxLocals = 3)  (μ : sw_M) (ho : sw_out G 0 0 (fun a => a = ad) (.inl (some (.int o.1))) lay0 o.2 ν)  (h : f_landR_readPliers N  μ  = some o) : SW G ad lay0 ν 0 0 0 [some (.ref 11), some (.ref 1), none] [] μ := by
  unfold f_landR_readPliers at h
  refine SW.aload_n (pc := 0) g (dt dt_X4_readPliers 0 rfl) rfl ?_
  refine SW.iconst (pc := 1) (v := 0) g (dt dt_X4_readPliers 1 rfl) ki_0 ?_
  refine SW.bipush (pc := 2) (v := 9) g (dt dt_X4_readPliers 2 rfl) kb_9 ?_
  obtain ⟨r1, h2, h⟩ := bindI h
  refine SW.callVi (pc := 4) g (dt dt_X4_readPliers 3 rfl) (mt_f_tape_takeNumber _ _ _ _ ad ν   N μ 0 9 r1 h2) me_X7_takeNumber mv_X7_takeNumber ml_X4_121 cell_1 rfl rfl (Nat.le_of_ble_eq_true rfl) (Nat.le_of_ble_eq_true rfl) (Nat.le_of_ble_eq_true rfl) (Nat.le_of_ble_eq_true rfl) rfl ?_
  refine SW.istore_n (pc := 7) g (dt dt_X4_readPliers 4 rfl) (sw_ltm hm (Nat.le_of_ble_eq_true rfl)) rfl ?_
  refine SW.iload_n (pc := 8) g (dt dt_X4_readPliers 5 rfl) rfl ?_
  refine SW.iconst (pc := 9) (v := (-1)) g (dt dt_X4_readPliers 6 rfl) ki_m1 ?_
  refine SW.icmp_ne (pc := 10) (t := 15) g (dt dt_X4_readPliers 7 rfl) rfl (fun hc => ?_) (fun hc => ?_)
  · have h := iteF hc h
    refine SW.aload_n (pc := 15) g (dt dt_X4_readPliers 10 rfl) rfl ?_
    refine SW.iload_n (pc := 16) g (dt dt_X4_readPliers 11 rfl) rfl ?_
    refine SW.putI (pc := 17) g (dt dt_X4_readPliers 12 rfl) fl_X4_11 cell_11 rfl ?_
    refine SW.genM h (fun μ3 h => ?_)
    refine SW.iconst (pc := 20) (v := 1) g (dt dt_X4_readPliers 13 rfl) ki_1 ?_
    exact SW.zreturn (pc := 21) g (leafW h ho) rfl (Nat.le_of_ble_eq_true rfl) (Nat.le_of_ble_eq_true rfl) (by decide) (dt dt_X4_readPliers 14 rfl)
  · have h := iteT hc h
    refine SW.iconst (pc := 13) (v := 0) g (dt dt_X4_readPliers 8 rfl) ki_0 ?_
    exact SW.zreturn (pc := 14) g (leafW h ho) rfl (Nat.le_of_ble_eq_true rfl) (Nat.le_of_ble_eq_true rfl) (by decide) (dt dt_X4_readPliers 9 rfl)
set_option maxRecDepth 100000 in
set_option maxHeartbeats 4000000 in
theorem mt_f_landR_readPliers (l : Launch) (D : va_G) (cI cL : ClassId) (ad : Nat → Nat) (ν : sw_N)    (N : Nat) (μ : sw_M)  (o : Int32 × sw_M) (h : f_landR_readPliers N  μ  = some o) : MetR l D cI cL yX4_readPliers cX4_readPliers 3 (some .boolean) 3 0 0 (fun a => a = ad) ad [.ref 11, .ref 1] lay0 μ ν (some (.int o.1)) lay0 o.2 ν :=
  MetR.of (n := 1) rfl (Nat.le_of_ble_eq_true rfl) (fun G g ho hm _ _ => ok_f_landR_readPliers  g hm  μ ho  h)
def f_landR_readFields (N : Nat)  (μ : sw_M)  : Option (Int32 × sw_M) :=
  Option.bind (f_tape_takeNumber N  μ 1 ((8 : Int32) - (μ 11 0))) (fun r1 =>
    if r1.1 = (-1) then
      some (0, r1.2)
    else
      wb (wr r1.2 11 0 ((r1.2 11 0) + r1.1)) (fun μ3 =>
        some (1, μ3)))
set_option maxRecDepth 100000 in
set_option maxHeartbeats 4000000 in
theorem ok_f_landR_readFields {G : sw_G} {ad : Nat → Nat} {ν : sw_N}   {N : Nat} {o : Int32 × sw_M} (g : sw_ok G cX4_readFields "DeadWires$Land" (some .boolean) 3 0 0 ad) (hm : G.2.2.1.2.1.maxLocals = 3)  (μ : sw_M) (ho : sw_out G 0 0 (fun a => a = ad) (.inl (some (.int o.1))) lay0 o.2 ν)  (h : f_landR_readFields N  μ  = some o) : SW G ad lay0 ν 0 0 0 [some (.ref 11), some (.ref 1), none] [] μ := by
  unfold f_landR_readFields at h
  refine SW.aload_n (pc := 0) g (dt dt_X4_readFields 0 rfl) rfl ?_
  refine SW.iconst (pc := 1) (v := 1) g (dt dt_X4_readFields 1 rfl) ki_1 ?_
  refine SW.bipush (pc := 2) (v := 8) g (dt dt_X4_readFields 2 rfl) kb_8 ?_
  refine SW.aload_n (pc := 4) g (dt dt_X4_readFields 3 rfl) rfl ?_
  refine SW.getI (pc := 5) g (dt dt_X4_readFields 4 rfl) fl_X4_37 cell_11 rfl ?_
  refine SW.isub (pc := 8) g (dt dt_X4_readFields 5 rfl) ?_
  obtain ⟨r1, h2, h⟩ := bindI h
  refine SW.callVi (pc := 9) g (dt dt_X4_readFields 6 rfl) (mt_f_tape_takeNumber _ _ _ _ ad ν   N μ 1 ((8 : Int32) - (μ 11 0)) r1 h2) me_X7_takeNumber mv_X7_takeNumber ml_X4_121 cell_1 rfl rfl (Nat.le_of_ble_eq_true rfl) (Nat.le_of_ble_eq_true rfl) (Nat.le_of_ble_eq_true rfl) (Nat.le_of_ble_eq_true rfl) rfl ?_
  refine SW.istore_n (pc := 12) g (dt dt_X4_readFields 7 rfl) (sw_ltm hm (Nat.le_of_ble_eq_true rfl)) rfl ?_
  refine SW.iload_n (pc := 13) g (dt dt_X4_readFields 8 rfl) rfl ?_
  refine SW.iconst (pc := 14) (v := (-1)) g (dt dt_X4_readFields 9 rfl) ki_m1 ?_
  refine SW.icmp_ne (pc := 15) (t := 20) g (dt dt_X4_readFields 10 rfl) rfl (fun hc => ?_) (fun hc => ?_)
  · have h := iteF hc h
    refine SW.aload_n (pc := 20) g (dt dt_X4_readFields 13 rfl) rfl ?_
    refine SW.dup (pc := 21) g (dt dt_X4_readFields 14 rfl) rfl ?_
    refine SW.getI (pc := 22) g (dt dt_X4_readFields 15 rfl) fl_X4_37 cell_11 rfl ?_
    refine SW.iload_n (pc := 25) g (dt dt_X4_readFields 16 rfl) rfl ?_
    refine SW.iadd (pc := 26) g (dt dt_X4_readFields 17 rfl) ?_
    refine SW.putI (pc := 27) g (dt dt_X4_readFields 18 rfl) fl_X4_37 cell_11 rfl ?_
    refine SW.genM h (fun μ3 h => ?_)
    refine SW.iconst (pc := 30) (v := 1) g (dt dt_X4_readFields 19 rfl) ki_1 ?_
    exact SW.zreturn (pc := 31) g (leafW h ho) rfl (Nat.le_of_ble_eq_true rfl) (Nat.le_of_ble_eq_true rfl) (by decide) (dt dt_X4_readFields 20 rfl)
  · have h := iteT hc h
    refine SW.iconst (pc := 18) (v := 0) g (dt dt_X4_readFields 11 rfl) ki_0 ?_
    exact SW.zreturn (pc := 19) g (leafW h ho) rfl (Nat.le_of_ble_eq_true rfl) (Nat.le_of_ble_eq_true rfl) (by decide) (dt dt_X4_readFields 12 rfl)
set_option maxRecDepth 100000 in
set_option maxHeartbeats 4000000 in
theorem mt_f_landR_readFields (l : Launch) (D : va_G) (cI cL : ClassId) (ad : Nat → Nat) (ν : sw_N)    (N : Nat) (μ : sw_M)  (o : Int32 × sw_M) (h : f_landR_readFields N  μ  = some o) : MetR l D cI cL yX4_readFields cX4_readFields 3 (some .boolean) 3 0 0 (fun a => a = ad) ad [.ref 11, .ref 1] lay0 μ ν (some (.int o.1)) lay0 o.2 ν :=
  MetR.of (n := 1) rfl (Nat.le_of_ble_eq_true rfl) (fun G g ho hm _ _ => ok_f_landR_readFields  g hm  μ ho  h)
def f_landR_across (N : Nat)  (μ : sw_M) (a1 : Int32) (a2 : Int32) : Option (Int32) :=
  Option.bind (f_sx_at N 12 12 μ a1) (fun r1 =>
    Option.bind (f_sx_at N 13 12 μ a1) (fun r3 =>
      if a2 = r1 then
        some r3
      else
        if a2 = r3 then
          some r1
        else
          some (-1)))
set_option maxRecDepth 100000 in
set_option maxHeartbeats 4000000 in
theorem ok_f_landR_across {G : sw_G} {ad : Nat → Nat} {ν : sw_N}   {N : Nat} {o : Int32} (g : sw_ok G cX4_across "DeadWires$Land" (some .int) 2 0 0 ad) (hm : G.2.2.1.2.1.maxLocals = 5)  (μ : sw_M) (ho : sw_out G 0 0 (fun a => a = ad) (.inl (some (.int o))) lay0 μ ν) (a1 : Int32) (a2 : Int32) (h : f_landR_across N  μ a1 a2 = some o) : SW G ad lay0 ν 0 0 0 [some (.ref 11), some (.int a1), some (.int a2), none, none] [] μ := by
  unfold f_landR_across at h
  refine SW.aload_n (pc := 0) g (dt dt_X4_across 0 rfl) rfl ?_
  refine SW.getR (pc := 1) g (dt dt_X4_across 1 rfl) fl_X4_15 cell_11 rfl ?_
  refine SW.iload_n (pc := 4) g (dt dt_X4_across 2 rfl) rfl ?_
  obtain ⟨r1, h2, h⟩ := bindI h
  refine SW.callSNi (pc := 5) g (dt dt_X4_across 3 rfl) (mt_f_sx_at _ _ _ _ ad ν lay0 12 12 cell_12 N μ a1 r1 h2) me_X10_at ms_X10_at mn_X4_64 rfl (Nat.le_of_ble_eq_true rfl) (Nat.le_of_ble_eq_true rfl) (Nat.le_of_ble_eq_true rfl) (Nat.le_of_ble_eq_true rfl) rfl ?_
  refine SW.istore_n (pc := 8) g (dt dt_X4_across 4 rfl) (sw_ltm hm (Nat.le_of_ble_eq_true rfl)) rfl ?_
  refine SW.aload_n (pc := 9) g (dt dt_X4_across 5 rfl) rfl ?_
  refine SW.getR (pc := 10) g (dt dt_X4_across 6 rfl) fl_X4_19 cell_11 rfl ?_
  refine SW.iload_n (pc := 13) g (dt dt_X4_across 7 rfl) rfl ?_
  obtain ⟨r3, h4, h⟩ := bindI h
  refine SW.callSNi (pc := 14) g (dt dt_X4_across 8 rfl) (mt_f_sx_at _ _ _ _ ad ν lay0 13 12 cell_13 N μ a1 r3 h4) me_X10_at ms_X10_at mn_X4_64 rfl (Nat.le_of_ble_eq_true rfl) (Nat.le_of_ble_eq_true rfl) (Nat.le_of_ble_eq_true rfl) (Nat.le_of_ble_eq_true rfl) rfl ?_
  refine SW.istore (pc := 17) g (dt dt_X4_across 9 rfl) (sw_ltm hm (Nat.le_of_ble_eq_true rfl)) rfl ?_
  refine SW.iload_n (pc := 19) g (dt dt_X4_across 10 rfl) rfl ?_
  refine SW.iload_n (pc := 20) g (dt dt_X4_across 11 rfl) rfl ?_
  refine SW.icmp_ne (pc := 21) (t := 27) g (dt dt_X4_across 12 rfl) rfl (fun hc => ?_) (fun hc => ?_)
  · have h := iteF hc h
    refine SW.iload_n (pc := 27) g (dt dt_X4_across 15 rfl) rfl ?_
    refine SW.iload (pc := 28) g (dt dt_X4_across 16 rfl) rfl ?_
    refine SW.icmp_ne (pc := 30) (t := 37) g (dt dt_X4_across 17 rfl) rfl (fun hc => ?_) (fun hc => ?_)
    · have h := iteF hc h
      refine SW.iconst (pc := 37) (v := (-1)) g (dt dt_X4_across 20 rfl) ki_m1 ?_
      exact SW.ireturn (pc := 38) g (leafI h ho) rfl (Nat.le_of_ble_eq_true rfl) (Nat.le_of_ble_eq_true rfl) (dt dt_X4_across 21 rfl)
    · have h := iteT hc h
      refine SW.iload_n (pc := 33) g (dt dt_X4_across 18 rfl) rfl ?_
      refine SW.goto (pc := 34) (t := 38) g (dt dt_X4_across 19 rfl) rfl ?_
      exact SW.ireturn (pc := 38) g (leafI h ho) rfl (Nat.le_of_ble_eq_true rfl) (Nat.le_of_ble_eq_true rfl) (dt dt_X4_across 21 rfl)
  · have h := iteT hc h
    refine SW.iload (pc := 24) g (dt dt_X4_across 13 rfl) rfl ?_
    exact SW.ireturn (pc := 26) g (leafI h ho) rfl (Nat.le_of_ble_eq_true rfl) (Nat.le_of_ble_eq_true rfl) (dt dt_X4_across 14 rfl)
set_option maxRecDepth 100000 in
set_option maxHeartbeats 4000000 in
theorem mt_f_landR_across (l : Launch) (D : va_G) (cI cL : ClassId) (ad : Nat → Nat) (ν : sw_N)    (N : Nat) (μ : sw_M) (a1 : Int32) (a2 : Int32) (o : Int32) (h : f_landR_across N  μ a1 a2 = some o) : MetR l D cI cL yX4_across cX4_across 5 (some .int) 2 0 0 (fun a => a = ad) ad [.ref 11, .int a1, .int a2] lay0 μ ν (some (.int o)) lay0 μ ν :=
  MetR.of (n := 2) rfl (Nat.le_of_ble_eq_true rfl) (fun G g ho hm _ _ => ok_f_landR_across  g hm  μ ho a1 a2 h)
def f_landR_isWired_2 (N : Nat)  (μ : sw_M)  : Nat → Int32 → Int32 → Int32 → Option (Int32)
  | 0, _, _, _ => none
  | n + 1, x1, x2, x3 =>
    if (μ 11 1) ≤ x3 then
      some 0
    else
      Option.bind (f_landR_across N  μ x3 x1) (fun r1 =>
        if r1 = x2 then
          some 1
        else
          f_landR_isWired_2 N  μ  n x1 x2 (x3 + 1))
def f_landR_isWired (N : Nat)  (μ : sw_M) (a1 : Int32) (a2 : Int32) : Option (Int32) :=
  f_landR_isWired_2 N  μ  N a1 a2 0
set_option maxRecDepth 100000 in
set_option maxHeartbeats 4000000 in
theorem ok_f_landR_isWired_2 {G : sw_G} {ad : Nat → Nat} {ν : sw_N}   {N : Nat} {o : Int32} (g : sw_ok G cX4_isWired "DeadWires$Land" (some .boolean) 3 0 0 ad) (hm : G.2.2.1.2.1.maxLocals = 4)  (μ : sw_M) (ho : sw_out G 0 0 (fun a => a = ad) (.inl (some (.int o))) lay0 μ ν)  : ∀ (n : Nat) (x1 : Int32) (x2 : Int32) (x3 : Int32) (h : f_landR_isWired_2 N  μ  n x1 x2 x3 = some o), SW G ad lay0 ν 0 0 2 [some (.ref 11), some (.int x1), some (.int x2), some (.int x3)] [] μ := by
  intro n
  induction n with
  | zero => intro x1 x2 x3 h; simp only [f_landR_isWired_2] at h; cases h
  | succ n ih =>
    intro x1 x2 x3 h
    unfold f_landR_isWired_2 at h
    refine SW.iload_n (pc := 2) g (dt dt_X4_isWired 2 rfl) rfl ?_
    refine SW.aload_n (pc := 3) g (dt dt_X4_isWired 3 rfl) rfl ?_
    refine SW.getI (pc := 4) g (dt dt_X4_isWired 4 rfl) fl_X4_40 cell_11 rfl ?_
    refine SW.icmp_ge (pc := 7) (t := 28) g (dt dt_X4_isWired 5 rfl) rfl (fun hc => ?_) (fun hc => ?_)
    · have h := iteT hc h
      refine SW.iconst (pc := 28) (v := 0) g (dt dt_X4_isWired 16 rfl) ki_0 ?_
      exact SW.zreturn (pc := 29) g (leafI h ho) rfl (Nat.le_of_ble_eq_true rfl) (Nat.le_of_ble_eq_true rfl) (by decide) (dt dt_X4_isWired 17 rfl)
    · have h := iteF hc h
      refine SW.aload_n (pc := 10) g (dt dt_X4_isWired 6 rfl) rfl ?_
      refine SW.iload_n (pc := 11) g (dt dt_X4_isWired 7 rfl) rfl ?_
      refine SW.iload_n (pc := 12) g (dt dt_X4_isWired 8 rfl) rfl ?_
      obtain ⟨r1, h2, h⟩ := bindI h
      refine SW.callVi (pc := 13) g (dt dt_X4_isWired 9 rfl) (mt_f_landR_across _ _ _ _ ad ν   N μ x3 x1 r1 h2) me_X4_across mv_X4_across ml_X4_135 cell_11 rfl rfl (Nat.le_of_ble_eq_true rfl) (Nat.le_of_ble_eq_true rfl) (Nat.le_of_ble_eq_true rfl) (Nat.le_of_ble_eq_true rfl) rfl ?_
      refine SW.iload_n (pc := 16) g (dt dt_X4_isWired 10 rfl) rfl ?_
      refine SW.icmp_ne (pc := 17) (t := 22) g (dt dt_X4_isWired 11 rfl) rfl (fun hc => ?_) (fun hc => ?_)
      · have h := iteF hc h
        refine SW.iinc (pc := 22) (v := x3 + 1) g (dt dt_X4_isWired 14 rfl) rfl (kn_1 _) (sw_ltm hm (Nat.le_of_ble_eq_true rfl)) rfl ?_
        refine SW.goto (pc := 25) (t := 2) g (dt dt_X4_isWired 15 rfl) rfl ?_
        refine SW.msk [true, true, true, true] ?_
        exact ih  x1 x2 (x3 + 1) h
      · have h := iteT hc h
        refine SW.iconst (pc := 20) (v := 1) g (dt dt_X4_isWired 12 rfl) ki_1 ?_
        exact SW.zreturn (pc := 21) g (leafI h ho) rfl (Nat.le_of_ble_eq_true rfl) (Nat.le_of_ble_eq_true rfl) (by decide) (dt dt_X4_isWired 13 rfl)
set_option maxRecDepth 100000 in
set_option maxHeartbeats 4000000 in
theorem ok_f_landR_isWired {G : sw_G} {ad : Nat → Nat} {ν : sw_N}   {N : Nat} {o : Int32} (g : sw_ok G cX4_isWired "DeadWires$Land" (some .boolean) 3 0 0 ad) (hm : G.2.2.1.2.1.maxLocals = 4)  (μ : sw_M) (ho : sw_out G 0 0 (fun a => a = ad) (.inl (some (.int o))) lay0 μ ν) (a1 : Int32) (a2 : Int32) (h : f_landR_isWired N  μ a1 a2 = some o) : SW G ad lay0 ν 0 0 0 [some (.ref 11), some (.int a1), some (.int a2), none] [] μ := by
  unfold f_landR_isWired at h
  refine SW.iconst (pc := 0) (v := 0) g (dt dt_X4_isWired 0 rfl) ki_0 ?_
  refine SW.istore_n (pc := 1) g (dt dt_X4_isWired 1 rfl) (sw_ltm hm (Nat.le_of_ble_eq_true rfl)) rfl ?_
  refine SW.msk [true, true, true, true] ?_
  exact ok_f_landR_isWired_2  g hm  μ ho   N a1 a2 0 h
set_option maxRecDepth 100000 in
set_option maxHeartbeats 4000000 in
theorem mt_f_landR_isWired (l : Launch) (D : va_G) (cI cL : ClassId) (ad : Nat → Nat) (ν : sw_N)    (N : Nat) (μ : sw_M) (a1 : Int32) (a2 : Int32) (o : Int32) (h : f_landR_isWired N  μ a1 a2 = some o) : MetR l D cI cL yX4_isWired cX4_isWired 4 (some .boolean) 3 0 0 (fun a => a = ad) ad [.ref 11, .int a1, .int a2] lay0 μ ν (some (.int o)) lay0 μ ν :=
  MetR.of (n := 1) rfl (Nat.le_of_ble_eq_true rfl) (fun G g ho hm _ _ => ok_f_landR_isWired  g hm  μ ho a1 a2 h)
def f_sx_put (N : Nat) (k0 n0 : Nat) (μ : sw_M) (a1 : Int32) (a2 : Int32) : Option (sw_M) :=
  if a1 < 0 then
    some μ
  else
    if (Int32.ofNat n0) ≤ a1 then
      some μ
    else
      inb a1 n0 (wb (wr μ k0 a1.toNatClampNeg a2) (fun μ2 =>
        some μ2))
set_option maxRecDepth 100000 in
set_option maxHeartbeats 4000000 in
theorem ok_f_sx_put {G : sw_G} {ad : Nat → Nat} {ν : sw_N} {L : sw_L} (k0 n0 : Nat) {N : Nat} {o : sw_M} (g : sw_ok G cX10_put "DeadWires" none 1 0 0 ad) (hm : G.2.2.1.2.1.maxLocals = 3) (hk0 : L[k0]? = some (.inl (false, n0))) (μ : sw_M) (ho : sw_out G 0 0 (fun a => a = ad) (.inl none) L o ν) (a1 : Int32) (a2 : Int32) (h : f_sx_put N k0 n0 μ a1 a2 = some o) : SW G ad L ν 0 0 0 [some (.ref k0), some (.int a1), some (.int a2)] [] μ := by
  unfold f_sx_put at h
  refine SW.iload_n (pc := 0) g (dt dt_X10_put 0 rfl) rfl ?_
  refine SW.if_lt (pc := 1) (t := 14) g (dt dt_X10_put 1 rfl) rfl (fun hc => ?_) (fun hc => ?_)
  · have h := iteT hc h
    exact SW.vreturn (pc := 14) g (leafV h ho) rfl (Nat.le_of_ble_eq_true rfl) (Nat.le_of_ble_eq_true rfl) (dt dt_X10_put 10 rfl)
  · have h := iteF hc h
    refine SW.iload_n (pc := 4) g (dt dt_X10_put 2 rfl) rfl ?_
    refine SW.aload_n (pc := 5) g (dt dt_X10_put 3 rfl) rfl ?_
    refine SW.alen (pc := 6) g (dt dt_X10_put 4 rfl) hk0 ?_
    refine SW.icmp_ge (pc := 7) (t := 14) g (dt dt_X10_put 5 rfl) rfl (fun hc => ?_) (fun hc => ?_)
    · have h := iteT hc h
      exact SW.vreturn (pc := 14) g (leafV h ho) rfl (Nat.le_of_ble_eq_true rfl) (Nat.le_of_ble_eq_true rfl) (dt dt_X10_put 10 rfl)
    · have h := iteF hc h
      refine SW.aload_n (pc := 10) g (dt dt_X10_put 6 rfl) rfl ?_
      refine SW.iload_n (pc := 11) g (dt dt_X10_put 7 rfl) rfl ?_
      refine SW.iload_n (pc := 12) g (dt dt_X10_put 8 rfl) rfl ?_
      obtain ⟨hb1, h⟩ := inbI h
      refine SW.iastore (pc := 13) g (dt dt_X10_put 9 rfl) hk0 hb1 ?_
      refine SW.genM h (fun μ2 h => ?_)
      exact SW.vreturn (pc := 14) g (leafV h ho) rfl (Nat.le_of_ble_eq_true rfl) (Nat.le_of_ble_eq_true rfl) (dt dt_X10_put 10 rfl)
set_option maxRecDepth 100000 in
set_option maxHeartbeats 4000000 in
theorem mt_f_sx_put (l : Launch) (D : va_G) (cI cL : ClassId) (ad : Nat → Nat) (ν : sw_N) (L : sw_L) (k0 n0 : Nat) (hk0 : L[k0]? = some (.inl (false, n0))) (N : Nat) (μ : sw_M) (a1 : Int32) (a2 : Int32) (o : sw_M) (h : f_sx_put N k0 n0 μ a1 a2 = some o) : MetR l D cI cL yX10_put cX10_put 3 none 1 0 0 (fun a => a = ad) ad [.ref k0, .int a1, .int a2] L μ ν none L o ν :=
  MetR.of (n := 0) rfl (Nat.le_of_ble_eq_true rfl) (fun G g ho hm _ _ => ok_f_sx_put k0 n0 g hm hk0 μ ho a1 a2 h)
def f_landR_readWire_55 (N : Nat)   (μ : sw_M) (x2 : Int32) : Option (Int32 × sw_M) :=
  Option.bind (f_tape_takeNumber N  μ 0 ((μ 11 0) - 1)) (fun r1 =>
    if r1.1 = (-1) then
      some (0, r1.2)
    else
      Option.bind (f_tape_takeNumber N  r1.2 0 99) (fun r3 =>
        if r3.1 = (-1) then
          some (0, r3.2)
        else
          Option.bind (f_sx_put N 12 12 r3.2 (r3.2 11 1) x2) (fun r5 =>
            Option.bind (f_sx_put N 13 12 r5 (r5 11 1) r1.1) (fun r7 =>
              Option.bind (f_sx_put N 14 12 r7 (r7 11 1) r3.1) (fun r9 =>
                wb (wr r9 11 1 ((r9 11 1) + 1)) (fun μ11 =>
                  some (1, μ11)))))))
def f_landR_readWire_49 (N : Nat)   (μ : sw_M)  : Option (Int32 × sw_M) :=
  Option.bind (f_tape_fail N  μ 2) (fun r1 =>
    bl r1.1 (some (r1.1, r1.2)))
def f_landR_readWire (N : Nat)  (μ : sw_M)  : Option (Int32 × sw_M) :=
  Option.bind (f_tape_takeNumber N  μ 0 ((μ 11 0) - 1)) (fun r1 =>
    if r1.1 = (-1) then
      some (0, r1.2)
    else
      if (r1.2 1 4) = 257 then
        if (r1.2 1 6) = r1.1 then
          f_landR_readWire_49 N    r1.2 
        else
          Option.bind (f_landR_isWired N  r1.2 r1.1 (r1.2 1 6)) (fun r3 =>
            if r3 = 0 then
              f_landR_readWire_55 N    r1.2 r1.1
            else
              f_landR_readWire_49 N    r1.2 )
      else
        f_landR_readWire_55 N    r1.2 r1.1)
set_option maxRecDepth 100000 in
set_option maxHeartbeats 4000000 in
theorem ok_f_landR_readWire_55 {G : sw_G} {ad : Nat → Nat} {ν : sw_N}   {N : Nat} {o : Int32 × sw_M} (g : sw_ok G cX4_readWire "DeadWires$Land" (some .boolean) 4 0 0 ad) (hm : G.2.2.1.2.1.maxLocals = 5)  (ho : sw_out G 0 0 (fun a => a = ad) (.inl (some (.int o.1))) lay0 o.2 ν)  (μ : sw_M) (x2 : Int32) (h : f_landR_readWire_55 N    μ x2 = some o) : SW G ad lay0 ν 0 0 55 [some (.ref 11), some (.ref 1), some (.int x2), none, none] [] μ := by
  unfold f_landR_readWire_55 at h
  refine SW.aload_n (pc := 55) g (dt dt_X4_readWire 31 rfl) rfl ?_
  refine SW.iconst (pc := 56) (v := 0) g (dt dt_X4_readWire 32 rfl) ki_0 ?_
  refine SW.aload_n (pc := 57) g (dt dt_X4_readWire 33 rfl) rfl ?_
  refine SW.getI (pc := 58) g (dt dt_X4_readWire 34 rfl) fl_X4_37 cell_11 rfl ?_
  refine SW.iconst (pc := 61) (v := 1) g (dt dt_X4_readWire 35 rfl) ki_1 ?_
  refine SW.isub (pc := 62) g (dt dt_X4_readWire 36 rfl) ?_
  obtain ⟨r1, h2, h⟩ := bindI h
  refine SW.callVi (pc := 63) g (dt dt_X4_readWire 37 rfl) (mt_f_tape_takeNumber _ _ _ _ ad ν   N μ 0 ((μ 11 0) - 1) r1 h2) me_X7_takeNumber mv_X7_takeNumber ml_X4_121 cell_1 rfl rfl (Nat.le_of_ble_eq_true rfl) (Nat.le_of_ble_eq_true rfl) (Nat.le_of_ble_eq_true rfl) (Nat.le_of_ble_eq_true rfl) rfl ?_
  refine SW.istore_n (pc := 66) g (dt dt_X4_readWire 38 rfl) (sw_ltm hm (Nat.le_of_ble_eq_true rfl)) rfl ?_
  refine SW.iload_n (pc := 67) g (dt dt_X4_readWire 39 rfl) rfl ?_
  refine SW.iconst (pc := 68) (v := (-1)) g (dt dt_X4_readWire 40 rfl) ki_m1 ?_
  refine SW.icmp_ne (pc := 69) (t := 74) g (dt dt_X4_readWire 41 rfl) rfl (fun hc => ?_) (fun hc => ?_)
  · have h := iteF hc h
    refine SW.aload_n (pc := 74) g (dt dt_X4_readWire 44 rfl) rfl ?_
    refine SW.iconst (pc := 75) (v := 0) g (dt dt_X4_readWire 45 rfl) ki_0 ?_
    refine SW.bipush (pc := 76) (v := 99) g (dt dt_X4_readWire 46 rfl) kb_99 ?_
    obtain ⟨r3, h4, h⟩ := bindI h
    refine SW.callVi (pc := 78) g (dt dt_X4_readWire 47 rfl) (mt_f_tape_takeNumber _ _ _ _ ad ν   N r1.2 0 99 r3 h4) me_X7_takeNumber mv_X7_takeNumber ml_X4_121 cell_1 rfl rfl (Nat.le_of_ble_eq_true rfl) (Nat.le_of_ble_eq_true rfl) (Nat.le_of_ble_eq_true rfl) (Nat.le_of_ble_eq_true rfl) rfl ?_
    refine SW.istore (pc := 81) g (dt dt_X4_readWire 48 rfl) (sw_ltm hm (Nat.le_of_ble_eq_true rfl)) rfl ?_
    refine SW.iload (pc := 83) g (dt dt_X4_readWire 49 rfl) rfl ?_
    refine SW.iconst (pc := 85) (v := (-1)) g (dt dt_X4_readWire 50 rfl) ki_m1 ?_
    refine SW.icmp_ne (pc := 86) (t := 91) g (dt dt_X4_readWire 51 rfl) rfl (fun hc => ?_) (fun hc => ?_)
    · have h := iteF hc h
      refine SW.aload_n (pc := 91) g (dt dt_X4_readWire 54 rfl) rfl ?_
      refine SW.getR (pc := 92) g (dt dt_X4_readWire 55 rfl) fl_X4_15 cell_11 rfl ?_
      refine SW.aload_n (pc := 95) g (dt dt_X4_readWire 56 rfl) rfl ?_
      refine SW.getI (pc := 96) g (dt dt_X4_readWire 57 rfl) fl_X4_40 cell_11 rfl ?_
      refine SW.iload_n (pc := 99) g (dt dt_X4_readWire 58 rfl) rfl ?_
      obtain ⟨r5, h6, h⟩ := bindI h
      refine SW.callSNv (pc := 100) g (dt dt_X4_readWire 59 rfl) (mt_f_sx_put _ _ _ _ ad ν lay0 12 12 cell_12 N r3.2 (r3.2 11 1) x2 r5 h6) me_X10_put ms_X10_put mn_X4_131 rfl (Nat.le_of_ble_eq_true rfl) (Nat.le_of_ble_eq_true rfl) (Nat.le_of_ble_eq_true rfl) (Nat.le_of_ble_eq_true rfl) rfl ?_
      refine SW.aload_n (pc := 103) g (dt dt_X4_readWire 60 rfl) rfl ?_
      refine SW.getR (pc := 104) g (dt dt_X4_readWire 61 rfl) fl_X4_19 cell_11 rfl ?_
      refine SW.aload_n (pc := 107) g (dt dt_X4_readWire 62 rfl) rfl ?_
      refine SW.getI (pc := 108) g (dt dt_X4_readWire 63 rfl) fl_X4_40 cell_11 rfl ?_
      refine SW.iload_n (pc := 111) g (dt dt_X4_readWire 64 rfl) rfl ?_
      obtain ⟨r7, h8, h⟩ := bindI h
      refine SW.callSNv (pc := 112) g (dt dt_X4_readWire 65 rfl) (mt_f_sx_put _ _ _ _ ad ν lay0 13 12 cell_13 N r5 (r5 11 1) r1.1 r7 h8) me_X10_put ms_X10_put mn_X4_131 rfl (Nat.le_of_ble_eq_true rfl) (Nat.le_of_ble_eq_true rfl) (Nat.le_of_ble_eq_true rfl) (Nat.le_of_ble_eq_true rfl) rfl ?_
      refine SW.aload_n (pc := 115) g (dt dt_X4_readWire 66 rfl) rfl ?_
      refine SW.getR (pc := 116) g (dt dt_X4_readWire 67 rfl) fl_X4_22 cell_11 rfl ?_
      refine SW.aload_n (pc := 119) g (dt dt_X4_readWire 68 rfl) rfl ?_
      refine SW.getI (pc := 120) g (dt dt_X4_readWire 69 rfl) fl_X4_40 cell_11 rfl ?_
      refine SW.iload (pc := 123) g (dt dt_X4_readWire 70 rfl) rfl ?_
      obtain ⟨r9, h10, h⟩ := bindI h
      refine SW.callSNv (pc := 125) g (dt dt_X4_readWire 71 rfl) (mt_f_sx_put _ _ _ _ ad ν lay0 14 12 cell_14 N r7 (r7 11 1) r3.1 r9 h10) me_X10_put ms_X10_put mn_X4_131 rfl (Nat.le_of_ble_eq_true rfl) (Nat.le_of_ble_eq_true rfl) (Nat.le_of_ble_eq_true rfl) (Nat.le_of_ble_eq_true rfl) rfl ?_
      refine SW.aload_n (pc := 128) g (dt dt_X4_readWire 72 rfl) rfl ?_
      refine SW.dup (pc := 129) g (dt dt_X4_readWire 73 rfl) rfl ?_
      refine SW.getI (pc := 130) g (dt dt_X4_readWire 74 rfl) fl_X4_40 cell_11 rfl ?_
      refine SW.iconst (pc := 133) (v := 1) g (dt dt_X4_readWire 75 rfl) ki_1 ?_
      refine SW.iadd (pc := 134) g (dt dt_X4_readWire 76 rfl) ?_
      refine SW.putI (pc := 135) g (dt dt_X4_readWire 77 rfl) fl_X4_40 cell_11 rfl ?_
      refine SW.genM h (fun μ11 h => ?_)
      refine SW.iconst (pc := 138) (v := 1) g (dt dt_X4_readWire 78 rfl) ki_1 ?_
      exact SW.zreturn (pc := 139) g (leafW h ho) rfl (Nat.le_of_ble_eq_true rfl) (Nat.le_of_ble_eq_true rfl) (by decide) (dt dt_X4_readWire 79 rfl)
    · have h := iteT hc h
      refine SW.iconst (pc := 89) (v := 0) g (dt dt_X4_readWire 52 rfl) ki_0 ?_
      exact SW.zreturn (pc := 90) g (leafW h ho) rfl (Nat.le_of_ble_eq_true rfl) (Nat.le_of_ble_eq_true rfl) (by decide) (dt dt_X4_readWire 53 rfl)
  · have h := iteT hc h
    refine SW.iconst (pc := 72) (v := 0) g (dt dt_X4_readWire 42 rfl) ki_0 ?_
    exact SW.zreturn (pc := 73) g (leafW h ho) rfl (Nat.le_of_ble_eq_true rfl) (Nat.le_of_ble_eq_true rfl) (by decide) (dt dt_X4_readWire 43 rfl)
set_option maxRecDepth 100000 in
set_option maxHeartbeats 4000000 in
theorem ok_f_landR_readWire_49 {G : sw_G} {ad : Nat → Nat} {ν : sw_N}   {N : Nat} {o : Int32 × sw_M} (g : sw_ok G cX4_readWire "DeadWires$Land" (some .boolean) 4 0 0 ad) (hm : G.2.2.1.2.1.maxLocals = 5)  (ho : sw_out G 0 0 (fun a => a = ad) (.inl (some (.int o.1))) lay0 o.2 ν)  (μ : sw_M)  (h : f_landR_readWire_49 N    μ  = some o) : SW G ad lay0 ν 0 0 49 [none, some (.ref 1), none, none, none] [] μ := by
  unfold f_landR_readWire_49 at h
  refine SW.aload_n (pc := 49) g (dt dt_X4_readWire 27 rfl) rfl ?_
  refine SW.iconst (pc := 50) (v := 2) g (dt dt_X4_readWire 28 rfl) ki_2 ?_
  obtain ⟨r1, h2, h⟩ := bindI h
  refine SW.callVi (pc := 51) g (dt dt_X4_readWire 29 rfl) (mt_f_tape_fail _ _ _ _ ad ν   N μ 2 r1 h2) me_X7_fail mv_X7_fail ml_X4_118 cell_1 rfl rfl (Nat.le_of_ble_eq_true rfl) (Nat.le_of_ble_eq_true rfl) (Nat.le_of_ble_eq_true rfl) (Nat.le_of_ble_eq_true rfl) rfl ?_
  obtain ⟨hn, h⟩ := blI h
  exact SW.zreturn (pc := 54) g (leafW h ho) rfl (Nat.le_of_ble_eq_true rfl) (Nat.le_of_ble_eq_true rfl) hn (dt dt_X4_readWire 30 rfl)
set_option maxRecDepth 100000 in
set_option maxHeartbeats 4000000 in
theorem ok_f_landR_readWire {G : sw_G} {ad : Nat → Nat} {ν : sw_N}   {N : Nat} {o : Int32 × sw_M} (g : sw_ok G cX4_readWire "DeadWires$Land" (some .boolean) 4 0 0 ad) (hm : G.2.2.1.2.1.maxLocals = 5)  (μ : sw_M) (ho : sw_out G 0 0 (fun a => a = ad) (.inl (some (.int o.1))) lay0 o.2 ν)  (h : f_landR_readWire N  μ  = some o) : SW G ad lay0 ν 0 0 0 [some (.ref 11), some (.ref 1), none, none, none] [] μ := by
  unfold f_landR_readWire at h
  refine SW.aload_n (pc := 0) g (dt dt_X4_readWire 0 rfl) rfl ?_
  refine SW.iconst (pc := 1) (v := 0) g (dt dt_X4_readWire 1 rfl) ki_0 ?_
  refine SW.aload_n (pc := 2) g (dt dt_X4_readWire 2 rfl) rfl ?_
  refine SW.getI (pc := 3) g (dt dt_X4_readWire 3 rfl) fl_X4_37 cell_11 rfl ?_
  refine SW.iconst (pc := 6) (v := 1) g (dt dt_X4_readWire 4 rfl) ki_1 ?_
  refine SW.isub (pc := 7) g (dt dt_X4_readWire 5 rfl) ?_
  obtain ⟨r1, h2, h⟩ := bindI h
  refine SW.callVi (pc := 8) g (dt dt_X4_readWire 6 rfl) (mt_f_tape_takeNumber _ _ _ _ ad ν   N μ 0 ((μ 11 0) - 1) r1 h2) me_X7_takeNumber mv_X7_takeNumber ml_X4_121 cell_1 rfl rfl (Nat.le_of_ble_eq_true rfl) (Nat.le_of_ble_eq_true rfl) (Nat.le_of_ble_eq_true rfl) (Nat.le_of_ble_eq_true rfl) rfl ?_
  refine SW.istore_n (pc := 11) g (dt dt_X4_readWire 7 rfl) (sw_ltm hm (Nat.le_of_ble_eq_true rfl)) rfl ?_
  refine SW.iload_n (pc := 12) g (dt dt_X4_readWire 8 rfl) rfl ?_
  refine SW.iconst (pc := 13) (v := (-1)) g (dt dt_X4_readWire 9 rfl) ki_m1 ?_
  refine SW.icmp_ne (pc := 14) (t := 19) g (dt dt_X4_readWire 10 rfl) rfl (fun hc => ?_) (fun hc => ?_)
  · have h := iteF hc h
    refine SW.aload_n (pc := 19) g (dt dt_X4_readWire 13 rfl) rfl ?_
    refine SW.getI (pc := 20) g (dt dt_X4_readWire 14 rfl) fl_X4_72 cell_1 rfl ?_
    refine SW.sipush (pc := 23) (v := 257) g (dt dt_X4_readWire 15 rfl) ks_257 ?_
    refine SW.icmp_ne (pc := 26) (t := 55) g (dt dt_X4_readWire 16 rfl) rfl (fun hc => ?_) (fun hc => ?_)
    · have h := iteF hc h
      refine SW.msk [true, true, true, false, false] ?_
      exact ok_f_landR_readWire_55  g hm  ho    r1.2 r1.1 h
    · have h := iteT hc h
      refine SW.aload_n (pc := 29) g (dt dt_X4_readWire 17 rfl) rfl ?_
      refine SW.getI (pc := 30) g (dt dt_X4_readWire 18 rfl) fl_X4_125 cell_1 rfl ?_
      refine SW.iload_n (pc := 33) g (dt dt_X4_readWire 19 rfl) rfl ?_
      refine SW.icmp_eq (pc := 34) (t := 49) g (dt dt_X4_readWire 20 rfl) rfl (fun hc => ?_) (fun hc => ?_)
      · have h := iteT hc h
        refine SW.msk [false, true, false, false, false] ?_
        exact ok_f_landR_readWire_49  g hm  ho    r1.2  h
      · have h := iteF hc h
        refine SW.aload_n (pc := 37) g (dt dt_X4_readWire 21 rfl) rfl ?_
        refine SW.iload_n (pc := 38) g (dt dt_X4_readWire 22 rfl) rfl ?_
        refine SW.aload_n (pc := 39) g (dt dt_X4_readWire 23 rfl) rfl ?_
        refine SW.getI (pc := 40) g (dt dt_X4_readWire 24 rfl) fl_X4_125 cell_1 rfl ?_
        obtain ⟨r3, h4, h⟩ := bindI h
        refine SW.callVi (pc := 43) g (dt dt_X4_readWire 25 rfl) (mt_f_landR_isWired _ _ _ _ ad ν   N r1.2 r1.1 (r1.2 1 6) r3 h4) me_X4_isWired mv_X4_isWired ml_X4_128 cell_11 rfl rfl (Nat.le_of_ble_eq_true rfl) (Nat.le_of_ble_eq_true rfl) (Nat.le_of_ble_eq_true rfl) (Nat.le_of_ble_eq_true rfl) rfl ?_
        refine SW.if_eq (pc := 46) (t := 55) g (dt dt_X4_readWire 26 rfl) rfl (fun hc => ?_) (fun hc => ?_)
        · have h := iteT hc h
          refine SW.msk [true, true, true, false, false] ?_
          exact ok_f_landR_readWire_55  g hm  ho    r1.2 r1.1 h
        · have h := iteF hc h
          refine SW.msk [false, true, false, false, false] ?_
          exact ok_f_landR_readWire_49  g hm  ho    r1.2  h
  · have h := iteT hc h
    refine SW.iconst (pc := 17) (v := 0) g (dt dt_X4_readWire 11 rfl) ki_0 ?_
    exact SW.zreturn (pc := 18) g (leafW h ho) rfl (Nat.le_of_ble_eq_true rfl) (Nat.le_of_ble_eq_true rfl) (by decide) (dt dt_X4_readWire 12 rfl)
set_option maxRecDepth 100000 in
set_option maxHeartbeats 4000000 in
theorem mt_f_landR_readWire (l : Launch) (D : va_G) (cI cL : ClassId) (ad : Nat → Nat) (ν : sw_N)    (N : Nat) (μ : sw_M)  (o : Int32 × sw_M) (h : f_landR_readWire N  μ  = some o) : MetR l D cI cL yX4_readWire cX4_readWire 5 (some .boolean) 4 0 0 (fun a => a = ad) ad [.ref 11, .ref 1] lay0 μ ν (some (.int o.1)) lay0 o.2 ν :=
  MetR.of (n := 3) rfl (Nat.le_of_ble_eq_true rfl) (fun G g ho hm _ _ => ok_f_landR_readWire  g hm  μ ho  h)
def f_landR_readThing (N : Nat)  (μ : sw_M)  : Option (Int32 × sw_M) :=
  Option.bind (f_tape_takeNumber N  μ 0 ((μ 11 0) - 1)) (fun r1 =>
    if r1.1 = (-1) then
      some (0, r1.2)
    else
      Option.bind (f_tape_takeNumber N  r1.2 1 30) (fun r3 =>
        if r3.1 = (-1) then
          some (0, r3.2)
        else
          Option.bind (f_sx_put N 15 6 r3.2 (r3.2 11 2) r1.1) (fun r5 =>
            Option.bind (f_sx_put N 16 6 r5 (r5 11 2) r3.1) (fun r7 =>
              wb (wr r7 11 2 ((r7 11 2) + 1)) (fun μ9 =>
                some (1, μ9))))))
set_option maxRecDepth 100000 in
set_option maxHeartbeats 4000000 in
theorem ok_f_landR_readThing {G : sw_G} {ad : Nat → Nat} {ν : sw_N}   {N : Nat} {o : Int32 × sw_M} (g : sw_ok G cX4_readThing "DeadWires$Land" (some .boolean) 3 0 0 ad) (hm : G.2.2.1.2.1.maxLocals = 4)  (μ : sw_M) (ho : sw_out G 0 0 (fun a => a = ad) (.inl (some (.int o.1))) lay0 o.2 ν)  (h : f_landR_readThing N  μ  = some o) : SW G ad lay0 ν 0 0 0 [some (.ref 11), some (.ref 1), none, none] [] μ := by
  unfold f_landR_readThing at h
  refine SW.aload_n (pc := 0) g (dt dt_X4_readThing 0 rfl) rfl ?_
  refine SW.iconst (pc := 1) (v := 0) g (dt dt_X4_readThing 1 rfl) ki_0 ?_
  refine SW.aload_n (pc := 2) g (dt dt_X4_readThing 2 rfl) rfl ?_
  refine SW.getI (pc := 3) g (dt dt_X4_readThing 3 rfl) fl_X4_37 cell_11 rfl ?_
  refine SW.iconst (pc := 6) (v := 1) g (dt dt_X4_readThing 4 rfl) ki_1 ?_
  refine SW.isub (pc := 7) g (dt dt_X4_readThing 5 rfl) ?_
  obtain ⟨r1, h2, h⟩ := bindI h
  refine SW.callVi (pc := 8) g (dt dt_X4_readThing 6 rfl) (mt_f_tape_takeNumber _ _ _ _ ad ν   N μ 0 ((μ 11 0) - 1) r1 h2) me_X7_takeNumber mv_X7_takeNumber ml_X4_121 cell_1 rfl rfl (Nat.le_of_ble_eq_true rfl) (Nat.le_of_ble_eq_true rfl) (Nat.le_of_ble_eq_true rfl) (Nat.le_of_ble_eq_true rfl) rfl ?_
  refine SW.istore_n (pc := 11) g (dt dt_X4_readThing 7 rfl) (sw_ltm hm (Nat.le_of_ble_eq_true rfl)) rfl ?_
  refine SW.iload_n (pc := 12) g (dt dt_X4_readThing 8 rfl) rfl ?_
  refine SW.iconst (pc := 13) (v := (-1)) g (dt dt_X4_readThing 9 rfl) ki_m1 ?_
  refine SW.icmp_ne (pc := 14) (t := 19) g (dt dt_X4_readThing 10 rfl) rfl (fun hc => ?_) (fun hc => ?_)
  · have h := iteF hc h
    refine SW.aload_n (pc := 19) g (dt dt_X4_readThing 13 rfl) rfl ?_
    refine SW.iconst (pc := 20) (v := 1) g (dt dt_X4_readThing 14 rfl) ki_1 ?_
    refine SW.bipush (pc := 21) (v := 30) g (dt dt_X4_readThing 15 rfl) kb_30 ?_
    obtain ⟨r3, h4, h⟩ := bindI h
    refine SW.callVi (pc := 23) g (dt dt_X4_readThing 16 rfl) (mt_f_tape_takeNumber _ _ _ _ ad ν   N r1.2 1 30 r3 h4) me_X7_takeNumber mv_X7_takeNumber ml_X4_121 cell_1 rfl rfl (Nat.le_of_ble_eq_true rfl) (Nat.le_of_ble_eq_true rfl) (Nat.le_of_ble_eq_true rfl) (Nat.le_of_ble_eq_true rfl) rfl ?_
    refine SW.istore_n (pc := 26) g (dt dt_X4_readThing 17 rfl) (sw_ltm hm (Nat.le_of_ble_eq_true rfl)) rfl ?_
    refine SW.iload_n (pc := 27) g (dt dt_X4_readThing 18 rfl) rfl ?_
    refine SW.iconst (pc := 28) (v := (-1)) g (dt dt_X4_readThing 19 rfl) ki_m1 ?_
    refine SW.icmp_ne (pc := 29) (t := 34) g (dt dt_X4_readThing 20 rfl) rfl (fun hc => ?_) (fun hc => ?_)
    · have h := iteF hc h
      refine SW.aload_n (pc := 34) g (dt dt_X4_readThing 23 rfl) rfl ?_
      refine SW.getR (pc := 35) g (dt dt_X4_readThing 24 rfl) fl_X4_25 cell_11 rfl ?_
      refine SW.aload_n (pc := 38) g (dt dt_X4_readThing 25 rfl) rfl ?_
      refine SW.getI (pc := 39) g (dt dt_X4_readThing 26 rfl) fl_X4_43 cell_11 rfl ?_
      refine SW.iload_n (pc := 42) g (dt dt_X4_readThing 27 rfl) rfl ?_
      obtain ⟨r5, h6, h⟩ := bindI h
      refine SW.callSNv (pc := 43) g (dt dt_X4_readThing 28 rfl) (mt_f_sx_put _ _ _ _ ad ν lay0 15 6 cell_15 N r3.2 (r3.2 11 2) r1.1 r5 h6) me_X10_put ms_X10_put mn_X4_131 rfl (Nat.le_of_ble_eq_true rfl) (Nat.le_of_ble_eq_true rfl) (Nat.le_of_ble_eq_true rfl) (Nat.le_of_ble_eq_true rfl) rfl ?_
      refine SW.aload_n (pc := 46) g (dt dt_X4_readThing 29 rfl) rfl ?_
      refine SW.getR (pc := 47) g (dt dt_X4_readThing 30 rfl) fl_X4_28 cell_11 rfl ?_
      refine SW.aload_n (pc := 50) g (dt dt_X4_readThing 31 rfl) rfl ?_
      refine SW.getI (pc := 51) g (dt dt_X4_readThing 32 rfl) fl_X4_43 cell_11 rfl ?_
      refine SW.iload_n (pc := 54) g (dt dt_X4_readThing 33 rfl) rfl ?_
      obtain ⟨r7, h8, h⟩ := bindI h
      refine SW.callSNv (pc := 55) g (dt dt_X4_readThing 34 rfl) (mt_f_sx_put _ _ _ _ ad ν lay0 16 6 cell_16 N r5 (r5 11 2) r3.1 r7 h8) me_X10_put ms_X10_put mn_X4_131 rfl (Nat.le_of_ble_eq_true rfl) (Nat.le_of_ble_eq_true rfl) (Nat.le_of_ble_eq_true rfl) (Nat.le_of_ble_eq_true rfl) rfl ?_
      refine SW.aload_n (pc := 58) g (dt dt_X4_readThing 35 rfl) rfl ?_
      refine SW.dup (pc := 59) g (dt dt_X4_readThing 36 rfl) rfl ?_
      refine SW.getI (pc := 60) g (dt dt_X4_readThing 37 rfl) fl_X4_43 cell_11 rfl ?_
      refine SW.iconst (pc := 63) (v := 1) g (dt dt_X4_readThing 38 rfl) ki_1 ?_
      refine SW.iadd (pc := 64) g (dt dt_X4_readThing 39 rfl) ?_
      refine SW.putI (pc := 65) g (dt dt_X4_readThing 40 rfl) fl_X4_43 cell_11 rfl ?_
      refine SW.genM h (fun μ9 h => ?_)
      refine SW.iconst (pc := 68) (v := 1) g (dt dt_X4_readThing 41 rfl) ki_1 ?_
      exact SW.zreturn (pc := 69) g (leafW h ho) rfl (Nat.le_of_ble_eq_true rfl) (Nat.le_of_ble_eq_true rfl) (by decide) (dt dt_X4_readThing 42 rfl)
    · have h := iteT hc h
      refine SW.iconst (pc := 32) (v := 0) g (dt dt_X4_readThing 21 rfl) ki_0 ?_
      exact SW.zreturn (pc := 33) g (leafW h ho) rfl (Nat.le_of_ble_eq_true rfl) (Nat.le_of_ble_eq_true rfl) (by decide) (dt dt_X4_readThing 22 rfl)
  · have h := iteT hc h
    refine SW.iconst (pc := 17) (v := 0) g (dt dt_X4_readThing 11 rfl) ki_0 ?_
    exact SW.zreturn (pc := 18) g (leafW h ho) rfl (Nat.le_of_ble_eq_true rfl) (Nat.le_of_ble_eq_true rfl) (by decide) (dt dt_X4_readThing 12 rfl)
set_option maxRecDepth 100000 in
set_option maxHeartbeats 4000000 in
theorem mt_f_landR_readThing (l : Launch) (D : va_G) (cI cL : ClassId) (ad : Nat → Nat) (ν : sw_N)    (N : Nat) (μ : sw_M)  (o : Int32 × sw_M) (h : f_landR_readThing N  μ  = some o) : MetR l D cI cL yX4_readThing cX4_readThing 4 (some .boolean) 3 0 0 (fun a => a = ad) ad [.ref 11, .ref 1] lay0 μ ν (some (.int o.1)) lay0 o.2 ν :=
  MetR.of (n := 2) rfl (Nat.le_of_ble_eq_true rfl) (fun G g ho hm _ _ => ok_f_landR_readThing  g hm  μ ho  h)
def f_landR_readPerson (N : Nat)  (μ : sw_M)  : Option (Int32 × sw_M) :=
  Option.bind (f_tape_takeNumber N  μ 0 ((μ 11 0) - 1)) (fun r1 =>
    if r1.1 = (-1) then
      some (0, r1.2)
    else
      Option.bind (f_tape_takeNumber N  r1.2 1 40) (fun r3 =>
        if r3.1 = (-1) then
          some (0, r3.2)
        else
          Option.bind (f_sx_put N 17 5 r3.2 (r3.2 11 3) r1.1) (fun r5 =>
            Option.bind (f_sx_put N 18 5 r5 (r5 11 3) r3.1) (fun r7 =>
              wb (wr r7 11 3 ((r7 11 3) + 1)) (fun μ9 =>
                some (1, μ9))))))
set_option maxRecDepth 100000 in
set_option maxHeartbeats 4000000 in
theorem ok_f_landR_readPerson {G : sw_G} {ad : Nat → Nat} {ν : sw_N}   {N : Nat} {o : Int32 × sw_M} (g : sw_ok G cX4_readPerson "DeadWires$Land" (some .boolean) 3 0 0 ad) (hm : G.2.2.1.2.1.maxLocals = 4)  (μ : sw_M) (ho : sw_out G 0 0 (fun a => a = ad) (.inl (some (.int o.1))) lay0 o.2 ν)  (h : f_landR_readPerson N  μ  = some o) : SW G ad lay0 ν 0 0 0 [some (.ref 11), some (.ref 1), none, none] [] μ := by
  unfold f_landR_readPerson at h
  refine SW.aload_n (pc := 0) g (dt dt_X4_readPerson 0 rfl) rfl ?_
  refine SW.iconst (pc := 1) (v := 0) g (dt dt_X4_readPerson 1 rfl) ki_0 ?_
  refine SW.aload_n (pc := 2) g (dt dt_X4_readPerson 2 rfl) rfl ?_
  refine SW.getI (pc := 3) g (dt dt_X4_readPerson 3 rfl) fl_X4_37 cell_11 rfl ?_
  refine SW.iconst (pc := 6) (v := 1) g (dt dt_X4_readPerson 4 rfl) ki_1 ?_
  refine SW.isub (pc := 7) g (dt dt_X4_readPerson 5 rfl) ?_
  obtain ⟨r1, h2, h⟩ := bindI h
  refine SW.callVi (pc := 8) g (dt dt_X4_readPerson 6 rfl) (mt_f_tape_takeNumber _ _ _ _ ad ν   N μ 0 ((μ 11 0) - 1) r1 h2) me_X7_takeNumber mv_X7_takeNumber ml_X4_121 cell_1 rfl rfl (Nat.le_of_ble_eq_true rfl) (Nat.le_of_ble_eq_true rfl) (Nat.le_of_ble_eq_true rfl) (Nat.le_of_ble_eq_true rfl) rfl ?_
  refine SW.istore_n (pc := 11) g (dt dt_X4_readPerson 7 rfl) (sw_ltm hm (Nat.le_of_ble_eq_true rfl)) rfl ?_
  refine SW.iload_n (pc := 12) g (dt dt_X4_readPerson 8 rfl) rfl ?_
  refine SW.iconst (pc := 13) (v := (-1)) g (dt dt_X4_readPerson 9 rfl) ki_m1 ?_
  refine SW.icmp_ne (pc := 14) (t := 19) g (dt dt_X4_readPerson 10 rfl) rfl (fun hc => ?_) (fun hc => ?_)
  · have h := iteF hc h
    refine SW.aload_n (pc := 19) g (dt dt_X4_readPerson 13 rfl) rfl ?_
    refine SW.iconst (pc := 20) (v := 1) g (dt dt_X4_readPerson 14 rfl) ki_1 ?_
    refine SW.bipush (pc := 21) (v := 40) g (dt dt_X4_readPerson 15 rfl) kb_40 ?_
    obtain ⟨r3, h4, h⟩ := bindI h
    refine SW.callVi (pc := 23) g (dt dt_X4_readPerson 16 rfl) (mt_f_tape_takeNumber _ _ _ _ ad ν   N r1.2 1 40 r3 h4) me_X7_takeNumber mv_X7_takeNumber ml_X4_121 cell_1 rfl rfl (Nat.le_of_ble_eq_true rfl) (Nat.le_of_ble_eq_true rfl) (Nat.le_of_ble_eq_true rfl) (Nat.le_of_ble_eq_true rfl) rfl ?_
    refine SW.istore_n (pc := 26) g (dt dt_X4_readPerson 17 rfl) (sw_ltm hm (Nat.le_of_ble_eq_true rfl)) rfl ?_
    refine SW.iload_n (pc := 27) g (dt dt_X4_readPerson 18 rfl) rfl ?_
    refine SW.iconst (pc := 28) (v := (-1)) g (dt dt_X4_readPerson 19 rfl) ki_m1 ?_
    refine SW.icmp_ne (pc := 29) (t := 34) g (dt dt_X4_readPerson 20 rfl) rfl (fun hc => ?_) (fun hc => ?_)
    · have h := iteF hc h
      refine SW.aload_n (pc := 34) g (dt dt_X4_readPerson 23 rfl) rfl ?_
      refine SW.getR (pc := 35) g (dt dt_X4_readPerson 24 rfl) fl_X4_31 cell_11 rfl ?_
      refine SW.aload_n (pc := 38) g (dt dt_X4_readPerson 25 rfl) rfl ?_
      refine SW.getI (pc := 39) g (dt dt_X4_readPerson 26 rfl) fl_X4_46 cell_11 rfl ?_
      refine SW.iload_n (pc := 42) g (dt dt_X4_readPerson 27 rfl) rfl ?_
      obtain ⟨r5, h6, h⟩ := bindI h
      refine SW.callSNv (pc := 43) g (dt dt_X4_readPerson 28 rfl) (mt_f_sx_put _ _ _ _ ad ν lay0 17 5 cell_17 N r3.2 (r3.2 11 3) r1.1 r5 h6) me_X10_put ms_X10_put mn_X4_131 rfl (Nat.le_of_ble_eq_true rfl) (Nat.le_of_ble_eq_true rfl) (Nat.le_of_ble_eq_true rfl) (Nat.le_of_ble_eq_true rfl) rfl ?_
      refine SW.aload_n (pc := 46) g (dt dt_X4_readPerson 29 rfl) rfl ?_
      refine SW.getR (pc := 47) g (dt dt_X4_readPerson 30 rfl) fl_X4_34 cell_11 rfl ?_
      refine SW.aload_n (pc := 50) g (dt dt_X4_readPerson 31 rfl) rfl ?_
      refine SW.getI (pc := 51) g (dt dt_X4_readPerson 32 rfl) fl_X4_46 cell_11 rfl ?_
      refine SW.iload_n (pc := 54) g (dt dt_X4_readPerson 33 rfl) rfl ?_
      obtain ⟨r7, h8, h⟩ := bindI h
      refine SW.callSNv (pc := 55) g (dt dt_X4_readPerson 34 rfl) (mt_f_sx_put _ _ _ _ ad ν lay0 18 5 cell_18 N r5 (r5 11 3) r3.1 r7 h8) me_X10_put ms_X10_put mn_X4_131 rfl (Nat.le_of_ble_eq_true rfl) (Nat.le_of_ble_eq_true rfl) (Nat.le_of_ble_eq_true rfl) (Nat.le_of_ble_eq_true rfl) rfl ?_
      refine SW.aload_n (pc := 58) g (dt dt_X4_readPerson 35 rfl) rfl ?_
      refine SW.dup (pc := 59) g (dt dt_X4_readPerson 36 rfl) rfl ?_
      refine SW.getI (pc := 60) g (dt dt_X4_readPerson 37 rfl) fl_X4_46 cell_11 rfl ?_
      refine SW.iconst (pc := 63) (v := 1) g (dt dt_X4_readPerson 38 rfl) ki_1 ?_
      refine SW.iadd (pc := 64) g (dt dt_X4_readPerson 39 rfl) ?_
      refine SW.putI (pc := 65) g (dt dt_X4_readPerson 40 rfl) fl_X4_46 cell_11 rfl ?_
      refine SW.genM h (fun μ9 h => ?_)
      refine SW.iconst (pc := 68) (v := 1) g (dt dt_X4_readPerson 41 rfl) ki_1 ?_
      exact SW.zreturn (pc := 69) g (leafW h ho) rfl (Nat.le_of_ble_eq_true rfl) (Nat.le_of_ble_eq_true rfl) (by decide) (dt dt_X4_readPerson 42 rfl)
    · have h := iteT hc h
      refine SW.iconst (pc := 32) (v := 0) g (dt dt_X4_readPerson 21 rfl) ki_0 ?_
      exact SW.zreturn (pc := 33) g (leafW h ho) rfl (Nat.le_of_ble_eq_true rfl) (Nat.le_of_ble_eq_true rfl) (by decide) (dt dt_X4_readPerson 22 rfl)
  · have h := iteT hc h
    refine SW.iconst (pc := 17) (v := 0) g (dt dt_X4_readPerson 11 rfl) ki_0 ?_
    exact SW.zreturn (pc := 18) g (leafW h ho) rfl (Nat.le_of_ble_eq_true rfl) (Nat.le_of_ble_eq_true rfl) (by decide) (dt dt_X4_readPerson 12 rfl)
set_option maxRecDepth 100000 in
set_option maxHeartbeats 4000000 in
theorem mt_f_landR_readPerson (l : Launch) (D : va_G) (cI cL : ClassId) (ad : Nat → Nat) (ν : sw_N)    (N : Nat) (μ : sw_M)  (o : Int32 × sw_M) (h : f_landR_readPerson N  μ  = some o) : MetR l D cI cL yX4_readPerson cX4_readPerson 4 (some .boolean) 3 0 0 (fun a => a = ad) ad [.ref 11, .ref 1] lay0 μ ν (some (.int o.1)) lay0 o.2 ν :=
  MetR.of (n := 2) rfl (Nat.le_of_ble_eq_true rfl) (fun G g ho hm _ _ => ok_f_landR_readPerson  g hm  μ ho  h)
def f_landR_readClause_154 (N : Nat)   (μ : sw_M) (s0 : Int32) : Option (Int32 × sw_M) :=
  Option.bind (f_tape_takeUnless N  μ s0) (fun r1 =>
    if r1.1 = 0 then
      some (0, r1.2)
    else
      Option.bind (f_landR_readPerson N  r1.2 ) (fun r3 =>
        if r3.1 = 0 then
          some (0, r3.2)
        else
          some (1, r3.2)))
def f_landR_readClause_149 (N : Nat)   (μ : sw_M)  : Option (Int32 × sw_M) :=
  f_landR_readClause_154 N    μ 1
def f_landR_readClause_107 (N : Nat)   (μ : sw_M) (s0 : Int32) : Option (Int32 × sw_M) :=
  Option.bind (f_tape_takeUnless N  μ s0) (fun r1 =>
    if r1.1 = 0 then
      some (0, r1.2)
    else
      Option.bind (f_landR_readThing N  r1.2 ) (fun r3 =>
        if r3.1 = 0 then
          some (0, r3.2)
        else
          some (1, r3.2)))
def f_landR_readClause_102 (N : Nat)   (μ : sw_M)  : Option (Int32 × sw_M) :=
  f_landR_readClause_107 N    μ 1
def f_landR_readClause_59 (N : Nat)   (μ : sw_M) (s0 : Int32) : Option (Int32 × sw_M) :=
  Option.bind (f_tape_takeUnless N  μ s0) (fun r1 =>
    if r1.1 = 0 then
      some (0, r1.2)
    else
      Option.bind (f_landR_readWire N  r1.2 ) (fun r3 =>
        if r3.1 = 0 then
          some (0, r3.2)
        else
          some (1, r3.2)))
def f_landR_readClause_54 (N : Nat)   (μ : sw_M)  : Option (Int32 × sw_M) :=
  f_landR_readClause_59 N    μ 1
def f_landR_readClause (N : Nat)  (μ : sw_M) (a2 : Int32) : Option (Int32 × sw_M) :=
  Option.bind (f_tape_isWord N 3 μ ) (fun r1 =>
    if r1 = 0 then
      Option.bind (f_tape_isWord N 17 μ ) (fun r3 =>
        if r3 = 0 then
          Option.bind (f_tape_isWord N 15 μ ) (fun r5 =>
            if r5 = 0 then
              Option.bind (f_tape_isWord N 11 μ ) (fun r7 =>
                if r7 = 0 then
                  Option.bind (f_tape_isWord N 12 μ ) (fun r9 =>
                    if r9 = 0 then
                      Option.bind (f_tape_fail N  μ 1) (fun r11 =>
                        bl r11.1 (some (r11.1, r11.2)))
                    else
                      Option.bind (f_tape_takeUnless N  μ a2) (fun r13 =>
                        if r13.1 = 0 then
                          some (0, r13.2)
                        else
                          Option.bind (f_landR_readPliers N  r13.2 ) (fun r15 =>
                            if r15.1 = 0 then
                              some (0, r15.2)
                            else
                              some (1, r15.2))))
                else
                  if a2 = 0 then
                    if (μ 11 3) < 5 then
                      f_landR_readClause_154 N    μ 0
                    else
                      f_landR_readClause_149 N    μ 
                  else
                    f_landR_readClause_149 N    μ )
            else
              if a2 = 0 then
                if (μ 11 2) < 6 then
                  f_landR_readClause_107 N    μ 0
                else
                  f_landR_readClause_102 N    μ 
              else
                f_landR_readClause_102 N    μ )
        else
          if a2 = 0 then
            if (μ 11 1) < 12 then
              f_landR_readClause_59 N    μ 0
            else
              f_landR_readClause_54 N    μ 
          else
            f_landR_readClause_54 N    μ )
    else
      Option.bind (f_tape_takeUnless N  μ a2) (fun r17 =>
        if r17.1 = 0 then
          some (0, r17.2)
        else
          Option.bind (f_landR_readFields N  r17.2 ) (fun r19 =>
            if r19.1 = 0 then
              some (0, r19.2)
            else
              some (1, r19.2))))
set_option maxRecDepth 100000 in
set_option maxHeartbeats 4000000 in
theorem ok_f_landR_readClause_154 {G : sw_G} {ad : Nat → Nat} {ν : sw_N}   {N : Nat} {o : Int32 × sw_M} (g : sw_ok G cX4_readClause "DeadWires$Land" (some .boolean) 6 0 0 ad) (hm : G.2.2.1.2.1.maxLocals = 3)  (ho : sw_out G 0 0 (fun a => a = ad) (.inl (some (.int o.1))) lay0 o.2 ν)  (μ : sw_M) (s0 : Int32) (h : f_landR_readClause_154 N    μ s0 = some o) : SW G ad lay0 ν 0 0 154 [some (.ref 11), some (.ref 1), none] [.int s0, .ref 1] μ := by
  unfold f_landR_readClause_154 at h
  obtain ⟨r1, h2, h⟩ := bindI h
  refine SW.callVi (pc := 154) g (dt dt_X4_readClause 78 rfl) (mt_f_tape_takeUnless _ _ _ _ ad ν   N μ s0 r1 h2) me_X7_takeUnless mv_X7_takeUnless ml_X4_90 cell_1 rfl rfl (Nat.le_of_ble_eq_true rfl) (Nat.le_of_ble_eq_true rfl) (Nat.le_of_ble_eq_true rfl) (Nat.le_of_ble_eq_true rfl) rfl ?_
  refine SW.if_eq (pc := 157) (t := 172) g (dt dt_X4_readClause 79 rfl) rfl (fun hc => ?_) (fun hc => ?_)
  · have h := iteT hc h
    refine SW.iconst (pc := 172) (v := 0) g (dt dt_X4_readClause 86 rfl) ki_0 ?_
    exact SW.zreturn (pc := 173) g (leafW h ho) rfl (Nat.le_of_ble_eq_true rfl) (Nat.le_of_ble_eq_true rfl) (by decide) (dt dt_X4_readClause 87 rfl)
  · have h := iteF hc h
    refine SW.aload_n (pc := 160) g (dt dt_X4_readClause 80 rfl) rfl ?_
    refine SW.aload_n (pc := 161) g (dt dt_X4_readClause 81 rfl) rfl ?_
    obtain ⟨r3, h4, h⟩ := bindI h
    refine SW.callVi (pc := 162) g (dt dt_X4_readClause 82 rfl) (mt_f_landR_readPerson _ _ _ _ ad ν   N r1.2  r3 h4) me_X4_readPerson mv_X4_readPerson ml_X4_110 cell_11 rfl rfl (Nat.le_of_ble_eq_true rfl) (Nat.le_of_ble_eq_true rfl) (Nat.le_of_ble_eq_true rfl) (Nat.le_of_ble_eq_true rfl) rfl ?_
    refine SW.if_eq (pc := 165) (t := 172) g (dt dt_X4_readClause 83 rfl) rfl (fun hc => ?_) (fun hc => ?_)
    · have h := iteT hc h
      refine SW.iconst (pc := 172) (v := 0) g (dt dt_X4_readClause 86 rfl) ki_0 ?_
      exact SW.zreturn (pc := 173) g (leafW h ho) rfl (Nat.le_of_ble_eq_true rfl) (Nat.le_of_ble_eq_true rfl) (by decide) (dt dt_X4_readClause 87 rfl)
    · have h := iteF hc h
      refine SW.iconst (pc := 168) (v := 1) g (dt dt_X4_readClause 84 rfl) ki_1 ?_
      refine SW.goto (pc := 169) (t := 173) g (dt dt_X4_readClause 85 rfl) rfl ?_
      exact SW.zreturn (pc := 173) g (leafW h ho) rfl (Nat.le_of_ble_eq_true rfl) (Nat.le_of_ble_eq_true rfl) (by decide) (dt dt_X4_readClause 87 rfl)
set_option maxRecDepth 100000 in
set_option maxHeartbeats 4000000 in
theorem ok_f_landR_readClause_149 {G : sw_G} {ad : Nat → Nat} {ν : sw_N}   {N : Nat} {o : Int32 × sw_M} (g : sw_ok G cX4_readClause "DeadWires$Land" (some .boolean) 6 0 0 ad) (hm : G.2.2.1.2.1.maxLocals = 3)  (ho : sw_out G 0 0 (fun a => a = ad) (.inl (some (.int o.1))) lay0 o.2 ν)  (μ : sw_M)  (h : f_landR_readClause_149 N    μ  = some o) : SW G ad lay0 ν 0 0 149 [some (.ref 11), some (.ref 1), none] [.ref 1] μ := by
  unfold f_landR_readClause_149 at h
  refine SW.iconst (pc := 149) (v := 1) g (dt dt_X4_readClause 75 rfl) ki_1 ?_
  refine SW.goto (pc := 150) (t := 154) g (dt dt_X4_readClause 76 rfl) rfl ?_
  refine SW.msk [true, true, false] ?_
  exact ok_f_landR_readClause_154  g hm  ho    μ 1 h
set_option maxRecDepth 100000 in
set_option maxHeartbeats 4000000 in
theorem ok_f_landR_readClause_107 {G : sw_G} {ad : Nat → Nat} {ν : sw_N}   {N : Nat} {o : Int32 × sw_M} (g : sw_ok G cX4_readClause "DeadWires$Land" (some .boolean) 6 0 0 ad) (hm : G.2.2.1.2.1.maxLocals = 3)  (ho : sw_out G 0 0 (fun a => a = ad) (.inl (some (.int o.1))) lay0 o.2 ν)  (μ : sw_M) (s0 : Int32) (h : f_landR_readClause_107 N    μ s0 = some o) : SW G ad lay0 ν 0 0 107 [some (.ref 11), some (.ref 1), none] [.int s0, .ref 1] μ := by
  unfold f_landR_readClause_107 at h
  obtain ⟨r1, h2, h⟩ := bindI h
  refine SW.callVi (pc := 107) g (dt dt_X4_readClause 54 rfl) (mt_f_tape_takeUnless _ _ _ _ ad ν   N μ s0 r1 h2) me_X7_takeUnless mv_X7_takeUnless ml_X4_90 cell_1 rfl rfl (Nat.le_of_ble_eq_true rfl) (Nat.le_of_ble_eq_true rfl) (Nat.le_of_ble_eq_true rfl) (Nat.le_of_ble_eq_true rfl) rfl ?_
  refine SW.if_eq (pc := 110) (t := 125) g (dt dt_X4_readClause 55 rfl) rfl (fun hc => ?_) (fun hc => ?_)
  · have h := iteT hc h
    refine SW.iconst (pc := 125) (v := 0) g (dt dt_X4_readClause 62 rfl) ki_0 ?_
    exact SW.zreturn (pc := 126) g (leafW h ho) rfl (Nat.le_of_ble_eq_true rfl) (Nat.le_of_ble_eq_true rfl) (by decide) (dt dt_X4_readClause 63 rfl)
  · have h := iteF hc h
    refine SW.aload_n (pc := 113) g (dt dt_X4_readClause 56 rfl) rfl ?_
    refine SW.aload_n (pc := 114) g (dt dt_X4_readClause 57 rfl) rfl ?_
    obtain ⟨r3, h4, h⟩ := bindI h
    refine SW.callVi (pc := 115) g (dt dt_X4_readClause 58 rfl) (mt_f_landR_readThing _ _ _ _ ad ν   N r1.2  r3 h4) me_X4_readThing mv_X4_readThing ml_X4_105 cell_11 rfl rfl (Nat.le_of_ble_eq_true rfl) (Nat.le_of_ble_eq_true rfl) (Nat.le_of_ble_eq_true rfl) (Nat.le_of_ble_eq_true rfl) rfl ?_
    refine SW.if_eq (pc := 118) (t := 125) g (dt dt_X4_readClause 59 rfl) rfl (fun hc => ?_) (fun hc => ?_)
    · have h := iteT hc h
      refine SW.iconst (pc := 125) (v := 0) g (dt dt_X4_readClause 62 rfl) ki_0 ?_
      exact SW.zreturn (pc := 126) g (leafW h ho) rfl (Nat.le_of_ble_eq_true rfl) (Nat.le_of_ble_eq_true rfl) (by decide) (dt dt_X4_readClause 63 rfl)
    · have h := iteF hc h
      refine SW.iconst (pc := 121) (v := 1) g (dt dt_X4_readClause 60 rfl) ki_1 ?_
      refine SW.goto (pc := 122) (t := 126) g (dt dt_X4_readClause 61 rfl) rfl ?_
      exact SW.zreturn (pc := 126) g (leafW h ho) rfl (Nat.le_of_ble_eq_true rfl) (Nat.le_of_ble_eq_true rfl) (by decide) (dt dt_X4_readClause 63 rfl)
set_option maxRecDepth 100000 in
set_option maxHeartbeats 4000000 in
theorem ok_f_landR_readClause_102 {G : sw_G} {ad : Nat → Nat} {ν : sw_N}   {N : Nat} {o : Int32 × sw_M} (g : sw_ok G cX4_readClause "DeadWires$Land" (some .boolean) 6 0 0 ad) (hm : G.2.2.1.2.1.maxLocals = 3)  (ho : sw_out G 0 0 (fun a => a = ad) (.inl (some (.int o.1))) lay0 o.2 ν)  (μ : sw_M)  (h : f_landR_readClause_102 N    μ  = some o) : SW G ad lay0 ν 0 0 102 [some (.ref 11), some (.ref 1), none] [.ref 1] μ := by
  unfold f_landR_readClause_102 at h
  refine SW.iconst (pc := 102) (v := 1) g (dt dt_X4_readClause 51 rfl) ki_1 ?_
  refine SW.goto (pc := 103) (t := 107) g (dt dt_X4_readClause 52 rfl) rfl ?_
  refine SW.msk [true, true, false] ?_
  exact ok_f_landR_readClause_107  g hm  ho    μ 1 h
set_option maxRecDepth 100000 in
set_option maxHeartbeats 4000000 in
theorem ok_f_landR_readClause_59 {G : sw_G} {ad : Nat → Nat} {ν : sw_N}   {N : Nat} {o : Int32 × sw_M} (g : sw_ok G cX4_readClause "DeadWires$Land" (some .boolean) 6 0 0 ad) (hm : G.2.2.1.2.1.maxLocals = 3)  (ho : sw_out G 0 0 (fun a => a = ad) (.inl (some (.int o.1))) lay0 o.2 ν)  (μ : sw_M) (s0 : Int32) (h : f_landR_readClause_59 N    μ s0 = some o) : SW G ad lay0 ν 0 0 59 [some (.ref 11), some (.ref 1), none] [.int s0, .ref 1] μ := by
  unfold f_landR_readClause_59 at h
  obtain ⟨r1, h2, h⟩ := bindI h
  refine SW.callVi (pc := 59) g (dt dt_X4_readClause 30 rfl) (mt_f_tape_takeUnless _ _ _ _ ad ν   N μ s0 r1 h2) me_X7_takeUnless mv_X7_takeUnless ml_X4_90 cell_1 rfl rfl (Nat.le_of_ble_eq_true rfl) (Nat.le_of_ble_eq_true rfl) (Nat.le_of_ble_eq_true rfl) (Nat.le_of_ble_eq_true rfl) rfl ?_
  refine SW.if_eq (pc := 62) (t := 77) g (dt dt_X4_readClause 31 rfl) rfl (fun hc => ?_) (fun hc => ?_)
  · have h := iteT hc h
    refine SW.iconst (pc := 77) (v := 0) g (dt dt_X4_readClause 38 rfl) ki_0 ?_
    exact SW.zreturn (pc := 78) g (leafW h ho) rfl (Nat.le_of_ble_eq_true rfl) (Nat.le_of_ble_eq_true rfl) (by decide) (dt dt_X4_readClause 39 rfl)
  · have h := iteF hc h
    refine SW.aload_n (pc := 65) g (dt dt_X4_readClause 32 rfl) rfl ?_
    refine SW.aload_n (pc := 66) g (dt dt_X4_readClause 33 rfl) rfl ?_
    obtain ⟨r3, h4, h⟩ := bindI h
    refine SW.callVi (pc := 67) g (dt dt_X4_readClause 34 rfl) (mt_f_landR_readWire _ _ _ _ ad ν   N r1.2  r3 h4) me_X4_readWire mv_X4_readWire ml_X4_100 cell_11 rfl rfl (Nat.le_of_ble_eq_true rfl) (Nat.le_of_ble_eq_true rfl) (Nat.le_of_ble_eq_true rfl) (Nat.le_of_ble_eq_true rfl) rfl ?_
    refine SW.if_eq (pc := 70) (t := 77) g (dt dt_X4_readClause 35 rfl) rfl (fun hc => ?_) (fun hc => ?_)
    · have h := iteT hc h
      refine SW.iconst (pc := 77) (v := 0) g (dt dt_X4_readClause 38 rfl) ki_0 ?_
      exact SW.zreturn (pc := 78) g (leafW h ho) rfl (Nat.le_of_ble_eq_true rfl) (Nat.le_of_ble_eq_true rfl) (by decide) (dt dt_X4_readClause 39 rfl)
    · have h := iteF hc h
      refine SW.iconst (pc := 73) (v := 1) g (dt dt_X4_readClause 36 rfl) ki_1 ?_
      refine SW.goto (pc := 74) (t := 78) g (dt dt_X4_readClause 37 rfl) rfl ?_
      exact SW.zreturn (pc := 78) g (leafW h ho) rfl (Nat.le_of_ble_eq_true rfl) (Nat.le_of_ble_eq_true rfl) (by decide) (dt dt_X4_readClause 39 rfl)
set_option maxRecDepth 100000 in
set_option maxHeartbeats 4000000 in
theorem ok_f_landR_readClause_54 {G : sw_G} {ad : Nat → Nat} {ν : sw_N}   {N : Nat} {o : Int32 × sw_M} (g : sw_ok G cX4_readClause "DeadWires$Land" (some .boolean) 6 0 0 ad) (hm : G.2.2.1.2.1.maxLocals = 3)  (ho : sw_out G 0 0 (fun a => a = ad) (.inl (some (.int o.1))) lay0 o.2 ν)  (μ : sw_M)  (h : f_landR_readClause_54 N    μ  = some o) : SW G ad lay0 ν 0 0 54 [some (.ref 11), some (.ref 1), none] [.ref 1] μ := by
  unfold f_landR_readClause_54 at h
  refine SW.iconst (pc := 54) (v := 1) g (dt dt_X4_readClause 27 rfl) ki_1 ?_
  refine SW.goto (pc := 55) (t := 59) g (dt dt_X4_readClause 28 rfl) rfl ?_
  refine SW.msk [true, true, false] ?_
  exact ok_f_landR_readClause_59  g hm  ho    μ 1 h
set_option maxRecDepth 100000 in
set_option maxHeartbeats 4000000 in
theorem ok_f_landR_readClause {G : sw_G} {ad : Nat → Nat} {ν : sw_N}   {N : Nat} {o : Int32 × sw_M} (g : sw_ok G cX4_readClause "DeadWires$Land" (some .boolean) 6 0 0 ad) (hm : G.2.2.1.2.1.maxLocals = 3)  (μ : sw_M) (ho : sw_out G 0 0 (fun a => a = ad) (.inl (some (.int o.1))) lay0 o.2 ν) (a2 : Int32) (h : f_landR_readClause N  μ a2 = some o) : SW G ad lay0 ν 0 0 0 [some (.ref 11), some (.ref 1), some (.int a2)] [] μ := by
  unfold f_landR_readClause at h
  refine SW.aload_n (pc := 0) g (dt dt_X4_readClause 0 rfl) rfl ?_
  refine SW.ldcS (pc := 1) (j := 3) g (dt dt_X4_readClause 1 rfl) sr_X4_85 rfl ?_
  obtain ⟨r1, h2, h⟩ := bindI h
  refine SW.callVi (pc := 3) g (dt dt_X4_readClause 2 rfl) (mt_f_tape_isWord _ _ _ _ ad ν 3 (by decide) N μ  r1 h2) me_X7_isWord mv_X7_isWord ml_X4_86 cell_1 rfl rfl (Nat.le_of_ble_eq_true rfl) (Nat.le_of_ble_eq_true rfl) (Nat.le_of_ble_eq_true rfl) (Nat.le_of_ble_eq_true rfl) rfl ?_
  refine SW.if_eq (pc := 6) (t := 31) g (dt dt_X4_readClause 3 rfl) rfl (fun hc => ?_) (fun hc => ?_)
  · have h := iteT hc h
    refine SW.aload_n (pc := 31) g (dt dt_X4_readClause 16 rfl) rfl ?_
    refine SW.ldcS (pc := 32) (j := 17) g (dt dt_X4_readClause 17 rfl) sr_X4_98 rfl ?_
    obtain ⟨r3, h4, h⟩ := bindI h
    refine SW.callVi (pc := 34) g (dt dt_X4_readClause 18 rfl) (mt_f_tape_isWord _ _ _ _ ad ν 17 (by decide) N μ  r3 h4) me_X7_isWord mv_X7_isWord ml_X4_86 cell_1 rfl rfl (Nat.le_of_ble_eq_true rfl) (Nat.le_of_ble_eq_true rfl) (Nat.le_of_ble_eq_true rfl) (Nat.le_of_ble_eq_true rfl) rfl ?_
    refine SW.if_eq (pc := 37) (t := 79) g (dt dt_X4_readClause 19 rfl) rfl (fun hc => ?_) (fun hc => ?_)
    · have h := iteT hc h
      refine SW.aload_n (pc := 79) g (dt dt_X4_readClause 40 rfl) rfl ?_
      refine SW.ldcS (pc := 80) (j := 15) g (dt dt_X4_readClause 41 rfl) sr_X4_103 rfl ?_
      obtain ⟨r5, h6, h⟩ := bindI h
      refine SW.callVi (pc := 82) g (dt dt_X4_readClause 42 rfl) (mt_f_tape_isWord _ _ _ _ ad ν 15 (by decide) N μ  r5 h6) me_X7_isWord mv_X7_isWord ml_X4_86 cell_1 rfl rfl (Nat.le_of_ble_eq_true rfl) (Nat.le_of_ble_eq_true rfl) (Nat.le_of_ble_eq_true rfl) (Nat.le_of_ble_eq_true rfl) rfl ?_
      refine SW.if_eq (pc := 85) (t := 127) g (dt dt_X4_readClause 43 rfl) rfl (fun hc => ?_) (fun hc => ?_)
      · have h := iteT hc h
        refine SW.aload_n (pc := 127) g (dt dt_X4_readClause 64 rfl) rfl ?_
        refine SW.ldcS (pc := 128) (j := 11) g (dt dt_X4_readClause 65 rfl) sr_X4_108 rfl ?_
        obtain ⟨r7, h8, h⟩ := bindI h
        refine SW.callVi (pc := 130) g (dt dt_X4_readClause 66 rfl) (mt_f_tape_isWord _ _ _ _ ad ν 11 (by decide) N μ  r7 h8) me_X7_isWord mv_X7_isWord ml_X4_86 cell_1 rfl rfl (Nat.le_of_ble_eq_true rfl) (Nat.le_of_ble_eq_true rfl) (Nat.le_of_ble_eq_true rfl) (Nat.le_of_ble_eq_true rfl) rfl ?_
        refine SW.if_eq (pc := 133) (t := 174) g (dt dt_X4_readClause 67 rfl) rfl (fun hc => ?_) (fun hc => ?_)
        · have h := iteT hc h
          refine SW.aload_n (pc := 174) g (dt dt_X4_readClause 88 rfl) rfl ?_
          refine SW.ldcS (pc := 175) (j := 12) g (dt dt_X4_readClause 89 rfl) sr_X4_113 rfl ?_
          obtain ⟨r9, h10, h⟩ := bindI h
          refine SW.callVi (pc := 177) g (dt dt_X4_readClause 90 rfl) (mt_f_tape_isWord _ _ _ _ ad ν 12 (by decide) N μ  r9 h10) me_X7_isWord mv_X7_isWord ml_X4_86 cell_1 rfl rfl (Nat.le_of_ble_eq_true rfl) (Nat.le_of_ble_eq_true rfl) (Nat.le_of_ble_eq_true rfl) (Nat.le_of_ble_eq_true rfl) rfl ?_
          refine SW.if_eq (pc := 180) (t := 205) g (dt dt_X4_readClause 91 rfl) rfl (fun hc => ?_) (fun hc => ?_)
          · have h := iteT hc h
            refine SW.aload_n (pc := 205) g (dt dt_X4_readClause 104 rfl) rfl ?_
            refine SW.iconst (pc := 206) (v := 1) g (dt dt_X4_readClause 105 rfl) ki_1 ?_
            obtain ⟨r11, h12, h⟩ := bindI h
            refine SW.callVi (pc := 207) g (dt dt_X4_readClause 106 rfl) (mt_f_tape_fail _ _ _ _ ad ν   N μ 1 r11 h12) me_X7_fail mv_X7_fail ml_X4_118 cell_1 rfl rfl (Nat.le_of_ble_eq_true rfl) (Nat.le_of_ble_eq_true rfl) (Nat.le_of_ble_eq_true rfl) (Nat.le_of_ble_eq_true rfl) rfl ?_
            obtain ⟨hn, h⟩ := blI h
            exact SW.zreturn (pc := 210) g (leafW h ho) rfl (Nat.le_of_ble_eq_true rfl) (Nat.le_of_ble_eq_true rfl) hn (dt dt_X4_readClause 107 rfl)
          · have h := iteF hc h
            refine SW.aload_n (pc := 183) g (dt dt_X4_readClause 92 rfl) rfl ?_
            refine SW.iload_n (pc := 184) g (dt dt_X4_readClause 93 rfl) rfl ?_
            obtain ⟨r13, h14, h⟩ := bindI h
            refine SW.callVi (pc := 185) g (dt dt_X4_readClause 94 rfl) (mt_f_tape_takeUnless _ _ _ _ ad ν   N μ a2 r13 h14) me_X7_takeUnless mv_X7_takeUnless ml_X4_90 cell_1 rfl rfl (Nat.le_of_ble_eq_true rfl) (Nat.le_of_ble_eq_true rfl) (Nat.le_of_ble_eq_true rfl) (Nat.le_of_ble_eq_true rfl) rfl ?_
            refine SW.if_eq (pc := 188) (t := 203) g (dt dt_X4_readClause 95 rfl) rfl (fun hc => ?_) (fun hc => ?_)
            · have h := iteT hc h
              refine SW.iconst (pc := 203) (v := 0) g (dt dt_X4_readClause 102 rfl) ki_0 ?_
              exact SW.zreturn (pc := 204) g (leafW h ho) rfl (Nat.le_of_ble_eq_true rfl) (Nat.le_of_ble_eq_true rfl) (by decide) (dt dt_X4_readClause 103 rfl)
            · have h := iteF hc h
              refine SW.aload_n (pc := 191) g (dt dt_X4_readClause 96 rfl) rfl ?_
              refine SW.aload_n (pc := 192) g (dt dt_X4_readClause 97 rfl) rfl ?_
              obtain ⟨r15, h16, h⟩ := bindI h
              refine SW.callVi (pc := 193) g (dt dt_X4_readClause 98 rfl) (mt_f_landR_readPliers _ _ _ _ ad ν   N r13.2  r15 h16) me_X4_readPliers mv_X4_readPliers ml_X4_115 cell_11 rfl rfl (Nat.le_of_ble_eq_true rfl) (Nat.le_of_ble_eq_true rfl) (Nat.le_of_ble_eq_true rfl) (Nat.le_of_ble_eq_true rfl) rfl ?_
              refine SW.if_eq (pc := 196) (t := 203) g (dt dt_X4_readClause 99 rfl) rfl (fun hc => ?_) (fun hc => ?_)
              · have h := iteT hc h
                refine SW.iconst (pc := 203) (v := 0) g (dt dt_X4_readClause 102 rfl) ki_0 ?_
                exact SW.zreturn (pc := 204) g (leafW h ho) rfl (Nat.le_of_ble_eq_true rfl) (Nat.le_of_ble_eq_true rfl) (by decide) (dt dt_X4_readClause 103 rfl)
              · have h := iteF hc h
                refine SW.iconst (pc := 199) (v := 1) g (dt dt_X4_readClause 100 rfl) ki_1 ?_
                refine SW.goto (pc := 200) (t := 204) g (dt dt_X4_readClause 101 rfl) rfl ?_
                exact SW.zreturn (pc := 204) g (leafW h ho) rfl (Nat.le_of_ble_eq_true rfl) (Nat.le_of_ble_eq_true rfl) (by decide) (dt dt_X4_readClause 103 rfl)
        · have h := iteF hc h
          refine SW.aload_n (pc := 136) g (dt dt_X4_readClause 68 rfl) rfl ?_
          refine SW.iload_n (pc := 137) g (dt dt_X4_readClause 69 rfl) rfl ?_
          refine SW.if_ne (pc := 138) (t := 149) g (dt dt_X4_readClause 70 rfl) rfl (fun hc => ?_) (fun hc => ?_)
          · have h := iteF hc h
            refine SW.msk [true, true, false] ?_
            exact ok_f_landR_readClause_149  g hm  ho    μ  h
          · have h := iteT hc h
            refine SW.aload_n (pc := 141) g (dt dt_X4_readClause 71 rfl) rfl ?_
            refine SW.getI (pc := 142) g (dt dt_X4_readClause 72 rfl) fl_X4_46 cell_11 rfl ?_
            refine SW.iconst (pc := 145) (v := 5) g (dt dt_X4_readClause 73 rfl) ki_5 ?_
            refine SW.icmp_lt (pc := 146) (t := 153) g (dt dt_X4_readClause 74 rfl) rfl (fun hc => ?_) (fun hc => ?_)
            · have h := iteT hc h
              refine SW.iconst (pc := 153) (v := 0) g (dt dt_X4_readClause 77 rfl) ki_0 ?_
              refine SW.msk [true, true, false] ?_
              exact ok_f_landR_readClause_154  g hm  ho    μ 0 h
            · have h := iteF hc h
              refine SW.msk [true, true, false] ?_
              exact ok_f_landR_readClause_149  g hm  ho    μ  h
      · have h := iteF hc h
        refine SW.aload_n (pc := 88) g (dt dt_X4_readClause 44 rfl) rfl ?_
        refine SW.iload_n (pc := 89) g (dt dt_X4_readClause 45 rfl) rfl ?_
        refine SW.if_ne (pc := 90) (t := 102) g (dt dt_X4_readClause 46 rfl) rfl (fun hc => ?_) (fun hc => ?_)
        · have h := iteF hc h
          refine SW.msk [true, true, false] ?_
          exact ok_f_landR_readClause_102  g hm  ho    μ  h
        · have h := iteT hc h
          refine SW.aload_n (pc := 93) g (dt dt_X4_readClause 47 rfl) rfl ?_
          refine SW.getI (pc := 94) g (dt dt_X4_readClause 48 rfl) fl_X4_43 cell_11 rfl ?_
          refine SW.bipush (pc := 97) (v := 6) g (dt dt_X4_readClause 49 rfl) kb_6 ?_
          refine SW.icmp_lt (pc := 99) (t := 106) g (dt dt_X4_readClause 50 rfl) rfl (fun hc => ?_) (fun hc => ?_)
          · have h := iteT hc h
            refine SW.iconst (pc := 106) (v := 0) g (dt dt_X4_readClause 53 rfl) ki_0 ?_
            refine SW.msk [true, true, false] ?_
            exact ok_f_landR_readClause_107  g hm  ho    μ 0 h
          · have h := iteF hc h
            refine SW.msk [true, true, false] ?_
            exact ok_f_landR_readClause_102  g hm  ho    μ  h
    · have h := iteF hc h
      refine SW.aload_n (pc := 40) g (dt dt_X4_readClause 20 rfl) rfl ?_
      refine SW.iload_n (pc := 41) g (dt dt_X4_readClause 21 rfl) rfl ?_
      refine SW.if_ne (pc := 42) (t := 54) g (dt dt_X4_readClause 22 rfl) rfl (fun hc => ?_) (fun hc => ?_)
      · have h := iteF hc h
        refine SW.msk [true, true, false] ?_
        exact ok_f_landR_readClause_54  g hm  ho    μ  h
      · have h := iteT hc h
        refine SW.aload_n (pc := 45) g (dt dt_X4_readClause 23 rfl) rfl ?_
        refine SW.getI (pc := 46) g (dt dt_X4_readClause 24 rfl) fl_X4_40 cell_11 rfl ?_
        refine SW.bipush (pc := 49) (v := 12) g (dt dt_X4_readClause 25 rfl) kb_12 ?_
        refine SW.icmp_lt (pc := 51) (t := 58) g (dt dt_X4_readClause 26 rfl) rfl (fun hc => ?_) (fun hc => ?_)
        · have h := iteT hc h
          refine SW.iconst (pc := 58) (v := 0) g (dt dt_X4_readClause 29 rfl) ki_0 ?_
          refine SW.msk [true, true, false] ?_
          exact ok_f_landR_readClause_59  g hm  ho    μ 0 h
        · have h := iteF hc h
          refine SW.msk [true, true, false] ?_
          exact ok_f_landR_readClause_54  g hm  ho    μ  h
  · have h := iteF hc h
    refine SW.aload_n (pc := 9) g (dt dt_X4_readClause 4 rfl) rfl ?_
    refine SW.iload_n (pc := 10) g (dt dt_X4_readClause 5 rfl) rfl ?_
    obtain ⟨r17, h18, h⟩ := bindI h
    refine SW.callVi (pc := 11) g (dt dt_X4_readClause 6 rfl) (mt_f_tape_takeUnless _ _ _ _ ad ν   N μ a2 r17 h18) me_X7_takeUnless mv_X7_takeUnless ml_X4_90 cell_1 rfl rfl (Nat.le_of_ble_eq_true rfl) (Nat.le_of_ble_eq_true rfl) (Nat.le_of_ble_eq_true rfl) (Nat.le_of_ble_eq_true rfl) rfl ?_
    refine SW.if_eq (pc := 14) (t := 29) g (dt dt_X4_readClause 7 rfl) rfl (fun hc => ?_) (fun hc => ?_)
    · have h := iteT hc h
      refine SW.iconst (pc := 29) (v := 0) g (dt dt_X4_readClause 14 rfl) ki_0 ?_
      exact SW.zreturn (pc := 30) g (leafW h ho) rfl (Nat.le_of_ble_eq_true rfl) (Nat.le_of_ble_eq_true rfl) (by decide) (dt dt_X4_readClause 15 rfl)
    · have h := iteF hc h
      refine SW.aload_n (pc := 17) g (dt dt_X4_readClause 8 rfl) rfl ?_
      refine SW.aload_n (pc := 18) g (dt dt_X4_readClause 9 rfl) rfl ?_
      obtain ⟨r19, h20, h⟩ := bindI h
      refine SW.callVi (pc := 19) g (dt dt_X4_readClause 10 rfl) (mt_f_landR_readFields _ _ _ _ ad ν   N r17.2  r19 h20) me_X4_readFields mv_X4_readFields ml_X4_94 cell_11 rfl rfl (Nat.le_of_ble_eq_true rfl) (Nat.le_of_ble_eq_true rfl) (Nat.le_of_ble_eq_true rfl) (Nat.le_of_ble_eq_true rfl) rfl ?_
      refine SW.if_eq (pc := 22) (t := 29) g (dt dt_X4_readClause 11 rfl) rfl (fun hc => ?_) (fun hc => ?_)
      · have h := iteT hc h
        refine SW.iconst (pc := 29) (v := 0) g (dt dt_X4_readClause 14 rfl) ki_0 ?_
        exact SW.zreturn (pc := 30) g (leafW h ho) rfl (Nat.le_of_ble_eq_true rfl) (Nat.le_of_ble_eq_true rfl) (by decide) (dt dt_X4_readClause 15 rfl)
      · have h := iteF hc h
        refine SW.iconst (pc := 25) (v := 1) g (dt dt_X4_readClause 12 rfl) ki_1 ?_
        refine SW.goto (pc := 26) (t := 30) g (dt dt_X4_readClause 13 rfl) rfl ?_
        exact SW.zreturn (pc := 30) g (leafW h ho) rfl (Nat.le_of_ble_eq_true rfl) (Nat.le_of_ble_eq_true rfl) (by decide) (dt dt_X4_readClause 15 rfl)
set_option maxRecDepth 100000 in
set_option maxHeartbeats 4000000 in
theorem mt_f_landR_readClause (l : Launch) (D : va_G) (cI cL : ClassId) (ad : Nat → Nat) (ν : sw_N)    (N : Nat) (μ : sw_M) (a2 : Int32) (o : Int32 × sw_M) (h : f_landR_readClause N  μ a2 = some o) : MetR l D cI cL yX4_readClause cX4_readClause 3 (some .boolean) 6 0 0 (fun a => a = ad) ad [.ref 11, .ref 1, .int a2] lay0 μ ν (some (.int o.1)) lay0 o.2 ν :=
  MetR.of (n := 0) rfl (Nat.le_of_ble_eq_true rfl) (fun G g ho hm _ _ => ok_f_landR_readClause  g hm  μ ho a2 h)
def f_tape_takeSign (N : Nat)  (μ : sw_M) (a1 : Int32) : Option (Int32 × sw_M) :=
  if (μ 1 4) = a1 then
    Option.bind (f_tape_advance N  μ ) (fun r1 =>
      some (1, r1))
  else
    Option.bind (f_tape_fail N  μ 1) (fun r3 =>
      bl r3.1 (some (r3.1, r3.2)))
set_option maxRecDepth 100000 in
set_option maxHeartbeats 4000000 in
theorem ok_f_tape_takeSign {G : sw_G} {ad : Nat → Nat} {ν : sw_N}   {N : Nat} {o : Int32 × sw_M} (g : sw_ok G cX7_takeSign "DeadWires$Tape" (some .boolean) 2 0 0 ad) (hm : G.2.2.1.2.1.maxLocals = 2)  (μ : sw_M) (ho : sw_out G 0 0 (fun a => a = ad) (.inl (some (.int o.1))) lay0 o.2 ν) (a1 : Int32) (h : f_tape_takeSign N  μ a1 = some o) : SW G ad lay0 ν 0 0 0 [some (.ref 1), some (.int a1)] [] μ := by
  unfold f_tape_takeSign at h
  refine SW.aload_n (pc := 0) g (dt dt_X7_takeSign 0 rfl) rfl ?_
  refine SW.getI (pc := 1) g (dt dt_X7_takeSign 1 rfl) fl_X7_15 cell_1 rfl ?_
  refine SW.iload_n (pc := 4) g (dt dt_X7_takeSign 2 rfl) rfl ?_
  refine SW.icmp_eq (pc := 5) (t := 14) g (dt dt_X7_takeSign 3 rfl) rfl (fun hc => ?_) (fun hc => ?_)
  · have h := iteT hc h
    refine SW.aload_n (pc := 14) g (dt dt_X7_takeSign 8 rfl) rfl ?_
    obtain ⟨r1, h2, h⟩ := bindI h
    refine SW.callVv (pc := 15) g (dt dt_X7_takeSign 9 rfl) (mt_f_tape_advance _ _ _ _ ad ν   N μ  r1 h2) me_X7_advance mv_X7_advance ml_X7_41 cell_1 rfl rfl (Nat.le_of_ble_eq_true rfl) (Nat.le_of_ble_eq_true rfl) (Nat.le_of_ble_eq_true rfl) (Nat.le_of_ble_eq_true rfl) rfl ?_
    refine SW.iconst (pc := 18) (v := 1) g (dt dt_X7_takeSign 10 rfl) ki_1 ?_
    exact SW.zreturn (pc := 19) g (leafW h ho) rfl (Nat.le_of_ble_eq_true rfl) (Nat.le_of_ble_eq_true rfl) (by decide) (dt dt_X7_takeSign 11 rfl)
  · have h := iteF hc h
    refine SW.aload_n (pc := 8) g (dt dt_X7_takeSign 4 rfl) rfl ?_
    refine SW.iconst (pc := 9) (v := 1) g (dt dt_X7_takeSign 5 rfl) ki_1 ?_
    obtain ⟨r3, h4, h⟩ := bindI h
    refine SW.callVi (pc := 10) g (dt dt_X7_takeSign 6 rfl) (mt_f_tape_fail _ _ _ _ ad ν   N μ 1 r3 h4) me_X7_fail mv_X7_fail ml_X7_64 cell_1 rfl rfl (Nat.le_of_ble_eq_true rfl) (Nat.le_of_ble_eq_true rfl) (Nat.le_of_ble_eq_true rfl) (Nat.le_of_ble_eq_true rfl) rfl ?_
    obtain ⟨hn, h⟩ := blI h
    exact SW.zreturn (pc := 13) g (leafW h ho) rfl (Nat.le_of_ble_eq_true rfl) (Nat.le_of_ble_eq_true rfl) hn (dt dt_X7_takeSign 7 rfl)
set_option maxRecDepth 100000 in
set_option maxHeartbeats 4000000 in
theorem mt_f_tape_takeSign (l : Launch) (D : va_G) (cI cL : ClassId) (ad : Nat → Nat) (ν : sw_N)    (N : Nat) (μ : sw_M) (a1 : Int32) (o : Int32 × sw_M) (h : f_tape_takeSign N  μ a1 = some o) : MetR l D cI cL yX7_takeSign cX7_takeSign 2 (some .boolean) 2 0 0 (fun a => a = ad) ad [.ref 1, .int a1] lay0 μ ν (some (.int o.1)) lay0 o.2 ν :=
  MetR.of (n := 0) rfl (Nat.le_of_ble_eq_true rfl) (fun G g ho hm _ _ => ok_f_tape_takeSign  g hm  μ ho a1 h)
def f_landR_read_58 (N : Nat)  (k_27 : sw_M → Int32 → Option (Int32 × sw_M)) (μ : sw_M) (x2 : Int32) (s0 : Int32) : Option (Int32 × sw_M) :=
  Option.bind (f_landR_readClause N  μ s0) (fun r1 =>
    if r1.1 = 0 then
      some (0, r1.2)
    else
      Option.bind (f_tape_takeSign N  r1.2 59) (fun r3 =>
        if r3.1 = 0 then
          some (0, r3.2)
        else
          k_27 r3.2 (x2 + 1)))
def f_landR_read_27 (N : Nat)   : Nat → sw_M → Int32 → Option (Int32 × sw_M)
  | 0, _, _ => none
  | n + 1, μ, x2 =>
    if 60 < x2 then
      some (0, μ)
    else
      if (μ 1 4) = 256 then
        some (1, μ)
      else
        if x2 < 60 then
          f_landR_read_58 N  (f_landR_read_27 N   n)  μ x2 0
        else
          f_landR_read_58 N  (f_landR_read_27 N   n)  μ x2 1
def f_landR_read (N : Nat)  (μ : sw_M)  : Option (Int32 × sw_M) :=
  wb (wr μ 11 0 0) (fun μ1 =>
    wb (wr μ1 11 1 0) (fun μ2 =>
      wb (wr μ2 11 2 0) (fun μ3 =>
        wb (wr μ3 11 3 0) (fun μ4 =>
          wb (wr μ4 11 4 2) (fun μ5 =>
            f_landR_read_27 N   N μ5 0)))))
set_option maxRecDepth 100000 in
set_option maxHeartbeats 4000000 in
theorem ok_f_landR_read_58 {G : sw_G} {ad : Nat → Nat} {ν : sw_N}   {N : Nat} {o : Int32 × sw_M} (g : sw_ok G cX4_read "DeadWires$Land" (some .boolean) 7 0 0 ad) (hm : G.2.2.1.2.1.maxLocals = 3)  (ho : sw_out G 0 0 (fun a => a = ad) (.inl (some (.int o.1))) lay0 o.2 ν) (k_27 : sw_M → Int32 → Option (Int32 × sw_M)) (hk_27 : ∀ (μ : sw_M) (x2 : Int32), k_27 μ x2 = some o → SW G ad lay0 ν 0 0 27 [some (.ref 11), some (.ref 1), some (.int x2)] [] μ) (μ : sw_M) (x2 : Int32) (s0 : Int32) (h : f_landR_read_58 N  k_27  μ x2 s0 = some o) : SW G ad lay0 ν 0 0 58 [some (.ref 11), some (.ref 1), some (.int x2)] [.int s0, .ref 1, .ref 11] μ := by
  unfold f_landR_read_58 at h
  obtain ⟨r1, h2, h⟩ := bindI h
  refine SW.callVi (pc := 58) g (dt dt_X4_read 34 rfl) (mt_f_landR_readClause _ _ _ _ ad ν   N μ s0 r1 h2) me_X4_readClause mv_X4_readClause ml_X4_77 cell_11 rfl rfl (Nat.le_of_ble_eq_true rfl) (Nat.le_of_ble_eq_true rfl) (Nat.le_of_ble_eq_true rfl) (Nat.le_of_ble_eq_true rfl) rfl ?_
  refine SW.if_eq (pc := 61) (t := 73) g (dt dt_X4_read 35 rfl) rfl (fun hc => ?_) (fun hc => ?_)
  · have h := iteT hc h
    refine SW.iconst (pc := 73) (v := 0) g (dt dt_X4_read 40 rfl) ki_0 ?_
    exact SW.zreturn (pc := 74) g (leafW h ho) rfl (Nat.le_of_ble_eq_true rfl) (Nat.le_of_ble_eq_true rfl) (by decide) (dt dt_X4_read 41 rfl)
  · have h := iteF hc h
    refine SW.aload_n (pc := 64) g (dt dt_X4_read 36 rfl) rfl ?_
    refine SW.bipush (pc := 65) (v := 59) g (dt dt_X4_read 37 rfl) kb_59 ?_
    obtain ⟨r3, h4, h⟩ := bindI h
    refine SW.callVi (pc := 67) g (dt dt_X4_read 38 rfl) (mt_f_tape_takeSign _ _ _ _ ad ν   N r1.2 59 r3 h4) me_X7_takeSign mv_X7_takeSign ml_X4_81 cell_1 rfl rfl (Nat.le_of_ble_eq_true rfl) (Nat.le_of_ble_eq_true rfl) (Nat.le_of_ble_eq_true rfl) (Nat.le_of_ble_eq_true rfl) rfl ?_
    refine SW.if_ne (pc := 70) (t := 75) g (dt dt_X4_read 39 rfl) rfl (fun hc => ?_) (fun hc => ?_)
    · have h := iteF hc h
      refine SW.iinc (pc := 75) (v := x2 + 1) g (dt dt_X4_read 42 rfl) rfl (kn_1 _) (sw_ltm hm (Nat.le_of_ble_eq_true rfl)) rfl ?_
      refine SW.goto (pc := 78) (t := 27) g (dt dt_X4_read 43 rfl) rfl ?_
      refine SW.msk [true, true, true] ?_
      exact hk_27 r3.2 (x2 + 1) h
    · have h := iteT hc h
      refine SW.iconst (pc := 73) (v := 0) g (dt dt_X4_read 40 rfl) ki_0 ?_
      exact SW.zreturn (pc := 74) g (leafW h ho) rfl (Nat.le_of_ble_eq_true rfl) (Nat.le_of_ble_eq_true rfl) (by decide) (dt dt_X4_read 41 rfl)
set_option maxRecDepth 100000 in
set_option maxHeartbeats 4000000 in
theorem ok_f_landR_read_27 {G : sw_G} {ad : Nat → Nat} {ν : sw_N}   {N : Nat} {o : Int32 × sw_M} (g : sw_ok G cX4_read "DeadWires$Land" (some .boolean) 7 0 0 ad) (hm : G.2.2.1.2.1.maxLocals = 3)  (ho : sw_out G 0 0 (fun a => a = ad) (.inl (some (.int o.1))) lay0 o.2 ν)  : ∀ (n : Nat) (μ : sw_M) (x2 : Int32) (h : f_landR_read_27 N   n μ x2 = some o), SW G ad lay0 ν 0 0 27 [some (.ref 11), some (.ref 1), some (.int x2)] [] μ := by
  intro n
  induction n with
  | zero => intro μ x2 h; simp only [f_landR_read_27] at h; cases h
  | succ n ih =>
    intro μ x2 h
    unfold f_landR_read_27 at h
    refine SW.iload_n (pc := 27) g (dt dt_X4_read 17 rfl) rfl ?_
    refine SW.bipush (pc := 28) (v := 60) g (dt dt_X4_read 18 rfl) kb_60 ?_
    refine SW.icmp_gt (pc := 30) (t := 81) g (dt dt_X4_read 19 rfl) rfl (fun hc => ?_) (fun hc => ?_)
    · have h := iteT hc h
      refine SW.iconst (pc := 81) (v := 0) g (dt dt_X4_read 44 rfl) ki_0 ?_
      exact SW.zreturn (pc := 82) g (leafW h ho) rfl (Nat.le_of_ble_eq_true rfl) (Nat.le_of_ble_eq_true rfl) (by decide) (dt dt_X4_read 45 rfl)
    · have h := iteF hc h
      refine SW.aload_n (pc := 33) g (dt dt_X4_read 20 rfl) rfl ?_
      refine SW.getI (pc := 34) g (dt dt_X4_read 21 rfl) fl_X4_72 cell_1 rfl ?_
      refine SW.sipush (pc := 37) (v := 256) g (dt dt_X4_read 22 rfl) ks_256 ?_
      refine SW.icmp_ne (pc := 40) (t := 45) g (dt dt_X4_read 23 rfl) rfl (fun hc => ?_) (fun hc => ?_)
      · have h := iteF hc h
        refine SW.aload_n (pc := 45) g (dt dt_X4_read 26 rfl) rfl ?_
        refine SW.aload_n (pc := 46) g (dt dt_X4_read 27 rfl) rfl ?_
        refine SW.iload_n (pc := 47) g (dt dt_X4_read 28 rfl) rfl ?_
        refine SW.bipush (pc := 48) (v := 60) g (dt dt_X4_read 29 rfl) kb_60 ?_
        refine SW.icmp_lt (pc := 50) (t := 57) g (dt dt_X4_read 30 rfl) rfl (fun hc => ?_) (fun hc => ?_)
        · have h := iteT hc h
          refine SW.iconst (pc := 57) (v := 0) g (dt dt_X4_read 33 rfl) ki_0 ?_
          refine SW.msk [true, true, true] ?_
          exact ok_f_landR_read_58  g hm  ho (f_landR_read_27 N   n) ih  μ x2 0 h
        · have h := iteF hc h
          refine SW.iconst (pc := 53) (v := 1) g (dt dt_X4_read 31 rfl) ki_1 ?_
          refine SW.goto (pc := 54) (t := 58) g (dt dt_X4_read 32 rfl) rfl ?_
          refine SW.msk [true, true, true] ?_
          exact ok_f_landR_read_58  g hm  ho (f_landR_read_27 N   n) ih  μ x2 1 h
      · have h := iteT hc h
        refine SW.iconst (pc := 43) (v := 1) g (dt dt_X4_read 24 rfl) ki_1 ?_
        exact SW.zreturn (pc := 44) g (leafW h ho) rfl (Nat.le_of_ble_eq_true rfl) (Nat.le_of_ble_eq_true rfl) (by decide) (dt dt_X4_read 25 rfl)
set_option maxRecDepth 100000 in
set_option maxHeartbeats 4000000 in
theorem ok_f_landR_read {G : sw_G} {ad : Nat → Nat} {ν : sw_N}   {N : Nat} {o : Int32 × sw_M} (g : sw_ok G cX4_read "DeadWires$Land" (some .boolean) 7 0 0 ad) (hm : G.2.2.1.2.1.maxLocals = 3)  (μ : sw_M) (ho : sw_out G 0 0 (fun a => a = ad) (.inl (some (.int o.1))) lay0 o.2 ν)  (h : f_landR_read N  μ  = some o) : SW G ad lay0 ν 0 0 0 [some (.ref 11), some (.ref 1), none] [] μ := by
  unfold f_landR_read at h
  refine SW.aload_n (pc := 0) g (dt dt_X4_read 0 rfl) rfl ?_
  refine SW.iconst (pc := 1) (v := 0) g (dt dt_X4_read 1 rfl) ki_0 ?_
  refine SW.putI (pc := 2) g (dt dt_X4_read 2 rfl) fl_X4_37 cell_11 rfl ?_
  refine SW.genM h (fun μ1 h => ?_)
  refine SW.aload_n (pc := 5) g (dt dt_X4_read 3 rfl) rfl ?_
  refine SW.iconst (pc := 6) (v := 0) g (dt dt_X4_read 4 rfl) ki_0 ?_
  refine SW.putI (pc := 7) g (dt dt_X4_read 5 rfl) fl_X4_40 cell_11 rfl ?_
  refine SW.genM h (fun μ2 h => ?_)
  refine SW.aload_n (pc := 10) g (dt dt_X4_read 6 rfl) rfl ?_
  refine SW.iconst (pc := 11) (v := 0) g (dt dt_X4_read 7 rfl) ki_0 ?_
  refine SW.putI (pc := 12) g (dt dt_X4_read 8 rfl) fl_X4_43 cell_11 rfl ?_
  refine SW.genM h (fun μ3 h => ?_)
  refine SW.aload_n (pc := 15) g (dt dt_X4_read 9 rfl) rfl ?_
  refine SW.iconst (pc := 16) (v := 0) g (dt dt_X4_read 10 rfl) ki_0 ?_
  refine SW.putI (pc := 17) g (dt dt_X4_read 11 rfl) fl_X4_46 cell_11 rfl ?_
  refine SW.genM h (fun μ4 h => ?_)
  refine SW.aload_n (pc := 20) g (dt dt_X4_read 12 rfl) rfl ?_
  refine SW.iconst (pc := 21) (v := 2) g (dt dt_X4_read 13 rfl) ki_2 ?_
  refine SW.putI (pc := 22) g (dt dt_X4_read 14 rfl) fl_X4_11 cell_11 rfl ?_
  refine SW.genM h (fun μ5 h => ?_)
  refine SW.iconst (pc := 25) (v := 0) g (dt dt_X4_read 15 rfl) ki_0 ?_
  refine SW.istore_n (pc := 26) g (dt dt_X4_read 16 rfl) (sw_ltm hm (Nat.le_of_ble_eq_true rfl)) rfl ?_
  refine SW.msk [true, true, true] ?_
  exact ok_f_landR_read_27  g hm  ho   N μ5 0 h
set_option maxRecDepth 100000 in
set_option maxHeartbeats 4000000 in
theorem mt_f_landR_read (l : Launch) (D : va_G) (cI cL : ClassId) (ad : Nat → Nat) (ν : sw_N)    (N : Nat) (μ : sw_M)  (o : Int32 × sw_M) (h : f_landR_read N  μ  = some o) : MetR l D cI cL yX4_read cX4_read 3 (some .boolean) 7 0 0 (fun a => a = ad) ad [.ref 11, .ref 1] lay0 μ ν (some (.int o.1)) lay0 o.2 ν :=
  MetR.of (n := 1) rfl (Nat.le_of_ble_eq_true rfl) (fun G g ho hm _ _ => ok_f_landR_read  g hm  μ ho  h)
def f_land_copy (N : Nat)  (μ : sw_M)  : Option (sw_M) :=
  wb (wr μ 3 0 (μ 11 0)) (fun μ1 =>
    wb (wr μ1 3 1 (μ1 11 1)) (fun μ2 =>
      wb (wr μ2 3 2 (μ2 11 2)) (fun μ3 =>
        wb (wr μ3 3 3 (μ3 11 3)) (fun μ4 =>
          wb (wr μ4 3 4 (μ4 11 4)) (fun μ5 =>
            cpc 0 0 12 12 12 (wb (wrR μ5 4 (va_cpy (μ5 12) (μ5 4) (0 : Int32).toNatClampNeg (0 : Int32).toNatClampNeg (12 : Int32).toNatClampNeg)) (fun μ7 =>
              cpc 0 0 12 12 12 (wb (wrR μ7 5 (va_cpy (μ7 13) (μ7 5) (0 : Int32).toNatClampNeg (0 : Int32).toNatClampNeg (12 : Int32).toNatClampNeg)) (fun μ9 =>
                cpc 0 0 12 12 12 (wb (wrR μ9 6 (va_cpy (μ9 14) (μ9 6) (0 : Int32).toNatClampNeg (0 : Int32).toNatClampNeg (12 : Int32).toNatClampNeg)) (fun μ11 =>
                  cpc 0 0 6 6 6 (wb (wrR μ11 7 (va_cpy (μ11 15) (μ11 7) (0 : Int32).toNatClampNeg (0 : Int32).toNatClampNeg (6 : Int32).toNatClampNeg)) (fun μ13 =>
                    cpc 0 0 6 6 6 (wb (wrR μ13 8 (va_cpy (μ13 16) (μ13 8) (0 : Int32).toNatClampNeg (0 : Int32).toNatClampNeg (6 : Int32).toNatClampNeg)) (fun μ15 =>
                      cpc 0 0 5 5 5 (wb (wrR μ15 9 (va_cpy (μ15 17) (μ15 9) (0 : Int32).toNatClampNeg (0 : Int32).toNatClampNeg (5 : Int32).toNatClampNeg)) (fun μ17 =>
                        cpc 0 0 5 5 5 (wb (wrR μ17 10 (va_cpy (μ17 18) (μ17 10) (0 : Int32).toNatClampNeg (0 : Int32).toNatClampNeg (5 : Int32).toNatClampNeg)) (fun μ19 =>
                          some μ19)))))))))))))))))))
set_option maxRecDepth 100000 in
set_option maxHeartbeats 4000000 in
theorem ok_f_land_copy {G : sw_G} {ad : Nat → Nat} {ν : sw_N}   {N : Nat} {o : sw_M} (g : sw_ok G cX4_copy "DeadWires$Land" none 1 0 0 ad) (hm : G.2.2.1.2.1.maxLocals = 2)  (μ : sw_M) (ho : sw_out G 0 0 (fun a => a = ad) (.inl none) lay0 o ν)  (h : f_land_copy N  μ  = some o) : SW G ad lay0 ν 0 0 0 [some (.ref 3), some (.ref 11)] [] μ := by
  unfold f_land_copy at h
  refine SW.aload_n (pc := 0) g (dt dt_X4_copy 0 rfl) rfl ?_
  refine SW.aload_n (pc := 1) g (dt dt_X4_copy 1 rfl) rfl ?_
  refine SW.getI (pc := 2) g (dt dt_X4_copy 2 rfl) fl_X4_37 cell_11 rfl ?_
  refine SW.putI (pc := 5) g (dt dt_X4_copy 3 rfl) fl_X4_37 cell_3 rfl ?_
  refine SW.genM h (fun μ1 h => ?_)
  refine SW.aload_n (pc := 8) g (dt dt_X4_copy 4 rfl) rfl ?_
  refine SW.aload_n (pc := 9) g (dt dt_X4_copy 5 rfl) rfl ?_
  refine SW.getI (pc := 10) g (dt dt_X4_copy 6 rfl) fl_X4_40 cell_11 rfl ?_
  refine SW.putI (pc := 13) g (dt dt_X4_copy 7 rfl) fl_X4_40 cell_3 rfl ?_
  refine SW.genM h (fun μ2 h => ?_)
  refine SW.aload_n (pc := 16) g (dt dt_X4_copy 8 rfl) rfl ?_
  refine SW.aload_n (pc := 17) g (dt dt_X4_copy 9 rfl) rfl ?_
  refine SW.getI (pc := 18) g (dt dt_X4_copy 10 rfl) fl_X4_43 cell_11 rfl ?_
  refine SW.putI (pc := 21) g (dt dt_X4_copy 11 rfl) fl_X4_43 cell_3 rfl ?_
  refine SW.genM h (fun μ3 h => ?_)
  refine SW.aload_n (pc := 24) g (dt dt_X4_copy 12 rfl) rfl ?_
  refine SW.aload_n (pc := 25) g (dt dt_X4_copy 13 rfl) rfl ?_
  refine SW.getI (pc := 26) g (dt dt_X4_copy 14 rfl) fl_X4_46 cell_11 rfl ?_
  refine SW.putI (pc := 29) g (dt dt_X4_copy 15 rfl) fl_X4_46 cell_3 rfl ?_
  refine SW.genM h (fun μ4 h => ?_)
  refine SW.aload_n (pc := 32) g (dt dt_X4_copy 16 rfl) rfl ?_
  refine SW.aload_n (pc := 33) g (dt dt_X4_copy 17 rfl) rfl ?_
  refine SW.getI (pc := 34) g (dt dt_X4_copy 18 rfl) fl_X4_11 cell_11 rfl ?_
  refine SW.putI (pc := 37) g (dt dt_X4_copy 19 rfl) fl_X4_11 cell_3 rfl ?_
  refine SW.genM h (fun μ5 h => ?_)
  refine SW.aload_n (pc := 40) g (dt dt_X4_copy 20 rfl) rfl ?_
  refine SW.getR (pc := 41) g (dt dt_X4_copy 21 rfl) fl_X4_15 cell_11 rfl ?_
  refine SW.iconst (pc := 44) (v := 0) g (dt dt_X4_copy 22 rfl) ki_0 ?_
  refine SW.aload_n (pc := 45) g (dt dt_X4_copy 23 rfl) rfl ?_
  refine SW.getR (pc := 46) g (dt dt_X4_copy 24 rfl) fl_X4_15 cell_3 rfl ?_
  refine SW.iconst (pc := 49) (v := 0) g (dt dt_X4_copy 25 rfl) ki_0 ?_
  refine SW.bipush (pc := 50) (v := 12) g (dt dt_X4_copy 26 rfl) kb_12 ?_
  obtain ⟨hq6, h⟩ := cpcI h
  refine SW.acopy (pc := 52) g (dt dt_X4_copy 27 rfl) ml_X4_49 ac_n ac_s ac_i cell_12 cell_4 hq6.1 hq6.2.1 hq6.2.2.1 hq6.2.2.2.1 hq6.2.2.2.2 (Nat.le_of_ble_eq_true rfl) (Nat.le_of_ble_eq_true rfl) ?_
  refine SW.genM h (fun μ7 h => ?_)
  refine SW.aload_n (pc := 55) g (dt dt_X4_copy 28 rfl) rfl ?_
  refine SW.getR (pc := 56) g (dt dt_X4_copy 29 rfl) fl_X4_19 cell_11 rfl ?_
  refine SW.iconst (pc := 59) (v := 0) g (dt dt_X4_copy 30 rfl) ki_0 ?_
  refine SW.aload_n (pc := 60) g (dt dt_X4_copy 31 rfl) rfl ?_
  refine SW.getR (pc := 61) g (dt dt_X4_copy 32 rfl) fl_X4_19 cell_3 rfl ?_
  refine SW.iconst (pc := 64) (v := 0) g (dt dt_X4_copy 33 rfl) ki_0 ?_
  refine SW.bipush (pc := 65) (v := 12) g (dt dt_X4_copy 34 rfl) kb_12 ?_
  obtain ⟨hq8, h⟩ := cpcI h
  refine SW.acopy (pc := 67) g (dt dt_X4_copy 35 rfl) ml_X4_49 ac_n ac_s ac_i cell_13 cell_5 hq8.1 hq8.2.1 hq8.2.2.1 hq8.2.2.2.1 hq8.2.2.2.2 (Nat.le_of_ble_eq_true rfl) (Nat.le_of_ble_eq_true rfl) ?_
  refine SW.genM h (fun μ9 h => ?_)
  refine SW.aload_n (pc := 70) g (dt dt_X4_copy 36 rfl) rfl ?_
  refine SW.getR (pc := 71) g (dt dt_X4_copy 37 rfl) fl_X4_22 cell_11 rfl ?_
  refine SW.iconst (pc := 74) (v := 0) g (dt dt_X4_copy 38 rfl) ki_0 ?_
  refine SW.aload_n (pc := 75) g (dt dt_X4_copy 39 rfl) rfl ?_
  refine SW.getR (pc := 76) g (dt dt_X4_copy 40 rfl) fl_X4_22 cell_3 rfl ?_
  refine SW.iconst (pc := 79) (v := 0) g (dt dt_X4_copy 41 rfl) ki_0 ?_
  refine SW.bipush (pc := 80) (v := 12) g (dt dt_X4_copy 42 rfl) kb_12 ?_
  obtain ⟨hq10, h⟩ := cpcI h
  refine SW.acopy (pc := 82) g (dt dt_X4_copy 43 rfl) ml_X4_49 ac_n ac_s ac_i cell_14 cell_6 hq10.1 hq10.2.1 hq10.2.2.1 hq10.2.2.2.1 hq10.2.2.2.2 (Nat.le_of_ble_eq_true rfl) (Nat.le_of_ble_eq_true rfl) ?_
  refine SW.genM h (fun μ11 h => ?_)
  refine SW.aload_n (pc := 85) g (dt dt_X4_copy 44 rfl) rfl ?_
  refine SW.getR (pc := 86) g (dt dt_X4_copy 45 rfl) fl_X4_25 cell_11 rfl ?_
  refine SW.iconst (pc := 89) (v := 0) g (dt dt_X4_copy 46 rfl) ki_0 ?_
  refine SW.aload_n (pc := 90) g (dt dt_X4_copy 47 rfl) rfl ?_
  refine SW.getR (pc := 91) g (dt dt_X4_copy 48 rfl) fl_X4_25 cell_3 rfl ?_
  refine SW.iconst (pc := 94) (v := 0) g (dt dt_X4_copy 49 rfl) ki_0 ?_
  refine SW.bipush (pc := 95) (v := 6) g (dt dt_X4_copy 50 rfl) kb_6 ?_
  obtain ⟨hq12, h⟩ := cpcI h
  refine SW.acopy (pc := 97) g (dt dt_X4_copy 51 rfl) ml_X4_49 ac_n ac_s ac_i cell_15 cell_7 hq12.1 hq12.2.1 hq12.2.2.1 hq12.2.2.2.1 hq12.2.2.2.2 (Nat.le_of_ble_eq_true rfl) (Nat.le_of_ble_eq_true rfl) ?_
  refine SW.genM h (fun μ13 h => ?_)
  refine SW.aload_n (pc := 100) g (dt dt_X4_copy 52 rfl) rfl ?_
  refine SW.getR (pc := 101) g (dt dt_X4_copy 53 rfl) fl_X4_28 cell_11 rfl ?_
  refine SW.iconst (pc := 104) (v := 0) g (dt dt_X4_copy 54 rfl) ki_0 ?_
  refine SW.aload_n (pc := 105) g (dt dt_X4_copy 55 rfl) rfl ?_
  refine SW.getR (pc := 106) g (dt dt_X4_copy 56 rfl) fl_X4_28 cell_3 rfl ?_
  refine SW.iconst (pc := 109) (v := 0) g (dt dt_X4_copy 57 rfl) ki_0 ?_
  refine SW.bipush (pc := 110) (v := 6) g (dt dt_X4_copy 58 rfl) kb_6 ?_
  obtain ⟨hq14, h⟩ := cpcI h
  refine SW.acopy (pc := 112) g (dt dt_X4_copy 59 rfl) ml_X4_49 ac_n ac_s ac_i cell_16 cell_8 hq14.1 hq14.2.1 hq14.2.2.1 hq14.2.2.2.1 hq14.2.2.2.2 (Nat.le_of_ble_eq_true rfl) (Nat.le_of_ble_eq_true rfl) ?_
  refine SW.genM h (fun μ15 h => ?_)
  refine SW.aload_n (pc := 115) g (dt dt_X4_copy 60 rfl) rfl ?_
  refine SW.getR (pc := 116) g (dt dt_X4_copy 61 rfl) fl_X4_31 cell_11 rfl ?_
  refine SW.iconst (pc := 119) (v := 0) g (dt dt_X4_copy 62 rfl) ki_0 ?_
  refine SW.aload_n (pc := 120) g (dt dt_X4_copy 63 rfl) rfl ?_
  refine SW.getR (pc := 121) g (dt dt_X4_copy 64 rfl) fl_X4_31 cell_3 rfl ?_
  refine SW.iconst (pc := 124) (v := 0) g (dt dt_X4_copy 65 rfl) ki_0 ?_
  refine SW.iconst (pc := 125) (v := 5) g (dt dt_X4_copy 66 rfl) ki_5 ?_
  obtain ⟨hq16, h⟩ := cpcI h
  refine SW.acopy (pc := 126) g (dt dt_X4_copy 67 rfl) ml_X4_49 ac_n ac_s ac_i cell_17 cell_9 hq16.1 hq16.2.1 hq16.2.2.1 hq16.2.2.2.1 hq16.2.2.2.2 (Nat.le_of_ble_eq_true rfl) (Nat.le_of_ble_eq_true rfl) ?_
  refine SW.genM h (fun μ17 h => ?_)
  refine SW.aload_n (pc := 129) g (dt dt_X4_copy 68 rfl) rfl ?_
  refine SW.getR (pc := 130) g (dt dt_X4_copy 69 rfl) fl_X4_34 cell_11 rfl ?_
  refine SW.iconst (pc := 133) (v := 0) g (dt dt_X4_copy 70 rfl) ki_0 ?_
  refine SW.aload_n (pc := 134) g (dt dt_X4_copy 71 rfl) rfl ?_
  refine SW.getR (pc := 135) g (dt dt_X4_copy 72 rfl) fl_X4_34 cell_3 rfl ?_
  refine SW.iconst (pc := 138) (v := 0) g (dt dt_X4_copy 73 rfl) ki_0 ?_
  refine SW.iconst (pc := 139) (v := 5) g (dt dt_X4_copy 74 rfl) ki_5 ?_
  obtain ⟨hq18, h⟩ := cpcI h
  refine SW.acopy (pc := 140) g (dt dt_X4_copy 75 rfl) ml_X4_49 ac_n ac_s ac_i cell_18 cell_10 hq18.1 hq18.2.1 hq18.2.2.1 hq18.2.2.2.1 hq18.2.2.2.2 (Nat.le_of_ble_eq_true rfl) (Nat.le_of_ble_eq_true rfl) ?_
  refine SW.genM h (fun μ19 h => ?_)
  exact SW.vreturn (pc := 143) g (leafV h ho) rfl (Nat.le_of_ble_eq_true rfl) (Nat.le_of_ble_eq_true rfl) (dt dt_X4_copy 76 rfl)
set_option maxRecDepth 100000 in
set_option maxHeartbeats 4000000 in
theorem mt_f_land_copy (l : Launch) (D : va_G) (cI cL : ClassId) (ad : Nat → Nat) (ν : sw_N)    (N : Nat) (μ : sw_M)  (o : sw_M) (h : f_land_copy N  μ  = some o) : MetR l D cI cL yX4_copy cX4_copy 2 none 1 0 0 (fun a => a = ad) ad [.ref 3, .ref 11] lay0 μ ν none lay0 o ν :=
  MetR.of (n := 0) rfl (Nat.le_of_ble_eq_true rfl) (fun G g ho hm _ _ => ok_f_land_copy  g hm  μ ho  h)
def f_land_wireBitsAt_32 (N : Nat)  (μ : sw_M) (k_4 : Int32 → Int32 → Int32 → Option (Int32)) (x1 : Int32) (x2 : Int32) (x3 : Int32) : Option (Int32) :=
  ib (x2 ||| ((1 : Int32) <<< (x3 &&& 31))) (fun y1 =>
    k_4  x1 y1 (x3 + 1))
def f_land_wireBitsAt_4 (N : Nat)  (μ : sw_M)  : Nat → Int32 → Int32 → Int32 → Option (Int32)
  | 0, _, _, _ => none
  | n + 1, x1, x2, x3 =>
    if (μ 3 1) ≤ x3 then
      some x2
    else
      inb x3 12 (
        if (μ 4 x3.toNatClampNeg) = x1 then
          f_land_wireBitsAt_32 N  μ (f_land_wireBitsAt_4 N  μ  n)  x1 x2 x3
        else
          inb x3 12 (
            if (μ 5 x3.toNatClampNeg) = x1 then
              f_land_wireBitsAt_32 N  μ (f_land_wireBitsAt_4 N  μ  n)  x1 x2 x3
            else
              f_land_wireBitsAt_4 N  μ  n x1 x2 (x3 + 1)))
def f_land_wireBitsAt (N : Nat)  (μ : sw_M) (a1 : Int32) : Option (Int32) :=
  f_land_wireBitsAt_4 N  μ  N a1 0 0
set_option maxRecDepth 100000 in
set_option maxHeartbeats 4000000 in
theorem ok_f_land_wireBitsAt_32 {G : sw_G} {ad : Nat → Nat} {ν : sw_N}   {N : Nat} {o : Int32} (g : sw_ok G cX4_wireBitsAt "DeadWires$Land" (some .int) 1 0 0 ad) (hm : G.2.2.1.2.1.maxLocals = 4)  (μ : sw_M) (ho : sw_out G 0 0 (fun a => a = ad) (.inl (some (.int o))) lay0 μ ν) (k_4 : Int32 → Int32 → Int32 → Option (Int32)) (hk_4 : ∀ (x1 : Int32) (x2 : Int32) (x3 : Int32), k_4 x1 x2 x3 = some o → SW G ad lay0 ν 0 0 4 [some (.ref 3), some (.int x1), some (.int x2), some (.int x3)] [] μ) (x1 : Int32) (x2 : Int32) (x3 : Int32) (h : f_land_wireBitsAt_32 N  μ k_4  x1 x2 x3 = some o) : SW G ad lay0 ν 0 0 32 [some (.ref 3), some (.int x1), some (.int x2), some (.int x3)] [] μ := by
  unfold f_land_wireBitsAt_32 at h
  refine SW.iload_n (pc := 32) g (dt dt_X4_wireBitsAt 20 rfl) rfl ?_
  refine SW.iconst (pc := 33) (v := 1) g (dt dt_X4_wireBitsAt 21 rfl) ki_1 ?_
  refine SW.iload_n (pc := 34) g (dt dt_X4_wireBitsAt 22 rfl) rfl ?_
  refine SW.ishl (pc := 35) g (dt dt_X4_wireBitsAt 23 rfl) ?_
  refine SW.ior (pc := 36) g (dt dt_X4_wireBitsAt 24 rfl) ?_
  refine SW.istore_n (pc := 37) g (dt dt_X4_wireBitsAt 25 rfl) (sw_ltm hm (Nat.le_of_ble_eq_true rfl)) rfl ?_
  refine SW.genL h (fun y1 h => ?_)
  refine SW.iinc (pc := 38) (v := x3 + 1) g (dt dt_X4_wireBitsAt 26 rfl) rfl (kn_1 _) (sw_ltm hm (Nat.le_of_ble_eq_true rfl)) rfl ?_
  refine SW.goto (pc := 41) (t := 4) g (dt dt_X4_wireBitsAt 27 rfl) rfl ?_
  refine SW.msk [true, true, true, true] ?_
  exact hk_4  x1 y1 (x3 + 1) h
set_option maxRecDepth 100000 in
set_option maxHeartbeats 4000000 in
theorem ok_f_land_wireBitsAt_4 {G : sw_G} {ad : Nat → Nat} {ν : sw_N}   {N : Nat} {o : Int32} (g : sw_ok G cX4_wireBitsAt "DeadWires$Land" (some .int) 1 0 0 ad) (hm : G.2.2.1.2.1.maxLocals = 4)  (μ : sw_M) (ho : sw_out G 0 0 (fun a => a = ad) (.inl (some (.int o))) lay0 μ ν)  : ∀ (n : Nat) (x1 : Int32) (x2 : Int32) (x3 : Int32) (h : f_land_wireBitsAt_4 N  μ  n x1 x2 x3 = some o), SW G ad lay0 ν 0 0 4 [some (.ref 3), some (.int x1), some (.int x2), some (.int x3)] [] μ := by
  intro n
  induction n with
  | zero => intro x1 x2 x3 h; simp only [f_land_wireBitsAt_4] at h; cases h
  | succ n ih =>
    intro x1 x2 x3 h
    unfold f_land_wireBitsAt_4 at h
    refine SW.iload_n (pc := 4) g (dt dt_X4_wireBitsAt 4 rfl) rfl ?_
    refine SW.aload_n (pc := 5) g (dt dt_X4_wireBitsAt 5 rfl) rfl ?_
    refine SW.getI (pc := 6) g (dt dt_X4_wireBitsAt 6 rfl) fl_X4_40 cell_3 rfl ?_
    refine SW.icmp_ge (pc := 9) (t := 44) g (dt dt_X4_wireBitsAt 7 rfl) rfl (fun hc => ?_) (fun hc => ?_)
    · have h := iteT hc h
      refine SW.iload_n (pc := 44) g (dt dt_X4_wireBitsAt 28 rfl) rfl ?_
      exact SW.ireturn (pc := 45) g (leafI h ho) rfl (Nat.le_of_ble_eq_true rfl) (Nat.le_of_ble_eq_true rfl) (dt dt_X4_wireBitsAt 29 rfl)
    · have h := iteF hc h
      refine SW.aload_n (pc := 12) g (dt dt_X4_wireBitsAt 8 rfl) rfl ?_
      refine SW.getR (pc := 13) g (dt dt_X4_wireBitsAt 9 rfl) fl_X4_15 cell_3 rfl ?_
      refine SW.iload_n (pc := 16) g (dt dt_X4_wireBitsAt 10 rfl) rfl ?_
      obtain ⟨hb1, h⟩ := inbI h
      refine SW.iaload (pc := 17) g (dt dt_X4_wireBitsAt 11 rfl) cell_4 hb1 ?_
      refine SW.iload_n (pc := 18) g (dt dt_X4_wireBitsAt 12 rfl) rfl ?_
      refine SW.icmp_eq (pc := 19) (t := 32) g (dt dt_X4_wireBitsAt 13 rfl) rfl (fun hc => ?_) (fun hc => ?_)
      · have h := iteT hc h
        refine SW.msk [true, true, true, true] ?_
        exact ok_f_land_wireBitsAt_32  g hm  μ ho (f_land_wireBitsAt_4 N  μ  n) ih  x1 x2 x3 h
      · have h := iteF hc h
        refine SW.aload_n (pc := 22) g (dt dt_X4_wireBitsAt 14 rfl) rfl ?_
        refine SW.getR (pc := 23) g (dt dt_X4_wireBitsAt 15 rfl) fl_X4_19 cell_3 rfl ?_
        refine SW.iload_n (pc := 26) g (dt dt_X4_wireBitsAt 16 rfl) rfl ?_
        obtain ⟨hb2, h⟩ := inbI h
        refine SW.iaload (pc := 27) g (dt dt_X4_wireBitsAt 17 rfl) cell_5 hb2 ?_
        refine SW.iload_n (pc := 28) g (dt dt_X4_wireBitsAt 18 rfl) rfl ?_
        refine SW.icmp_ne (pc := 29) (t := 38) g (dt dt_X4_wireBitsAt 19 rfl) rfl (fun hc => ?_) (fun hc => ?_)
        · have h := iteF hc h
          refine SW.iinc (pc := 38) (v := x3 + 1) g (dt dt_X4_wireBitsAt 26 rfl) rfl (kn_1 _) (sw_ltm hm (Nat.le_of_ble_eq_true rfl)) rfl ?_
          refine SW.goto (pc := 41) (t := 4) g (dt dt_X4_wireBitsAt 27 rfl) rfl ?_
          refine SW.msk [true, true, true, true] ?_
          exact ih  x1 x2 (x3 + 1) h
        · have h := iteT hc h
          refine SW.msk [true, true, true, true] ?_
          exact ok_f_land_wireBitsAt_32  g hm  μ ho (f_land_wireBitsAt_4 N  μ  n) ih  x1 x2 x3 h
set_option maxRecDepth 100000 in
set_option maxHeartbeats 4000000 in
theorem ok_f_land_wireBitsAt {G : sw_G} {ad : Nat → Nat} {ν : sw_N}   {N : Nat} {o : Int32} (g : sw_ok G cX4_wireBitsAt "DeadWires$Land" (some .int) 1 0 0 ad) (hm : G.2.2.1.2.1.maxLocals = 4)  (μ : sw_M) (ho : sw_out G 0 0 (fun a => a = ad) (.inl (some (.int o))) lay0 μ ν) (a1 : Int32) (h : f_land_wireBitsAt N  μ a1 = some o) : SW G ad lay0 ν 0 0 0 [some (.ref 3), some (.int a1), none, none] [] μ := by
  unfold f_land_wireBitsAt at h
  refine SW.iconst (pc := 0) (v := 0) g (dt dt_X4_wireBitsAt 0 rfl) ki_0 ?_
  refine SW.istore_n (pc := 1) g (dt dt_X4_wireBitsAt 1 rfl) (sw_ltm hm (Nat.le_of_ble_eq_true rfl)) rfl ?_
  refine SW.iconst (pc := 2) (v := 0) g (dt dt_X4_wireBitsAt 2 rfl) ki_0 ?_
  refine SW.istore_n (pc := 3) g (dt dt_X4_wireBitsAt 3 rfl) (sw_ltm hm (Nat.le_of_ble_eq_true rfl)) rfl ?_
  refine SW.msk [true, true, true, true] ?_
  exact ok_f_land_wireBitsAt_4  g hm  μ ho   N a1 0 0 h
set_option maxRecDepth 100000 in
set_option maxHeartbeats 4000000 in
theorem mt_f_land_wireBitsAt (l : Launch) (D : va_G) (cI cL : ClassId) (ad : Nat → Nat) (ν : sw_N)    (N : Nat) (μ : sw_M) (a1 : Int32) (o : Int32) (h : f_land_wireBitsAt N  μ a1 = some o) : MetR l D cI cL yX4_wireBitsAt cX4_wireBitsAt 4 (some .int) 1 0 0 (fun a => a = ad) ad [.ref 3, .int a1] lay0 μ ν (some (.int o)) lay0 μ ν :=
  MetR.of (n := 2) rfl (Nat.le_of_ble_eq_true rfl) (fun G g ho hm _ _ => ok_f_land_wireBitsAt  g hm  μ ho a1 h)
def f_jd_bitCount (N : Nat)  (μ : sw_M) (a0 : Int32) : Option (Int32) :=
  ib (a0 - (((a0.toUInt32 >>> ((1 : Int32).toUInt32 &&& Int32.toUInt32 31)).toInt32) &&& 1431655765)) (fun y1 =>
    ib ((y1 &&& 858993459) + (((y1.toUInt32 >>> ((2 : Int32).toUInt32 &&& Int32.toUInt32 31)).toInt32) &&& 858993459)) (fun y2 =>
      ib ((y2 + ((y2.toUInt32 >>> ((4 : Int32).toUInt32 &&& Int32.toUInt32 31)).toInt32)) &&& 252645135) (fun y3 =>
        ib (y3 + ((y3.toUInt32 >>> ((8 : Int32).toUInt32 &&& Int32.toUInt32 31)).toInt32)) (fun y4 =>
          ib (y4 + ((y4.toUInt32 >>> ((16 : Int32).toUInt32 &&& Int32.toUInt32 31)).toInt32)) (fun y5 =>
            some (y5 &&& 63))))))
set_option maxRecDepth 100000 in
set_option maxHeartbeats 4000000 in
theorem ok_f_jd_bitCount {G : sw_G} {ad : Nat → Nat} {ν : sw_N} {L : sw_L}  {N : Nat} {o : Int32} (g : sw_ok G cJ6_bitCount_0f7a4 "java/lang/Integer" (some .int) 1 0 0 ad) (hm : G.2.2.1.2.1.maxLocals = 1)  (μ : sw_M) (ho : sw_out G 0 0 (fun a => a = ad) (.inl (some (.int o))) L μ ν) (a0 : Int32) (h : f_jd_bitCount N  μ a0 = some o) : SW G ad L ν 0 0 0 [some (.int a0)] [] μ := by
  unfold f_jd_bitCount at h
  refine SW.iload_n (pc := 0) g (dt dt_J6_bitCount_0f7a4 0 rfl) rfl ?_
  refine SW.iload_n (pc := 1) g (dt dt_J6_bitCount_0f7a4 1 rfl) rfl ?_
  refine SW.iconst (pc := 2) (v := 1) g (dt dt_J6_bitCount_0f7a4 2 rfl) ki_1 ?_
  refine SW.iushr (pc := 3) g (dt dt_J6_bitCount_0f7a4 3 rfl) ?_
  refine SW.ldcw (pc := 4) g (dt dt_J6_bitCount_0f7a4 4 rfl) ko_J6_265 ?_
  refine SW.iand (pc := 7) g (dt dt_J6_bitCount_0f7a4 5 rfl) ?_
  refine SW.isub (pc := 8) g (dt dt_J6_bitCount_0f7a4 6 rfl) ?_
  refine SW.istore_n (pc := 9) g (dt dt_J6_bitCount_0f7a4 7 rfl) (sw_ltm hm (Nat.le_of_ble_eq_true rfl)) rfl ?_
  refine SW.genL h (fun y1 h => ?_)
  refine SW.iload_n (pc := 10) g (dt dt_J6_bitCount_0f7a4 8 rfl) rfl ?_
  refine SW.ldcw (pc := 11) g (dt dt_J6_bitCount_0f7a4 9 rfl) ko_J6_266 ?_
  refine SW.iand (pc := 14) g (dt dt_J6_bitCount_0f7a4 10 rfl) ?_
  refine SW.iload_n (pc := 15) g (dt dt_J6_bitCount_0f7a4 11 rfl) rfl ?_
  refine SW.iconst (pc := 16) (v := 2) g (dt dt_J6_bitCount_0f7a4 12 rfl) ki_2 ?_
  refine SW.iushr (pc := 17) g (dt dt_J6_bitCount_0f7a4 13 rfl) ?_
  refine SW.ldcw (pc := 18) g (dt dt_J6_bitCount_0f7a4 14 rfl) ko_J6_266 ?_
  refine SW.iand (pc := 21) g (dt dt_J6_bitCount_0f7a4 15 rfl) ?_
  refine SW.iadd (pc := 22) g (dt dt_J6_bitCount_0f7a4 16 rfl) ?_
  refine SW.istore_n (pc := 23) g (dt dt_J6_bitCount_0f7a4 17 rfl) (sw_ltm hm (Nat.le_of_ble_eq_true rfl)) rfl ?_
  refine SW.genL h (fun y2 h => ?_)
  refine SW.iload_n (pc := 24) g (dt dt_J6_bitCount_0f7a4 18 rfl) rfl ?_
  refine SW.iload_n (pc := 25) g (dt dt_J6_bitCount_0f7a4 19 rfl) rfl ?_
  refine SW.iconst (pc := 26) (v := 4) g (dt dt_J6_bitCount_0f7a4 20 rfl) ki_4 ?_
  refine SW.iushr (pc := 27) g (dt dt_J6_bitCount_0f7a4 21 rfl) ?_
  refine SW.iadd (pc := 28) g (dt dt_J6_bitCount_0f7a4 22 rfl) ?_
  refine SW.ldcw (pc := 29) g (dt dt_J6_bitCount_0f7a4 23 rfl) ko_J6_267 ?_
  refine SW.iand (pc := 32) g (dt dt_J6_bitCount_0f7a4 24 rfl) ?_
  refine SW.istore_n (pc := 33) g (dt dt_J6_bitCount_0f7a4 25 rfl) (sw_ltm hm (Nat.le_of_ble_eq_true rfl)) rfl ?_
  refine SW.genL h (fun y3 h => ?_)
  refine SW.iload_n (pc := 34) g (dt dt_J6_bitCount_0f7a4 26 rfl) rfl ?_
  refine SW.iload_n (pc := 35) g (dt dt_J6_bitCount_0f7a4 27 rfl) rfl ?_
  refine SW.bipush (pc := 36) (v := 8) g (dt dt_J6_bitCount_0f7a4 28 rfl) kb_8 ?_
  refine SW.iushr (pc := 38) g (dt dt_J6_bitCount_0f7a4 29 rfl) ?_
  refine SW.iadd (pc := 39) g (dt dt_J6_bitCount_0f7a4 30 rfl) ?_
  refine SW.istore_n (pc := 40) g (dt dt_J6_bitCount_0f7a4 31 rfl) (sw_ltm hm (Nat.le_of_ble_eq_true rfl)) rfl ?_
  refine SW.genL h (fun y4 h => ?_)
  refine SW.iload_n (pc := 41) g (dt dt_J6_bitCount_0f7a4 32 rfl) rfl ?_
  refine SW.iload_n (pc := 42) g (dt dt_J6_bitCount_0f7a4 33 rfl) rfl ?_
  refine SW.bipush (pc := 43) (v := 16) g (dt dt_J6_bitCount_0f7a4 34 rfl) kb_16 ?_
  refine SW.iushr (pc := 45) g (dt dt_J6_bitCount_0f7a4 35 rfl) ?_
  refine SW.iadd (pc := 46) g (dt dt_J6_bitCount_0f7a4 36 rfl) ?_
  refine SW.istore_n (pc := 47) g (dt dt_J6_bitCount_0f7a4 37 rfl) (sw_ltm hm (Nat.le_of_ble_eq_true rfl)) rfl ?_
  refine SW.genL h (fun y5 h => ?_)
  refine SW.iload_n (pc := 48) g (dt dt_J6_bitCount_0f7a4 38 rfl) rfl ?_
  refine SW.bipush (pc := 49) (v := 63) g (dt dt_J6_bitCount_0f7a4 39 rfl) kb_63 ?_
  refine SW.iand (pc := 51) g (dt dt_J6_bitCount_0f7a4 40 rfl) ?_
  exact SW.ireturn (pc := 52) g (leafI h ho) rfl (Nat.le_of_ble_eq_true rfl) (Nat.le_of_ble_eq_true rfl) (dt dt_J6_bitCount_0f7a4 41 rfl)
set_option maxRecDepth 100000 in
set_option maxHeartbeats 4000000 in
theorem mt_f_jd_bitCount (l : Launch) (D : va_G) (cI cL : ClassId) (ad : Nat → Nat) (ν : sw_N) (L : sw_L)   (N : Nat) (μ : sw_M) (a0 : Int32) (o : Int32) (h : f_jd_bitCount N  μ a0 = some o) : MetR l D cI cL yJ6_bitCount_0f7a4 cJ6_bitCount_0f7a4 1 (some .int) 1 0 0 (fun a => a = ad) ad [.int a0] L μ ν (some (.int o)) L μ ν :=
  MetR.of (n := 0) rfl (Nat.le_of_ble_eq_true rfl) (fun G g ho hm _ _ => ok_f_jd_bitCount  g hm  μ ho a0 h)
