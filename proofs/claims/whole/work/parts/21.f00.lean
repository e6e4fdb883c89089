/-! ===== by program (wip/whole/all.py): functions over the memory, and that the machine does just that ===== -/
def f_m_thrown (N : Nat)  (μ : sw_M)  : Option (Int32) :=
  some (μ 63 0)
set_option maxRecDepth 100000 in
set_option maxHeartbeats 4000000 in
theorem ok_f_m_thrown {G : sw_G} {ad : Nat → Nat} {ν : sw_N}   {N : Nat} {o : Int32} (g : sw_ok G cX11_thrown "DeadWiresModel" (some .int) 1 0 0 ad) (hm : G.2.2.1.2.1.maxLocals = 1)  (μ : sw_M) (ho : sw_out G 0 0 (fun a => a = ad) (.inl (some (.int o))) lay0 μ ν)  (h : f_m_thrown N  μ  = some o) : SW G ad lay0 ν 0 0 0 [some (.ref 63)] [] μ := by
  unfold f_m_thrown at h
  refine SW.aload_n (pc := 0) g (dt dt_X11_thrown 0 rfl) rfl ?_
  refine SW.getI (pc := 1) g (dt dt_X11_thrown 1 rfl) fl_X11_3 cell_63 rfl ?_
  exact SW.ireturn (pc := 4) g (leafI h ho) rfl (Nat.le_of_ble_eq_true rfl) (Nat.le_of_ble_eq_true rfl) (dt dt_X11_thrown 2 rfl)
set_option maxRecDepth 100000 in
set_option maxHeartbeats 4000000 in
theorem mt_f_m_thrown (l : Launch) (D : va_G) (cI cL : ClassId) (ad : Nat → Nat) (ν : sw_N)    (N : Nat) (μ : sw_M)  (o : Int32) (h : f_m_thrown N  μ  = some o) : MetR l D cI cL yX11_thrown cX11_thrown 1 (some .int) 1 0 0 (fun a => a = ad) ad [.ref 63] lay0 μ ν (some (.int o)) lay0 μ ν :=
  MetR.of (n := 0) rfl (Nat.le_of_ble_eq_true rfl) (fun G g ho hm _ _ => ok_f_m_thrown  g hm  μ ho  h)
def f_m_may_26 (N : Nat)   (μ : sw_M)  : Option (Int32 × sw_M) :=
  if (μ 63 0) = 0 then
    some (1, μ)
  else
    some (0, μ)
def f_m_may (N : Nat)  (μ : sw_M) (a1 : Int32) (a2 : Int32) (a3 : Int32) : Option (Int32 × sw_M) :=
  if a1 = 0 then
    if (μ 63 0) = 0 then
      wb (wr μ 63 0 a2) (fun μ1 =>
        inb a3 2 (
          inb a3 2 (wb (wr μ1 64 a3.toNatClampNeg ((μ1 64 a3.toNatClampNeg) + 1)) (fun μ4 =>
            f_m_may_26 N    μ4 ))))
    else
      f_m_may_26 N    μ 
  else
    f_m_may_26 N    μ 
set_option maxRecDepth 100000 in
set_option maxHeartbeats 4000000 in
theorem ok_f_m_may_26 {G : sw_G} {ad : Nat → Nat} {ν : sw_N}   {N : Nat} {o : Int32 × sw_M} (g : sw_ok G cX11_may "DeadWiresModel" (some .boolean) 1 0 0 ad) (hm : G.2.2.1.2.1.maxLocals = 4)  (ho : sw_out G 0 0 (fun a => a = ad) (.inl (some (.int o.1))) lay0 o.2 ν)  (μ : sw_M)  (h : f_m_may_26 N    μ  = some o) : SW G ad lay0 ν 0 0 26 [some (.ref 63), none, none, none] [] μ := by
  unfold f_m_may_26 at h
  refine SW.aload_n (pc := 26) g (dt dt_X11_may 16 rfl) rfl ?_
  refine SW.getI (pc := 27) g (dt dt_X11_may 17 rfl) fl_X11_3 cell_63 rfl ?_
  refine SW.if_ne (pc := 30) (t := 37) g (dt dt_X11_may 18 rfl) rfl (fun hc => ?_) (fun hc => ?_)
  · have h := iteF hc h
    refine SW.iconst (pc := 37) (v := 0) g (dt dt_X11_may 21 rfl) ki_0 ?_
    exact SW.zreturn (pc := 38) g (leafW h ho) rfl (Nat.le_of_ble_eq_true rfl) (Nat.le_of_ble_eq_true rfl) (by decide) (dt dt_X11_may 22 rfl)
  · have h := iteT hc h
    refine SW.iconst (pc := 33) (v := 1) g (dt dt_X11_may 19 rfl) ki_1 ?_
    refine SW.goto (pc := 34) (t := 38) g (dt dt_X11_may 20 rfl) rfl ?_
    exact SW.zreturn (pc := 38) g (leafW h ho) rfl (Nat.le_of_ble_eq_true rfl) (Nat.le_of_ble_eq_true rfl) (by decide) (dt dt_X11_may 22 rfl)
set_option maxRecDepth 100000 in
set_option maxHeartbeats 4000000 in
theorem ok_f_m_may {G : sw_G} {ad : Nat → Nat} {ν : sw_N}   {N : Nat} {o : Int32 × sw_M} (g : sw_ok G cX11_may "DeadWiresModel" (some .boolean) 1 0 0 ad) (hm : G.2.2.1.2.1.maxLocals = 4)  (μ : sw_M) (ho : sw_out G 0 0 (fun a => a = ad) (.inl (some (.int o.1))) lay0 o.2 ν) (a1 : Int32) (a2 : Int32) (a3 : Int32) (h : f_m_may N  μ a1 a2 a3 = some o) : SW G ad lay0 ν 0 0 0 [some (.ref 63), some (.int a1), some (.int a2), some (.int a3)] [] μ := by
  unfold f_m_may at h
  refine SW.iload_n (pc := 0) g (dt dt_X11_may 0 rfl) rfl ?_
  refine SW.if_ne (pc := 1) (t := 26) g (dt dt_X11_may 1 rfl) rfl (fun hc => ?_) (fun hc => ?_)
  · have h := iteF hc h
    refine SW.msk [true, false, false, false] ?_
    exact ok_f_m_may_26  g hm  ho    μ  h
  · have h := iteT hc h
    refine SW.aload_n (pc := 4) g (dt dt_X11_may 2 rfl) rfl ?_
    refine SW.getI (pc := 5) g (dt dt_X11_may 3 rfl) fl_X11_3 cell_63 rfl ?_
    refine SW.if_ne (pc := 8) (t := 26) g (dt dt_X11_may 4 rfl) rfl (fun hc => ?_) (fun hc => ?_)
    · have h := iteF hc h
      refine SW.msk [true, false, false, false] ?_
      exact ok_f_m_may_26  g hm  ho    μ  h
    · have h := iteT hc h
      refine SW.aload_n (pc := 11) g (dt dt_X11_may 5 rfl) rfl ?_
      refine SW.iload_n (pc := 12) g (dt dt_X11_may 6 rfl) rfl ?_
      refine SW.putI (pc := 13) g (dt dt_X11_may 7 rfl) fl_X11_3 cell_63 rfl ?_
      refine SW.genM h (fun μ1 h => ?_)
      refine SW.aload_n (pc := 16) g (dt dt_X11_may 8 rfl) rfl ?_
      refine SW.getR (pc := 17) g (dt dt_X11_may 9 rfl) fl_X11_7 cell_63 rfl ?_
      refine SW.iload_n (pc := 20) g (dt dt_X11_may 10 rfl) rfl ?_
      refine SW.dup2 (pc := 21) g (dt dt_X11_may 11 rfl) rfl rfl ?_
      obtain ⟨hb2, h⟩ := inbI h
      refine SW.iaload (pc := 22) g (dt dt_X11_may 12 rfl) cell_64 hb2 ?_
      refine SW.iconst (pc := 23) (v := 1) g (dt dt_X11_may 13 rfl) ki_1 ?_
      refine SW.iadd (pc := 24) g (dt dt_X11_may 14 rfl) ?_
      obtain ⟨hb3, h⟩ := inbI h
      refine SW.iastore (pc := 25) g (dt dt_X11_may 15 rfl) cell_64 hb3 ?_
      refine SW.genM h (fun μ4 h => ?_)
      refine SW.msk [true, false, false, false] ?_
      exact ok_f_m_may_26  g hm  ho    μ4  h
set_option maxRecDepth 100000 in
set_option maxHeartbeats 4000000 in
theorem mt_f_m_may (l : Launch) (D : va_G) (cI cL : ClassId) (ad : Nat → Nat) (ν : sw_N)    (N : Nat) (μ : sw_M) (a1 : Int32) (a2 : Int32) (a3 : Int32) (o : Int32 × sw_M) (h : f_m_may N  μ a1 a2 a3 = some o) : MetR l D cI cL yX11_may cX11_may 4 (some .boolean) 1 0 0 (fun a => a = ad) ad [.ref 63, .int a1, .int a2, .int a3] lay0 μ ν (some (.int o.1)) lay0 o.2 ν :=
  MetR.of (n := 0) rfl (Nat.le_of_ble_eq_true rfl) (fun G g ho hm _ _ => ok_f_m_may  g hm  μ ho a1 a2 a3 h)
def f_sm_within (N : Nat)  (μ : sw_M) (a0 : Int32) (a1 : Int32) (a2 : Int32) : Option (Int32) :=
  if a0 < a1 then
    some 0
  else
    if a2 < a0 then
      some 0
    else
      some 1
set_option maxRecDepth 100000 in
set_option maxHeartbeats 4000000 in
theorem ok_f_sm_within {G : sw_G} {ad : Nat → Nat} {ν : sw_N} {L : sw_L}  {N : Nat} {o : Int32} (g : sw_ok G cX11_within "DeadWiresModel" (some .boolean) 1 0 0 ad) (hm : G.2.2.1.2.1.maxLocals = 3)  (μ : sw_M) (ho : sw_out G 0 0 (fun a => a = ad) (.inl (some (.int o))) L μ ν) (a0 : Int32) (a1 : Int32) (a2 : Int32) (h : f_sm_within N  μ a0 a1 a2 = some o) : SW G ad L ν 0 0 0 [some (.int a0), some (.int a1), some (.int a2)] [] μ := by
  unfold f_sm_within at h
  refine SW.iload_n (pc := 0) g (dt dt_X11_within 0 rfl) rfl ?_
  refine SW.iload_n (pc := 1) g (dt dt_X11_within 1 rfl) rfl ?_
  refine SW.icmp_lt (pc := 2) (t := 14) g (dt dt_X11_within 2 rfl) rfl (fun hc => ?_) (fun hc => ?_)
  · have h := iteT hc h
    refine SW.iconst (pc := 14) (v := 0) g (dt dt_X11_within 8 rfl) ki_0 ?_
    exact SW.zreturn (pc := 15) g (leafI h ho) rfl (Nat.le_of_ble_eq_true rfl) (Nat.le_of_ble_eq_true rfl) (by decide) (dt dt_X11_within 9 rfl)
  · have h := iteF hc h
    refine SW.iload_n (pc := 5) g (dt dt_X11_within 3 rfl) rfl ?_
    refine SW.iload_n (pc := 6) g (dt dt_X11_within 4 rfl) rfl ?_
    refine SW.icmp_gt (pc := 7) (t := 14) g (dt dt_X11_within 5 rfl) rfl (fun hc => ?_) (fun hc => ?_)
    · have h := iteT hc h
      refine SW.iconst (pc := 14) (v := 0) g (dt dt_X11_within 8 rfl) ki_0 ?_
      exact SW.zreturn (pc := 15) g (leafI h ho) rfl (Nat.le_of_ble_eq_true rfl) (Nat.le_of_ble_eq_true rfl) (by decide) (dt dt_X11_within 9 rfl)
    · have h := iteF hc h
      refine SW.iconst (pc := 10) (v := 1) g (dt dt_X11_within 6 rfl) ki_1 ?_
      refine SW.goto (pc := 11) (t := 15) g (dt dt_X11_within 7 rfl) rfl ?_
      exact SW.zreturn (pc := 15) g (leafI h ho) rfl (Nat.le_of_ble_eq_true rfl) (Nat.le_of_ble_eq_true rfl) (by decide) (dt dt_X11_within 9 rfl)
set_option maxRecDepth 100000 in
set_option maxHeartbeats 4000000 in
theorem mt_f_sm_within (l : Launch) (D : va_G) (cI cL : ClassId) (ad : Nat → Nat) (ν : sw_N) (L : sw_L)   (N : Nat) (μ : sw_M) (a0 : Int32) (a1 : Int32) (a2 : Int32) (o : Int32) (h : f_sm_within N  μ a0 a1 a2 = some o) : MetR l D cI cL yX11_within cX11_within 3 (some .boolean) 1 0 0 (fun a => a = ad) ad [.int a0, .int a1, .int a2] L μ ν (some (.int o)) L μ ν :=
  MetR.of (n := 0) rfl (Nat.le_of_ble_eq_true rfl) (fun G g ho hm _ _ => ok_f_sm_within  g hm  μ ho a0 a1 a2 h)
def f_m_feed_76 (N : Nat)  (k_23 : sw_M → Int32 → Int32 → Int32 → Int32 → Int32 → Int32 → Option (Int32 × sw_M)) (μ : sw_M) (x1 : Int32) (x2 : Int32) (x3 : Int32) (x4 : Int32) (x5 : Int32) (x6 : Int32) (s0 : Int32) : Option (Int32 × sw_M) :=
  nz 4
    (inb (μ 63 2) 600 (wb (wr μ 65 (μ 63 2).toNatClampNeg ((s0 >>> (((24 : Int32) - ((8 : Int32) * (x6 - x6 / 4 * 4))) &&& 31)) &&& 255)) (fun μ3 =>
      wb (wr μ3 63 2 ((μ3 63 2) + 1)) (fun μ4 =>
        k_23 μ4 x1 x2 x3 x4 x5 (x6 + 1)))))
def f_m_feed_23 (N : Nat)   : Nat → sw_M → Int32 → Int32 → Int32 → Int32 → Int32 → Int32 → Option (Int32 × sw_M)
  | 0, _, _, _, _, _, _, _ => none
  | n + 1, μ, x1, x2, x3, x4, x5, x6 =>
    if 20 ≤ x6 then
      some (μ 63 2, μ)
    else
      if 4 ≤ x6 then
        if 8 ≤ x6 then
          if 12 ≤ x6 then
            if 16 ≤ x6 then
              f_m_feed_76 N  (f_m_feed_23 N   n)  μ x1 x2 x3 x4 x5 x6 x5
            else
              f_m_feed_76 N  (f_m_feed_23 N   n)  μ x1 x2 x3 x4 x5 x6 x4
          else
            f_m_feed_76 N  (f_m_feed_23 N   n)  μ x1 x2 x3 x4 x5 x6 x3
        else
          f_m_feed_76 N  (f_m_feed_23 N   n)  μ x1 x2 x3 x4 x5 x6 x2
      else
        f_m_feed_76 N  (f_m_feed_23 N   n)  μ x1 x2 x3 x4 x5 x6 x1
def f_m_feed (N : Nat)  (μ : sw_M) (a1 : Int32) (a2 : Int32) (a3 : Int32) (a4 : Int32) (a5 : Int32) : Option (Int32 × sw_M) :=
  wb (wr μ 63 0 0) (fun μ1 =>
    if ((μ1 63 2) + 20) ≤ 600 then
      f_m_feed_23 N   N μ1 a1 a2 a3 a4 a5 0
    else
      some ((-1), μ1))
set_option maxRecDepth 100000 in
set_option maxHeartbeats 4000000 in
theorem ok_f_m_feed_76 {G : sw_G} {ad : Nat → Nat} {ν : sw_N}   {N : Nat} {o : Int32 × sw_M} (g : sw_ok G cX11_feed "DeadWiresModel" (some .int) 1 0 0 ad) (hm : G.2.2.1.2.1.maxLocals = 8)  (ho : sw_out G 0 0 (fun a => a = ad) (.inl (some (.int o.1))) lay0 o.2 ν) (k_23 : sw_M → Int32 → Int32 → Int32 → Int32 → Int32 → Int32 → Option (Int32 × sw_M)) (hk_23 : ∀ (μ : sw_M) (x1 : Int32) (x2 : Int32) (x3 : Int32) (x4 : Int32) (x5 : Int32) (x6 : Int32), k_23 μ x1 x2 x3 x4 x5 x6 = some o → SW G ad lay0 ν 0 0 23 [some (.ref 63), some (.int x1), some (.int x2), some (.int x3), some (.int x4), some (.int x5), some (.int x6), none] [] μ) (μ : sw_M) (x1 : Int32) (x2 : Int32) (x3 : Int32) (x4 : Int32) (x5 : Int32) (x6 : Int32) (s0 : Int32) (h : f_m_feed_76 N  k_23  μ x1 x2 x3 x4 x5 x6 s0 = some o) : SW G ad lay0 ν 0 0 76 [some (.ref 63), some (.int x1), some (.int x2), some (.int x3), some (.int x4), some (.int x5), some (.int x6), none] [.int s0] μ := by
  unfold f_m_feed_76 at h
  refine SW.istore (pc := 76) g (dt dt_X11_feed 37 rfl) (sw_ltm hm (Nat.le_of_ble_eq_true rfl)) rfl ?_
  refine SW.aload_n (pc := 78) g (dt dt_X11_feed 38 rfl) rfl ?_
  refine SW.getR (pc := 79) g (dt dt_X11_feed 39 rfl) fl_X11_20 cell_63 rfl ?_
  refine SW.aload_n (pc := 82) g (dt dt_X11_feed 40 rfl) rfl ?_
  refine SW.getI (pc := 83) g (dt dt_X11_feed 41 rfl) fl_X11_92 cell_63 rfl ?_
  refine SW.iload (pc := 86) g (dt dt_X11_feed 42 rfl) rfl ?_
  refine SW.bipush (pc := 88) (v := 24) g (dt dt_X11_feed 43 rfl) kb_24 ?_
  refine SW.bipush (pc := 90) (v := 8) g (dt dt_X11_feed 44 rfl) kb_8 ?_
  refine SW.iload (pc := 92) g (dt dt_X11_feed 45 rfl) rfl ?_
  refine SW.iconst (pc := 94) (v := 4) g (dt dt_X11_feed 46 rfl) ki_4 ?_
  obtain ⟨hz1, h⟩ := nzI h
  refine SW.irem (pc := 95) g (dt dt_X11_feed 47 rfl) hz1 ?_
  refine SW.imul (pc := 96) g (dt dt_X11_feed 48 rfl) ?_
  refine SW.isub (pc := 97) g (dt dt_X11_feed 49 rfl) ?_
  refine SW.ishr (pc := 98) g (dt dt_X11_feed 50 rfl) ?_
  refine SW.sipush (pc := 99) (v := 255) g (dt dt_X11_feed 51 rfl) ks_255 ?_
  refine SW.iand (pc := 102) g (dt dt_X11_feed 52 rfl) ?_
  obtain ⟨hb2, h⟩ := inbI h
  refine SW.iastore (pc := 103) g (dt dt_X11_feed 53 rfl) cell_65 hb2 ?_
  refine SW.genM h (fun μ3 h => ?_)
  refine SW.aload_n (pc := 104) g (dt dt_X11_feed 54 rfl) rfl ?_
  refine SW.dup (pc := 105) g (dt dt_X11_feed 55 rfl) rfl ?_
  refine SW.getI (pc := 106) g (dt dt_X11_feed 56 rfl) fl_X11_92 cell_63 rfl ?_
  refine SW.iconst (pc := 109) (v := 1) g (dt dt_X11_feed 57 rfl) ki_1 ?_
  refine SW.iadd (pc := 110) g (dt dt_X11_feed 58 rfl) ?_
  refine SW.putI (pc := 111) g (dt dt_X11_feed 59 rfl) fl_X11_92 cell_63 rfl ?_
  refine SW.genM h (fun μ4 h => ?_)
  refine SW.iinc (pc := 114) (v := x6 + 1) g (dt dt_X11_feed 60 rfl) rfl (kn_1 _) (sw_ltm hm (Nat.le_of_ble_eq_true rfl)) rfl ?_
  refine SW.goto (pc := 117) (t := 23) g (dt dt_X11_feed 61 rfl) rfl ?_
  refine SW.msk [true, true, true, true, true, true, true, false] ?_
  exact hk_23 μ4 x1 x2 x3 x4 x5 (x6 + 1) h
set_option maxRecDepth 100000 in
set_option maxHeartbeats 4000000 in
theorem ok_f_m_feed_23 {G : sw_G} {ad : Nat → Nat} {ν : sw_N}   {N : Nat} {o : Int32 × sw_M} (g : sw_ok G cX11_feed "DeadWiresModel" (some .int) 1 0 0 ad) (hm : G.2.2.1.2.1.maxLocals = 8)  (ho : sw_out G 0 0 (fun a => a = ad) (.inl (some (.int o.1))) lay0 o.2 ν)  : ∀ (n : Nat) (μ : sw_M) (x1 : Int32) (x2 : Int32) (x3 : Int32) (x4 : Int32) (x5 : Int32) (x6 : Int32) (h : f_m_feed_23 N   n μ x1 x2 x3 x4 x5 x6 = some o), SW G ad lay0 ν 0 0 23 [some (.ref 63), some (.int x1), some (.int x2), some (.int x3), some (.int x4), some (.int x5), some (.int x6), none] [] μ := by
  intro n
  induction n with
  | zero => intro μ x1 x2 x3 x4 x5 x6 h; simp only [f_m_feed_23] at h; cases h
  | succ n ih =>
    intro μ x1 x2 x3 x4 x5 x6 h
    unfold f_m_feed_23 at h
    refine SW.iload (pc := 23) g (dt dt_X11_feed 13 rfl) rfl ?_
    refine SW.bipush (pc := 25) (v := 20) g (dt dt_X11_feed 14 rfl) kb_20 ?_
    refine SW.icmp_ge (pc := 27) (t := 120) g (dt dt_X11_feed 15 rfl) rfl (fun hc => ?_) (fun hc => ?_)
    · have h := iteT hc h
      refine SW.aload_n (pc := 120) g (dt dt_X11_feed 62 rfl) rfl ?_
      refine SW.getI (pc := 121) g (dt dt_X11_feed 63 rfl) fl_X11_92 cell_63 rfl ?_
      exact SW.ireturn (pc := 124) g (leafW h ho) rfl (Nat.le_of_ble_eq_true rfl) (Nat.le_of_ble_eq_true rfl) (dt dt_X11_feed 64 rfl)
    · have h := iteF hc h
      refine SW.iload (pc := 30) g (dt dt_X11_feed 16 rfl) rfl ?_
      refine SW.iconst (pc := 32) (v := 4) g (dt dt_X11_feed 17 rfl) ki_4 ?_
      refine SW.icmp_ge (pc := 33) (t := 40) g (dt dt_X11_feed 18 rfl) rfl (fun hc => ?_) (fun hc => ?_)
      · have h := iteT hc h
        refine SW.iload (pc := 40) g (dt dt_X11_feed 21 rfl) rfl ?_
        refine SW.bipush (pc := 42) (v := 8) g (dt dt_X11_feed 22 rfl) kb_8 ?_
        refine SW.icmp_ge (pc := 44) (t := 51) g (dt dt_X11_feed 23 rfl) rfl (fun hc => ?_) (fun hc => ?_)
        · have h := iteT hc h
          refine SW.iload (pc := 51) g (dt dt_X11_feed 26 rfl) rfl ?_
          refine SW.bipush (pc := 53) (v := 12) g (dt dt_X11_feed 27 rfl) kb_12 ?_
          refine SW.icmp_ge (pc := 55) (t := 62) g (dt dt_X11_feed 28 rfl) rfl (fun hc => ?_) (fun hc => ?_)
          · have h := iteT hc h
            refine SW.iload (pc := 62) g (dt dt_X11_feed 31 rfl) rfl ?_
            refine SW.bipush (pc := 64) (v := 16) g (dt dt_X11_feed 32 rfl) kb_16 ?_
            refine SW.icmp_ge (pc := 66) (t := 74) g (dt dt_X11_feed 33 rfl) rfl (fun hc => ?_) (fun hc => ?_)
            · have h := iteT hc h
              refine SW.iload (pc := 74) g (dt dt_X11_feed 36 rfl) rfl ?_
              refine SW.msk [true, true, true, true, true, true, true, false] ?_
              exact ok_f_m_feed_76  g hm  ho (f_m_feed_23 N   n) ih  μ x1 x2 x3 x4 x5 x6 x5 h
            · have h := iteF hc h
              refine SW.iload (pc := 69) g (dt dt_X11_feed 34 rfl) rfl ?_
              refine SW.goto (pc := 71) (t := 76) g (dt dt_X11_feed 35 rfl) rfl ?_
              refine SW.msk [true, true, true, true, true, true, true, false] ?_
              exact ok_f_m_feed_76  g hm  ho (f_m_feed_23 N   n) ih  μ x1 x2 x3 x4 x5 x6 x4 h
          · have h := iteF hc h
            refine SW.iload_n (pc := 58) g (dt dt_X11_feed 29 rfl) rfl ?_
            refine SW.goto (pc := 59) (t := 76) g (dt dt_X11_feed 30 rfl) rfl ?_
            refine SW.msk [true, true, true, true, true, true, true, false] ?_
            exact ok_f_m_feed_76  g hm  ho (f_m_feed_23 N   n) ih  μ x1 x2 x3 x4 x5 x6 x3 h
        · have h := iteF hc h
          refine SW.iload_n (pc := 47) g (dt dt_X11_feed 24 rfl) rfl ?_
          refine SW.goto (pc := 48) (t := 76) g (dt dt_X11_feed 25 rfl) rfl ?_
          refine SW.msk [true, true, true, true, true, true, true, false] ?_
          exact ok_f_m_feed_76  g hm  ho (f_m_feed_23 N   n) ih  μ x1 x2 x3 x4 x5 x6 x2 h
      · have h := iteF hc h
        refine SW.iload_n (pc := 36) g (dt dt_X11_feed 19 rfl) rfl ?_
        refine SW.goto (pc := 37) (t := 76) g (dt dt_X11_feed 20 rfl) rfl ?_
        refine SW.msk [true, true, true, true, true, true, true, false] ?_
        exact ok_f_m_feed_76  g hm  ho (f_m_feed_23 N   n) ih  μ x1 x2 x3 x4 x5 x6 x1 h
set_option maxRecDepth 100000 in
set_option maxHeartbeats 4000000 in
theorem ok_f_m_feed {G : sw_G} {ad : Nat → Nat} {ν : sw_N}   {N : Nat} {o : Int32 × sw_M} (g : sw_ok G cX11_feed "DeadWiresModel" (some .int) 1 0 0 ad) (hm : G.2.2.1.2.1.maxLocals = 8)  (μ : sw_M) (ho : sw_out G 0 0 (fun a => a = ad) (.inl (some (.int o.1))) lay0 o.2 ν) (a1 : Int32) (a2 : Int32) (a3 : Int32) (a4 : Int32) (a5 : Int32) (h : f_m_feed N  μ a1 a2 a3 a4 a5 = some o) : SW G ad lay0 ν 0 0 0 [some (.ref 63), some (.int a1), some (.int a2), some (.int a3), some (.int a4), some (.int a5), none, none] [] μ := by
  unfold f_m_feed at h
  refine SW.aload_n (pc := 0) g (dt dt_X11_feed 0 rfl) rfl ?_
  refine SW.iconst (pc := 1) (v := 0) g (dt dt_X11_feed 1 rfl) ki_0 ?_
  refine SW.putI (pc := 2) g (dt dt_X11_feed 2 rfl) fl_X11_3 cell_63 rfl ?_
  refine SW.genM h (fun μ1 h => ?_)
  refine SW.aload_n (pc := 5) g (dt dt_X11_feed 3 rfl) rfl ?_
  refine SW.getI (pc := 6) g (dt dt_X11_feed 4 rfl) fl_X11_92 cell_63 rfl ?_
  refine SW.bipush (pc := 9) (v := 20) g (dt dt_X11_feed 5 rfl) kb_20 ?_
  refine SW.iadd (pc := 11) g (dt dt_X11_feed 6 rfl) ?_
  refine SW.sipush (pc := 12) (v := 600) g (dt dt_X11_feed 7 rfl) ks_600 ?_
  refine SW.icmp_le (pc := 15) (t := 20) g (dt dt_X11_feed 8 rfl) rfl (fun hc => ?_) (fun hc => ?_)
  · have h := iteT hc h
    refine SW.iconst (pc := 20) (v := 0) g (dt dt_X11_feed 11 rfl) ki_0 ?_
    refine SW.istore (pc := 21) g (dt dt_X11_feed 12 rfl) (sw_ltm hm (Nat.le_of_ble_eq_true rfl)) rfl ?_
    refine SW.msk [true, true, true, true, true, true, true, false] ?_
    exact ok_f_m_feed_23  g hm  ho   N μ1 a1 a2 a3 a4 a5 0 h
  · have h := iteF hc h
    refine SW.iconst (pc := 18) (v := (-1)) g (dt dt_X11_feed 9 rfl) ki_m1 ?_
    exact SW.ireturn (pc := 19) g (leafW h ho) rfl (Nat.le_of_ble_eq_true rfl) (Nat.le_of_ble_eq_true rfl) (dt dt_X11_feed 10 rfl)
set_option maxRecDepth 100000 in
set_option maxHeartbeats 4000000 in
theorem mt_f_m_feed (l : Launch) (D : va_G) (cI cL : ClassId) (ad : Nat → Nat) (ν : sw_N)    (N : Nat) (μ : sw_M) (a1 : Int32) (a2 : Int32) (a3 : Int32) (a4 : Int32) (a5 : Int32) (o : Int32 × sw_M) (h : f_m_feed N  μ a1 a2 a3 a4 a5 = some o) : MetR l D cI cL yX11_feed cX11_feed 8 (some .int) 1 0 0 (fun a => a = ad) ad [.ref 63, .int a1, .int a2, .int a3, .int a4, .int a5] lay0 μ ν (some (.int o.1)) lay0 o.2 ν :=
  MetR.of (n := 2) rfl (Nat.le_of_ble_eq_true rfl) (fun G g ho hm _ _ => ok_f_m_feed  g hm  μ ho a1 a2 a3 a4 a5 h)
def f_m_fine (N : Nat)  (μ : sw_M)  : Option (Int32) :=
  if (μ 63 5) = (-1) then
    some 1
  else
    some 0
set_option maxRecDepth 100000 in
set_option maxHeartbeats 4000000 in
theorem ok_f_m_fine {G : sw_G} {ad : Nat → Nat} {ν : sw_N}   {N : Nat} {o : Int32} (g : sw_ok G cX11_fine "DeadWiresModel" (some .boolean) 1 0 0 ad) (hm : G.2.2.1.2.1.maxLocals = 1)  (μ : sw_M) (ho : sw_out G 0 0 (fun a => a = ad) (.inl (some (.int o))) lay0 μ ν)  (h : f_m_fine N  μ  = some o) : SW G ad lay0 ν 0 0 0 [some (.ref 63)] [] μ := by
  unfold f_m_fine at h
  refine SW.aload_n (pc := 0) g (dt dt_X11_fine 0 rfl) rfl ?_
  refine SW.getI (pc := 1) g (dt dt_X11_fine 1 rfl) fl_X11_95 cell_63 rfl ?_
  refine SW.iconst (pc := 4) (v := (-1)) g (dt dt_X11_fine 2 rfl) ki_m1 ?_
  refine SW.icmp_ne (pc := 5) (t := 12) g (dt dt_X11_fine 3 rfl) rfl (fun hc => ?_) (fun hc => ?_)
  · have h := iteF hc h
    refine SW.iconst (pc := 12) (v := 0) g (dt dt_X11_fine 6 rfl) ki_0 ?_
    exact SW.zreturn (pc := 13) g (leafI h ho) rfl (Nat.le_of_ble_eq_true rfl) (Nat.le_of_ble_eq_true rfl) (by decide) (dt dt_X11_fine 7 rfl)
  · have h := iteT hc h
    refine SW.iconst (pc := 8) (v := 1) g (dt dt_X11_fine 4 rfl) ki_1 ?_
    refine SW.goto (pc := 9) (t := 13) g (dt dt_X11_fine 5 rfl) rfl ?_
    exact SW.zreturn (pc := 13) g (leafI h ho) rfl (Nat.le_of_ble_eq_true rfl) (Nat.le_of_ble_eq_true rfl) (by decide) (dt dt_X11_fine 7 rfl)
set_option maxRecDepth 100000 in
set_option maxHeartbeats 4000000 in
theorem mt_f_m_fine (l : Launch) (D : va_G) (cI cL : ClassId) (ad : Nat → Nat) (ν : sw_N)    (N : Nat) (μ : sw_M)  (o : Int32) (h : f_m_fine N  μ  = some o) : MetR l D cI cL yX11_fine cX11_fine 1 (some .boolean) 1 0 0 (fun a => a = ad) ad [.ref 63] lay0 μ ν (some (.int o)) lay0 μ ν :=
  MetR.of (n := 0) rfl (Nat.le_of_ble_eq_true rfl) (fun G g ho hm _ _ => ok_f_m_fine  g hm  μ ho  h)
def f_m_wrong (N : Nat)  (μ : sw_M) (a1 : Int32) (a2 : Int32) : Option (sw_M) :=
  if (μ 63 5) = (-1) then
    wb (wr μ 63 5 a2) (fun μ1 =>
      wb (wr μ1 63 6 a1) (fun μ2 =>
        some μ2))
  else
    some μ
set_option maxRecDepth 100000 in
set_option maxHeartbeats 4000000 in
theorem ok_f_m_wrong {G : sw_G} {ad : Nat → Nat} {ν : sw_N}   {N : Nat} {o : sw_M} (g : sw_ok G cX11_wrong "DeadWiresModel" none 1 0 0 ad) (hm : G.2.2.1.2.1.maxLocals = 3)  (μ : sw_M) (ho : sw_out G 0 0 (fun a => a = ad) (.inl none) lay0 o ν) (a1 : Int32) (a2 : Int32) (h : f_m_wrong N  μ a1 a2 = some o) : SW G ad lay0 ν 0 0 0 [some (.ref 63), some (.int a1), some (.int a2)] [] μ := by
  unfold f_m_wrong at h
  refine SW.aload_n (pc := 0) g (dt dt_X11_wrong 0 rfl) rfl ?_
  refine SW.getI (pc := 1) g (dt dt_X11_wrong 1 rfl) fl_X11_95 cell_63 rfl ?_
  refine SW.iconst (pc := 4) (v := (-1)) g (dt dt_X11_wrong 2 rfl) ki_m1 ?_
  refine SW.icmp_eq (pc := 5) (t := 9) g (dt dt_X11_wrong 3 rfl) rfl (fun hc => ?_) (fun hc => ?_)
  · have h := iteT hc h
    refine SW.aload_n (pc := 9) g (dt dt_X11_wrong 5 rfl) rfl ?_
    refine SW.iload_n (pc := 10) g (dt dt_X11_wrong 6 rfl) rfl ?_
    refine SW.putI (pc := 11) g (dt dt_X11_wrong 7 rfl) fl_X11_95 cell_63 rfl ?_
    refine SW.genM h (fun μ1 h => ?_)
    refine SW.aload_n (pc := 14) g (dt dt_X11_wrong 8 rfl) rfl ?_
    refine SW.iload_n (pc := 15) g (dt dt_X11_wrong 9 rfl) rfl ?_
    refine SW.putI (pc := 16) g (dt dt_X11_wrong 10 rfl) fl_X11_98 cell_63 rfl ?_
    refine SW.genM h (fun μ2 h => ?_)
    exact SW.vreturn (pc := 19) g (leafV h ho) rfl (Nat.le_of_ble_eq_true rfl) (Nat.le_of_ble_eq_true rfl) (dt dt_X11_wrong 11 rfl)
  · have h := iteF hc h
    exact SW.vreturn (pc := 8) g (leafV h ho) rfl (Nat.le_of_ble_eq_true rfl) (Nat.le_of_ble_eq_true rfl) (dt dt_X11_wrong 4 rfl)
set_option maxRecDepth 100000 in
set_option maxHeartbeats 4000000 in
theorem mt_f_m_wrong (l : Launch) (D : va_G) (cI cL : ClassId) (ad : Nat → Nat) (ν : sw_N)    (N : Nat) (μ : sw_M) (a1 : Int32) (a2 : Int32) (o : sw_M) (h : f_m_wrong N  μ a1 a2 = some o) : MetR l D cI cL yX11_wrong cX11_wrong 3 none 1 0 0 (fun a => a = ad) ad [.ref 63, .int a1, .int a2] lay0 μ ν none lay0 o ν :=
  MetR.of (n := 0) rfl (Nat.le_of_ble_eq_true rfl) (fun G g ho hm _ _ => ok_f_m_wrong  g hm  μ ho a1 a2 h)
def f_m_here_38 (N : Nat)   (μ : sw_M)  : Option (Int32 × sw_M) :=
  if (μ 63 3) ≤ (μ 63 4) then
    some (0, μ)
  else
    inb (μ 63 4) 600 (
      some (μ 65 (μ 63 4).toNatClampNeg, μ))
def f_m_here_0 (N : Nat)   : Nat → sw_M → Option (Int32 × sw_M)
  | 0, _ => none
  | n + 1, μ =>
    if (μ 63 3) ≤ (μ 63 4) then
      f_m_here_38 N    μ 
    else
      inb (μ 63 4) 600 (
        if (μ 65 (μ 63 4).toNatClampNeg) = 32 then
          wb (wr μ 63 4 ((μ 63 4) + 1)) (fun μ2 =>
            f_m_here_0 N   n μ2 )
        else
          f_m_here_38 N    μ )
def f_m_here (N : Nat)  (μ : sw_M)  : Option (Int32 × sw_M) := f_m_here_0 N    N μ 
set_option maxRecDepth 100000 in
set_option maxHeartbeats 4000000 in
theorem ok_f_m_here_38 {G : sw_G} {ad : Nat → Nat} {ν : sw_N}   {N : Nat} {o : Int32 × sw_M} (g : sw_ok G cX11_here "DeadWiresModel" (some .int) 1 0 0 ad) (hm : G.2.2.1.2.1.maxLocals = 1)  (ho : sw_out G 0 0 (fun a => a = ad) (.inl (some (.int o.1))) lay0 o.2 ν)  (μ : sw_M)  (h : f_m_here_38 N    μ  = some o) : SW G ad lay0 ν 0 0 38 [some (.ref 63)] [] μ := by
  unfold f_m_here_38 at h
  refine SW.aload_n (pc := 38) g (dt dt_X11_here 19 rfl) rfl ?_
  refine SW.getI (pc := 39) g (dt dt_X11_here 20 rfl) fl_X11_101 cell_63 rfl ?_
  refine SW.aload_n (pc := 42) g (dt dt_X11_here 21 rfl) rfl ?_
  refine SW.getI (pc := 43) g (dt dt_X11_here 22 rfl) fl_X11_104 cell_63 rfl ?_
  refine SW.icmp_ge (pc := 46) (t := 61) g (dt dt_X11_here 23 rfl) rfl (fun hc => ?_) (fun hc => ?_)
  · have h := iteT hc h
    refine SW.iconst (pc := 61) (v := 0) g (dt dt_X11_here 30 rfl) ki_0 ?_
    exact SW.ireturn (pc := 62) g (leafW h ho) rfl (Nat.le_of_ble_eq_true rfl) (Nat.le_of_ble_eq_true rfl) (dt dt_X11_here 31 rfl)
  · have h := iteF hc h
    refine SW.aload_n (pc := 49) g (dt dt_X11_here 24 rfl) rfl ?_
    refine SW.getR (pc := 50) g (dt dt_X11_here 25 rfl) fl_X11_20 cell_63 rfl ?_
    refine SW.aload_n (pc := 53) g (dt dt_X11_here 26 rfl) rfl ?_
    refine SW.getI (pc := 54) g (dt dt_X11_here 27 rfl) fl_X11_101 cell_63 rfl ?_
    obtain ⟨hb1, h⟩ := inbI h
    refine SW.iaload (pc := 57) g (dt dt_X11_here 28 rfl) cell_65 hb1 ?_
    refine SW.goto (pc := 58) (t := 62) g (dt dt_X11_here 29 rfl) rfl ?_
    exact SW.ireturn (pc := 62) g (leafW h ho) rfl (Nat.le_of_ble_eq_true rfl) (Nat.le_of_ble_eq_true rfl) (dt dt_X11_here 31 rfl)
set_option maxRecDepth 100000 in
set_option maxHeartbeats 4000000 in
theorem ok_f_m_here_0 {G : sw_G} {ad : Nat → Nat} {ν : sw_N}   {N : Nat} {o : Int32 × sw_M} (g : sw_ok G cX11_here "DeadWiresModel" (some .int) 1 0 0 ad) (hm : G.2.2.1.2.1.maxLocals = 1)  (ho : sw_out G 0 0 (fun a => a = ad) (.inl (some (.int o.1))) lay0 o.2 ν)  : ∀ (n : Nat) (μ : sw_M)  (h : f_m_here_0 N   n μ  = some o), SW G ad lay0 ν 0 0 0 [some (.ref 63)] [] μ := by
  intro n
  induction n with
  | zero => intro μ  h; simp only [f_m_here_0] at h; cases h
  | succ n ih =>
    intro μ  h
    unfold f_m_here_0 at h
    refine SW.aload_n (pc := 0) g (dt dt_X11_here 0 rfl) rfl ?_
    refine SW.getI (pc := 1) g (dt dt_X11_here 1 rfl) fl_X11_101 cell_63 rfl ?_
    refine SW.aload_n (pc := 4) g (dt dt_X11_here 2 rfl) rfl ?_
    refine SW.getI (pc := 5) g (dt dt_X11_here 3 rfl) fl_X11_104 cell_63 rfl ?_
    refine SW.icmp_ge (pc := 8) (t := 38) g (dt dt_X11_here 4 rfl) rfl (fun hc => ?_) (fun hc => ?_)
    · have h := iteT hc h
      refine SW.msk [true] ?_
      exact ok_f_m_here_38  g hm  ho    μ  h
    · have h := iteF hc h
      refine SW.aload_n (pc := 11) g (dt dt_X11_here 5 rfl) rfl ?_
      refine SW.getR (pc := 12) g (dt dt_X11_here 6 rfl) fl_X11_20 cell_63 rfl ?_
      refine SW.aload_n (pc := 15) g (dt dt_X11_here 7 rfl) rfl ?_
      refine SW.getI (pc := 16) g (dt dt_X11_here 8 rfl) fl_X11_101 cell_63 rfl ?_
      obtain ⟨hb1, h⟩ := inbI h
      refine SW.iaload (pc := 19) g (dt dt_X11_here 9 rfl) cell_65 hb1 ?_
      refine SW.bipush (pc := 20) (v := 32) g (dt dt_X11_here 10 rfl) kb_32 ?_
      refine SW.icmp_ne (pc := 22) (t := 38) g (dt dt_X11_here 11 rfl) rfl (fun hc => ?_) (fun hc => ?_)
      · have h := iteF hc h
        refine SW.msk [true] ?_
        exact ok_f_m_here_38  g hm  ho    μ  h
      · have h := iteT hc h
        refine SW.aload_n (pc := 25) g (dt dt_X11_here 12 rfl) rfl ?_
        refine SW.dup (pc := 26) g (dt dt_X11_here 13 rfl) rfl ?_
        refine SW.getI (pc := 27) g (dt dt_X11_here 14 rfl) fl_X11_101 cell_63 rfl ?_
        refine SW.iconst (pc := 30) (v := 1) g (dt dt_X11_here 15 rfl) ki_1 ?_
        refine SW.iadd (pc := 31) g (dt dt_X11_here 16 rfl) ?_
        refine SW.putI (pc := 32) g (dt dt_X11_here 17 rfl) fl_X11_101 cell_63 rfl ?_
        refine SW.genM h (fun μ2 h => ?_)
        refine SW.goto (pc := 35) (t := 0) g (dt dt_X11_here 18 rfl) rfl ?_
        refine SW.msk [true] ?_
        exact ih μ2  h
set_option maxRecDepth 100000 in
set_option maxHeartbeats 4000000 in
theorem mt_f_m_here (l : Launch) (D : va_G) (cI cL : ClassId) (ad : Nat → Nat) (ν : sw_N)    (N : Nat) (μ : sw_M)  (o : Int32 × sw_M) (h : f_m_here N  μ  = some o) : MetR l D cI cL yX11_here cX11_here 1 (some .int) 1 0 0 (fun a => a = ad) ad [.ref 63] lay0 μ ν (some (.int o.1)) lay0 o.2 ν :=
  MetR.of (n := 0) rfl (Nat.le_of_ble_eq_true rfl) (fun G g ho hm _ _ => SW.msk [true] (ok_f_m_here_0  g hm  ho    N μ  h))
def f_sm_isSmall (N : Nat)  (μ : sw_M) (a0 : Int32) : Option (Int32) :=
  if a0 < 97 then
    some 0
  else
    if 122 < a0 then
      some 0
    else
      some 1
set_option maxRecDepth 100000 in
set_option maxHeartbeats 4000000 in
theorem ok_f_sm_isSmall {G : sw_G} {ad : Nat → Nat} {ν : sw_N} {L : sw_L}  {N : Nat} {o : Int32} (g : sw_ok G cX11_isSmall "DeadWiresModel" (some .boolean) 1 0 0 ad) (hm : G.2.2.1.2.1.maxLocals = 1)  (μ : sw_M) (ho : sw_out G 0 0 (fun a => a = ad) (.inl (some (.int o))) L μ ν) (a0 : Int32) (h : f_sm_isSmall N  μ a0 = some o) : SW G ad L ν 0 0 0 [some (.int a0)] [] μ := by
  unfold f_sm_isSmall at h
  refine SW.iload_n (pc := 0) g (dt dt_X11_isSmall 0 rfl) rfl ?_
  refine SW.bipush (pc := 1) (v := 97) g (dt dt_X11_isSmall 1 rfl) kb_97 ?_
  refine SW.icmp_lt (pc := 3) (t := 16) g (dt dt_X11_isSmall 2 rfl) rfl (fun hc => ?_) (fun hc => ?_)
  · have h := iteT hc h
    refine SW.iconst (pc := 16) (v := 0) g (dt dt_X11_isSmall 8 rfl) ki_0 ?_
    exact SW.zreturn (pc := 17) g (leafI h ho) rfl (Nat.le_of_ble_eq_true rfl) (Nat.le_of_ble_eq_true rfl) (by decide) (dt dt_X11_isSmall 9 rfl)
  · have h := iteF hc h
    refine SW.iload_n (pc := 6) g (dt dt_X11_isSmall 3 rfl) rfl ?_
    refine SW.bipush (pc := 7) (v := 122) g (dt dt_X11_isSmall 4 rfl) kb_122 ?_
    refine SW.icmp_gt (pc := 9) (t := 16) g (dt dt_X11_isSmall 5 rfl) rfl (fun hc => ?_) (fun hc => ?_)
    · have h := iteT hc h
      refine SW.iconst (pc := 16) (v := 0) g (dt dt_X11_isSmall 8 rfl) ki_0 ?_
      exact SW.zreturn (pc := 17) g (leafI h ho) rfl (Nat.le_of_ble_eq_true rfl) (Nat.le_of_ble_eq_true rfl) (by decide) (dt dt_X11_isSmall 9 rfl)
    · have h := iteF hc h
      refine SW.iconst (pc := 12) (v := 1) g (dt dt_X11_isSmall 6 rfl) ki_1 ?_
      refine SW.goto (pc := 13) (t := 17) g (dt dt_X11_isSmall 7 rfl) rfl ?_
      exact SW.zreturn (pc := 17) g (leafI h ho) rfl (Nat.le_of_ble_eq_true rfl) (Nat.le_of_ble_eq_true rfl) (by decide) (dt dt_X11_isSmall 9 rfl)
set_option maxRecDepth 100000 in
set_option maxHeartbeats 4000000 in
theorem mt_f_sm_isSmall (l : Launch) (D : va_G) (cI cL : ClassId) (ad : Nat → Nat) (ν : sw_N) (L : sw_L)   (N : Nat) (μ : sw_M) (a0 : Int32) (o : Int32) (h : f_sm_isSmall N  μ a0 = some o) : MetR l D cI cL yX11_isSmall cX11_isSmall 1 (some .boolean) 1 0 0 (fun a => a = ad) ad [.int a0] L μ ν (some (.int o)) L μ ν :=
  MetR.of (n := 0) rfl (Nat.le_of_ble_eq_true rfl) (fun G g ho hm _ _ => ok_f_sm_isSmall  g hm  μ ho a0 h)
def f_sm_isDigit (N : Nat)  (μ : sw_M) (a0 : Int32) : Option (Int32) :=
  if a0 < 48 then
    some 0
  else
    if 57 < a0 then
      some 0
    else
      some 1
set_option maxRecDepth 100000 in
set_option maxHeartbeats 4000000 in
theorem ok_f_sm_isDigit {G : sw_G} {ad : Nat → Nat} {ν : sw_N} {L : sw_L}  {N : Nat} {o : Int32} (g : sw_ok G cX11_isDigit "DeadWiresModel" (some .boolean) 1 0 0 ad) (hm : G.2.2.1.2.1.maxLocals = 1)  (μ : sw_M) (ho : sw_out G 0 0 (fun a => a = ad) (.inl (some (.int o))) L μ ν) (a0 : Int32) (h : f_sm_isDigit N  μ a0 = some o) : SW G ad L ν 0 0 0 [some (.int a0)] [] μ := by
  unfold f_sm_isDigit at h
  refine SW.iload_n (pc := 0) g (dt dt_X11_isDigit 0 rfl) rfl ?_
  refine SW.bipush (pc := 1) (v := 48) g (dt dt_X11_isDigit 1 rfl) kb_48 ?_
  refine SW.icmp_lt (pc := 3) (t := 16) g (dt dt_X11_isDigit 2 rfl) rfl (fun hc => ?_) (fun hc => ?_)
  · have h := iteT hc h
    refine SW.iconst (pc := 16) (v := 0) g (dt dt_X11_isDigit 8 rfl) ki_0 ?_
    exact SW.zreturn (pc := 17) g (leafI h ho) rfl (Nat.le_of_ble_eq_true rfl) (Nat.le_of_ble_eq_true rfl) (by decide) (dt dt_X11_isDigit 9 rfl)
  · have h := iteF hc h
    refine SW.iload_n (pc := 6) g (dt dt_X11_isDigit 3 rfl) rfl ?_
    refine SW.bipush (pc := 7) (v := 57) g (dt dt_X11_isDigit 4 rfl) kb_57 ?_
    refine SW.icmp_gt (pc := 9) (t := 16) g (dt dt_X11_isDigit 5 rfl) rfl (fun hc => ?_) (fun hc => ?_)
    · have h := iteT hc h
      refine SW.iconst (pc := 16) (v := 0) g (dt dt_X11_isDigit 8 rfl) ki_0 ?_
      exact SW.zreturn (pc := 17) g (leafI h ho) rfl (Nat.le_of_ble_eq_true rfl) (Nat.le_of_ble_eq_true rfl) (by decide) (dt dt_X11_isDigit 9 rfl)
    · have h := iteF hc h
      refine SW.iconst (pc := 12) (v := 1) g (dt dt_X11_isDigit 6 rfl) ki_1 ?_
      refine SW.goto (pc := 13) (t := 17) g (dt dt_X11_isDigit 7 rfl) rfl ?_
      exact SW.zreturn (pc := 17) g (leafI h ho) rfl (Nat.le_of_ble_eq_true rfl) (Nat.le_of_ble_eq_true rfl) (by decide) (dt dt_X11_isDigit 9 rfl)
set_option maxRecDepth 100000 in
set_option maxHeartbeats 4000000 in
theorem mt_f_sm_isDigit (l : Launch) (D : va_G) (cI cL : ClassId) (ad : Nat → Nat) (ν : sw_N) (L : sw_L)   (N : Nat) (μ : sw_M) (a0 : Int32) (o : Int32) (h : f_sm_isDigit N  μ a0 = some o) : MetR l D cI cL yX11_isDigit cX11_isDigit 1 (some .boolean) 1 0 0 (fun a => a = ad) ad [.int a0] L μ ν (some (.int o)) L μ ν :=
  MetR.of (n := 0) rfl (Nat.le_of_ble_eq_true rfl) (fun G g ho hm _ _ => ok_f_sm_isDigit  g hm  μ ho a0 h)
def f_m_word_67 (N : Nat)   (μ : sw_M) (x1 : Int32) (x2 : Int32) : Option (Int32 × sw_M) :=
  if x2 ≤ 6 then
    some (x1, μ)
  else
    some (0, μ)
def f_m_word_57 (N : Nat)  (k_14 : sw_M → Int32 → Int32 → Int32 → Option (Int32 × sw_M)) (μ : sw_M) (x2 : Int32) (x3 : Int32) (s0 : Int32) : Option (Int32 × sw_M) :=
  ib (x2 + 1) (fun y1 =>
    k_14 μ s0 y1 (x3 + 1))
def f_m_word_14 (N : Nat)   : Nat → sw_M → Int32 → Int32 → Int32 → Option (Int32 × sw_M)
  | 0, _, _, _, _ => none
  | n + 1, μ, x1, x2, x3 =>
    if (μ 63 3) ≤ x3 then
      f_m_word_67 N    μ x1 x2
    else
      inb x3 600 (
        Option.bind (f_sm_isSmall N  μ (μ 65 x3.toNatClampNeg)) (fun r2 =>
          if r2 = 0 then
            f_m_word_67 N    μ x1 x2
          else
            if 6 ≤ x2 then
              f_m_word_57 N  (f_m_word_14 N   n)  μ x2 x3 0
            else
              inb x3 600 (
                f_m_word_57 N  (f_m_word_14 N   n)  μ x2 x3 ((x1 <<< ((5 : Int32) &&& 31)) ||| ((μ 65 x3.toNatClampNeg) - 96)))))
def f_m_word (N : Nat)  (μ : sw_M)  : Option (Int32 × sw_M) :=
  Option.bind (f_m_here N  μ ) (fun r1 =>
    ib (r1.2 63 4) (fun y3 =>
      f_m_word_14 N   N r1.2 0 0 y3))
set_option maxRecDepth 100000 in
set_option maxHeartbeats 4000000 in
theorem ok_f_m_word_67 {G : sw_G} {ad : Nat → Nat} {ν : sw_N}   {N : Nat} {o : Int32 × sw_M} (g : sw_ok G cX11_word "DeadWiresModel" (some .int) 2 0 0 ad) (hm : G.2.2.1.2.1.maxLocals = 4)  (ho : sw_out G 0 0 (fun a => a = ad) (.inl (some (.int o.1))) lay0 o.2 ν)  (μ : sw_M) (x1 : Int32) (x2 : Int32) (h : f_m_word_67 N    μ x1 x2 = some o) : SW G ad lay0 ν 0 0 67 [none, some (.int x1), some (.int x2), none] [] μ := by
  unfold f_m_word_67 at h
  refine SW.iload_n (pc := 67) g (dt dt_X11_word 39 rfl) rfl ?_
  refine SW.bipush (pc := 68) (v := 6) g (dt dt_X11_word 40 rfl) kb_6 ?_
  refine SW.icmp_le (pc := 70) (t := 77) g (dt dt_X11_word 41 rfl) rfl (fun hc => ?_) (fun hc => ?_)
  · have h := iteT hc h
    refine SW.iload_n (pc := 77) g (dt dt_X11_word 44 rfl) rfl ?_
    exact SW.ireturn (pc := 78) g (leafW h ho) rfl (Nat.le_of_ble_eq_true rfl) (Nat.le_of_ble_eq_true rfl) (dt dt_X11_word 45 rfl)
  · have h := iteF hc h
    refine SW.iconst (pc := 73) (v := 0) g (dt dt_X11_word 42 rfl) ki_0 ?_
    refine SW.goto (pc := 74) (t := 78) g (dt dt_X11_word 43 rfl) rfl ?_
    exact SW.ireturn (pc := 78) g (leafW h ho) rfl (Nat.le_of_ble_eq_true rfl) (Nat.le_of_ble_eq_true rfl) (dt dt_X11_word 45 rfl)
set_option maxRecDepth 100000 in
set_option maxHeartbeats 4000000 in
theorem ok_f_m_word_57 {G : sw_G} {ad : Nat → Nat} {ν : sw_N}   {N : Nat} {o : Int32 × sw_M} (g : sw_ok G cX11_word "DeadWiresModel" (some .int) 2 0 0 ad) (hm : G.2.2.1.2.1.maxLocals = 4)  (ho : sw_out G 0 0 (fun a => a = ad) (.inl (some (.int o.1))) lay0 o.2 ν) (k_14 : sw_M → Int32 → Int32 → Int32 → Option (Int32 × sw_M)) (hk_14 : ∀ (μ : sw_M) (x1 : Int32) (x2 : Int32) (x3 : Int32), k_14 μ x1 x2 x3 = some o → SW G ad lay0 ν 0 0 14 [some (.ref 63), some (.int x1), some (.int x2), some (.int x3)] [] μ) (μ : sw_M) (x2 : Int32) (x3 : Int32) (s0 : Int32) (h : f_m_word_57 N  k_14  μ x2 x3 s0 = some o) : SW G ad lay0 ν 0 0 57 [some (.ref 63), none, some (.int x2), some (.int x3)] [.int s0] μ := by
  unfold f_m_word_57 at h
  refine SW.istore_n (pc := 57) g (dt dt_X11_word 35 rfl) (sw_ltm hm (Nat.le_of_ble_eq_true rfl)) rfl ?_
  refine SW.iinc (pc := 58) (v := x2 + 1) g (dt dt_X11_word 36 rfl) rfl (kn_1 _) (sw_ltm hm (Nat.le_of_ble_eq_true rfl)) rfl ?_
  refine SW.genL h (fun y1 h => ?_)
  refine SW.iinc (pc := 61) (v := x3 + 1) g (dt dt_X11_word 37 rfl) rfl (kn_1 _) (sw_ltm hm (Nat.le_of_ble_eq_true rfl)) rfl ?_
  refine SW.goto (pc := 64) (t := 14) g (dt dt_X11_word 38 rfl) rfl ?_
  refine SW.msk [true, true, true, true] ?_
  exact hk_14 μ s0 y1 (x3 + 1) h
set_option maxRecDepth 100000 in
set_option maxHeartbeats 4000000 in
theorem ok_f_m_word_14 {G : sw_G} {ad : Nat → Nat} {ν : sw_N}   {N : Nat} {o : Int32 × sw_M} (g : sw_ok G cX11_word "DeadWiresModel" (some .int) 2 0 0 ad) (hm : G.2.2.1.2.1.maxLocals = 4)  (ho : sw_out G 0 0 (fun a => a = ad) (.inl (some (.int o.1))) lay0 o.2 ν)  : ∀ (n : Nat) (μ : sw_M) (x1 : Int32) (x2 : Int32) (x3 : Int32) (h : f_m_word_14 N   n μ x1 x2 x3 = some o), SW G ad lay0 ν 0 0 14 [some (.ref 63), some (.int x1), some (.int x2), some (.int x3)] [] μ := by
  intro n
  induction n with
  | zero => intro μ x1 x2 x3 h; simp only [f_m_word_14] at h; cases h
  | succ n ih =>
    intro μ x1 x2 x3 h
    unfold f_m_word_14 at h
    refine SW.iload_n (pc := 14) g (dt dt_X11_word 10 rfl) rfl ?_
    refine SW.aload_n (pc := 15) g (dt dt_X11_word 11 rfl) rfl ?_
    refine SW.getI (pc := 16) g (dt dt_X11_word 12 rfl) fl_X11_104 cell_63 rfl ?_
    refine SW.icmp_ge (pc := 19) (t := 67) g (dt dt_X11_word 13 rfl) rfl (fun hc => ?_) (fun hc => ?_)
    · have h := iteT hc h
      refine SW.msk [false, true, true, false] ?_
      exact ok_f_m_word_67  g hm  ho    μ x1 x2 h
    · have h := iteF hc h
      refine SW.aload_n (pc := 22) g (dt dt_X11_word 14 rfl) rfl ?_
      refine SW.getR (pc := 23) g (dt dt_X11_word 15 rfl) fl_X11_20 cell_63 rfl ?_
      refine SW.iload_n (pc := 26) g (dt dt_X11_word 16 rfl) rfl ?_
      obtain ⟨hb1, h⟩ := inbI h
      refine SW.iaload (pc := 27) g (dt dt_X11_word 17 rfl) cell_65 hb1 ?_
      obtain ⟨r2, h3, h⟩ := bindI h
      refine SW.callSi (pc := 28) g (dt dt_X11_word 18 rfl) (mt_f_sm_isSmall _ _ _ _ ad ν lay0   N μ (μ 65 x3.toNatClampNeg) r2 h3) me_X11_isSmall ms_X11_isSmall ml_X11_111 rfl (Nat.le_of_ble_eq_true rfl) (Nat.le_of_ble_eq_true rfl) (Nat.le_of_ble_eq_true rfl) (Nat.le_of_ble_eq_true rfl) rfl ?_
      refine SW.if_eq (pc := 31) (t := 67) g (dt dt_X11_word 19 rfl) rfl (fun hc => ?_) (fun hc => ?_)
      · have h := iteT hc h
        refine SW.msk [false, true, true, false] ?_
        exact ok_f_m_word_67  g hm  ho    μ x1 x2 h
      · have h := iteF hc h
        refine SW.iload_n (pc := 34) g (dt dt_X11_word 20 rfl) rfl ?_
        refine SW.bipush (pc := 35) (v := 6) g (dt dt_X11_word 21 rfl) kb_6 ?_
        refine SW.icmp_ge (pc := 37) (t := 56) g (dt dt_X11_word 22 rfl) rfl (fun hc => ?_) (fun hc => ?_)
        · have h := iteT hc h
          refine SW.iconst (pc := 56) (v := 0) g (dt dt_X11_word 34 rfl) ki_0 ?_
          refine SW.msk [true, false, true, true] ?_
          exact ok_f_m_word_57  g hm  ho (f_m_word_14 N   n) ih  μ x2 x3 0 h
        · have h := iteF hc h
          refine SW.iload_n (pc := 40) g (dt dt_X11_word 23 rfl) rfl ?_
          refine SW.iconst (pc := 41) (v := 5) g (dt dt_X11_word 24 rfl) ki_5 ?_
          refine SW.ishl (pc := 42) g (dt dt_X11_word 25 rfl) ?_
          refine SW.aload_n (pc := 43) g (dt dt_X11_word 26 rfl) rfl ?_
          refine SW.getR (pc := 44) g (dt dt_X11_word 27 rfl) fl_X11_20 cell_63 rfl ?_
          refine SW.iload_n (pc := 47) g (dt dt_X11_word 28 rfl) rfl ?_
          obtain ⟨hb4, h⟩ := inbI h
          refine SW.iaload (pc := 48) g (dt dt_X11_word 29 rfl) cell_65 hb4 ?_
          refine SW.bipush (pc := 49) (v := 96) g (dt dt_X11_word 30 rfl) kb_96 ?_
          refine SW.isub (pc := 51) g (dt dt_X11_word 31 rfl) ?_
          refine SW.ior (pc := 52) g (dt dt_X11_word 32 rfl) ?_
          refine SW.goto (pc := 53) (t := 57) g (dt dt_X11_word 33 rfl) rfl ?_
          refine SW.msk [true, false, true, true] ?_
          exact ok_f_m_word_57  g hm  ho (f_m_word_14 N   n) ih  μ x2 x3 ((x1 <<< ((5 : Int32) &&& 31)) ||| ((μ 65 x3.toNatClampNeg) - 96)) h
set_option maxRecDepth 100000 in
set_option maxHeartbeats 4000000 in
theorem ok_f_m_word {G : sw_G} {ad : Nat → Nat} {ν : sw_N}   {N : Nat} {o : Int32 × sw_M} (g : sw_ok G cX11_word "DeadWiresModel" (some .int) 2 0 0 ad) (hm : G.2.2.1.2.1.maxLocals = 4)  (μ : sw_M) (ho : sw_out G 0 0 (fun a => a = ad) (.inl (some (.int o.1))) lay0 o.2 ν)  (h : f_m_word N  μ  = some o) : SW G ad lay0 ν 0 0 0 [some (.ref 63), none, none, none] [] μ := by
  unfold f_m_word at h
  refine SW.aload_n (pc := 0) g (dt dt_X11_word 0 rfl) rfl ?_
  obtain ⟨r1, h2, h⟩ := bindI h
  refine SW.callVi (pc := 1) g (dt dt_X11_word 1 rfl) (mt_f_m_here _ _ _ _ ad ν   N μ  r1 h2) me_X11_here mv_X11_here ml_X11_107 cell_63 rfl rfl (Nat.le_of_ble_eq_true rfl) (Nat.le_of_ble_eq_true rfl) (Nat.le_of_ble_eq_true rfl) (Nat.le_of_ble_eq_true rfl) rfl ?_
  refine SW.pop (pc := 4) g (dt dt_X11_word 2 rfl) rfl ?_
  refine SW.iconst (pc := 5) (v := 0) g (dt dt_X11_word 3 rfl) ki_0 ?_
  refine SW.istore_n (pc := 6) g (dt dt_X11_word 4 rfl) (sw_ltm hm (Nat.le_of_ble_eq_true rfl)) rfl ?_
  refine SW.iconst (pc := 7) (v := 0) g (dt dt_X11_word 5 rfl) ki_0 ?_
  refine SW.istore_n (pc := 8) g (dt dt_X11_word 6 rfl) (sw_ltm hm (Nat.le_of_ble_eq_true rfl)) rfl ?_
  refine SW.aload_n (pc := 9) g (dt dt_X11_word 7 rfl) rfl ?_
  refine SW.getI (pc := 10) g (dt dt_X11_word 8 rfl) fl_X11_101 cell_63 rfl ?_
  refine SW.istore_n (pc := 13) g (dt dt_X11_word 9 rfl) (sw_ltm hm (Nat.le_of_ble_eq_true rfl)) rfl ?_
  refine SW.genL h (fun y3 h => ?_)
  refine SW.msk [true, true, true, true] ?_
  exact ok_f_m_word_14  g hm  ho   N r1.2 0 0 y3 h
set_option maxRecDepth 100000 in
set_option maxHeartbeats 4000000 in
theorem mt_f_m_word (l : Launch) (D : va_G) (cI cL : ClassId) (ad : Nat → Nat) (ν : sw_N)    (N : Nat) (μ : sw_M)  (o : Int32 × sw_M) (h : f_m_word N  μ  = some o) : MetR l D cI cL yX11_word cX11_word 4 (some .int) 2 0 0 (fun a => a = ad) ad [.ref 63] lay0 μ ν (some (.int o.1)) lay0 o.2 ν :=
  MetR.of (n := 3) rfl (Nat.le_of_ble_eq_true rfl) (fun G g ho hm _ _ => ok_f_m_word  g hm  μ ho  h)
def f_js_coder (N : Nat) (j0 : Nat) (μ : sw_M)  : Option (Int32) :=
  if (1 : Int32) = 0 then
    some 1
  else
    some 0
set_option maxRecDepth 100000 in
set_option maxHeartbeats 4000000 in
theorem ok_f_js_coder {G : sw_G} {ad : Nat → Nat} {ν : sw_N} {L : sw_L} (j0 : Nat) {N : Nat} {o : Int32} (g : sw_ok G cJ0_coder_7d493 "java/lang/String" (some .byte) 1 0 0 ad) (hm : G.2.2.1.2.1.maxLocals = 1) (hj0 : j0 < strT.length) (μ : sw_M) (ho : sw_out G 0 0 (fun a => a = ad) (.inl (some (.int o))) L μ ν)  (h : f_js_coder N j0 μ  = some o) : SW G ad L ν 0 0 0 [some (.ref (1000 + j0))] [] μ := by
  unfold f_js_coder at h
  refine SW.getCS (pc := 0) g (dt dt_J0_coder_7d493 0 rfl) fj_38 ?_
  refine SW.if_eq (pc := 3) (t := 13) g (dt dt_J0_coder_7d493 1 rfl) rfl (fun hc => ?_) (fun hc => ?_)
  · have h := iteT hc h
    refine SW.iconst (pc := 13) (v := 1) g (dt dt_J0_coder_7d493 5 rfl) ki_1 ?_
    exact SW.nreturn (pc := 14) g (leafI h ho) rfl (Nat.le_of_ble_eq_true rfl) (Nat.le_of_ble_eq_true rfl) (by decide) (dt dt_J0_coder_7d493 6 rfl)
  · have h := iteF hc h
    refine SW.aload_n (pc := 6) g (dt dt_J0_coder_7d493 2 rfl) rfl ?_
    refine SW.getSC (pc := 7) g (dt dt_J0_coder_7d493 3 rfl) fj_15 hj0 ?_
    refine SW.goto (pc := 10) (t := 14) g (dt dt_J0_coder_7d493 4 rfl) rfl ?_
    exact SW.nreturn (pc := 14) g (leafI h ho) rfl (Nat.le_of_ble_eq_true rfl) (Nat.le_of_ble_eq_true rfl) (by decide) (dt dt_J0_coder_7d493 6 rfl)
set_option maxRecDepth 100000 in
set_option maxHeartbeats 4000000 in
theorem mt_f_js_coder (l : Launch) (D : va_G) (cI cL : ClassId) (ad : Nat → Nat) (ν : sw_N) (L : sw_L) (j0 : Nat) (hj0 : j0 < strT.length) (N : Nat) (μ : sw_M)  (o : Int32) (h : f_js_coder N j0 μ  = some o) : MetR l D cI cL yJ0_coder_7d493 cJ0_coder_7d493 1 (some .byte) 1 0 0 (fun a => a = ad) ad [.ref (1000 + j0)] L μ ν (some (.int o)) L μ ν :=
  MetR.of (n := 0) rfl (Nat.le_of_ble_eq_true rfl) (fun G g ho hm _ _ => ok_f_js_coder j0 g hm hj0 μ ho  h)
def f_js_length (N : Nat) (j0 : Nat) (μ : sw_M)  : Option (Int32) :=
  Option.bind (f_js_coder N j0 μ ) (fun r1 =>
    some ((Int32.ofNat ((strB.map List.length).getD j0 0)) >>> (r1 &&& 31)))
set_option maxRecDepth 100000 in
set_option maxHeartbeats 4000000 in
theorem ok_f_js_length {G : sw_G} {ad : Nat → Nat} {ν : sw_N} {L : sw_L} (j0 : Nat) {N : Nat} {o : Int32} (g : sw_ok G cJ0_length_8abf5 "java/lang/String" (some .int) 2 0 0 ad) (hm : G.2.2.1.2.1.maxLocals = 1) (hj0 : j0 < strT.length) (μ : sw_M) (ho : sw_out G 0 0 (fun a => a = ad) (.inl (some (.int o))) L μ ν)  (h : f_js_length N j0 μ  = some o) : SW G ad L ν 0 0 0 [some (.ref (1000 + j0))] [] μ := by
  unfold f_js_length at h
  refine SW.aload_n (pc := 0) g (dt dt_J0_length_8abf5 0 rfl) rfl ?_
  refine SW.getSV (pc := 1) g (dt dt_J0_length_8abf5 1 rfl) fj_9 hj0 ?_
  refine SW.alenB (pc := 4) g (dt dt_J0_length_8abf5 2 rfl) hj0 ?_
  refine SW.aload_n (pc := 5) g (dt dt_J0_length_8abf5 3 rfl) rfl ?_
  obtain ⟨r1, h2, h⟩ := bindI h
  refine SW.callT (pc := 6) g (dt dt_J0_length_8abf5 4 rfl) (mt_f_js_coder _ _ _ _ ad ν L j0 hj0 N μ  r1 h2) me_J0_coder_7d493 mv_J0_coder_7d493 ml_J0_335 hj0 rfl rfl (Nat.le_of_ble_eq_true rfl) (Nat.le_of_ble_eq_true rfl) (Nat.le_of_ble_eq_true rfl) (Nat.le_of_ble_eq_true rfl) rfl ?_
  refine SW.ishr (pc := 9) g (dt dt_J0_length_8abf5 5 rfl) ?_
  exact SW.ireturn (pc := 10) g (leafI h ho) rfl (Nat.le_of_ble_eq_true rfl) (Nat.le_of_ble_eq_true rfl) (dt dt_J0_length_8abf5 6 rfl)
set_option maxRecDepth 100000 in
set_option maxHeartbeats 4000000 in
theorem mt_f_js_length (l : Launch) (D : va_G) (cI cL : ClassId) (ad : Nat → Nat) (ν : sw_N) (L : sw_L) (j0 : Nat) (hj0 : j0 < strT.length) (N : Nat) (μ : sw_M)  (o : Int32) (h : f_js_length N j0 μ  = some o) : MetR l D cI cL yJ0_length_8abf5 cJ0_length_8abf5 1 (some .int) 2 0 0 (fun a => a = ad) ad [.ref (1000 + j0)] L μ ν (some (.int o)) L μ ν :=
  MetR.of (n := 0) rfl (Nat.le_of_ble_eq_true rfl) (fun G g ho hm _ _ => ok_f_js_length j0 g hm hj0 μ ho  h)
def f_js_isLatin1 (N : Nat) (j0 : Nat) (μ : sw_M)  : Option (Int32) :=
  if (1 : Int32) = 0 then
    some 0
  else
    if (0 : Int32) = 0 then
      some 1
    else
      some 0
set_option maxRecDepth 100000 in
set_option maxHeartbeats 4000000 in
theorem ok_f_js_isLatin1 {G : sw_G} {ad : Nat → Nat} {ν : sw_N} {L : sw_L} (j0 : Nat) {N : Nat} {o : Int32} (g : sw_ok G cJ0_isLatin1_aae02 "java/lang/String" (some .boolean) 1 0 0 ad) (hm : G.2.2.1.2.1.maxLocals = 1) (hj0 : j0 < strT.length) (μ : sw_M) (ho : sw_out G 0 0 (fun a => a = ad) (.inl (some (.int o))) L μ ν)  (h : f_js_isLatin1 N j0 μ  = some o) : SW G ad L ν 0 0 0 [some (.ref (1000 + j0))] [] μ := by
  unfold f_js_isLatin1 at h
  refine SW.getCS (pc := 0) g (dt dt_J0_isLatin1_aae02 0 rfl) fj_38 ?_
  refine SW.if_eq (pc := 3) (t := 17) g (dt dt_J0_isLatin1_aae02 1 rfl) rfl (fun hc => ?_) (fun hc => ?_)
  · have h := iteT hc h
    refine SW.iconst (pc := 17) (v := 0) g (dt dt_J0_isLatin1_aae02 7 rfl) ki_0 ?_
    exact SW.zreturn (pc := 18) g (leafI h ho) rfl (Nat.le_of_ble_eq_true rfl) (Nat.le_of_ble_eq_true rfl) (by decide) (dt dt_J0_isLatin1_aae02 8 rfl)
  · have h := iteF hc h
    refine SW.aload_n (pc := 6) g (dt dt_J0_isLatin1_aae02 2 rfl) rfl ?_
    refine SW.getSC (pc := 7) g (dt dt_J0_isLatin1_aae02 3 rfl) fj_15 hj0 ?_
    refine SW.if_ne (pc := 10) (t := 17) g (dt dt_J0_isLatin1_aae02 4 rfl) rfl (fun hc => ?_) (fun hc => ?_)
    · have h := iteF hc h
      refine SW.iconst (pc := 17) (v := 0) g (dt dt_J0_isLatin1_aae02 7 rfl) ki_0 ?_
      exact SW.zreturn (pc := 18) g (leafI h ho) rfl (Nat.le_of_ble_eq_true rfl) (Nat.le_of_ble_eq_true rfl) (by decide) (dt dt_J0_isLatin1_aae02 8 rfl)
    · have h := iteT hc h
      refine SW.iconst (pc := 13) (v := 1) g (dt dt_J0_isLatin1_aae02 5 rfl) ki_1 ?_
      refine SW.goto (pc := 14) (t := 18) g (dt dt_J0_isLatin1_aae02 6 rfl) rfl ?_
      exact SW.zreturn (pc := 18) g (leafI h ho) rfl (Nat.le_of_ble_eq_true rfl) (Nat.le_of_ble_eq_true rfl) (by decide) (dt dt_J0_isLatin1_aae02 8 rfl)
set_option maxRecDepth 100000 in
set_option maxHeartbeats 4000000 in
theorem mt_f_js_isLatin1 (l : Launch) (D : va_G) (cI cL : ClassId) (ad : Nat → Nat) (ν : sw_N) (L : sw_L) (j0 : Nat) (hj0 : j0 < strT.length) (N : Nat) (μ : sw_M)  (o : Int32) (h : f_js_isLatin1 N j0 μ  = some o) : MetR l D cI cL yJ0_isLatin1_aae02 cJ0_isLatin1_aae02 1 (some .boolean) 1 0 0 (fun a => a = ad) ad [.ref (1000 + j0)] L μ ν (some (.int o)) L μ ν :=
  MetR.of (n := 0) rfl (Nat.le_of_ble_eq_true rfl) (fun G g ho hm _ _ => ok_f_js_isLatin1 j0 g hm hj0 μ ho  h)
def f_jp_checkIndex_9 (N : Nat)  (μ : sw_M)  (x0 : Int32) (x1 : Int32) : Option (Int32) :=
  none
def f_jp_checkIndex (N : Nat)  (μ : sw_M) (a0 : Int32) (a1 : Int32) : Option (Int32) :=
  if a0 < 0 then
    f_jp_checkIndex_9 N  μ   a0 a1
  else
    if a0 < a1 then
      some a0
    else
      f_jp_checkIndex_9 N  μ   a0 a1
set_option maxRecDepth 100000 in
set_option maxHeartbeats 4000000 in
theorem ok_f_jp_checkIndex_9 {G : sw_G} {ad : Nat → Nat} {ν : sw_N} {L : sw_L} (fv : Value) {N : Nat} {o : Int32} (g : sw_ok G cJ3_checkIndex_8e157 "jdk/internal/util/Preconditions" (some .int) 1 0 0 ad) (hm : G.2.2.1.2.1.maxLocals = 3)  (μ : sw_M) (ho : sw_out G 0 0 (fun a => a = ad) (.inl (some (.int o))) L μ ν)  (x0 : Int32) (x1 : Int32) (h : f_jp_checkIndex_9 N  μ   x0 x1 = some o) : SW G ad L ν 0 0 9 [some (.int x0), some (.int x1), some fv] [] μ := by
  unfold f_jp_checkIndex_9 at h
  cases h
set_option maxRecDepth 100000 in
set_option maxHeartbeats 4000000 in
theorem ok_f_jp_checkIndex {G : sw_G} {ad : Nat → Nat} {ν : sw_N} {L : sw_L} (fv : Value) {N : Nat} {o : Int32} (g : sw_ok G cJ3_checkIndex_8e157 "jdk/internal/util/Preconditions" (some .int) 1 0 0 ad) (hm : G.2.2.1.2.1.maxLocals = 3)  (μ : sw_M) (ho : sw_out G 0 0 (fun a => a = ad) (.inl (some (.int o))) L μ ν) (a0 : Int32) (a1 : Int32) (h : f_jp_checkIndex N  μ a0 a1 = some o) : SW G ad L ν 0 0 0 [some (.int a0), some (.int a1), some fv] [] μ := by
  unfold f_jp_checkIndex at h
  refine SW.iload_n (pc := 0) g (dt dt_J3_checkIndex_8e157 0 rfl) rfl ?_
  refine SW.if_lt (pc := 1) (t := 9) g (dt dt_J3_checkIndex_8e157 1 rfl) rfl (fun hc => ?_) (fun hc => ?_)
  · have h := iteT hc h
    refine SW.msk [true, true, true] ?_
    exact ok_f_jp_checkIndex_9 fv g hm  μ ho    a0 a1 h
  · have h := iteF hc h
    refine SW.iload_n (pc := 4) g (dt dt_J3_checkIndex_8e157 2 rfl) rfl ?_
    refine SW.iload_n (pc := 5) g (dt dt_J3_checkIndex_8e157 3 rfl) rfl ?_
    refine SW.icmp_lt (pc := 6) (t := 16) g (dt dt_J3_checkIndex_8e157 4 rfl) rfl (fun hc => ?_) (fun hc => ?_)
    · have h := iteT hc h
      refine SW.iload_n (pc := 16) g (dt dt_J3_checkIndex_8e157 10 rfl) rfl ?_
      exact SW.ireturn (pc := 17) g (leafI h ho) rfl (Nat.le_of_ble_eq_true rfl) (Nat.le_of_ble_eq_true rfl) (dt dt_J3_checkIndex_8e157 11 rfl)
    · have h := iteF hc h
      refine SW.msk [true, true, true] ?_
      exact ok_f_jp_checkIndex_9 fv g hm  μ ho    a0 a1 h
set_option maxRecDepth 100000 in
set_option maxHeartbeats 4000000 in
theorem mt_f_jp_checkIndex (l : Launch) (D : va_G) (cI cL : ClassId) (ad : Nat → Nat) (ν : sw_N) (L : sw_L) (fv : Value)  (hfv : fv = .null ∨ fv = .ref 3000) (N : Nat) (μ : sw_M) (a0 : Int32) (a1 : Int32) (o : Int32) (h : f_jp_checkIndex N  μ a0 a1 = some o) : MetR l D cI cL yJ3_checkIndex_8e157 cJ3_checkIndex_8e157 3 (some .int) 1 0 0 (fun a => a = ad) ad [.int a0, .int a1, fv] L μ ν (some (.int o)) L μ ν :=
  by rcases hfv with rfl | rfl <;> exact MetR.of (n := 0) rfl (Nat.le_of_ble_eq_true rfl) (fun G g ho hm _ _ => ok_f_jp_checkIndex _ g hm  μ ho a0 a1 h)
def f_js_checkIndex (N : Nat)  (μ : sw_M) (a0 : Int32) (a1 : Int32) : Option (Unit) :=
  Option.bind (f_jp_checkIndex N  μ a0 a1) (fun r1 =>
    some ())
set_option maxRecDepth 100000 in
set_option maxHeartbeats 4000000 in
theorem ok_f_js_checkIndex {G : sw_G} {ad : Nat → Nat} {ν : sw_N} {L : sw_L}  {N : Nat} {o : Unit} (g : sw_ok G cJ0_checkIndex_df160 "java/lang/String" none 2 0 0 ad) (hm : G.2.2.1.2.1.maxLocals = 2)  (μ : sw_M) (ho : sw_out G 0 0 (fun a => a = ad) (.inl none) L μ ν) (a0 : Int32) (a1 : Int32) (h : f_js_checkIndex N  μ a0 a1 = some o) : SW G ad L ν 0 0 0 [some (.int a0), some (.int a1)] [] μ := by
  unfold f_js_checkIndex at h
  refine SW.iload_n (pc := 0) g (dt dt_J0_checkIndex_df160 0 rfl) rfl ?_
  refine SW.iload_n (pc := 1) g (dt dt_J0_checkIndex_df160 1 rfl) rfl ?_
  refine SW.getSF (pc := 2) g (dt dt_J0_checkIndex_df160 2 rfl) fj_1053 (fun fv hfv => ?_)
  obtain ⟨r1, h2, h⟩ := bindI h
  refine SW.callSi (pc := 5) g (dt dt_J0_checkIndex_df160 3 rfl) (mt_f_jp_checkIndex _ _ _ _ ad ν L fv hfv N μ a0 a1 r1 h2) me_J3_checkIndex_8e157 ms_J3_checkIndex_8e157 ml_J0_1059 rfl (Nat.le_of_ble_eq_true rfl) (Nat.le_of_ble_eq_true rfl) (Nat.le_of_ble_eq_true rfl) (Nat.le_of_ble_eq_true rfl) rfl ?_
  refine SW.pop (pc := 8) g (dt dt_J0_checkIndex_df160 4 rfl) rfl ?_
  exact SW.vreturn (pc := 9) g ho rfl (Nat.le_of_ble_eq_true rfl) (Nat.le_of_ble_eq_true rfl) (dt dt_J0_checkIndex_df160 5 rfl)
set_option maxRecDepth 100000 in
set_option maxHeartbeats 4000000 in
theorem mt_f_js_checkIndex (l : Launch) (D : va_G) (cI cL : ClassId) (ad : Nat → Nat) (ν : sw_N) (L : sw_L)   (N : Nat) (μ : sw_M) (a0 : Int32) (a1 : Int32) (o : Unit) (h : f_js_checkIndex N  μ a0 a1 = some o) : MetR l D cI cL yJ0_checkIndex_df160 cJ0_checkIndex_df160 2 none 2 0 0 (fun a => a = ad) ad [.int a0, .int a1] L μ ν none L μ ν :=
  MetR.of (n := 0) rfl (Nat.le_of_ble_eq_true rfl) (fun G g ho hm _ _ => ok_f_js_checkIndex  g hm  μ ho a0 a1 h)
def f_jl_charAt (N : Nat) (j0 : Nat) (μ : sw_M) (a1 : Int32) : Option (Int32) :=
  Option.bind (f_js_checkIndex N  μ a1 (Int32.ofNat ((strB.map List.length).getD j0 0))) (fun r1 =>
    inb a1 ((strB.map List.length).getD j0 0) (
      some (((((strB.getD j0 []).getD a1.toNatClampNeg 0) &&& 255).toUInt32 % 65536).toInt32)))
set_option maxRecDepth 100000 in
set_option maxHeartbeats 4000000 in
theorem ok_f_jl_charAt {G : sw_G} {ad : Nat → Nat} {ν : sw_N} {L : sw_L} (j0 : Nat) {N : Nat} {o : Int32} (g : sw_ok G cJ1_charAt_3b067 "java/lang/StringLatin1" (some .char) 3 0 0 ad) (hm : G.2.2.1.2.1.maxLocals = 2) (hj0 : j0 < strT.length) (μ : sw_M) (ho : sw_out G 0 0 (fun a => a = ad) (.inl (some (.int o))) L μ ν) (a1 : Int32) (h : f_jl_charAt N j0 μ a1 = some o) : SW G ad L ν 0 0 0 [some (.ref (2000 + j0)), some (.int a1)] [] μ := by
  unfold f_jl_charAt at h
  refine SW.iload_n (pc := 0) g (dt dt_J1_charAt_3b067 0 rfl) rfl ?_
  refine SW.aload_n (pc := 1) g (dt dt_J1_charAt_3b067 1 rfl) rfl ?_
  refine SW.alenB (pc := 2) g (dt dt_J1_charAt_3b067 2 rfl) hj0 ?_
  obtain ⟨r1, h2, h⟩ := bindI h
  refine SW.callSv (pc := 3) g (dt dt_J1_charAt_3b067 3 rfl) (mt_f_js_checkIndex _ _ _ _ ad ν L   N μ a1 (Int32.ofNat ((strB.map List.length).getD j0 0)) r1 h2) me_J0_checkIndex_df160 ms_J0_checkIndex_df160 ml_J1_9 rfl (Nat.le_of_ble_eq_true rfl) (Nat.le_of_ble_eq_true rfl) (Nat.le_of_ble_eq_true rfl) (Nat.le_of_ble_eq_true rfl) rfl ?_
  refine SW.aload_n (pc := 6) g (dt dt_J1_charAt_3b067 4 rfl) rfl ?_
  refine SW.iload_n (pc := 7) g (dt dt_J1_charAt_3b067 5 rfl) rfl ?_
  obtain ⟨hb3, h⟩ := inbI h
  refine SW.baloadB (pc := 8) g (dt dt_J1_charAt_3b067 6 rfl) hj0 hb3 ?_
  refine SW.sipush (pc := 9) (v := 255) g (dt dt_J1_charAt_3b067 7 rfl) ks_255 ?_
  refine SW.iand (pc := 12) g (dt dt_J1_charAt_3b067 8 rfl) ?_
  refine SW.i2c (pc := 13) g (dt dt_J1_charAt_3b067 9 rfl) rfl ?_
  exact SW.nreturn (pc := 14) g (leafI h ho) rfl (Nat.le_of_ble_eq_true rfl) (Nat.le_of_ble_eq_true rfl) (pk_nc _) (dt dt_J1_charAt_3b067 10 rfl)
set_option maxRecDepth 100000 in
set_option maxHeartbeats 4000000 in
theorem mt_f_jl_charAt (l : Launch) (D : va_G) (cI cL : ClassId) (ad : Nat → Nat) (ν : sw_N) (L : sw_L) (j0 : Nat) (hj0 : j0 < strT.length) (N : Nat) (μ : sw_M) (a1 : Int32) (o : Int32) (h : f_jl_charAt N j0 μ a1 = some o) : MetR l D cI cL yJ1_charAt_3b067 cJ1_charAt_3b067 2 (some .char) 3 0 0 (fun a => a = ad) ad [.ref (2000 + j0), .int a1] L μ ν (some (.int o)) L μ ν :=
  MetR.of (n := 0) rfl (Nat.le_of_ble_eq_true rfl) (fun G g ho hm _ _ => ok_f_jl_charAt j0 g hm hj0 μ ho a1 h)
def f_js_charAt (N : Nat) (j0 : Nat) (μ : sw_M) (a1 : Int32) : Option (Int32) :=
  Option.bind (f_js_isLatin1 N j0 μ ) (fun r1 =>
    if r1 = 0 then
      none
    else
      Option.bind (f_jl_charAt N j0 μ a1) (fun r3 =>
        chr r3 (some r3)))
set_option maxRecDepth 100000 in
set_option maxHeartbeats 4000000 in
theorem ok_f_js_charAt {G : sw_G} {ad : Nat → Nat} {ν : sw_N} {L : sw_L} (j0 : Nat) {N : Nat} {o : Int32} (g : sw_ok G cJ0_charAt_5068e "java/lang/String" (some .char) 4 0 0 ad) (hm : G.2.2.1.2.1.maxLocals = 2) (hj0 : j0 < strT.length) (μ : sw_M) (ho : sw_out G 0 0 (fun a => a = ad) (.inl (some (.int o))) L μ ν) (a1 : Int32) (h : f_js_charAt N j0 μ a1 = some o) : SW G ad L ν 0 0 0 [some (.ref (1000 + j0)), some (.int a1)] [] μ := by
  unfold f_js_charAt at h
  refine SW.aload_n (pc := 0) g (dt dt_J0_charAt_5068e 0 rfl) rfl ?_
  obtain ⟨r1, h2, h⟩ := bindI h
  refine SW.callT (pc := 1) g (dt dt_J0_charAt_5068e 1 rfl) (mt_f_js_isLatin1 _ _ _ _ ad ν L j0 hj0 N μ  r1 h2) me_J0_isLatin1_aae02 mv_J0_isLatin1_aae02 ml_J0_492 hj0 rfl rfl (Nat.le_of_ble_eq_true rfl) (Nat.le_of_ble_eq_true rfl) (Nat.le_of_ble_eq_true rfl) (Nat.le_of_ble_eq_true rfl) rfl ?_
  refine SW.if_eq (pc := 4) (t := 16) g (dt dt_J0_charAt_5068e 2 rfl) rfl (fun hc => ?_) (fun hc => ?_)
  · have h := iteT hc h
    refine SW.aload_n (pc := 16) g (dt dt_J0_charAt_5068e 8 rfl) rfl ?_
    refine SW.getSV (pc := 17) g (dt dt_J0_charAt_5068e 9 rfl) fj_9 hj0 ?_
    refine SW.iload_n (pc := 20) g (dt dt_J0_charAt_5068e 10 rfl) rfl ?_
    cases h
  · have h := iteF hc h
    refine SW.aload_n (pc := 7) g (dt dt_J0_charAt_5068e 3 rfl) rfl ?_
    refine SW.getSV (pc := 8) g (dt dt_J0_charAt_5068e 4 rfl) fj_9 hj0 ?_
    refine SW.iload_n (pc := 11) g (dt dt_J0_charAt_5068e 5 rfl) rfl ?_
    obtain ⟨r3, h4, h⟩ := bindI h
    refine SW.callSi (pc := 12) g (dt dt_J0_charAt_5068e 6 rfl) (mt_f_jl_charAt _ _ _ _ ad ν L j0 hj0 N μ a1 r3 h4) me_J1_charAt_3b067 ms_J1_charAt_3b067 ml_J0_495 rfl (Nat.le_of_ble_eq_true rfl) (Nat.le_of_ble_eq_true rfl) (Nat.le_of_ble_eq_true rfl) (Nat.le_of_ble_eq_true rfl) rfl ?_
    obtain ⟨hn, h⟩ := chrI h
    exact SW.nreturn (pc := 15) g (leafI h ho) rfl (Nat.le_of_ble_eq_true rfl) (Nat.le_of_ble_eq_true rfl) hn (dt dt_J0_charAt_5068e 7 rfl)
set_option maxRecDepth 100000 in
set_option maxHeartbeats 4000000 in
theorem mt_f_js_charAt (l : Launch) (D : va_G) (cI cL : ClassId) (ad : Nat → Nat) (ν : sw_N) (L : sw_L) (j0 : Nat) (hj0 : j0 < strT.length) (N : Nat) (μ : sw_M) (a1 : Int32) (o : Int32) (h : f_js_charAt N j0 μ a1 = some o) : MetR l D cI cL yJ0_charAt_5068e cJ0_charAt_5068e 2 (some .char) 4 0 0 (fun a => a = ad) ad [.ref (1000 + j0), .int a1] L μ ν (some (.int o)) L μ ν :=
  MetR.of (n := 0) rfl (Nat.le_of_ble_eq_true rfl) (fun G g ho hm _ _ => ok_f_js_charAt j0 g hm hj0 μ ho a1 h)
def f_sm_of_4 (N : Nat) (j0 : Nat) (μ : sw_M)  : Nat → Int32 → Int32 → Option (Int32)
  | 0, _, _ => none
  | n + 1, x1, x2 =>
    Option.bind (f_js_length N j0 μ ) (fun r1 =>
      if r1 ≤ x2 then
        some x1
      else
        Option.bind (f_js_charAt N j0 μ x2) (fun r3 =>
          ib ((x1 <<< ((5 : Int32) &&& 31)) ||| (r3 - 96)) (fun y5 =>
            f_sm_of_4 N j0 μ  n y5 (x2 + 1))))
def f_sm_of (N : Nat) (j0 : Nat) (μ : sw_M)  : Option (Int32) :=
  f_sm_of_4 N j0 μ  N 0 0
set_option maxRecDepth 100000 in
set_option maxHeartbeats 4000000 in
theorem ok_f_sm_of_4 {G : sw_G} {ad : Nat → Nat} {ν : sw_N} {L : sw_L} (j0 : Nat) {N : Nat} {o : Int32} (g : sw_ok G cX11_of "DeadWiresModel" (some .int) 5 0 0 ad) (hm : G.2.2.1.2.1.maxLocals = 3) (hj0 : j0 < strT.length) (μ : sw_M) (ho : sw_out G 0 0 (fun a => a = ad) (.inl (some (.int o))) L μ ν)  : ∀ (n : Nat) (x1 : Int32) (x2 : Int32) (h : f_sm_of_4 N j0 μ  n x1 x2 = some o), SW G ad L ν 0 0 4 [some (.ref (1000 + j0)), some (.int x1), some (.int x2)] [] μ := by
  intro n
  induction n with
  | zero => intro x1 x2 h; simp only [f_sm_of_4] at h; cases h
  | succ n ih =>
    intro x1 x2 h
    unfold f_sm_of_4 at h
    refine SW.iload_n (pc := 4) g (dt dt_X11_of 4 rfl) rfl ?_
    refine SW.aload_n (pc := 5) g (dt dt_X11_of 5 rfl) rfl ?_
    obtain ⟨r1, h2, h⟩ := bindI h
    refine SW.callT (pc := 6) g (dt dt_X11_of 6 rfl) (mt_f_js_length _ _ _ _ ad ν L j0 hj0 N μ  r1 h2) me_J0_length_8abf5 mv_J0_length_8abf5 ml_X11_115 hj0 rfl rfl (Nat.le_of_ble_eq_true rfl) (Nat.le_of_ble_eq_true rfl) (Nat.le_of_ble_eq_true rfl) (Nat.le_of_ble_eq_true rfl) rfl ?_
    refine SW.icmp_ge (pc := 9) (t := 31) g (dt dt_X11_of 7 rfl) rfl (fun hc => ?_) (fun hc => ?_)
    · have h := iteT hc h
      refine SW.iload_n (pc := 31) g (dt dt_X11_of 20 rfl) rfl ?_
      exact SW.ireturn (pc := 32) g (leafI h ho) rfl (Nat.le_of_ble_eq_true rfl) (Nat.le_of_ble_eq_true rfl) (dt dt_X11_of 21 rfl)
    · have h := iteF hc h
      refine SW.iload_n (pc := 12) g (dt dt_X11_of 8 rfl) rfl ?_
      refine SW.iconst (pc := 13) (v := 5) g (dt dt_X11_of 9 rfl) ki_5 ?_
      refine SW.ishl (pc := 14) g (dt dt_X11_of 10 rfl) ?_
      refine SW.aload_n (pc := 15) g (dt dt_X11_of 11 rfl) rfl ?_
      refine SW.iload_n (pc := 16) g (dt dt_X11_of 12 rfl) rfl ?_
      obtain ⟨r3, h4, h⟩ := bindI h
      refine SW.callT (pc := 17) g (dt dt_X11_of 13 rfl) (mt_f_js_charAt _ _ _ _ ad ν L j0 hj0 N μ x2 r3 h4) me_J0_charAt_5068e mv_J0_charAt_5068e ml_X11_120 hj0 rfl rfl (Nat.le_of_ble_eq_true rfl) (Nat.le_of_ble_eq_true rfl) (Nat.le_of_ble_eq_true rfl) (Nat.le_of_ble_eq_true rfl) rfl ?_
      refine SW.bipush (pc := 20) (v := 96) g (dt dt_X11_of 14 rfl) kb_96 ?_
      refine SW.isub (pc := 22) g (dt dt_X11_of 15 rfl) ?_
      refine SW.ior (pc := 23) g (dt dt_X11_of 16 rfl) ?_
      refine SW.istore_n (pc := 24) g (dt dt_X11_of 17 rfl) (sw_ltm hm (Nat.le_of_ble_eq_true rfl)) rfl ?_
      refine SW.genL h (fun y5 h => ?_)
      refine SW.iinc (pc := 25) (v := x2 + 1) g (dt dt_X11_of 18 rfl) rfl (kn_1 _) (sw_ltm hm (Nat.le_of_ble_eq_true rfl)) rfl ?_
      refine SW.goto (pc := 28) (t := 4) g (dt dt_X11_of 19 rfl) rfl ?_
      refine SW.msk [true, true, true] ?_
      exact ih  y5 (x2 + 1) h
set_option maxRecDepth 100000 in
set_option maxHeartbeats 4000000 in
theorem ok_f_sm_of {G : sw_G} {ad : Nat → Nat} {ν : sw_N} {L : sw_L} (j0 : Nat) {N : Nat} {o : Int32} (g : sw_ok G cX11_of "DeadWiresModel" (some .int) 5 0 0 ad) (hm : G.2.2.1.2.1.maxLocals = 3) (hj0 : j0 < strT.length) (μ : sw_M) (ho : sw_out G 0 0 (fun a => a = ad) (.inl (some (.int o))) L μ ν)  (h : f_sm_of N j0 μ  = some o) : SW G ad L ν 0 0 0 [some (.ref (1000 + j0)), none, none] [] μ := by
  unfold f_sm_of at h
  refine SW.iconst (pc := 0) (v := 0) g (dt dt_X11_of 0 rfl) ki_0 ?_
  refine SW.istore_n (pc := 1) g (dt dt_X11_of 1 rfl) (sw_ltm hm (Nat.le_of_ble_eq_true rfl)) rfl ?_
  refine SW.iconst (pc := 2) (v := 0) g (dt dt_X11_of 2 rfl) ki_0 ?_
  refine SW.istore_n (pc := 3) g (dt dt_X11_of 3 rfl) (sw_ltm hm (Nat.le_of_ble_eq_true rfl)) rfl ?_
  refine SW.msk [true, true, true] ?_
  exact ok_f_sm_of_4 j0 g hm hj0 μ ho   N 0 0 h
set_option maxRecDepth 100000 in
set_option maxHeartbeats 4000000 in
theorem mt_f_sm_of (l : Launch) (D : va_G) (cI cL : ClassId) (ad : Nat → Nat) (ν : sw_N) (L : sw_L) (j0 : Nat) (hj0 : j0 < strT.length) (N : Nat) (μ : sw_M)  (o : Int32) (h : f_sm_of N j0 μ  = some o) : MetR l D cI cL yX11_of cX11_of 3 (some .int) 5 0 0 (fun a => a = ad) ad [.ref (1000 + j0)] L μ ν (some (.int o)) L μ ν :=
  MetR.of (n := 2) rfl (Nat.le_of_ble_eq_true rfl) (fun G g ho hm _ _ => ok_f_sm_of j0 g hm hj0 μ ho  h)
def f_m_pass_0 (N : Nat)   : Nat → sw_M → Option (sw_M)
  | 0, _ => none
  | n + 1, μ =>
    if (μ 63 3) ≤ (μ 63 4) then
      some μ
    else
      inb (μ 63 4) 600 (
        Option.bind (f_sm_isSmall N  μ (μ 65 (μ 63 4).toNatClampNeg)) (fun r2 =>
          if r2 = 0 then
            some μ
          else
            wb (wr μ 63 4 ((μ 63 4) + 1)) (fun μ4 =>
              f_m_pass_0 N   n μ4 )))
def f_m_pass (N : Nat)  (μ : sw_M)  : Option (sw_M) := f_m_pass_0 N    N μ 
set_option maxRecDepth 100000 in
set_option maxHeartbeats 4000000 in
theorem ok_f_m_pass_0 {G : sw_G} {ad : Nat → Nat} {ν : sw_N}   {N : Nat} {o : sw_M} (g : sw_ok G cX11_pass "DeadWiresModel" none 2 0 0 ad) (hm : G.2.2.1.2.1.maxLocals = 1)  (ho : sw_out G 0 0 (fun a => a = ad) (.inl none) lay0 o ν)  : ∀ (n : Nat) (μ : sw_M)  (h : f_m_pass_0 N   n μ  = some o), SW G ad lay0 ν 0 0 0 [some (.ref 63)] [] μ := by
  intro n
  induction n with
  | zero => intro μ  h; simp only [f_m_pass_0] at h; cases h
  | succ n ih =>
    intro μ  h
    unfold f_m_pass_0 at h
    refine SW.aload_n (pc := 0) g (dt dt_X11_pass 0 rfl) rfl ?_
    refine SW.getI (pc := 1) g (dt dt_X11_pass 1 rfl) fl_X11_101 cell_63 rfl ?_
    refine SW.aload_n (pc := 4) g (dt dt_X11_pass 2 rfl) rfl ?_
    refine SW.getI (pc := 5) g (dt dt_X11_pass 3 rfl) fl_X11_104 cell_63 rfl ?_
    refine SW.icmp_ge (pc := 8) (t := 39) g (dt dt_X11_pass 4 rfl) rfl (fun hc => ?_) (fun hc => ?_)
    · have h := iteT hc h
      exact SW.vreturn (pc := 39) g (leafV h ho) rfl (Nat.le_of_ble_eq_true rfl) (Nat.le_of_ble_eq_true rfl) (dt dt_X11_pass 19 rfl)
    · have h := iteF hc h
      refine SW.aload_n (pc := 11) g (dt dt_X11_pass 5 rfl) rfl ?_
      refine SW.getR (pc := 12) g (dt dt_X11_pass 6 rfl) fl_X11_20 cell_63 rfl ?_
      refine SW.aload_n (pc := 15) g (dt dt_X11_pass 7 rfl) rfl ?_
      refine SW.getI (pc := 16) g (dt dt_X11_pass 8 rfl) fl_X11_101 cell_63 rfl ?_
      obtain ⟨hb1, h⟩ := inbI h
      refine SW.iaload (pc := 19) g (dt dt_X11_pass 9 rfl) cell_65 hb1 ?_
      obtain ⟨r2, h3, h⟩ := bindI h
      refine SW.callSi (pc := 20) g (dt dt_X11_pass 10 rfl) (mt_f_sm_isSmall _ _ _ _ ad ν lay0   N μ (μ 65 (μ 63 4).toNatClampNeg) r2 h3) me_X11_isSmall ms_X11_isSmall ml_X11_111 rfl (Nat.le_of_ble_eq_true rfl) (Nat.le_of_ble_eq_true rfl) (Nat.le_of_ble_eq_true rfl) (Nat.le_of_ble_eq_true rfl) rfl ?_
      refine SW.if_eq (pc := 23) (t := 39) g (dt dt_X11_pass 11 rfl) rfl (fun hc => ?_) (fun hc => ?_)
      · have h := iteT hc h
        exact SW.vreturn (pc := 39) g (leafV h ho) rfl (Nat.le_of_ble_eq_true rfl) (Nat.le_of_ble_eq_true rfl) (dt dt_X11_pass 19 rfl)
      · have h := iteF hc h
        refine SW.aload_n (pc := 26) g (dt dt_X11_pass 12 rfl) rfl ?_
        refine SW.dup (pc := 27) g (dt dt_X11_pass 13 rfl) rfl ?_
        refine SW.getI (pc := 28) g (dt dt_X11_pass 14 rfl) fl_X11_101 cell_63 rfl ?_
        refine SW.iconst (pc := 31) (v := 1) g (dt dt_X11_pass 15 rfl) ki_1 ?_
        refine SW.iadd (pc := 32) g (dt dt_X11_pass 16 rfl) ?_
        refine SW.putI (pc := 33) g (dt dt_X11_pass 17 rfl) fl_X11_101 cell_63 rfl ?_
        refine SW.genM h (fun μ4 h => ?_)
        refine SW.goto (pc := 36) (t := 0) g (dt dt_X11_pass 18 rfl) rfl ?_
        refine SW.msk [true] ?_
        exact ih μ4  h
set_option maxRecDepth 100000 in
set_option maxHeartbeats 4000000 in
theorem mt_f_m_pass (l : Launch) (D : va_G) (cI cL : ClassId) (ad : Nat → Nat) (ν : sw_N)    (N : Nat) (μ : sw_M)  (o : sw_M) (h : f_m_pass N  μ  = some o) : MetR l D cI cL yX11_pass cX11_pass 1 none 2 0 0 (fun a => a = ad) ad [.ref 63] lay0 μ ν none lay0 o ν :=
  MetR.of (n := 0) rfl (Nat.le_of_ble_eq_true rfl) (fun G g ho hm _ _ => SW.msk [true] (ok_f_m_pass_0  g hm  ho    N μ  h))
def f_m_readNumber_126 (N : Nat)   (μ : sw_M) (x4 : Int32) : Option (Int32 × sw_M) :=
  Option.bind (f_m_wrong N  μ 2 x4) (fun r1 =>
    some (0, r1))
def f_m_readNumber_114 (N : Nat)   (μ : sw_M) (x1 : Int32) (x2 : Int32) (x4 : Int32) (x5 : Int32) : Option (Int32 × sw_M) :=
  if x5 < x1 then
    f_m_readNumber_126 N    μ x4
  else
    if x5 ≤ x2 then
      some (x5, μ)
    else
      f_m_readNumber_126 N    μ x4
def f_m_readNumber_99 (N : Nat)  (k_41 : sw_M → Int32 → Int32 → Int32 → Int32 → Option (Int32 × sw_M)) (μ : sw_M) (x1 : Int32) (x2 : Int32) (x4 : Int32) (s0 : Int32) : Option (Int32 × sw_M) :=
  wb (wr μ 63 4 ((μ 63 4) + 1)) (fun μ1 =>
    k_41 μ1 x1 x2 x4 s0)
def f_m_readNumber_41 (N : Nat)   : Nat → sw_M → Int32 → Int32 → Int32 → Int32 → Option (Int32 × sw_M)
  | 0, _, _, _, _, _ => none
  | n + 1, μ, x1, x2, x4, x5 =>
    if (μ 63 3) ≤ (μ 63 4) then
      f_m_readNumber_114 N    μ x1 x2 x4 x5
    else
      inb (μ 63 4) 600 (
        Option.bind (f_sm_isDigit N  μ (μ 65 (μ 63 4).toNatClampNeg)) (fun r2 =>
          if r2 = 0 then
            f_m_readNumber_114 N    μ x1 x2 x4 x5
          else
            if x5 ≤ 9999 then
              inb (μ 63 4) 600 (
                f_m_readNumber_99 N  (f_m_readNumber_41 N   n)  μ x1 x2 x4 ((((10 : Int32) * x5) + (μ 65 (μ 63 4).toNatClampNeg)) - 48))
            else
              f_m_readNumber_99 N  (f_m_readNumber_41 N   n)  μ x1 x2 x4 10000))
def f_m_readNumber (N : Nat)  (μ : sw_M) (a1 : Int32) (a2 : Int32) : Option (Int32 × sw_M) :=
  Option.bind (f_m_fine N  μ ) (fun r1 =>
    if r1 = 0 then
      some (0, μ)
    else
      Option.bind (f_m_here N  μ ) (fun r3 =>
        ib (r3.2 63 4) (fun y5 =>
          Option.bind (f_sm_isDigit N  r3.2 r3.1) (fun r6 =>
            if r6 = 0 then
              Option.bind (f_m_wrong N  r3.2 1 (r3.2 63 4)) (fun r8 =>
                some (0, r8))
            else
              f_m_readNumber_41 N   N r3.2 a1 a2 y5 0))))
set_option maxRecDepth 100000 in
set_option maxHeartbeats 4000000 in
theorem ok_f_m_readNumber_126 {G : sw_G} {ad : Nat → Nat} {ν : sw_N}   {N : Nat} {o : Int32 × sw_M} (g : sw_ok G cX11_readNumber "DeadWiresModel" (some .int) 2 0 0 ad) (hm : G.2.2.1.2.1.maxLocals = 6)  (ho : sw_out G 0 0 (fun a => a = ad) (.inl (some (.int o.1))) lay0 o.2 ν)  (μ : sw_M) (x4 : Int32) (h : f_m_readNumber_126 N    μ x4 = some o) : SW G ad lay0 ν 0 0 126 [some (.ref 63), none, none, none, some (.int x4), none] [] μ := by
  unfold f_m_readNumber_126 at h
  refine SW.aload_n (pc := 126) g (dt dt_X11_readNumber 65 rfl) rfl ?_
  refine SW.iconst (pc := 127) (v := 2) g (dt dt_X11_readNumber 66 rfl) ki_2 ?_
  refine SW.iload (pc := 128) g (dt dt_X11_readNumber 67 rfl) rfl ?_
  obtain ⟨r1, h2, h⟩ := bindI h
  refine SW.callVv (pc := 130) g (dt dt_X11_readNumber 68 rfl) (mt_f_m_wrong _ _ _ _ ad ν   N μ 2 x4 r1 h2) me_X11_wrong mv_X11_wrong ml_X11_131 cell_63 rfl rfl (Nat.le_of_ble_eq_true rfl) (Nat.le_of_ble_eq_true rfl) (Nat.le_of_ble_eq_true rfl) (Nat.le_of_ble_eq_true rfl) rfl ?_
  refine SW.iconst (pc := 133) (v := 0) g (dt dt_X11_readNumber 69 rfl) ki_0 ?_
  exact SW.ireturn (pc := 134) g (leafW h ho) rfl (Nat.le_of_ble_eq_true rfl) (Nat.le_of_ble_eq_true rfl) (dt dt_X11_readNumber 70 rfl)
set_option maxRecDepth 100000 in
set_option maxHeartbeats 4000000 in
theorem ok_f_m_readNumber_114 {G : sw_G} {ad : Nat → Nat} {ν : sw_N}   {N : Nat} {o : Int32 × sw_M} (g : sw_ok G cX11_readNumber "DeadWiresModel" (some .int) 2 0 0 ad) (hm : G.2.2.1.2.1.maxLocals = 6)  (ho : sw_out G 0 0 (fun a => a = ad) (.inl (some (.int o.1))) lay0 o.2 ν)  (μ : sw_M) (x1 : Int32) (x2 : Int32) (x4 : Int32) (x5 : Int32) (h : f_m_readNumber_114 N    μ x1 x2 x4 x5 = some o) : SW G ad lay0 ν 0 0 114 [some (.ref 63), some (.int x1), some (.int x2), none, some (.int x4), some (.int x5)] [] μ := by
  unfold f_m_readNumber_114 at h
  refine SW.iload (pc := 114) g (dt dt_X11_readNumber 59 rfl) rfl ?_
  refine SW.iload_n (pc := 116) g (dt dt_X11_readNumber 60 rfl) rfl ?_
  refine SW.icmp_lt (pc := 117) (t := 126) g (dt dt_X11_readNumber 61 rfl) rfl (fun hc => ?_) (fun hc => ?_)
  · have h := iteT hc h
    refine SW.msk [true, false, false, false, true, false] ?_
    exact ok_f_m_readNumber_126  g hm  ho    μ x4 h
  · have h := iteF hc h
    refine SW.iload (pc := 120) g (dt dt_X11_readNumber 62 rfl) rfl ?_
    refine SW.iload_n (pc := 122) g (dt dt_X11_readNumber 63 rfl) rfl ?_
    refine SW.icmp_le (pc := 123) (t := 135) g (dt dt_X11_readNumber 64 rfl) rfl (fun hc => ?_) (fun hc => ?_)
    · have h := iteT hc h
      refine SW.iload (pc := 135) g (dt dt_X11_readNumber 71 rfl) rfl ?_
      exact SW.ireturn (pc := 137) g (leafW h ho) rfl (Nat.le_of_ble_eq_true rfl) (Nat.le_of_ble_eq_true rfl) (dt dt_X11_readNumber 72 rfl)
    · have h := iteF hc h
      refine SW.msk [true, false, false, false, true, false] ?_
      exact ok_f_m_readNumber_126  g hm  ho    μ x4 h
set_option maxRecDepth 100000 in
set_option maxHeartbeats 4000000 in
theorem ok_f_m_readNumber_99 {G : sw_G} {ad : Nat → Nat} {ν : sw_N}   {N : Nat} {o : Int32 × sw_M} (g : sw_ok G cX11_readNumber "DeadWiresModel" (some .int) 2 0 0 ad) (hm : G.2.2.1.2.1.maxLocals = 6)  (ho : sw_out G 0 0 (fun a => a = ad) (.inl (some (.int o.1))) lay0 o.2 ν) (k_41 : sw_M → Int32 → Int32 → Int32 → Int32 → Option (Int32 × sw_M)) (hk_41 : ∀ (μ : sw_M) (x1 : Int32) (x2 : Int32) (x4 : Int32) (x5 : Int32), k_41 μ x1 x2 x4 x5 = some o → SW G ad lay0 ν 0 0 41 [some (.ref 63), some (.int x1), some (.int x2), none, some (.int x4), some (.int x5)] [] μ) (μ : sw_M) (x1 : Int32) (x2 : Int32) (x4 : Int32) (s0 : Int32) (h : f_m_readNumber_99 N  k_41  μ x1 x2 x4 s0 = some o) : SW G ad lay0 ν 0 0 99 [some (.ref 63), some (.int x1), some (.int x2), none, some (.int x4), none] [.int s0] μ := by
  unfold f_m_readNumber_99 at h
  refine SW.istore (pc := 99) g (dt dt_X11_readNumber 51 rfl) (sw_ltm hm (Nat.le_of_ble_eq_true rfl)) rfl ?_
  refine SW.aload_n (pc := 101) g (dt dt_X11_readNumber 52 rfl) rfl ?_
  refine SW.dup (pc := 102) g (dt dt_X11_readNumber 53 rfl) rfl ?_
  refine SW.getI (pc := 103) g (dt dt_X11_readNumber 54 rfl) fl_X11_101 cell_63 rfl ?_
  refine SW.iconst (pc := 106) (v := 1) g (dt dt_X11_readNumber 55 rfl) ki_1 ?_
  refine SW.iadd (pc := 107) g (dt dt_X11_readNumber 56 rfl) ?_
  refine SW.putI (pc := 108) g (dt dt_X11_readNumber 57 rfl) fl_X11_101 cell_63 rfl ?_
  refine SW.genM h (fun μ1 h => ?_)
  refine SW.goto (pc := 111) (t := 41) g (dt dt_X11_readNumber 58 rfl) rfl ?_
  refine SW.msk [true, true, true, false, true, true] ?_
  exact hk_41 μ1 x1 x2 x4 s0 h
set_option maxRecDepth 100000 in
set_option maxHeartbeats 4000000 in
theorem ok_f_m_readNumber_41 {G : sw_G} {ad : Nat → Nat} {ν : sw_N}   {N : Nat} {o : Int32 × sw_M} (g : sw_ok G cX11_readNumber "DeadWiresModel" (some .int) 2 0 0 ad) (hm : G.2.2.1.2.1.maxLocals = 6)  (ho : sw_out G 0 0 (fun a => a = ad) (.inl (some (.int o.1))) lay0 o.2 ν)  : ∀ (n : Nat) (μ : sw_M) (x1 : Int32) (x2 : Int32) (x4 : Int32) (x5 : Int32) (h : f_m_readNumber_41 N   n μ x1 x2 x4 x5 = some o), SW G ad lay0 ν 0 0 41 [some (.ref 63), some (.int x1), some (.int x2), none, some (.int x4), some (.int x5)] [] μ := by
  intro n
  induction n with
  | zero => intro μ x1 x2 x4 x5 h; simp only [f_m_readNumber_41] at h; cases h
  | succ n ih =>
    intro μ x1 x2 x4 x5 h
    unfold f_m_readNumber_41 at h
    refine SW.aload_n (pc := 41) g (dt dt_X11_readNumber 23 rfl) rfl ?_
    refine SW.getI (pc := 42) g (dt dt_X11_readNumber 24 rfl) fl_X11_101 cell_63 rfl ?_
    refine SW.aload_n (pc := 45) g (dt dt_X11_readNumber 25 rfl) rfl ?_
    refine SW.getI (pc := 46) g (dt dt_X11_readNumber 26 rfl) fl_X11_104 cell_63 rfl ?_
    refine SW.icmp_ge (pc := 49) (t := 114) g (dt dt_X11_readNumber 27 rfl) rfl (fun hc => ?_) (fun hc => ?_)
    · have h := iteT hc h
      refine SW.msk [true, true, true, false, true, true] ?_
      exact ok_f_m_readNumber_114  g hm  ho    μ x1 x2 x4 x5 h
    · have h := iteF hc h
      refine SW.aload_n (pc := 52) g (dt dt_X11_readNumber 28 rfl) rfl ?_
      refine SW.getR (pc := 53) g (dt dt_X11_readNumber 29 rfl) fl_X11_20 cell_63 rfl ?_
      refine SW.aload_n (pc := 56) g (dt dt_X11_readNumber 30 rfl) rfl ?_
      refine SW.getI (pc := 57) g (dt dt_X11_readNumber 31 rfl) fl_X11_101 cell_63 rfl ?_
      obtain ⟨hb1, h⟩ := inbI h
      refine SW.iaload (pc := 60) g (dt dt_X11_readNumber 32 rfl) cell_65 hb1 ?_
      obtain ⟨r2, h3, h⟩ := bindI h
      refine SW.callSi (pc := 61) g (dt dt_X11_readNumber 33 rfl) (mt_f_sm_isDigit _ _ _ _ ad ν lay0   N μ (μ 65 (μ 63 4).toNatClampNeg) r2 h3) me_X11_isDigit ms_X11_isDigit ml_X11_128 rfl (Nat.le_of_ble_eq_true rfl) (Nat.le_of_ble_eq_true rfl) (Nat.le_of_ble_eq_true rfl) (Nat.le_of_ble_eq_true rfl) rfl ?_
      refine SW.if_eq (pc := 64) (t := 114) g (dt dt_X11_readNumber 34 rfl) rfl (fun hc => ?_) (fun hc => ?_)
      · have h := iteT hc h
        refine SW.msk [true, true, true, false, true, true] ?_
        exact ok_f_m_readNumber_114  g hm  ho    μ x1 x2 x4 x5 h
      · have h := iteF hc h
        refine SW.iload (pc := 67) g (dt dt_X11_readNumber 35 rfl) rfl ?_
        refine SW.sipush (pc := 69) (v := 9999) g (dt dt_X11_readNumber 36 rfl) ks_9999 ?_
        refine SW.icmp_le (pc := 72) (t := 81) g (dt dt_X11_readNumber 37 rfl) rfl (fun hc => ?_) (fun hc => ?_)
        · have h := iteT hc h
          refine SW.bipush (pc := 81) (v := 10) g (dt dt_X11_readNumber 40 rfl) kb_10 ?_
          refine SW.iload (pc := 83) g (dt dt_X11_readNumber 41 rfl) rfl ?_
          refine SW.imul (pc := 85) g (dt dt_X11_readNumber 42 rfl) ?_
          refine SW.aload_n (pc := 86) g (dt dt_X11_readNumber 43 rfl) rfl ?_
          refine SW.getR (pc := 87) g (dt dt_X11_readNumber 44 rfl) fl_X11_20 cell_63 rfl ?_
          refine SW.aload_n (pc := 90) g (dt dt_X11_readNumber 45 rfl) rfl ?_
          refine SW.getI (pc := 91) g (dt dt_X11_readNumber 46 rfl) fl_X11_101 cell_63 rfl ?_
          obtain ⟨hb4, h⟩ := inbI h
          refine SW.iaload (pc := 94) g (dt dt_X11_readNumber 47 rfl) cell_65 hb4 ?_
          refine SW.iadd (pc := 95) g (dt dt_X11_readNumber 48 rfl) ?_
          refine SW.bipush (pc := 96) (v := 48) g (dt dt_X11_readNumber 49 rfl) kb_48 ?_
          refine SW.isub (pc := 98) g (dt dt_X11_readNumber 50 rfl) ?_
          refine SW.msk [true, true, true, false, true, false] ?_
          exact ok_f_m_readNumber_99  g hm  ho (f_m_readNumber_41 N   n) ih  μ x1 x2 x4 ((((10 : Int32) * x5) + (μ 65 (μ 63 4).toNatClampNeg)) - 48) h
        · have h := iteF hc h
          refine SW.sipush (pc := 75) (v := 10000) g (dt dt_X11_readNumber 38 rfl) ks_10000 ?_
          refine SW.goto (pc := 78) (t := 99) g (dt dt_X11_readNumber 39 rfl) rfl ?_
          refine SW.msk [true, true, true, false, true, false] ?_
          exact ok_f_m_readNumber_99  g hm  ho (f_m_readNumber_41 N   n) ih  μ x1 x2 x4 10000 h
set_option maxRecDepth 100000 in
set_option maxHeartbeats 4000000 in
theorem ok_f_m_readNumber {G : sw_G} {ad : Nat → Nat} {ν : sw_N}   {N : Nat} {o : Int32 × sw_M} (g : sw_ok G cX11_readNumber "DeadWiresModel" (some .int) 2 0 0 ad) (hm : G.2.2.1.2.1.maxLocals = 6)  (μ : sw_M) (ho : sw_out G 0 0 (fun a => a = ad) (.inl (some (.int o.1))) lay0 o.2 ν) (a1 : Int32) (a2 : Int32) (h : f_m_readNumber N  μ a1 a2 = some o) : SW G ad lay0 ν 0 0 0 [some (.ref 63), some (.int a1), some (.int a2), none, none, none] [] μ := by
  unfold f_m_readNumber at h
  refine SW.aload_n (pc := 0) g (dt dt_X11_readNumber 0 rfl) rfl ?_
  obtain ⟨r1, h2, h⟩ := bindI h
  refine SW.callVi (pc := 1) g (dt dt_X11_readNumber 1 rfl) (mt_f_m_fine _ _ _ _ ad ν   N μ  r1 h2) me_X11_fine mv_X11_fine ml_X11_124 cell_63 rfl rfl (Nat.le_of_ble_eq_true rfl) (Nat.le_of_ble_eq_true rfl) (Nat.le_of_ble_eq_true rfl) (Nat.le_of_ble_eq_true rfl) rfl ?_
  refine SW.if_ne (pc := 4) (t := 9) g (dt dt_X11_readNumber 2 rfl) rfl (fun hc => ?_) (fun hc => ?_)
  · have h := iteF hc h
    refine SW.aload_n (pc := 9) g (dt dt_X11_readNumber 5 rfl) rfl ?_
    obtain ⟨r3, h4, h⟩ := bindI h
    refine SW.callVi (pc := 10) g (dt dt_X11_readNumber 6 rfl) (mt_f_m_here _ _ _ _ ad ν   N μ  r3 h4) me_X11_here mv_X11_here ml_X11_107 cell_63 rfl rfl (Nat.le_of_ble_eq_true rfl) (Nat.le_of_ble_eq_true rfl) (Nat.le_of_ble_eq_true rfl) (Nat.le_of_ble_eq_true rfl) rfl ?_
    refine SW.istore_n (pc := 13) g (dt dt_X11_readNumber 7 rfl) (sw_ltm hm (Nat.le_of_ble_eq_true rfl)) rfl ?_
    refine SW.aload_n (pc := 14) g (dt dt_X11_readNumber 8 rfl) rfl ?_
    refine SW.getI (pc := 15) g (dt dt_X11_readNumber 9 rfl) fl_X11_101 cell_63 rfl ?_
    refine SW.istore (pc := 18) g (dt dt_X11_readNumber 10 rfl) (sw_ltm hm (Nat.le_of_ble_eq_true rfl)) rfl ?_
    refine SW.genL h (fun y5 h => ?_)
    refine SW.iconst (pc := 20) (v := 0) g (dt dt_X11_readNumber 11 rfl) ki_0 ?_
    refine SW.istore (pc := 21) g (dt dt_X11_readNumber 12 rfl) (sw_ltm hm (Nat.le_of_ble_eq_true rfl)) rfl ?_
    refine SW.iload_n (pc := 23) g (dt dt_X11_readNumber 13 rfl) rfl ?_
    obtain ⟨r6, h7, h⟩ := bindI h
    refine SW.callSi (pc := 24) g (dt dt_X11_readNumber 14 rfl) (mt_f_sm_isDigit _ _ _ _ ad ν lay0   N r3.2 r3.1 r6 h7) me_X11_isDigit ms_X11_isDigit ml_X11_128 rfl (Nat.le_of_ble_eq_true rfl) (Nat.le_of_ble_eq_true rfl) (Nat.le_of_ble_eq_true rfl) (Nat.le_of_ble_eq_true rfl) rfl ?_
    refine SW.if_ne (pc := 27) (t := 41) g (dt dt_X11_readNumber 15 rfl) rfl (fun hc => ?_) (fun hc => ?_)
    · have h := iteF hc h
      refine SW.msk [true, true, true, false, true, true] ?_
      exact ok_f_m_readNumber_41  g hm  ho   N r3.2 a1 a2 y5 0 h
    · have h := iteT hc h
      refine SW.aload_n (pc := 30) g (dt dt_X11_readNumber 16 rfl) rfl ?_
      refine SW.iconst (pc := 31) (v := 1) g (dt dt_X11_readNumber 17 rfl) ki_1 ?_
      refine SW.aload_n (pc := 32) g (dt dt_X11_readNumber 18 rfl) rfl ?_
      refine SW.getI (pc := 33) g (dt dt_X11_readNumber 19 rfl) fl_X11_101 cell_63 rfl ?_
      obtain ⟨r8, h9, h⟩ := bindI h
      refine SW.callVv (pc := 36) g (dt dt_X11_readNumber 20 rfl) (mt_f_m_wrong _ _ _ _ ad ν   N r3.2 1 (r3.2 63 4) r8 h9) me_X11_wrong mv_X11_wrong ml_X11_131 cell_63 rfl rfl (Nat.le_of_ble_eq_true rfl) (Nat.le_of_ble_eq_true rfl) (Nat.le_of_ble_eq_true rfl) (Nat.le_of_ble_eq_true rfl) rfl ?_
      refine SW.iconst (pc := 39) (v := 0) g (dt dt_X11_readNumber 21 rfl) ki_0 ?_
      exact SW.ireturn (pc := 40) g (leafW h ho) rfl (Nat.le_of_ble_eq_true rfl) (Nat.le_of_ble_eq_true rfl) (dt dt_X11_readNumber 22 rfl)
  · have h := iteT hc h
    refine SW.iconst (pc := 7) (v := 0) g (dt dt_X11_readNumber 3 rfl) ki_0 ?_
    exact SW.ireturn (pc := 8) g (leafW h ho) rfl (Nat.le_of_ble_eq_true rfl) (Nat.le_of_ble_eq_true rfl) (dt dt_X11_readNumber 4 rfl)
set_option maxRecDepth 100000 in
set_option maxHeartbeats 4000000 in
theorem mt_f_m_readNumber (l : Launch) (D : va_G) (cI cL : ClassId) (ad : Nat → Nat) (ν : sw_N)    (N : Nat) (μ : sw_M) (a1 : Int32) (a2 : Int32) (o : Int32 × sw_M) (h : f_m_readNumber N  μ a1 a2 = some o) : MetR l D cI cL yX11_readNumber cX11_readNumber 6 (some .int) 2 0 0 (fun a => a = ad) ad [.ref 63, .int a1, .int a2] lay0 μ ν (some (.int o.1)) lay0 o.2 ν :=
  MetR.of (n := 3) rfl (Nat.le_of_ble_eq_true rfl) (fun G g ho hm _ _ => ok_f_m_readNumber  g hm  μ ho a1 a2 h)
def f_m_sign_24 (N : Nat)   (μ : sw_M)  : Option (sw_M) :=
  Option.bind (f_m_fine N  μ ) (fun r1 =>
    if r1 = 0 then
      some μ
    else
      wb (wr μ 63 4 ((μ 63 4) + 1)) (fun μ3 =>
        some μ3))
def f_m_sign (N : Nat)  (μ : sw_M) (a1 : Int32) : Option (sw_M) :=
  Option.bind (f_m_fine N  μ ) (fun r1 =>
    if r1 = 0 then
      f_m_sign_24 N    μ 
    else
      Option.bind (f_m_here N  μ ) (fun r3 =>
        if r3.1 = a1 then
          f_m_sign_24 N    r3.2 
        else
          Option.bind (f_m_wrong N  r3.2 1 (r3.2 63 4)) (fun r5 =>
            f_m_sign_24 N    r5 )))
set_option maxRecDepth 100000 in
set_option maxHeartbeats 4000000 in
theorem ok_f_m_sign_24 {G : sw_G} {ad : Nat → Nat} {ν : sw_N}   {N : Nat} {o : sw_M} (g : sw_ok G cX11_sign "DeadWiresModel" none 2 0 0 ad) (hm : G.2.2.1.2.1.maxLocals = 2)  (ho : sw_out G 0 0 (fun a => a = ad) (.inl none) lay0 o ν)  (μ : sw_M)  (h : f_m_sign_24 N    μ  = some o) : SW G ad lay0 ν 0 0 24 [some (.ref 63), none] [] μ := by
  unfold f_m_sign_24 at h
  refine SW.aload_n (pc := 24) g (dt dt_X11_sign 12 rfl) rfl ?_
  obtain ⟨r1, h2, h⟩ := bindI h
  refine SW.callVi (pc := 25) g (dt dt_X11_sign 13 rfl) (mt_f_m_fine _ _ _ _ ad ν   N μ  r1 h2) me_X11_fine mv_X11_fine ml_X11_124 cell_63 rfl rfl (Nat.le_of_ble_eq_true rfl) (Nat.le_of_ble_eq_true rfl) (Nat.le_of_ble_eq_true rfl) (Nat.le_of_ble_eq_true rfl) rfl ?_
  refine SW.if_eq (pc := 28) (t := 41) g (dt dt_X11_sign 14 rfl) rfl (fun hc => ?_) (fun hc => ?_)
  · have h := iteT hc h
    exact SW.vreturn (pc := 41) g (leafV h ho) rfl (Nat.le_of_ble_eq_true rfl) (Nat.le_of_ble_eq_true rfl) (dt dt_X11_sign 21 rfl)
  · have h := iteF hc h
    refine SW.aload_n (pc := 31) g (dt dt_X11_sign 15 rfl) rfl ?_
    refine SW.dup (pc := 32) g (dt dt_X11_sign 16 rfl) rfl ?_
    refine SW.getI (pc := 33) g (dt dt_X11_sign 17 rfl) fl_X11_101 cell_63 rfl ?_
    refine SW.iconst (pc := 36) (v := 1) g (dt dt_X11_sign 18 rfl) ki_1 ?_
    refine SW.iadd (pc := 37) g (dt dt_X11_sign 19 rfl) ?_
    refine SW.putI (pc := 38) g (dt dt_X11_sign 20 rfl) fl_X11_101 cell_63 rfl ?_
    refine SW.genM h (fun μ3 h => ?_)
    exact SW.vreturn (pc := 41) g (leafV h ho) rfl (Nat.le_of_ble_eq_true rfl) (Nat.le_of_ble_eq_true rfl) (dt dt_X11_sign 21 rfl)
set_option maxRecDepth 100000 in
set_option maxHeartbeats 4000000 in
theorem ok_f_m_sign {G : sw_G} {ad : Nat → Nat} {ν : sw_N}   {N : Nat} {o : sw_M} (g : sw_ok G cX11_sign "DeadWiresModel" none 2 0 0 ad) (hm : G.2.2.1.2.1.maxLocals = 2)  (μ : sw_M) (ho : sw_out G 0 0 (fun a => a = ad) (.inl none) lay0 o ν) (a1 : Int32) (h : f_m_sign N  μ a1 = some o) : SW G ad lay0 ν 0 0 0 [some (.ref 63), some (.int a1)] [] μ := by
  unfold f_m_sign at h
  refine SW.aload_n (pc := 0) g (dt dt_X11_sign 0 rfl) rfl ?_
  obtain ⟨r1, h2, h⟩ := bindI h
  refine SW.callVi (pc := 1) g (dt dt_X11_sign 1 rfl) (mt_f_m_fine _ _ _ _ ad ν   N μ  r1 h2) me_X11_fine mv_X11_fine ml_X11_124 cell_63 rfl rfl (Nat.le_of_ble_eq_true rfl) (Nat.le_of_ble_eq_true rfl) (Nat.le_of_ble_eq_true rfl) (Nat.le_of_ble_eq_true rfl) rfl ?_
  refine SW.if_eq (pc := 4) (t := 24) g (dt dt_X11_sign 2 rfl) rfl (fun hc => ?_) (fun hc => ?_)
  · have h := iteT hc h
    refine SW.msk [true, false] ?_
    exact ok_f_m_sign_24  g hm  ho    μ  h
  · have h := iteF hc h
    refine SW.aload_n (pc := 7) g (dt dt_X11_sign 3 rfl) rfl ?_
    obtain ⟨r3, h4, h⟩ := bindI h
    refine SW.callVi (pc := 8) g (dt dt_X11_sign 4 rfl) (mt_f_m_here _ _ _ _ ad ν   N μ  r3 h4) me_X11_here mv_X11_here ml_X11_107 cell_63 rfl rfl (Nat.le_of_ble_eq_true rfl) (Nat.le_of_ble_eq_true rfl) (Nat.le_of_ble_eq_true rfl) (Nat.le_of_ble_eq_true rfl) rfl ?_
    refine SW.iload_n (pc := 11) g (dt dt_X11_sign 5 rfl) rfl ?_
    refine SW.icmp_eq (pc := 12) (t := 24) g (dt dt_X11_sign 6 rfl) rfl (fun hc => ?_) (fun hc => ?_)
    · have h := iteT hc h
      refine SW.msk [true, false] ?_
      exact ok_f_m_sign_24  g hm  ho    r3.2  h
    · have h := iteF hc h
      refine SW.aload_n (pc := 15) g (dt dt_X11_sign 7 rfl) rfl ?_
      refine SW.iconst (pc := 16) (v := 1) g (dt dt_X11_sign 8 rfl) ki_1 ?_
      refine SW.aload_n (pc := 17) g (dt dt_X11_sign 9 rfl) rfl ?_
      refine SW.getI (pc := 18) g (dt dt_X11_sign 10 rfl) fl_X11_101 cell_63 rfl ?_
      obtain ⟨r5, h6, h⟩ := bindI h
      refine SW.callVv (pc := 21) g (dt dt_X11_sign 11 rfl) (mt_f_m_wrong _ _ _ _ ad ν   N r3.2 1 (r3.2 63 4) r5 h6) me_X11_wrong mv_X11_wrong ml_X11_131 cell_63 rfl rfl (Nat.le_of_ble_eq_true rfl) (Nat.le_of_ble_eq_true rfl) (Nat.le_of_ble_eq_true rfl) (Nat.le_of_ble_eq_true rfl) rfl ?_
      refine SW.msk [true, false] ?_
      exact ok_f_m_sign_24  g hm  ho    r5  h
set_option maxRecDepth 100000 in
set_option maxHeartbeats 4000000 in
theorem mt_f_m_sign (l : Launch) (D : va_G) (cI cL : ClassId) (ad : Nat → Nat) (ν : sw_N)    (N : Nat) (μ : sw_M) (a1 : Int32) (o : sw_M) (h : f_m_sign N  μ a1 = some o) : MetR l D cI cL yX11_sign cX11_sign 2 none 2 0 0 (fun a => a = ad) ad [.ref 63, .int a1] lay0 μ ν none lay0 o ν :=
  MetR.of (n := 0) rfl (Nat.le_of_ble_eq_true rfl) (fun G g ho hm _ _ => ok_f_m_sign  g hm  μ ho a1 h)
def f_m_isMore (N : Nat)  (μ : sw_M)  : Option (Int32 × sw_M) :=
  Option.bind (f_m_here N  μ ) (fun r1 =>
    if (r1.2 63 3) ≤ (r1.2 63 4) then
      some (0, r1.2)
    else
      some (1, r1.2))
set_option maxRecDepth 100000 in
set_option maxHeartbeats 4000000 in
theorem ok_f_m_isMore {G : sw_G} {ad : Nat → Nat} {ν : sw_N}   {N : Nat} {o : Int32 × sw_M} (g : sw_ok G cX11_isMore "DeadWiresModel" (some .boolean) 2 0 0 ad) (hm : G.2.2.1.2.1.maxLocals = 1)  (μ : sw_M) (ho : sw_out G 0 0 (fun a => a = ad) (.inl (some (.int o.1))) lay0 o.2 ν)  (h : f_m_isMore N  μ  = some o) : SW G ad lay0 ν 0 0 0 [some (.ref 63)] [] μ := by
  unfold f_m_isMore at h
  refine SW.aload_n (pc := 0) g (dt dt_X11_isMore 0 rfl) rfl ?_
  obtain ⟨r1, h2, h⟩ := bindI h
  refine SW.callVi (pc := 1) g (dt dt_X11_isMore 1 rfl) (mt_f_m_here _ _ _ _ ad ν   N μ  r1 h2) me_X11_here mv_X11_here ml_X11_107 cell_63 rfl rfl (Nat.le_of_ble_eq_true rfl) (Nat.le_of_ble_eq_true rfl) (Nat.le_of_ble_eq_true rfl) (Nat.le_of_ble_eq_true rfl) rfl ?_
  refine SW.pop (pc := 4) g (dt dt_X11_isMore 2 rfl) rfl ?_
  refine SW.aload_n (pc := 5) g (dt dt_X11_isMore 3 rfl) rfl ?_
  refine SW.getI (pc := 6) g (dt dt_X11_isMore 4 rfl) fl_X11_101 cell_63 rfl ?_
  refine SW.aload_n (pc := 9) g (dt dt_X11_isMore 5 rfl) rfl ?_
  refine SW.getI (pc := 10) g (dt dt_X11_isMore 6 rfl) fl_X11_104 cell_63 rfl ?_
  refine SW.icmp_ge (pc := 13) (t := 20) g (dt dt_X11_isMore 7 rfl) rfl (fun hc => ?_) (fun hc => ?_)
  · have h := iteT hc h
    refine SW.iconst (pc := 20) (v := 0) g (dt dt_X11_isMore 10 rfl) ki_0 ?_
    exact SW.zreturn (pc := 21) g (leafW h ho) rfl (Nat.le_of_ble_eq_true rfl) (Nat.le_of_ble_eq_true rfl) (by decide) (dt dt_X11_isMore 11 rfl)
  · have h := iteF hc h
    refine SW.iconst (pc := 16) (v := 1) g (dt dt_X11_isMore 8 rfl) ki_1 ?_
    refine SW.goto (pc := 17) (t := 21) g (dt dt_X11_isMore 9 rfl) rfl ?_
    exact SW.zreturn (pc := 21) g (leafW h ho) rfl (Nat.le_of_ble_eq_true rfl) (Nat.le_of_ble_eq_true rfl) (by decide) (dt dt_X11_isMore 11 rfl)
set_option maxRecDepth 100000 in
set_option maxHeartbeats 4000000 in
theorem mt_f_m_isMore (l : Launch) (D : va_G) (cI cL : ClassId) (ad : Nat → Nat) (ν : sw_N)    (N : Nat) (μ : sw_M)  (o : Int32 × sw_M) (h : f_m_isMore N  μ  = some o) : MetR l D cI cL yX11_isMore cX11_isMore 1 (some .boolean) 2 0 0 (fun a => a = ad) ad [.ref 63] lay0 μ ν (some (.int o.1)) lay0 o.2 ν :=
  MetR.of (n := 0) rfl (Nat.le_of_ble_eq_true rfl) (fun G g ho hm _ _ => ok_f_m_isMore  g hm  μ ho  h)
def f_m_begins (N : Nat)  (μ : sw_M) (a1 : Int32) : Option (sw_M) :=
  wb (wr μ 63 2 0) (fun μ1 =>
    wb (wr μ1 63 8 (-1)) (fun μ2 =>
      wb (wr μ2 63 3 a1) (fun μ3 =>
        wb (wr μ3 63 4 0) (fun μ4 =>
          wb (wr μ4 63 5 (-1)) (fun μ5 =>
            wb (wr μ5 63 7 0) (fun μ6 =>
              some μ6))))))
set_option maxRecDepth 100000 in
set_option maxHeartbeats 4000000 in
theorem ok_f_m_begins {G : sw_G} {ad : Nat → Nat} {ν : sw_N}   {N : Nat} {o : sw_M} (g : sw_ok G cX11_begins "DeadWiresModel" none 1 0 0 ad) (hm : G.2.2.1.2.1.maxLocals = 2)  (μ : sw_M) (ho : sw_out G 0 0 (fun a => a = ad) (.inl none) lay0 o ν) (a1 : Int32) (h : f_m_begins N  μ a1 = some o) : SW G ad lay0 ν 0 0 0 [some (.ref 63), some (.int a1)] [] μ := by
  unfold f_m_begins at h
  refine SW.aload_n (pc := 0) g (dt dt_X11_begins 0 rfl) rfl ?_
  refine SW.iconst (pc := 1) (v := 0) g (dt dt_X11_begins 1 rfl) ki_0 ?_
  refine SW.putI (pc := 2) g (dt dt_X11_begins 2 rfl) fl_X11_92 cell_63 rfl ?_
  refine SW.genM h (fun μ1 h => ?_)
  refine SW.aload_n (pc := 5) g (dt dt_X11_begins 3 rfl) rfl ?_
  refine SW.iconst (pc := 6) (v := (-1)) g (dt dt_X11_begins 4 rfl) ki_m1 ?_
  refine SW.putI (pc := 7) g (dt dt_X11_begins 5 rfl) fl_X11_17 cell_63 rfl ?_
  refine SW.genM h (fun μ2 h => ?_)
  refine SW.aload_n (pc := 10) g (dt dt_X11_begins 6 rfl) rfl ?_
  refine SW.iload_n (pc := 11) g (dt dt_X11_begins 7 rfl) rfl ?_
  refine SW.putI (pc := 12) g (dt dt_X11_begins 8 rfl) fl_X11_104 cell_63 rfl ?_
  refine SW.genM h (fun μ3 h => ?_)
  refine SW.aload_n (pc := 15) g (dt dt_X11_begins 9 rfl) rfl ?_
  refine SW.iconst (pc := 16) (v := 0) g (dt dt_X11_begins 10 rfl) ki_0 ?_
  refine SW.putI (pc := 17) g (dt dt_X11_begins 11 rfl) fl_X11_101 cell_63 rfl ?_
  refine SW.genM h (fun μ4 h => ?_)
  refine SW.aload_n (pc := 20) g (dt dt_X11_begins 12 rfl) rfl ?_
  refine SW.iconst (pc := 21) (v := (-1)) g (dt dt_X11_begins 13 rfl) ki_m1 ?_
  refine SW.putI (pc := 22) g (dt dt_X11_begins 14 rfl) fl_X11_95 cell_63 rfl ?_
  refine SW.genM h (fun μ5 h => ?_)
  refine SW.aload_n (pc := 25) g (dt dt_X11_begins 15 rfl) rfl ?_
  refine SW.iconst (pc := 26) (v := 0) g (dt dt_X11_begins 16 rfl) ki_0 ?_
  refine SW.putI (pc := 27) g (dt dt_X11_begins 17 rfl) fl_X11_135 cell_63 rfl ?_
  refine SW.genM h (fun μ6 h => ?_)
  exact SW.vreturn (pc := 30) g (leafV h ho) rfl (Nat.le_of_ble_eq_true rfl) (Nat.le_of_ble_eq_true rfl) (dt dt_X11_begins 18 rfl)
set_option maxRecDepth 100000 in
set_option maxHeartbeats 4000000 in
theorem mt_f_m_begins (l : Launch) (D : va_G) (cI cL : ClassId) (ad : Nat → Nat) (ν : sw_N)    (N : Nat) (μ : sw_M) (a1 : Int32) (o : sw_M) (h : f_m_begins N  μ a1 = some o) : MetR l D cI cL yX11_begins cX11_begins 2 none 1 0 0 (fun a => a = ad) ad [.ref 63, .int a1] lay0 μ ν none lay0 o ν :=
  MetR.of (n := 0) rfl (Nat.le_of_ble_eq_true rfl) (fun G g ho hm _ _ => ok_f_m_begins  g hm  μ ho a1 h)
def f_m_result (N : Nat)  (μ : sw_M) (a1 : Int32) : Option (Int32 × sw_M) :=
  wb (wr μ 63 8 (μ 63 5)) (fun μ1 =>
    Option.bind (f_m_fine N  μ1 ) (fun r2 =>
      if r2 = 0 then
        some ((μ1 63 6) - 10, μ1)
      else
        some (a1, μ1)))
set_option maxRecDepth 100000 in
set_option maxHeartbeats 4000000 in
theorem ok_f_m_result {G : sw_G} {ad : Nat → Nat} {ν : sw_N}   {N : Nat} {o : Int32 × sw_M} (g : sw_ok G cX11_result "DeadWiresModel" (some .int) 2 0 0 ad) (hm : G.2.2.1.2.1.maxLocals = 2)  (μ : sw_M) (ho : sw_out G 0 0 (fun a => a = ad) (.inl (some (.int o.1))) lay0 o.2 ν) (a1 : Int32) (h : f_m_result N  μ a1 = some o) : SW G ad lay0 ν 0 0 0 [some (.ref 63), some (.int a1)] [] μ := by
  unfold f_m_result at h
  refine SW.aload_n (pc := 0) g (dt dt_X11_result 0 rfl) rfl ?_
  refine SW.aload_n (pc := 1) g (dt dt_X11_result 1 rfl) rfl ?_
  refine SW.getI (pc := 2) g (dt dt_X11_result 2 rfl) fl_X11_95 cell_63 rfl ?_
  refine SW.putI (pc := 5) g (dt dt_X11_result 3 rfl) fl_X11_17 cell_63 rfl ?_
  refine SW.genM h (fun μ1 h => ?_)
  refine SW.aload_n (pc := 8) g (dt dt_X11_result 4 rfl) rfl ?_
  obtain ⟨r2, h3, h⟩ := bindI h
  refine SW.callVi (pc := 9) g (dt dt_X11_result 5 rfl) (mt_f_m_fine _ _ _ _ ad ν   N μ1  r2 h3) me_X11_fine mv_X11_fine ml_X11_124 cell_63 rfl rfl (Nat.le_of_ble_eq_true rfl) (Nat.le_of_ble_eq_true rfl) (Nat.le_of_ble_eq_true rfl) (Nat.le_of_ble_eq_true rfl) rfl ?_
  refine SW.if_eq (pc := 12) (t := 19) g (dt dt_X11_result 6 rfl) rfl (fun hc => ?_) (fun hc => ?_)
  · have h := iteT hc h
    refine SW.aload_n (pc := 19) g (dt dt_X11_result 9 rfl) rfl ?_
    refine SW.getI (pc := 20) g (dt dt_X11_result 10 rfl) fl_X11_98 cell_63 rfl ?_
    refine SW.bipush (pc := 23) (v := 10) g (dt dt_X11_result 11 rfl) kb_10 ?_
    refine SW.isub (pc := 25) g (dt dt_X11_result 12 rfl) ?_
    exact SW.ireturn (pc := 26) g (leafW h ho) rfl (Nat.le_of_ble_eq_true rfl) (Nat.le_of_ble_eq_true rfl) (dt dt_X11_result 13 rfl)
  · have h := iteF hc h
    refine SW.iload_n (pc := 15) g (dt dt_X11_result 7 rfl) rfl ?_
    refine SW.goto (pc := 16) (t := 26) g (dt dt_X11_result 8 rfl) rfl ?_
    exact SW.ireturn (pc := 26) g (leafW h ho) rfl (Nat.le_of_ble_eq_true rfl) (Nat.le_of_ble_eq_true rfl) (dt dt_X11_result 13 rfl)
set_option maxRecDepth 100000 in
set_option maxHeartbeats 4000000 in
theorem mt_f_m_result (l : Launch) (D : va_G) (cI cL : ClassId) (ad : Nat → Nat) (ν : sw_N)    (N : Nat) (μ : sw_M) (a1 : Int32) (o : Int32 × sw_M) (h : f_m_result N  μ a1 = some o) : MetR l D cI cL yX11_result cX11_result 2 (some .int) 2 0 0 (fun a => a = ad) ad [.ref 63, .int a1] lay0 μ ν (some (.int o.1)) lay0 o.2 ν :=
  MetR.of (n := 0) rfl (Nat.le_of_ble_eq_true rfl) (fun G g ho hm _ _ => ok_f_m_result  g hm  μ ho a1 h)
def f_m_fault (N : Nat)  (μ : sw_M)  : Option (Int32 × sw_M) :=
  wb (wr μ 63 0 0) (fun μ1 =>
    some (μ1 63 8, μ1))
set_option maxRecDepth 100000 in
set_option maxHeartbeats 4000000 in
theorem ok_f_m_fault {G : sw_G} {ad : Nat → Nat} {ν : sw_N}   {N : Nat} {o : Int32 × sw_M} (g : sw_ok G cX11_fault "DeadWiresModel" (some .int) 1 0 0 ad) (hm : G.2.2.1.2.1.maxLocals = 1)  (μ : sw_M) (ho : sw_out G 0 0 (fun a => a = ad) (.inl (some (.int o.1))) lay0 o.2 ν)  (h : f_m_fault N  μ  = some o) : SW G ad lay0 ν 0 0 0 [some (.ref 63)] [] μ := by
  unfold f_m_fault at h
  refine SW.aload_n (pc := 0) g (dt dt_X11_fault 0 rfl) rfl ?_
  refine SW.iconst (pc := 1) (v := 0) g (dt dt_X11_fault 1 rfl) ki_0 ?_
  refine SW.putI (pc := 2) g (dt dt_X11_fault 2 rfl) fl_X11_3 cell_63 rfl ?_
  refine SW.genM h (fun μ1 h => ?_)
  refine SW.aload_n (pc := 5) g (dt dt_X11_fault 3 rfl) rfl ?_
  refine SW.getI (pc := 6) g (dt dt_X11_fault 4 rfl) fl_X11_17 cell_63 rfl ?_
  exact SW.ireturn (pc := 9) g (leafW h ho) rfl (Nat.le_of_ble_eq_true rfl) (Nat.le_of_ble_eq_true rfl) (dt dt_X11_fault 5 rfl)
set_option maxRecDepth 100000 in
set_option maxHeartbeats 4000000 in
theorem mt_f_m_fault (l : Launch) (D : va_G) (cI cL : ClassId) (ad : Nat → Nat) (ν : sw_N)    (N : Nat) (μ : sw_M)  (o : Int32 × sw_M) (h : f_m_fault N  μ  = some o) : MetR l D cI cL yX11_fault cX11_fault 1 (some .int) 1 0 0 (fun a => a = ad) ad [.ref 63] lay0 μ ν (some (.int o.1)) lay0 o.2 ν :=
  MetR.of (n := 0) rfl (Nat.le_of_ble_eq_true rfl) (fun G g ho hm _ _ => ok_f_m_fault  g hm  μ ho  h)
def f_m_copies_3 (N : Nat) (k0 n0 : Nat) (k1 n1 : Nat)  : Nat → sw_M → Int32 → Int32 → Option (sw_M)
  | 0, _, _, _ => none
  | n + 1, μ, x3, x4 =>
    if x3 ≤ x4 then
      some μ
    else
      inb x4 n0 (
        inb x4 n1 (wb (wr μ k1 x4.toNatClampNeg (μ k0 x4.toNatClampNeg)) (fun μ3 =>
          f_m_copies_3 N k0 n0 k1 n1  n μ3 x3 (x4 + 1))))
def f_m_copies (N : Nat) (k0 n0 : Nat) (k1 n1 : Nat) (μ : sw_M) (a3 : Int32) : Option (sw_M) :=
  f_m_copies_3 N k0 n0 k1 n1  N μ a3 0
set_option maxRecDepth 100000 in
set_option maxHeartbeats 4000000 in
theorem ok_f_m_copies_3 {G : sw_G} {ad : Nat → Nat} {ν : sw_N}  (k0 n0 : Nat) (k1 n1 : Nat) {N : Nat} {o : sw_M} (g : sw_ok G cX11_copies "DeadWiresModel" none 1 0 0 ad) (hm : G.2.2.1.2.1.maxLocals = 5) (hk0 : lay0[k0]? = some (.inl (false, n0))) (hk1 : lay0[k1]? = some (.inl (false, n1))) (ho : sw_out G 0 0 (fun a => a = ad) (.inl none) lay0 o ν)  : ∀ (n : Nat) (μ : sw_M) (x3 : Int32) (x4 : Int32) (h : f_m_copies_3 N k0 n0 k1 n1  n μ x3 x4 = some o), SW G ad lay0 ν 0 0 3 [none, some (.ref k0), some (.ref k1), some (.int x3), some (.int x4)] [] μ := by
  intro n
  induction n with
  | zero => intro μ x3 x4 h; simp only [f_m_copies_3] at h; cases h
  | succ n ih =>
    intro μ x3 x4 h
    unfold f_m_copies_3 at h
    refine SW.iload (pc := 3) g (dt dt_X11_copies 2 rfl) rfl ?_
    refine SW.iload_n (pc := 5) g (dt dt_X11_copies 3 rfl) rfl ?_
    refine SW.icmp_ge (pc := 6) (t := 23) g (dt dt_X11_copies 4 rfl) rfl (fun hc => ?_) (fun hc => ?_)
    · have h := iteT hc h
      exact SW.vreturn (pc := 23) g (leafV h ho) rfl (Nat.le_of_ble_eq_true rfl) (Nat.le_of_ble_eq_true rfl) (dt dt_X11_copies 13 rfl)
    · have h := iteF hc h
      refine SW.aload_n (pc := 9) g (dt dt_X11_copies 5 rfl) rfl ?_
      refine SW.iload (pc := 10) g (dt dt_X11_copies 6 rfl) rfl ?_
      refine SW.aload_n (pc := 12) g (dt dt_X11_copies 7 rfl) rfl ?_
      refine SW.iload (pc := 13) g (dt dt_X11_copies 8 rfl) rfl ?_
      obtain ⟨hb1, h⟩ := inbI h
      refine SW.iaload (pc := 15) g (dt dt_X11_copies 9 rfl) hk0 hb1 ?_
      obtain ⟨hb2, h⟩ := inbI h
      refine SW.iastore (pc := 16) g (dt dt_X11_copies 10 rfl) hk1 hb2 ?_
      refine SW.genM h (fun μ3 h => ?_)
      refine SW.iinc (pc := 17) (v := x4 + 1) g (dt dt_X11_copies 11 rfl) rfl (kn_1 _) (sw_ltm hm (Nat.le_of_ble_eq_true rfl)) rfl ?_
      refine SW.goto (pc := 20) (t := 3) g (dt dt_X11_copies 12 rfl) rfl ?_
      refine SW.msk [false, true, true, true, true] ?_
      exact ih μ3 x3 (x4 + 1) h
set_option maxRecDepth 100000 in
set_option maxHeartbeats 4000000 in
theorem ok_f_m_copies {G : sw_G} {ad : Nat → Nat} {ν : sw_N}  (k0 n0 : Nat) (k1 n1 : Nat) {N : Nat} {o : sw_M} (g : sw_ok G cX11_copies "DeadWiresModel" none 1 0 0 ad) (hm : G.2.2.1.2.1.maxLocals = 5) (hk0 : lay0[k0]? = some (.inl (false, n0))) (hk1 : lay0[k1]? = some (.inl (false, n1))) (μ : sw_M) (ho : sw_out G 0 0 (fun a => a = ad) (.inl none) lay0 o ν) (a3 : Int32) (h : f_m_copies N k0 n0 k1 n1 μ a3 = some o) : SW G ad lay0 ν 0 0 0 [some (.ref 63), some (.ref k0), some (.ref k1), some (.int a3), none] [] μ := by
  unfold f_m_copies at h
  refine SW.iconst (pc := 0) (v := 0) g (dt dt_X11_copies 0 rfl) ki_0 ?_
  refine SW.istore (pc := 1) g (dt dt_X11_copies 1 rfl) (sw_ltm hm (Nat.le_of_ble_eq_true rfl)) rfl ?_
  refine SW.msk [false, true, true, true, true] ?_
  exact ok_f_m_copies_3 k0 n0 k1 n1 g hm hk0 hk1 ho   N μ a3 0 h
set_option maxRecDepth 100000 in
set_option maxHeartbeats 4000000 in
theorem mt_f_m_copies (l : Launch) (D : va_G) (cI cL : ClassId) (ad : Nat → Nat) (ν : sw_N)  (k0 n0 : Nat) (k1 n1 : Nat) (hk0 : lay0[k0]? = some (.inl (false, n0))) (hk1 : lay0[k1]? = some (.inl (false, n1))) (N : Nat) (μ : sw_M) (a3 : Int32) (o : sw_M) (h : f_m_copies N k0 n0 k1 n1 μ a3 = some o) : MetR l D cI cL yX11_copies cX11_copies 5 none 1 0 0 (fun a => a = ad) ad [.ref 63, .ref k0, .ref k1, .int a3] lay0 μ ν none lay0 o ν :=
  MetR.of (n := 1) rfl (Nat.le_of_ble_eq_true rfl) (fun G g ho hm _ _ => ok_f_m_copies k0 n0 k1 n1 g hm hk0 hk1 μ ho a3 h)
def f_m_clears (N : Nat)  (μ : sw_M)  : Option (sw_M) :=
  wb (wr μ 63 16 0) (fun μ1 =>
    wb (wr μ1 63 17 0) (fun μ2 =>
      wb (wr μ2 63 18 0) (fun μ3 =>
        wb (wr μ3 63 19 0) (fun μ4 =>
          wb (wr μ4 63 20 2) (fun μ5 =>
            some μ5)))))
set_option maxRecDepth 100000 in
set_option maxHeartbeats 4000000 in
theorem ok_f_m_clears {G : sw_G} {ad : Nat → Nat} {ν : sw_N}   {N : Nat} {o : sw_M} (g : sw_ok G cX11_clears "DeadWiresModel" none 1 0 0 ad) (hm : G.2.2.1.2.1.maxLocals = 1)  (μ : sw_M) (ho : sw_out G 0 0 (fun a => a = ad) (.inl none) lay0 o ν)  (h : f_m_clears N  μ  = some o) : SW G ad lay0 ν 0 0 0 [some (.ref 63)] [] μ := by
  unfold f_m_clears at h
  refine SW.aload_n (pc := 0) g (dt dt_X11_clears 0 rfl) rfl ?_
  refine SW.iconst (pc := 1) (v := 0) g (dt dt_X11_clears 1 rfl) ki_0 ?_
  refine SW.putI (pc := 2) g (dt dt_X11_clears 2 rfl) fl_X11_138 cell_63 rfl ?_
  refine SW.genM h (fun μ1 h => ?_)
  refine SW.aload_n (pc := 5) g (dt dt_X11_clears 3 rfl) rfl ?_
  refine SW.iconst (pc := 6) (v := 0) g (dt dt_X11_clears 4 rfl) ki_0 ?_
  refine SW.putI (pc := 7) g (dt dt_X11_clears 5 rfl) fl_X11_141 cell_63 rfl ?_
  refine SW.genM h (fun μ2 h => ?_)
  refine SW.aload_n (pc := 10) g (dt dt_X11_clears 6 rfl) rfl ?_
  refine SW.iconst (pc := 11) (v := 0) g (dt dt_X11_clears 7 rfl) ki_0 ?_
  refine SW.putI (pc := 12) g (dt dt_X11_clears 8 rfl) fl_X11_144 cell_63 rfl ?_
  refine SW.genM h (fun μ3 h => ?_)
  refine SW.aload_n (pc := 15) g (dt dt_X11_clears 9 rfl) rfl ?_
  refine SW.iconst (pc := 16) (v := 0) g (dt dt_X11_clears 10 rfl) ki_0 ?_
  refine SW.putI (pc := 17) g (dt dt_X11_clears 11 rfl) fl_X11_147 cell_63 rfl ?_
  refine SW.genM h (fun μ4 h => ?_)
  refine SW.aload_n (pc := 20) g (dt dt_X11_clears 12 rfl) rfl ?_
  refine SW.iconst (pc := 21) (v := 2) g (dt dt_X11_clears 13 rfl) ki_2 ?_
  refine SW.putI (pc := 22) g (dt dt_X11_clears 14 rfl) fl_X11_150 cell_63 rfl ?_
  refine SW.genM h (fun μ5 h => ?_)
  exact SW.vreturn (pc := 25) g (leafV h ho) rfl (Nat.le_of_ble_eq_true rfl) (Nat.le_of_ble_eq_true rfl) (dt dt_X11_clears 15 rfl)
set_option maxRecDepth 100000 in
set_option maxHeartbeats 4000000 in
theorem mt_f_m_clears (l : Launch) (D : va_G) (cI cL : ClassId) (ad : Nat → Nat) (ν : sw_N)    (N : Nat) (μ : sw_M)  (o : sw_M) (h : f_m_clears N  μ  = some o) : MetR l D cI cL yX11_clears cX11_clears 1 none 1 0 0 (fun a => a = ad) ad [.ref 63] lay0 μ ν none lay0 o ν :=
  MetR.of (n := 0) rfl (Nat.le_of_ble_eq_true rfl) (fun G g ho hm _ _ => ok_f_m_clears  g hm  μ ho  h)
def f_m_sets_234 (N : Nat)   : Nat → sw_M → Int32 → Option (sw_M)
  | 0, _, _ => none
  | n + 1, μ, x1 =>
    if (μ 63 24) ≤ x1 then
      inb 46 49 (wb (wr μ 80 (46 : Int32).toNatClampNeg (μ 63 20)) (fun μ2 =>
        some μ2))
    else
      inb ((2 : Int32) * x1) 10 (
        inb ((36 : Int32) + x1) 49 (wb (wr μ 80 ((36 : Int32) + x1).toNatClampNeg (μ 71 ((2 : Int32) * x1).toNatClampNeg)) (fun μ5 =>
          f_m_sets_234 N   n μ5 (x1 + 1))))
def f_m_sets_210 (N : Nat)   : Nat → sw_M → Int32 → Option (sw_M)
  | 0, _, _ => none
  | n + 1, μ, x1 =>
    if 6 ≤ x1 then
      f_m_sets_234 N   N μ 0
    else
      inb ((30 : Int32) + x1) 49 (wb (wr μ 80 ((30 : Int32) + x1).toNatClampNeg (-1)) (fun μ2 =>
        f_m_sets_210 N   n μ2 (x1 + 1)))
def f_m_sets_177 (N : Nat)   : Nat → sw_M → Int32 → Option (sw_M)
  | 0, _, _ => none
  | n + 1, μ, x1 =>
    if (μ 63 23) ≤ x1 then
      f_m_sets_210 N   N μ 0
    else
      inb ((2 : Int32) * x1) 12 (
        inb ((24 : Int32) + x1) 49 (wb (wr μ 80 ((24 : Int32) + x1).toNatClampNeg (μ 70 ((2 : Int32) * x1).toNatClampNeg)) (fun μ3 =>
          f_m_sets_177 N   n μ3 (x1 + 1))))
def f_m_sets_143 (N : Nat)   : Nat → sw_M → Int32 → Option (sw_M)
  | 0, _, _ => none
  | n + 1, μ, x1 =>
    if (μ 63 22) ≤ x1 then
      f_m_sets_177 N   N μ 0
    else
      inb (((3 : Int32) * x1) + 2) 36 (
        inb ((0 : Int32) + x1) 49 (wb (wr μ 80 ((0 : Int32) + x1).toNatClampNeg (μ 69 (((3 : Int32) * x1) + 2).toNatClampNeg)) (fun μ3 =>
          f_m_sets_143 N   n μ3 (x1 + 1))))
def f_m_sets_122 (N : Nat)   : Nat → sw_M → Int32 → Option (sw_M)
  | 0, _, _ => none
  | n + 1, μ, x1 =>
    if 49 ≤ x1 then
      f_m_sets_143 N   N μ 0
    else
      inb x1 49 (wb (wr μ 80 x1.toNatClampNeg 0) (fun μ2 =>
        f_m_sets_122 N   n μ2 (x1 + 1)))
def f_m_sets_101 (N : Nat)   : Nat → sw_M → Int32 → Option (sw_M)
  | 0, _, _ => none
  | n + 1, μ, x1 =>
    if 40 < x1 then
      f_m_sets_122 N   N μ 0
    else
      inb x1 41 (wb (wr μ 84 x1.toNatClampNeg (-1)) (fun μ2 =>
        f_m_sets_101 N   n μ2 (x1 + 1)))
def f_m_sets (N : Nat)  (μ : sw_M)  : Option (sw_M) :=
  wb (wr μ 63 21 (μ 63 16)) (fun μ1 =>
    wb (wr μ1 63 22 (μ1 63 17)) (fun μ2 =>
      wb (wr μ2 63 23 (μ2 63 18)) (fun μ3 =>
        wb (wr μ3 63 24 (μ3 63 19)) (fun μ4 =>
          Option.bind (f_m_copies N 66 36 69 36 μ4 36) (fun r5 =>
            Option.bind (f_m_copies N 67 12 70 12 r5 12) (fun r7 =>
              Option.bind (f_m_copies N 68 10 71 10 r7 10) (fun r9 =>
                wb (wr r9 63 31 0) (fun μ11 =>
                  wb (wr μ11 63 46 0) (fun μ12 =>
                    wb (wr μ12 63 36 0) (fun μ13 =>
                      wb (wr μ13 63 50 0) (fun μ14 =>
                        wb (wr μ14 63 37 0) (fun μ15 =>
                          f_m_sets_101 N   N μ15 0))))))))))))
set_option maxRecDepth 100000 in
set_option maxHeartbeats 4000000 in
theorem ok_f_m_sets_234 {G : sw_G} {ad : Nat → Nat} {ν : sw_N}   {N : Nat} {o : sw_M} (g : sw_ok G cX11_sets "DeadWiresModel" none 2 0 0 ad) (hm : G.2.2.1.2.1.maxLocals = 2)  (ho : sw_out G 0 0 (fun a => a = ad) (.inl none) lay0 o ν)  : ∀ (n : Nat) (μ : sw_M) (x1 : Int32) (h : f_m_sets_234 N   n μ x1 = some o), SW G ad lay0 ν 0 0 234 [some (.ref 63), some (.int x1)] [] μ := by
  intro n
  induction n with
  | zero => intro μ x1 h; simp only [f_m_sets_234] at h; cases h
  | succ n ih =>
    intro μ x1 h
    unfold f_m_sets_234 at h
    refine SW.iload_n (pc := 234) g (dt dt_X11_sets 134 rfl) rfl ?_
    refine SW.aload_n (pc := 235) g (dt dt_X11_sets 135 rfl) rfl ?_
    refine SW.getI (pc := 236) g (dt dt_X11_sets 136 rfl) fl_X11_162 cell_63 rfl ?_
    refine SW.icmp_ge (pc := 239) (t := 265) g (dt dt_X11_sets 137 rfl) rfl (fun hc => ?_) (fun hc => ?_)
    · have h := iteT hc h
      refine SW.aload_n (pc := 265) g (dt dt_X11_sets 152 rfl) rfl ?_
      refine SW.getR (pc := 266) g (dt dt_X11_sets 153 rfl) fl_X11_65 cell_63 rfl ?_
      refine SW.bipush (pc := 269) (v := 46) g (dt dt_X11_sets 154 rfl) kb_46 ?_
      refine SW.aload_n (pc := 271) g (dt dt_X11_sets 155 rfl) rfl ?_
      refine SW.getI (pc := 272) g (dt dt_X11_sets 156 rfl) fl_X11_150 cell_63 rfl ?_
      obtain ⟨hb1, h⟩ := inbI h
      refine SW.iastore (pc := 275) g (dt dt_X11_sets 157 rfl) cell_80 hb1 ?_
      refine SW.genM h (fun μ2 h => ?_)
      exact SW.vreturn (pc := 276) g (leafV h ho) rfl (Nat.le_of_ble_eq_true rfl) (Nat.le_of_ble_eq_true rfl) (dt dt_X11_sets 158 rfl)
    · have h := iteF hc h
      refine SW.aload_n (pc := 242) g (dt dt_X11_sets 138 rfl) rfl ?_
      refine SW.getR (pc := 243) g (dt dt_X11_sets 139 rfl) fl_X11_65 cell_63 rfl ?_
      refine SW.bipush (pc := 246) (v := 36) g (dt dt_X11_sets 140 rfl) kb_36 ?_
      refine SW.iload_n (pc := 248) g (dt dt_X11_sets 141 rfl) rfl ?_
      refine SW.iadd (pc := 249) g (dt dt_X11_sets 142 rfl) ?_
      refine SW.aload_n (pc := 250) g (dt dt_X11_sets 143 rfl) rfl ?_
      refine SW.getR (pc := 251) g (dt dt_X11_sets 144 rfl) fl_X11_38 cell_63 rfl ?_
      refine SW.iconst (pc := 254) (v := 2) g (dt dt_X11_sets 145 rfl) ki_2 ?_
      refine SW.iload_n (pc := 255) g (dt dt_X11_sets 146 rfl) rfl ?_
      refine SW.imul (pc := 256) g (dt dt_X11_sets 147 rfl) ?_
      obtain ⟨hb3, h⟩ := inbI h
      refine SW.iaload (pc := 257) g (dt dt_X11_sets 148 rfl) cell_71 hb3 ?_
      obtain ⟨hb4, h⟩ := inbI h
      refine SW.iastore (pc := 258) g (dt dt_X11_sets 149 rfl) cell_80 hb4 ?_
      refine SW.genM h (fun μ5 h => ?_)
      refine SW.iinc (pc := 259) (v := x1 + 1) g (dt dt_X11_sets 150 rfl) rfl (kn_1 _) (sw_ltm hm (Nat.le_of_ble_eq_true rfl)) rfl ?_
      refine SW.goto (pc := 262) (t := 234) g (dt dt_X11_sets 151 rfl) rfl ?_
      refine SW.msk [true, true] ?_
      exact ih μ5 (x1 + 1) h
set_option maxRecDepth 100000 in
set_option maxHeartbeats 4000000 in
theorem ok_f_m_sets_210 {G : sw_G} {ad : Nat → Nat} {ν : sw_N}   {N : Nat} {o : sw_M} (g : sw_ok G cX11_sets "DeadWiresModel" none 2 0 0 ad) (hm : G.2.2.1.2.1.maxLocals = 2)  (ho : sw_out G 0 0 (fun a => a = ad) (.inl none) lay0 o ν)  : ∀ (n : Nat) (μ : sw_M) (x1 : Int32) (h : f_m_sets_210 N   n μ x1 = some o), SW G ad lay0 ν 0 0 210 [some (.ref 63), some (.int x1)] [] μ := by
  intro n
  induction n with
  | zero => intro μ x1 h; simp only [f_m_sets_210] at h; cases h
  | succ n ih =>
    intro μ x1 h
    unfold f_m_sets_210 at h
    refine SW.iload_n (pc := 210) g (dt dt_X11_sets 120 rfl) rfl ?_
    refine SW.bipush (pc := 211) (v := 6) g (dt dt_X11_sets 121 rfl) kb_6 ?_
    refine SW.icmp_ge (pc := 213) (t := 232) g (dt dt_X11_sets 122 rfl) rfl (fun hc => ?_) (fun hc => ?_)
    · have h := iteT hc h
      refine SW.iconst (pc := 232) (v := 0) g (dt dt_X11_sets 132 rfl) ki_0 ?_
      refine SW.istore_n (pc := 233) g (dt dt_X11_sets 133 rfl) (sw_ltm hm (Nat.le_of_ble_eq_true rfl)) rfl ?_
      refine SW.msk [true, true] ?_
      exact ok_f_m_sets_234  g hm  ho   N μ 0 h
    · have h := iteF hc h
      refine SW.aload_n (pc := 216) g (dt dt_X11_sets 123 rfl) rfl ?_
      refine SW.getR (pc := 217) g (dt dt_X11_sets 124 rfl) fl_X11_65 cell_63 rfl ?_
      refine SW.bipush (pc := 220) (v := 30) g (dt dt_X11_sets 125 rfl) kb_30 ?_
      refine SW.iload_n (pc := 222) g (dt dt_X11_sets 126 rfl) rfl ?_
      refine SW.iadd (pc := 223) g (dt dt_X11_sets 127 rfl) ?_
      refine SW.iconst (pc := 224) (v := (-1)) g (dt dt_X11_sets 128 rfl) ki_m1 ?_
      obtain ⟨hb1, h⟩ := inbI h
      refine SW.iastore (pc := 225) g (dt dt_X11_sets 129 rfl) cell_80 hb1 ?_
      refine SW.genM h (fun μ2 h => ?_)
      refine SW.iinc (pc := 226) (v := x1 + 1) g (dt dt_X11_sets 130 rfl) rfl (kn_1 _) (sw_ltm hm (Nat.le_of_ble_eq_true rfl)) rfl ?_
      refine SW.goto (pc := 229) (t := 210) g (dt dt_X11_sets 131 rfl) rfl ?_
      refine SW.msk [true, true] ?_
      exact ih μ2 (x1 + 1) h
set_option maxRecDepth 100000 in
set_option maxHeartbeats 4000000 in
theorem ok_f_m_sets_177 {G : sw_G} {ad : Nat → Nat} {ν : sw_N}   {N : Nat} {o : sw_M} (g : sw_ok G cX11_sets "DeadWiresModel" none 2 0 0 ad) (hm : G.2.2.1.2.1.maxLocals = 2)  (ho : sw_out G 0 0 (fun a => a = ad) (.inl none) lay0 o ν)  : ∀ (n : Nat) (μ : sw_M) (x1 : Int32) (h : f_m_sets_177 N   n μ x1 = some o), SW G ad lay0 ν 0 0 177 [some (.ref 63), some (.int x1)] [] μ := by
  intro n
  induction n with
  | zero => intro μ x1 h; simp only [f_m_sets_177] at h; cases h
  | succ n ih =>
    intro μ x1 h
    unfold f_m_sets_177 at h
    refine SW.iload_n (pc := 177) g (dt dt_X11_sets 100 rfl) rfl ?_
    refine SW.aload_n (pc := 178) g (dt dt_X11_sets 101 rfl) rfl ?_
    refine SW.getI (pc := 179) g (dt dt_X11_sets 102 rfl) fl_X11_159 cell_63 rfl ?_
    refine SW.icmp_ge (pc := 182) (t := 208) g (dt dt_X11_sets 103 rfl) rfl (fun hc => ?_) (fun hc => ?_)
    · have h := iteT hc h
      refine SW.iconst (pc := 208) (v := 0) g (dt dt_X11_sets 118 rfl) ki_0 ?_
      refine SW.istore_n (pc := 209) g (dt dt_X11_sets 119 rfl) (sw_ltm hm (Nat.le_of_ble_eq_true rfl)) rfl ?_
      refine SW.msk [true, true] ?_
      exact ok_f_m_sets_210  g hm  ho   N μ 0 h
    · have h := iteF hc h
      refine SW.aload_n (pc := 185) g (dt dt_X11_sets 104 rfl) rfl ?_
      refine SW.getR (pc := 186) g (dt dt_X11_sets 105 rfl) fl_X11_65 cell_63 rfl ?_
      refine SW.bipush (pc := 189) (v := 24) g (dt dt_X11_sets 106 rfl) kb_24 ?_
      refine SW.iload_n (pc := 191) g (dt dt_X11_sets 107 rfl) rfl ?_
      refine SW.iadd (pc := 192) g (dt dt_X11_sets 108 rfl) ?_
      refine SW.aload_n (pc := 193) g (dt dt_X11_sets 109 rfl) rfl ?_
      refine SW.getR (pc := 194) g (dt dt_X11_sets 110 rfl) fl_X11_35 cell_63 rfl ?_
      refine SW.iconst (pc := 197) (v := 2) g (dt dt_X11_sets 111 rfl) ki_2 ?_
      refine SW.iload_n (pc := 198) g (dt dt_X11_sets 112 rfl) rfl ?_
      refine SW.imul (pc := 199) g (dt dt_X11_sets 113 rfl) ?_
      obtain ⟨hb1, h⟩ := inbI h
      refine SW.iaload (pc := 200) g (dt dt_X11_sets 114 rfl) cell_70 hb1 ?_
      obtain ⟨hb2, h⟩ := inbI h
      refine SW.iastore (pc := 201) g (dt dt_X11_sets 115 rfl) cell_80 hb2 ?_
      refine SW.genM h (fun μ3 h => ?_)
      refine SW.iinc (pc := 202) (v := x1 + 1) g (dt dt_X11_sets 116 rfl) rfl (kn_1 _) (sw_ltm hm (Nat.le_of_ble_eq_true rfl)) rfl ?_
      refine SW.goto (pc := 205) (t := 177) g (dt dt_X11_sets 117 rfl) rfl ?_
      refine SW.msk [true, true] ?_
      exact ih μ3 (x1 + 1) h
set_option maxRecDepth 100000 in
set_option maxHeartbeats 4000000 in
theorem ok_f_m_sets_143 {G : sw_G} {ad : Nat → Nat} {ν : sw_N}   {N : Nat} {o : sw_M} (g : sw_ok G cX11_sets "DeadWiresModel" none 2 0 0 ad) (hm : G.2.2.1.2.1.maxLocals = 2)  (ho : sw_out G 0 0 (fun a => a = ad) (.inl none) lay0 o ν)  : ∀ (n : Nat) (μ : sw_M) (x1 : Int32) (h : f_m_sets_143 N   n μ x1 = some o), SW G ad lay0 ν 0 0 143 [some (.ref 63), some (.int x1)] [] μ := by
  intro n
  induction n with
  | zero => intro μ x1 h; simp only [f_m_sets_143] at h; cases h
  | succ n ih =>
    intro μ x1 h
    unfold f_m_sets_143 at h
    refine SW.iload_n (pc := 143) g (dt dt_X11_sets 78 rfl) rfl ?_
    refine SW.aload_n (pc := 144) g (dt dt_X11_sets 79 rfl) rfl ?_
    refine SW.getI (pc := 145) g (dt dt_X11_sets 80 rfl) fl_X11_156 cell_63 rfl ?_
    refine SW.icmp_ge (pc := 148) (t := 175) g (dt dt_X11_sets 81 rfl) rfl (fun hc => ?_) (fun hc => ?_)
    · have h := iteT hc h
      refine SW.iconst (pc := 175) (v := 0) g (dt dt_X11_sets 98 rfl) ki_0 ?_
      refine SW.istore_n (pc := 176) g (dt dt_X11_sets 99 rfl) (sw_ltm hm (Nat.le_of_ble_eq_true rfl)) rfl ?_
      refine SW.msk [true, true] ?_
      exact ok_f_m_sets_177  g hm  ho   N μ 0 h
    · have h := iteF hc h
      refine SW.aload_n (pc := 151) g (dt dt_X11_sets 82 rfl) rfl ?_
      refine SW.getR (pc := 152) g (dt dt_X11_sets 83 rfl) fl_X11_65 cell_63 rfl ?_
      refine SW.iconst (pc := 155) (v := 0) g (dt dt_X11_sets 84 rfl) ki_0 ?_
      refine SW.iload_n (pc := 156) g (dt dt_X11_sets 85 rfl) rfl ?_
      refine SW.iadd (pc := 157) g (dt dt_X11_sets 86 rfl) ?_
      refine SW.aload_n (pc := 158) g (dt dt_X11_sets 87 rfl) rfl ?_
      refine SW.getR (pc := 159) g (dt dt_X11_sets 88 rfl) fl_X11_32 cell_63 rfl ?_
      refine SW.iconst (pc := 162) (v := 3) g (dt dt_X11_sets 89 rfl) ki_3 ?_
      refine SW.iload_n (pc := 163) g (dt dt_X11_sets 90 rfl) rfl ?_
      refine SW.imul (pc := 164) g (dt dt_X11_sets 91 rfl) ?_
      refine SW.iconst (pc := 165) (v := 2) g (dt dt_X11_sets 92 rfl) ki_2 ?_
      refine SW.iadd (pc := 166) g (dt dt_X11_sets 93 rfl) ?_
      obtain ⟨hb1, h⟩ := inbI h
      refine SW.iaload (pc := 167) g (dt dt_X11_sets 94 rfl) cell_69 hb1 ?_
      obtain ⟨hb2, h⟩ := inbI h
      refine SW.iastore (pc := 168) g (dt dt_X11_sets 95 rfl) cell_80 hb2 ?_
      refine SW.genM h (fun μ3 h => ?_)
      refine SW.iinc (pc := 169) (v := x1 + 1) g (dt dt_X11_sets 96 rfl) rfl (kn_1 _) (sw_ltm hm (Nat.le_of_ble_eq_true rfl)) rfl ?_
      refine SW.goto (pc := 172) (t := 143) g (dt dt_X11_sets 97 rfl) rfl ?_
      refine SW.msk [true, true] ?_
      exact ih μ3 (x1 + 1) h
set_option maxRecDepth 100000 in
set_option maxHeartbeats 4000000 in
theorem ok_f_m_sets_122 {G : sw_G} {ad : Nat → Nat} {ν : sw_N}   {N : Nat} {o : sw_M} (g : sw_ok G cX11_sets "DeadWiresModel" none 2 0 0 ad) (hm : G.2.2.1.2.1.maxLocals = 2)  (ho : sw_out G 0 0 (fun a => a = ad) (.inl none) lay0 o ν)  : ∀ (n : Nat) (μ : sw_M) (x1 : Int32) (h : f_m_sets_122 N   n μ x1 = some o), SW G ad lay0 ν 0 0 122 [some (.ref 63), some (.int x1)] [] μ := by
  intro n
  induction n with
  | zero => intro μ x1 h; simp only [f_m_sets_122] at h; cases h
  | succ n ih =>
    intro μ x1 h
    unfold f_m_sets_122 at h
    refine SW.iload_n (pc := 122) g (dt dt_X11_sets 66 rfl) rfl ?_
    refine SW.bipush (pc := 123) (v := 49) g (dt dt_X11_sets 67 rfl) kb_49 ?_
    refine SW.icmp_ge (pc := 125) (t := 141) g (dt dt_X11_sets 68 rfl) rfl (fun hc => ?_) (fun hc => ?_)
    · have h := iteT hc h
      refine SW.iconst (pc := 141) (v := 0) g (dt dt_X11_sets 76 rfl) ki_0 ?_
      refine SW.istore_n (pc := 142) g (dt dt_X11_sets 77 rfl) (sw_ltm hm (Nat.le_of_ble_eq_true rfl)) rfl ?_
      refine SW.msk [true, true] ?_
      exact ok_f_m_sets_143  g hm  ho   N μ 0 h
    · have h := iteF hc h
      refine SW.aload_n (pc := 128) g (dt dt_X11_sets 69 rfl) rfl ?_
      refine SW.getR (pc := 129) g (dt dt_X11_sets 70 rfl) fl_X11_65 cell_63 rfl ?_
      refine SW.iload_n (pc := 132) g (dt dt_X11_sets 71 rfl) rfl ?_
      refine SW.iconst (pc := 133) (v := 0) g (dt dt_X11_sets 72 rfl) ki_0 ?_
      obtain ⟨hb1, h⟩ := inbI h
      refine SW.iastore (pc := 134) g (dt dt_X11_sets 73 rfl) cell_80 hb1 ?_
      refine SW.genM h (fun μ2 h => ?_)
      refine SW.iinc (pc := 135) (v := x1 + 1) g (dt dt_X11_sets 74 rfl) rfl (kn_1 _) (sw_ltm hm (Nat.le_of_ble_eq_true rfl)) rfl ?_
      refine SW.goto (pc := 138) (t := 122) g (dt dt_X11_sets 75 rfl) rfl ?_
      refine SW.msk [true, true] ?_
      exact ih μ2 (x1 + 1) h
set_option maxRecDepth 100000 in
set_option maxHeartbeats 4000000 in
theorem ok_f_m_sets_101 {G : sw_G} {ad : Nat → Nat} {ν : sw_N}   {N : Nat} {o : sw_M} (g : sw_ok G cX11_sets "DeadWiresModel" none 2 0 0 ad) (hm : G.2.2.1.2.1.maxLocals = 2)  (ho : sw_out G 0 0 (fun a => a = ad) (.inl none) lay0 o ν)  : ∀ (n : Nat) (μ : sw_M) (x1 : Int32) (h : f_m_sets_101 N   n μ x1 = some o), SW G ad lay0 ν 0 0 101 [some (.ref 63), some (.int x1)] [] μ := by
  intro n
  induction n with
  | zero => intro μ x1 h; simp only [f_m_sets_101] at h; cases h
  | succ n ih =>
    intro μ x1 h
    unfold f_m_sets_101 at h
    refine SW.iload_n (pc := 101) g (dt dt_X11_sets 54 rfl) rfl ?_
    refine SW.bipush (pc := 102) (v := 40) g (dt dt_X11_sets 55 rfl) kb_40 ?_
    refine SW.icmp_gt (pc := 104) (t := 120) g (dt dt_X11_sets 56 rfl) rfl (fun hc => ?_) (fun hc => ?_)
    · have h := iteT hc h
      refine SW.iconst (pc := 120) (v := 0) g (dt dt_X11_sets 64 rfl) ki_0 ?_
      refine SW.istore_n (pc := 121) g (dt dt_X11_sets 65 rfl) (sw_ltm hm (Nat.le_of_ble_eq_true rfl)) rfl ?_
      refine SW.msk [true, true] ?_
      exact ok_f_m_sets_122  g hm  ho   N μ 0 h
    · have h := iteF hc h
      refine SW.aload_n (pc := 107) g (dt dt_X11_sets 57 rfl) rfl ?_
      refine SW.getR (pc := 108) g (dt dt_X11_sets 58 rfl) fl_X11_77 cell_63 rfl ?_
      refine SW.iload_n (pc := 111) g (dt dt_X11_sets 59 rfl) rfl ?_
      refine SW.iconst (pc := 112) (v := (-1)) g (dt dt_X11_sets 60 rfl) ki_m1 ?_
      obtain ⟨hb1, h⟩ := inbI h
      refine SW.iastore (pc := 113) g (dt dt_X11_sets 61 rfl) cell_84 hb1 ?_
      refine SW.genM h (fun μ2 h => ?_)
      refine SW.iinc (pc := 114) (v := x1 + 1) g (dt dt_X11_sets 62 rfl) rfl (kn_1 _) (sw_ltm hm (Nat.le_of_ble_eq_true rfl)) rfl ?_
      refine SW.goto (pc := 117) (t := 101) g (dt dt_X11_sets 63 rfl) rfl ?_
      refine SW.msk [true, true] ?_
      exact ih μ2 (x1 + 1) h
set_option maxRecDepth 100000 in
set_option maxHeartbeats 4000000 in
theorem ok_f_m_sets {G : sw_G} {ad : Nat → Nat} {ν : sw_N}   {N : Nat} {o : sw_M} (g : sw_ok G cX11_sets "DeadWiresModel" none 2 0 0 ad) (hm : G.2.2.1.2.1.maxLocals = 2)  (μ : sw_M) (ho : sw_out G 0 0 (fun a => a = ad) (.inl none) lay0 o ν)  (h : f_m_sets N  μ  = some o) : SW G ad lay0 ν 0 0 0 [some (.ref 63), none] [] μ := by
  unfold f_m_sets at h
  refine SW.aload_n (pc := 0) g (dt dt_X11_sets 0 rfl) rfl ?_
  refine SW.aload_n (pc := 1) g (dt dt_X11_sets 1 rfl) rfl ?_
  refine SW.getI (pc := 2) g (dt dt_X11_sets 2 rfl) fl_X11_138 cell_63 rfl ?_
  refine SW.putI (pc := 5) g (dt dt_X11_sets 3 rfl) fl_X11_153 cell_63 rfl ?_
  refine SW.genM h (fun μ1 h => ?_)
  refine SW.aload_n (pc := 8) g (dt dt_X11_sets 4 rfl) rfl ?_
  refine SW.aload_n (pc := 9) g (dt dt_X11_sets 5 rfl) rfl ?_
  refine SW.getI (pc := 10) g (dt dt_X11_sets 6 rfl) fl_X11_141 cell_63 rfl ?_
  refine SW.putI (pc := 13) g (dt dt_X11_sets 7 rfl) fl_X11_156 cell_63 rfl ?_
  refine SW.genM h (fun μ2 h => ?_)
  refine SW.aload_n (pc := 16) g (dt dt_X11_sets 8 rfl) rfl ?_
  refine SW.aload_n (pc := 17) g (dt dt_X11_sets 9 rfl) rfl ?_
  refine SW.getI (pc := 18) g (dt dt_X11_sets 10 rfl) fl_X11_144 cell_63 rfl ?_
  refine SW.putI (pc := 21) g (dt dt_X11_sets 11 rfl) fl_X11_159 cell_63 rfl ?_
  refine SW.genM h (fun μ3 h => ?_)
  refine SW.aload_n (pc := 24) g (dt dt_X11_sets 12 rfl) rfl ?_
  refine SW.aload_n (pc := 25) g (dt dt_X11_sets 13 rfl) rfl ?_
  refine SW.getI (pc := 26) g (dt dt_X11_sets 14 rfl) fl_X11_147 cell_63 rfl ?_
  refine SW.putI (pc := 29) g (dt dt_X11_sets 15 rfl) fl_X11_162 cell_63 rfl ?_
  refine SW.genM h (fun μ4 h => ?_)
  refine SW.aload_n (pc := 32) g (dt dt_X11_sets 16 rfl) rfl ?_
  refine SW.aload_n (pc := 33) g (dt dt_X11_sets 17 rfl) rfl ?_
  refine SW.getR (pc := 34) g (dt dt_X11_sets 18 rfl) fl_X11_23 cell_63 rfl ?_
  refine SW.aload_n (pc := 37) g (dt dt_X11_sets 19 rfl) rfl ?_
  refine SW.getR (pc := 38) g (dt dt_X11_sets 20 rfl) fl_X11_32 cell_63 rfl ?_
  refine SW.bipush (pc := 41) (v := 36) g (dt dt_X11_sets 21 rfl) kb_36 ?_
  obtain ⟨r5, h6, h⟩ := bindI h
  refine SW.callVv (pc := 43) g (dt dt_X11_sets 22 rfl) (mt_f_m_copies _ _ _ _ ad ν 66 36 69 36 cell_66 cell_69 N μ4 36 r5 h6) me_X11_copies mv_X11_copies ml_X11_165 cell_63 rfl rfl (Nat.le_of_ble_eq_true rfl) (Nat.le_of_ble_eq_true rfl) (Nat.le_of_ble_eq_true rfl) (Nat.le_of_ble_eq_true rfl) rfl ?_
  refine SW.aload_n (pc := 46) g (dt dt_X11_sets 23 rfl) rfl ?_
  refine SW.aload_n (pc := 47) g (dt dt_X11_sets 24 rfl) rfl ?_
  refine SW.getR (pc := 48) g (dt dt_X11_sets 25 rfl) fl_X11_26 cell_63 rfl ?_
  refine SW.aload_n (pc := 51) g (dt dt_X11_sets 26 rfl) rfl ?_
  refine SW.getR (pc := 52) g (dt dt_X11_sets 27 rfl) fl_X11_35 cell_63 rfl ?_
  refine SW.bipush (pc := 55) (v := 12) g (dt dt_X11_sets 28 rfl) kb_12 ?_
  obtain ⟨r7, h8, h⟩ := bindI h
  refine SW.callVv (pc := 57) g (dt dt_X11_sets 29 rfl) (mt_f_m_copies _ _ _ _ ad ν 67 12 70 12 cell_67 cell_70 N r5 12 r7 h8) me_X11_copies mv_X11_copies ml_X11_165 cell_63 rfl rfl (Nat.le_of_ble_eq_true rfl) (Nat.le_of_ble_eq_true rfl) (Nat.le_of_ble_eq_true rfl) (Nat.le_of_ble_eq_true rfl) rfl ?_
  refine SW.aload_n (pc := 60) g (dt dt_X11_sets 30 rfl) rfl ?_
  refine SW.aload_n (pc := 61) g (dt dt_X11_sets 31 rfl) rfl ?_
  refine SW.getR (pc := 62) g (dt dt_X11_sets 32 rfl) fl_X11_29 cell_63 rfl ?_
  refine SW.aload_n (pc := 65) g (dt dt_X11_sets 33 rfl) rfl ?_
  refine SW.getR (pc := 66) g (dt dt_X11_sets 34 rfl) fl_X11_38 cell_63 rfl ?_
  refine SW.bipush (pc := 69) (v := 10) g (dt dt_X11_sets 35 rfl) kb_10 ?_
  obtain ⟨r9, h10, h⟩ := bindI h
  refine SW.callVv (pc := 71) g (dt dt_X11_sets 36 rfl) (mt_f_m_copies _ _ _ _ ad ν 68 10 71 10 cell_68 cell_71 N r7 10 r9 h10) me_X11_copies mv_X11_copies ml_X11_165 cell_63 rfl rfl (Nat.le_of_ble_eq_true rfl) (Nat.le_of_ble_eq_true rfl) (Nat.le_of_ble_eq_true rfl) (Nat.le_of_ble_eq_true rfl) rfl ?_
  refine SW.aload_n (pc := 74) g (dt dt_X11_sets 37 rfl) rfl ?_
  refine SW.iconst (pc := 75) (v := 0) g (dt dt_X11_sets 38 rfl) ki_0 ?_
  refine SW.putI (pc := 76) g (dt dt_X11_sets 39 rfl) fl_X11_169 cell_63 rfl ?_
  refine SW.genM h (fun μ11 h => ?_)
  refine SW.aload_n (pc := 79) g (dt dt_X11_sets 40 rfl) rfl ?_
  refine SW.iconst (pc := 80) (v := 0) g (dt dt_X11_sets 41 rfl) ki_0 ?_
  refine SW.putI (pc := 81) g (dt dt_X11_sets 42 rfl) fl_X11_172 cell_63 rfl ?_
  refine SW.genM h (fun μ12 h => ?_)
  refine SW.aload_n (pc := 84) g (dt dt_X11_sets 43 rfl) rfl ?_
  refine SW.iconst (pc := 85) (v := 0) g (dt dt_X11_sets 44 rfl) ki_0 ?_
  refine SW.putI (pc := 86) g (dt dt_X11_sets 45 rfl) fl_X11_175 cell_63 rfl ?_
  refine SW.genM h (fun μ13 h => ?_)
  refine SW.aload_n (pc := 89) g (dt dt_X11_sets 46 rfl) rfl ?_
  refine SW.iconst (pc := 90) (v := 0) g (dt dt_X11_sets 47 rfl) ki_0 ?_
  refine SW.putI (pc := 91) g (dt dt_X11_sets 48 rfl) fl_X11_178 cell_63 rfl ?_
  refine SW.genM h (fun μ14 h => ?_)
  refine SW.aload_n (pc := 94) g (dt dt_X11_sets 49 rfl) rfl ?_
  refine SW.iconst (pc := 95) (v := 0) g (dt dt_X11_sets 50 rfl) ki_0 ?_
  refine SW.putI (pc := 96) g (dt dt_X11_sets 51 rfl) fl_X11_181 cell_63 rfl ?_
  refine SW.genM h (fun μ15 h => ?_)
  refine SW.iconst (pc := 99) (v := 0) g (dt dt_X11_sets 52 rfl) ki_0 ?_
  refine SW.istore_n (pc := 100) g (dt dt_X11_sets 53 rfl) (sw_ltm hm (Nat.le_of_ble_eq_true rfl)) rfl ?_
  refine SW.msk [true, true] ?_
  exact ok_f_m_sets_101  g hm  ho   N μ15 0 h
set_option maxRecDepth 100000 in
set_option maxHeartbeats 4000000 in
theorem mt_f_m_sets (l : Launch) (D : va_G) (cI cL : ClassId) (ad : Nat → Nat) (ν : sw_N)    (N : Nat) (μ : sw_M)  (o : sw_M) (h : f_m_sets N  μ  = some o) : MetR l D cI cL yX11_sets cX11_sets 2 none 2 0 0 (fun a => a = ad) ad [.ref 63] lay0 μ ν none lay0 o ν :=
  MetR.of (n := 1) rfl (Nat.le_of_ble_eq_true rfl) (fun G g ho hm _ _ => ok_f_m_sets  g hm  μ ho  h)
def f_m_readField (N : Nat)  (μ : sw_M)  : Option (Int32 × sw_M) :=
  Option.bind (f_m_readNumber N  μ 0 ((μ 63 16) - 1)) (fun r1 =>
    some (r1.1, r1.2))
set_option maxRecDepth 100000 in
set_option maxHeartbeats 4000000 in
theorem ok_f_m_readField {G : sw_G} {ad : Nat → Nat} {ν : sw_N}   {N : Nat} {o : Int32 × sw_M} (g : sw_ok G cX11_readField "DeadWiresModel" (some .int) 3 0 0 ad) (hm : G.2.2.1.2.1.maxLocals = 1)  (μ : sw_M) (ho : sw_out G 0 0 (fun a => a = ad) (.inl (some (.int o.1))) lay0 o.2 ν)  (h : f_m_readField N  μ  = some o) : SW G ad lay0 ν 0 0 0 [some (.ref 63)] [] μ := by
  unfold f_m_readField at h
  refine SW.aload_n (pc := 0) g (dt dt_X11_readField 0 rfl) rfl ?_
  refine SW.iconst (pc := 1) (v := 0) g (dt dt_X11_readField 1 rfl) ki_0 ?_
  refine SW.aload_n (pc := 2) g (dt dt_X11_readField 2 rfl) rfl ?_
  refine SW.getI (pc := 3) g (dt dt_X11_readField 3 rfl) fl_X11_138 cell_63 rfl ?_
  refine SW.iconst (pc := 6) (v := 1) g (dt dt_X11_readField 4 rfl) ki_1 ?_
  refine SW.isub (pc := 7) g (dt dt_X11_readField 5 rfl) ?_
  obtain ⟨r1, h2, h⟩ := bindI h
  refine SW.callVi (pc := 8) g (dt dt_X11_readField 6 rfl) (mt_f_m_readNumber _ _ _ _ ad ν   N μ 0 ((μ 63 16) - 1) r1 h2) me_X11_readNumber mv_X11_readNumber ml_X11_184 cell_63 rfl rfl (Nat.le_of_ble_eq_true rfl) (Nat.le_of_ble_eq_true rfl) (Nat.le_of_ble_eq_true rfl) (Nat.le_of_ble_eq_true rfl) rfl ?_
  exact SW.ireturn (pc := 11) g (leafW h ho) rfl (Nat.le_of_ble_eq_true rfl) (Nat.le_of_ble_eq_true rfl) (dt dt_X11_readField 7 rfl)
set_option maxRecDepth 100000 in
set_option maxHeartbeats 4000000 in
theorem mt_f_m_readField (l : Launch) (D : va_G) (cI cL : ClassId) (ad : Nat → Nat) (ν : sw_N)    (N : Nat) (μ : sw_M)  (o : Int32 × sw_M) (h : f_m_readField N  μ  = some o) : MetR l D cI cL yX11_readField cX11_readField 1 (some .int) 3 0 0 (fun a => a = ad) ad [.ref 63] lay0 μ ν (some (.int o.1)) lay0 o.2 ν :=
  MetR.of (n := 0) rfl (Nat.le_of_ble_eq_true rfl) (fun G g ho hm _ _ => ok_f_m_readField  g hm  μ ho  h)
def f_m_readWire_117 (N : Nat)   (μ : sw_M) (x1 : Int32) (x3 : Int32) : Option (sw_M) :=
  inb ((3 : Int32) * (μ 63 17)) 36 (wb (wr μ 66 ((3 : Int32) * (μ 63 17)).toNatClampNeg x1) (fun μ2 =>
    inb (((3 : Int32) * (μ2 63 17)) + 1) 36 (wb (wr μ2 66 (((3 : Int32) * (μ2 63 17)) + 1).toNatClampNeg x3) (fun μ4 =>
      Option.bind (f_m_readNumber N  μ4 0 99) (fun r5 =>
        inb (((3 : Int32) * (μ4 63 17)) + 2) 36 (wb (wr r5.2 66 (((3 : Int32) * (μ4 63 17)) + 2).toNatClampNeg r5.1) (fun μ8 =>
          wb (wr μ8 63 17 ((μ8 63 17) + 1)) (fun μ9 =>
            some μ9))))))))
def f_m_readWire_105 (N : Nat)  (k_41 : sw_M → Int32 → Int32 → Int32 → Int32 → Option (sw_M)) (μ : sw_M) (x1 : Int32) (x2 : Int32) (x3 : Int32) (x4 : Int32) : Option (sw_M) :=
  Option.bind (f_m_wrong N  μ 2 x2) (fun r1 =>
    k_41 r1 x1 x2 x3 (x4 + 1))
def f_m_readWire_93 (N : Nat)  (k_41 : sw_M → Int32 → Int32 → Int32 → Int32 → Option (sw_M)) (μ : sw_M) (x1 : Int32) (x2 : Int32) (x3 : Int32) (x4 : Int32) (x5 : Int32) (x6 : Int32) : Option (sw_M) :=
  if x5 = x3 then
    if x6 = x1 then
      f_m_readWire_105 N  k_41  μ x1 x2 x3 x4
    else
      k_41 μ x1 x2 x3 (x4 + 1)
  else
    k_41 μ x1 x2 x3 (x4 + 1)
def f_m_readWire_41 (N : Nat)   : Nat → sw_M → Int32 → Int32 → Int32 → Int32 → Option (sw_M)
  | 0, _, _, _, _, _ => none
  | n + 1, μ, x1, x2, x3, x4 =>
    if (μ 63 17) ≤ x4 then
      f_m_readWire_117 N    μ x1 x3
    else
      Option.bind (f_m_fine N  μ ) (fun r1 =>
        if r1 = 0 then
          f_m_readWire_117 N    μ x1 x3
        else
          inb ((3 : Int32) * x4) 36 (
            ib (μ 66 ((3 : Int32) * x4).toNatClampNeg) (fun y4 =>
              inb (((3 : Int32) * x4) + 1) 36 (
                ib (μ 66 (((3 : Int32) * x4) + 1).toNatClampNeg) (fun y6 =>
                  if y4 = x1 then
                    if y6 = x3 then
                      f_m_readWire_105 N  (f_m_readWire_41 N   n)  μ x1 x2 x3 x4
                    else
                      f_m_readWire_93 N  (f_m_readWire_41 N   n)  μ x1 x2 x3 x4 y4 y6
                  else
                    f_m_readWire_93 N  (f_m_readWire_41 N   n)  μ x1 x2 x3 x4 y4 y6)))))
def f_m_readWire_38 (N : Nat)   (μ : sw_M) (x1 : Int32) (x2 : Int32) (x3 : Int32) : Option (sw_M) :=
  f_m_readWire_41 N   N μ x1 x2 x3 0
def f_m_readWire (N : Nat)  (μ : sw_M)  : Option (sw_M) :=
  Option.bind (f_m_readField N  μ ) (fun r1 =>
    Option.bind (f_m_here N  r1.2 ) (fun r3 =>
      ib (r3.2 63 4) (fun y5 =>
        Option.bind (f_m_readField N  r3.2 ) (fun r6 =>
          Option.bind (f_m_fine N  r6.2 ) (fun r8 =>
            if r8 = 0 then
              f_m_readWire_38 N    r6.2 r1.1 y5 r6.1
            else
              if r1.1 = r6.1 then
                Option.bind (f_m_wrong N  r6.2 2 y5) (fun r10 =>
                  f_m_readWire_38 N    r10 r1.1 y5 r6.1)
              else
                f_m_readWire_38 N    r6.2 r1.1 y5 r6.1)))))
set_option maxRecDepth 100000 in
set_option maxHeartbeats 4000000 in
theorem ok_f_m_readWire_117 {G : sw_G} {ad : Nat → Nat} {ν : sw_N}   {N : Nat} {o : sw_M} (g : sw_ok G cX11_readWire "DeadWiresModel" none 4 0 0 ad) (hm : G.2.2.1.2.1.maxLocals = 7)  (ho : sw_out G 0 0 (fun a => a = ad) (.inl none) lay0 o ν)  (μ : sw_M) (x1 : Int32) (x3 : Int32) (h : f_m_readWire_117 N    μ x1 x3 = some o) : SW G ad lay0 ν 0 0 117 [some (.ref 63), some (.int x1), none, some (.int x3), none, none, none] [] μ := by
  unfold f_m_readWire_117 at h
  refine SW.aload_n (pc := 117) g (dt dt_X11_readWire 65 rfl) rfl ?_
  refine SW.getR (pc := 118) g (dt dt_X11_readWire 66 rfl) fl_X11_23 cell_63 rfl ?_
  refine SW.iconst (pc := 121) (v := 3) g (dt dt_X11_readWire 67 rfl) ki_3 ?_
  refine SW.aload_n (pc := 122) g (dt dt_X11_readWire 68 rfl) rfl ?_
  refine SW.getI (pc := 123) g (dt dt_X11_readWire 69 rfl) fl_X11_141 cell_63 rfl ?_
  refine SW.imul (pc := 126) g (dt dt_X11_readWire 70 rfl) ?_
  refine SW.iload_n (pc := 127) g (dt dt_X11_readWire 71 rfl) rfl ?_
  obtain ⟨hb1, h⟩ := inbI h
  refine SW.iastore (pc := 128) g (dt dt_X11_readWire 72 rfl) cell_66 hb1 ?_
  refine SW.genM h (fun μ2 h => ?_)
  refine SW.aload_n (pc := 129) g (dt dt_X11_readWire 73 rfl) rfl ?_
  refine SW.getR (pc := 130) g (dt dt_X11_readWire 74 rfl) fl_X11_23 cell_63 rfl ?_
  refine SW.iconst (pc := 133) (v := 3) g (dt dt_X11_readWire 75 rfl) ki_3 ?_
  refine SW.aload_n (pc := 134) g (dt dt_X11_readWire 76 rfl) rfl ?_
  refine SW.getI (pc := 135) g (dt dt_X11_readWire 77 rfl) fl_X11_141 cell_63 rfl ?_
  refine SW.imul (pc := 138) g (dt dt_X11_readWire 78 rfl) ?_
  refine SW.iconst (pc := 139) (v := 1) g (dt dt_X11_readWire 79 rfl) ki_1 ?_
  refine SW.iadd (pc := 140) g (dt dt_X11_readWire 80 rfl) ?_
  refine SW.iload_n (pc := 141) g (dt dt_X11_readWire 81 rfl) rfl ?_
  obtain ⟨hb3, h⟩ := inbI h
  refine SW.iastore (pc := 142) g (dt dt_X11_readWire 82 rfl) cell_66 hb3 ?_
  refine SW.genM h (fun μ4 h => ?_)
  refine SW.aload_n (pc := 143) g (dt dt_X11_readWire 83 rfl) rfl ?_
  refine SW.getR (pc := 144) g (dt dt_X11_readWire 84 rfl) fl_X11_23 cell_63 rfl ?_
  refine SW.iconst (pc := 147) (v := 3) g (dt dt_X11_readWire 85 rfl) ki_3 ?_
  refine SW.aload_n (pc := 148) g (dt dt_X11_readWire 86 rfl) rfl ?_
  refine SW.getI (pc := 149) g (dt dt_X11_readWire 87 rfl) fl_X11_141 cell_63 rfl ?_
  refine SW.imul (pc := 152) g (dt dt_X11_readWire 88 rfl) ?_
  refine SW.iconst (pc := 153) (v := 2) g (dt dt_X11_readWire 89 rfl) ki_2 ?_
  refine SW.iadd (pc := 154) g (dt dt_X11_readWire 90 rfl) ?_
  refine SW.aload_n (pc := 155) g (dt dt_X11_readWire 91 rfl) rfl ?_
  refine SW.iconst (pc := 156) (v := 0) g (dt dt_X11_readWire 92 rfl) ki_0 ?_
  refine SW.bipush (pc := 157) (v := 99) g (dt dt_X11_readWire 93 rfl) kb_99 ?_
  obtain ⟨r5, h6, h⟩ := bindI h
  refine SW.callVi (pc := 159) g (dt dt_X11_readWire 94 rfl) (mt_f_m_readNumber _ _ _ _ ad ν   N μ4 0 99 r5 h6) me_X11_readNumber mv_X11_readNumber ml_X11_184 cell_63 rfl rfl (Nat.le_of_ble_eq_true rfl) (Nat.le_of_ble_eq_true rfl) (Nat.le_of_ble_eq_true rfl) (Nat.le_of_ble_eq_true rfl) rfl ?_
  obtain ⟨hb7, h⟩ := inbI h
  refine SW.iastore (pc := 162) g (dt dt_X11_readWire 95 rfl) cell_66 hb7 ?_
  refine SW.genM h (fun μ8 h => ?_)
  refine SW.aload_n (pc := 163) g (dt dt_X11_readWire 96 rfl) rfl ?_
  refine SW.dup (pc := 164) g (dt dt_X11_readWire 97 rfl) rfl ?_
  refine SW.getI (pc := 165) g (dt dt_X11_readWire 98 rfl) fl_X11_141 cell_63 rfl ?_
  refine SW.iconst (pc := 168) (v := 1) g (dt dt_X11_readWire 99 rfl) ki_1 ?_
  refine SW.iadd (pc := 169) g (dt dt_X11_readWire 100 rfl) ?_
  refine SW.putI (pc := 170) g (dt dt_X11_readWire 101 rfl) fl_X11_141 cell_63 rfl ?_
  refine SW.genM h (fun μ9 h => ?_)
  exact SW.vreturn (pc := 173) g (leafV h ho) rfl (Nat.le_of_ble_eq_true rfl) (Nat.le_of_ble_eq_true rfl) (dt dt_X11_readWire 102 rfl)
set_option maxRecDepth 100000 in
set_option maxHeartbeats 4000000 in
theorem ok_f_m_readWire_105 {G : sw_G} {ad : Nat → Nat} {ν : sw_N}   {N : Nat} {o : sw_M} (g : sw_ok G cX11_readWire "DeadWiresModel" none 4 0 0 ad) (hm : G.2.2.1.2.1.maxLocals = 7)  (ho : sw_out G 0 0 (fun a => a = ad) (.inl none) lay0 o ν) (k_41 : sw_M → Int32 → Int32 → Int32 → Int32 → Option (sw_M)) (hk_41 : ∀ (μ : sw_M) (x1 : Int32) (x2 : Int32) (x3 : Int32) (x4 : Int32), k_41 μ x1 x2 x3 x4 = some o → SW G ad lay0 ν 0 0 41 [some (.ref 63), some (.int x1), some (.int x2), some (.int x3), some (.int x4), none, none] [] μ) (μ : sw_M) (x1 : Int32) (x2 : Int32) (x3 : Int32) (x4 : Int32) (h : f_m_readWire_105 N  k_41  μ x1 x2 x3 x4 = some o) : SW G ad lay0 ν 0 0 105 [some (.ref 63), some (.int x1), some (.int x2), some (.int x3), some (.int x4), none, none] [] μ := by
  unfold f_m_readWire_105 at h
  refine SW.aload_n (pc := 105) g (dt dt_X11_readWire 59 rfl) rfl ?_
  refine SW.iconst (pc := 106) (v := 2) g (dt dt_X11_readWire 60 rfl) ki_2 ?_
  refine SW.iload_n (pc := 107) g (dt dt_X11_readWire 61 rfl) rfl ?_
  obtain ⟨r1, h2, h⟩ := bindI h
  refine SW.callVv (pc := 108) g (dt dt_X11_readWire 62 rfl) (mt_f_m_wrong _ _ _ _ ad ν   N μ 2 x2 r1 h2) me_X11_wrong mv_X11_wrong ml_X11_131 cell_63 rfl rfl (Nat.le_of_ble_eq_true rfl) (Nat.le_of_ble_eq_true rfl) (Nat.le_of_ble_eq_true rfl) (Nat.le_of_ble_eq_true rfl) rfl ?_
  refine SW.iinc (pc := 111) (v := x4 + 1) g (dt dt_X11_readWire 63 rfl) rfl (kn_1 _) (sw_ltm hm (Nat.le_of_ble_eq_true rfl)) rfl ?_
  refine SW.goto (pc := 114) (t := 41) g (dt dt_X11_readWire 64 rfl) rfl ?_
  refine SW.msk [true, true, true, true, true, false, false] ?_
  exact hk_41 r1 x1 x2 x3 (x4 + 1) h
set_option maxRecDepth 100000 in
set_option maxHeartbeats 4000000 in
theorem ok_f_m_readWire_93 {G : sw_G} {ad : Nat → Nat} {ν : sw_N}   {N : Nat} {o : sw_M} (g : sw_ok G cX11_readWire "DeadWiresModel" none 4 0 0 ad) (hm : G.2.2.1.2.1.maxLocals = 7)  (ho : sw_out G 0 0 (fun a => a = ad) (.inl none) lay0 o ν) (k_41 : sw_M → Int32 → Int32 → Int32 → Int32 → Option (sw_M)) (hk_41 : ∀ (μ : sw_M) (x1 : Int32) (x2 : Int32) (x3 : Int32) (x4 : Int32), k_41 μ x1 x2 x3 x4 = some o → SW G ad lay0 ν 0 0 41 [some (.ref 63), some (.int x1), some (.int x2), some (.int x3), some (.int x4), none, none] [] μ) (μ : sw_M) (x1 : Int32) (x2 : Int32) (x3 : Int32) (x4 : Int32) (x5 : Int32) (x6 : Int32) (h : f_m_readWire_93 N  k_41  μ x1 x2 x3 x4 x5 x6 = some o) : SW G ad lay0 ν 0 0 93 [some (.ref 63), some (.int x1), some (.int x2), some (.int x3), some (.int x4), some (.int x5), some (.int x6)] [] μ := by
  unfold f_m_readWire_93 at h
  refine SW.iload (pc := 93) g (dt dt_X11_readWire 53 rfl) rfl ?_
  refine SW.iload_n (pc := 95) g (dt dt_X11_readWire 54 rfl) rfl ?_
  refine SW.icmp_ne (pc := 96) (t := 111) g (dt dt_X11_readWire 55 rfl) rfl (fun hc => ?_) (fun hc => ?_)
  · have h := iteF hc h
    refine SW.iinc (pc := 111) (v := x4 + 1) g (dt dt_X11_readWire 63 rfl) rfl (kn_1 _) (sw_ltm hm (Nat.le_of_ble_eq_true rfl)) rfl ?_
    refine SW.goto (pc := 114) (t := 41) g (dt dt_X11_readWire 64 rfl) rfl ?_
    refine SW.msk [true, true, true, true, true, false, false] ?_
    exact hk_41 μ x1 x2 x3 (x4 + 1) h
  · have h := iteT hc h
    refine SW.iload (pc := 99) g (dt dt_X11_readWire 56 rfl) rfl ?_
    refine SW.iload_n (pc := 101) g (dt dt_X11_readWire 57 rfl) rfl ?_
    refine SW.icmp_ne (pc := 102) (t := 111) g (dt dt_X11_readWire 58 rfl) rfl (fun hc => ?_) (fun hc => ?_)
    · have h := iteF hc h
      refine SW.iinc (pc := 111) (v := x4 + 1) g (dt dt_X11_readWire 63 rfl) rfl (kn_1 _) (sw_ltm hm (Nat.le_of_ble_eq_true rfl)) rfl ?_
      refine SW.goto (pc := 114) (t := 41) g (dt dt_X11_readWire 64 rfl) rfl ?_
      refine SW.msk [true, true, true, true, true, false, false] ?_
      exact hk_41 μ x1 x2 x3 (x4 + 1) h
    · have h := iteT hc h
      refine SW.msk [true, true, true, true, true, false, false] ?_
      exact ok_f_m_readWire_105  g hm  ho k_41 hk_41  μ x1 x2 x3 x4 h
set_option maxRecDepth 100000 in
set_option maxHeartbeats 4000000 in
theorem ok_f_m_readWire_41 {G : sw_G} {ad : Nat → Nat} {ν : sw_N}   {N : Nat} {o : sw_M} (g : sw_ok G cX11_readWire "DeadWiresModel" none 4 0 0 ad) (hm : G.2.2.1.2.1.maxLocals = 7)  (ho : sw_out G 0 0 (fun a => a = ad) (.inl none) lay0 o ν)  : ∀ (n : Nat) (μ : sw_M) (x1 : Int32) (x2 : Int32) (x3 : Int32) (x4 : Int32) (h : f_m_readWire_41 N   n μ x1 x2 x3 x4 = some o), SW G ad lay0 ν 0 0 41 [some (.ref 63), some (.int x1), some (.int x2), some (.int x3), some (.int x4), none, none] [] μ := by
  intro n
  induction n with
  | zero => intro μ x1 x2 x3 x4 h; simp only [f_m_readWire_41] at h; cases h
  | succ n ih =>
    intro μ x1 x2 x3 x4 h
    unfold f_m_readWire_41 at h
    refine SW.iload (pc := 41) g (dt dt_X11_readWire 24 rfl) rfl ?_
    refine SW.aload_n (pc := 43) g (dt dt_X11_readWire 25 rfl) rfl ?_
    refine SW.getI (pc := 44) g (dt dt_X11_readWire 26 rfl) fl_X11_141 cell_63 rfl ?_
    refine SW.icmp_ge (pc := 47) (t := 117) g (dt dt_X11_readWire 27 rfl) rfl (fun hc => ?_) (fun hc => ?_)
    · have h := iteT hc h
      refine SW.msk [true, true, false, true, false, false, false] ?_
      exact ok_f_m_readWire_117  g hm  ho    μ x1 x3 h
    · have h := iteF hc h
      refine SW.aload_n (pc := 50) g (dt dt_X11_readWire 28 rfl) rfl ?_
      obtain ⟨r1, h2, h⟩ := bindI h
      refine SW.callVi (pc := 51) g (dt dt_X11_readWire 29 rfl) (mt_f_m_fine _ _ _ _ ad ν   N μ  r1 h2) me_X11_fine mv_X11_fine ml_X11_124 cell_63 rfl rfl (Nat.le_of_ble_eq_true rfl) (Nat.le_of_ble_eq_true rfl) (Nat.le_of_ble_eq_true rfl) (Nat.le_of_ble_eq_true rfl) rfl ?_
      refine SW.if_eq (pc := 54) (t := 117) g (dt dt_X11_readWire 30 rfl) rfl (fun hc => ?_) (fun hc => ?_)
      · have h := iteT hc h
        refine SW.msk [true, true, false, true, false, false, false] ?_
        exact ok_f_m_readWire_117  g hm  ho    μ x1 x3 h
      · have h := iteF hc h
        refine SW.aload_n (pc := 57) g (dt dt_X11_readWire 31 rfl) rfl ?_
        refine SW.getR (pc := 58) g (dt dt_X11_readWire 32 rfl) fl_X11_23 cell_63 rfl ?_
        refine SW.iconst (pc := 61) (v := 3) g (dt dt_X11_readWire 33 rfl) ki_3 ?_
        refine SW.iload (pc := 62) g (dt dt_X11_readWire 34 rfl) rfl ?_
        refine SW.imul (pc := 64) g (dt dt_X11_readWire 35 rfl) ?_
        obtain ⟨hb3, h⟩ := inbI h
        refine SW.iaload (pc := 65) g (dt dt_X11_readWire 36 rfl) cell_66 hb3 ?_
        refine SW.istore (pc := 66) g (dt dt_X11_readWire 37 rfl) (sw_ltm hm (Nat.le_of_ble_eq_true rfl)) rfl ?_
        refine SW.genL h (fun y4 h => ?_)
        refine SW.aload_n (pc := 68) g (dt dt_X11_readWire 38 rfl) rfl ?_
        refine SW.getR (pc := 69) g (dt dt_X11_readWire 39 rfl) fl_X11_23 cell_63 rfl ?_
        refine SW.iconst (pc := 72) (v := 3) g (dt dt_X11_readWire 40 rfl) ki_3 ?_
        refine SW.iload (pc := 73) g (dt dt_X11_readWire 41 rfl) rfl ?_
        refine SW.imul (pc := 75) g (dt dt_X11_readWire 42 rfl) ?_
        refine SW.iconst (pc := 76) (v := 1) g (dt dt_X11_readWire 43 rfl) ki_1 ?_
        refine SW.iadd (pc := 77) g (dt dt_X11_readWire 44 rfl) ?_
        obtain ⟨hb5, h⟩ := inbI h
        refine SW.iaload (pc := 78) g (dt dt_X11_readWire 45 rfl) cell_66 hb5 ?_
        refine SW.istore (pc := 79) g (dt dt_X11_readWire 46 rfl) (sw_ltm hm (Nat.le_of_ble_eq_true rfl)) rfl ?_
        refine SW.genL h (fun y6 h => ?_)
        refine SW.iload (pc := 81) g (dt dt_X11_readWire 47 rfl) rfl ?_
        refine SW.iload_n (pc := 83) g (dt dt_X11_readWire 48 rfl) rfl ?_
        refine SW.icmp_ne (pc := 84) (t := 93) g (dt dt_X11_readWire 49 rfl) rfl (fun hc => ?_) (fun hc => ?_)
        · have h := iteF hc h
          refine SW.msk [true, true, true, true, true, true, true] ?_
          exact ok_f_m_readWire_93  g hm  ho (f_m_readWire_41 N   n) ih  μ x1 x2 x3 x4 y4 y6 h
        · have h := iteT hc h
          refine SW.iload (pc := 87) g (dt dt_X11_readWire 50 rfl) rfl ?_
          refine SW.iload_n (pc := 89) g (dt dt_X11_readWire 51 rfl) rfl ?_
          refine SW.icmp_eq (pc := 90) (t := 105) g (dt dt_X11_readWire 52 rfl) rfl (fun hc => ?_) (fun hc => ?_)
          · have h := iteT hc h
            refine SW.msk [true, true, true, true, true, false, false] ?_
            exact ok_f_m_readWire_105  g hm  ho (f_m_readWire_41 N   n) ih  μ x1 x2 x3 x4 h
          · have h := iteF hc h
            refine SW.msk [true, true, true, true, true, true, true] ?_
            exact ok_f_m_readWire_93  g hm  ho (f_m_readWire_41 N   n) ih  μ x1 x2 x3 x4 y4 y6 h
set_option maxRecDepth 100000 in
set_option maxHeartbeats 4000000 in
theorem ok_f_m_readWire_38 {G : sw_G} {ad : Nat → Nat} {ν : sw_N}   {N : Nat} {o : sw_M} (g : sw_ok G cX11_readWire "DeadWiresModel" none 4 0 0 ad) (hm : G.2.2.1.2.1.maxLocals = 7)  (ho : sw_out G 0 0 (fun a => a = ad) (.inl none) lay0 o ν)  (μ : sw_M) (x1 : Int32) (x2 : Int32) (x3 : Int32) (h : f_m_readWire_38 N    μ x1 x2 x3 = some o) : SW G ad lay0 ν 0 0 38 [some (.ref 63), some (.int x1), some (.int x2), some (.int x3), none, none, none] [] μ := by
  unfold f_m_readWire_38 at h
  refine SW.iconst (pc := 38) (v := 0) g (dt dt_X11_readWire 22 rfl) ki_0 ?_
  refine SW.istore (pc := 39) g (dt dt_X11_readWire 23 rfl) (sw_ltm hm (Nat.le_of_ble_eq_true rfl)) rfl ?_
  refine SW.msk [true, true, true, true, true, false, false] ?_
  exact ok_f_m_readWire_41  g hm  ho   N μ x1 x2 x3 0 h
set_option maxRecDepth 100000 in
set_option maxHeartbeats 4000000 in
theorem ok_f_m_readWire {G : sw_G} {ad : Nat → Nat} {ν : sw_N}   {N : Nat} {o : sw_M} (g : sw_ok G cX11_readWire "DeadWiresModel" none 4 0 0 ad) (hm : G.2.2.1.2.1.maxLocals = 7)  (μ : sw_M) (ho : sw_out G 0 0 (fun a => a = ad) (.inl none) lay0 o ν)  (h : f_m_readWire N  μ  = some o) : SW G ad lay0 ν 0 0 0 [some (.ref 63), none, none, none, none, none, none] [] μ := by
  unfold f_m_readWire at h
  refine SW.aload_n (pc := 0) g (dt dt_X11_readWire 0 rfl) rfl ?_
  obtain ⟨r1, h2, h⟩ := bindI h
  refine SW.callVi (pc := 1) g (dt dt_X11_readWire 1 rfl) (mt_f_m_readField _ _ _ _ ad ν   N μ  r1 h2) me_X11_readField mv_X11_readField ml_X11_188 cell_63 rfl rfl (Nat.le_of_ble_eq_true rfl) (Nat.le_of_ble_eq_true rfl) (Nat.le_of_ble_eq_true rfl) (Nat.le_of_ble_eq_true rfl) rfl ?_
  refine SW.istore_n (pc := 4) g (dt dt_X11_readWire 2 rfl) (sw_ltm hm (Nat.le_of_ble_eq_true rfl)) rfl ?_
  refine SW.aload_n (pc := 5) g (dt dt_X11_readWire 3 rfl) rfl ?_
  obtain ⟨r3, h4, h⟩ := bindI h
  refine SW.callVi (pc := 6) g (dt dt_X11_readWire 4 rfl) (mt_f_m_here _ _ _ _ ad ν   N r1.2  r3 h4) me_X11_here mv_X11_here ml_X11_107 cell_63 rfl rfl (Nat.le_of_ble_eq_true rfl) (Nat.le_of_ble_eq_true rfl) (Nat.le_of_ble_eq_true rfl) (Nat.le_of_ble_eq_true rfl) rfl ?_
  refine SW.pop (pc := 9) g (dt dt_X11_readWire 5 rfl) rfl ?_
  refine SW.aload_n (pc := 10) g (dt dt_X11_readWire 6 rfl) rfl ?_
  refine SW.getI (pc := 11) g (dt dt_X11_readWire 7 rfl) fl_X11_101 cell_63 rfl ?_
  refine SW.istore_n (pc := 14) g (dt dt_X11_readWire 8 rfl) (sw_ltm hm (Nat.le_of_ble_eq_true rfl)) rfl ?_
  refine SW.genL h (fun y5 h => ?_)
  refine SW.aload_n (pc := 15) g (dt dt_X11_readWire 9 rfl) rfl ?_
  obtain ⟨r6, h7, h⟩ := bindI h
  refine SW.callVi (pc := 16) g (dt dt_X11_readWire 10 rfl) (mt_f_m_readField _ _ _ _ ad ν   N r3.2  r6 h7) me_X11_readField mv_X11_readField ml_X11_188 cell_63 rfl rfl (Nat.le_of_ble_eq_true rfl) (Nat.le_of_ble_eq_true rfl) (Nat.le_of_ble_eq_true rfl) (Nat.le_of_ble_eq_true rfl) rfl ?_
  refine SW.istore_n (pc := 19) g (dt dt_X11_readWire 11 rfl) (sw_ltm hm (Nat.le_of_ble_eq_true rfl)) rfl ?_
  refine SW.aload_n (pc := 20) g (dt dt_X11_readWire 12 rfl) rfl ?_
  obtain ⟨r8, h9, h⟩ := bindI h
  refine SW.callVi (pc := 21) g (dt dt_X11_readWire 13 rfl) (mt_f_m_fine _ _ _ _ ad ν   N r6.2  r8 h9) me_X11_fine mv_X11_fine ml_X11_124 cell_63 rfl rfl (Nat.le_of_ble_eq_true rfl) (Nat.le_of_ble_eq_true rfl) (Nat.le_of_ble_eq_true rfl) (Nat.le_of_ble_eq_true rfl) rfl ?_
  refine SW.if_eq (pc := 24) (t := 38) g (dt dt_X11_readWire 14 rfl) rfl (fun hc => ?_) (fun hc => ?_)
  · have h := iteT hc h
    refine SW.msk [true, true, true, true, false, false, false] ?_
    exact ok_f_m_readWire_38  g hm  ho    r6.2 r1.1 y5 r6.1 h
  · have h := iteF hc h
    refine SW.iload_n (pc := 27) g (dt dt_X11_readWire 15 rfl) rfl ?_
    refine SW.iload_n (pc := 28) g (dt dt_X11_readWire 16 rfl) rfl ?_
    refine SW.icmp_ne (pc := 29) (t := 38) g (dt dt_X11_readWire 17 rfl) rfl (fun hc => ?_) (fun hc => ?_)
    · have h := iteF hc h
      refine SW.msk [true, true, true, true, false, false, false] ?_
      exact ok_f_m_readWire_38  g hm  ho    r6.2 r1.1 y5 r6.1 h
    · have h := iteT hc h
      refine SW.aload_n (pc := 32) g (dt dt_X11_readWire 18 rfl) rfl ?_
      refine SW.iconst (pc := 33) (v := 2) g (dt dt_X11_readWire 19 rfl) ki_2 ?_
      refine SW.iload_n (pc := 34) g (dt dt_X11_readWire 20 rfl) rfl ?_
      obtain ⟨r10, h11, h⟩ := bindI h
      refine SW.callVv (pc := 35) g (dt dt_X11_readWire 21 rfl) (mt_f_m_wrong _ _ _ _ ad ν   N r6.2 2 y5 r10 h11) me_X11_wrong mv_X11_wrong ml_X11_131 cell_63 rfl rfl (Nat.le_of_ble_eq_true rfl) (Nat.le_of_ble_eq_true rfl) (Nat.le_of_ble_eq_true rfl) (Nat.le_of_ble_eq_true rfl) rfl ?_
      refine SW.msk [true, true, true, true, false, false, false] ?_
      exact ok_f_m_readWire_38  g hm  ho    r10 r1.1 y5 r6.1 h
set_option maxRecDepth 100000 in
set_option maxHeartbeats 4000000 in
theorem mt_f_m_readWire (l : Launch) (D : va_G) (cI cL : ClassId) (ad : Nat → Nat) (ν : sw_N)    (N : Nat) (μ : sw_M)  (o : sw_M) (h : f_m_readWire N  μ  = some o) : MetR l D cI cL yX11_readWire cX11_readWire 7 none 4 0 0 (fun a => a = ad) ad [.ref 63] lay0 μ ν none lay0 o ν :=
  MetR.of (n := 6) rfl (Nat.le_of_ble_eq_true rfl) (fun G g ho hm _ _ => ok_f_m_readWire  g hm  μ ho  h)
def f_sm_isRow (N : Nat)  (μ : sw_M) (a0 : Int32) : Option (Int32) :=
  Option.bind (f_sm_of N 3 μ ) (fun r1 =>
    if a0 = r1 then
      some 1
    else
      Option.bind (f_sm_of N 17 μ ) (fun r3 =>
        if a0 = r3 then
          some 1
        else
          Option.bind (f_sm_of N 15 μ ) (fun r5 =>
            if a0 = r5 then
              some 1
            else
              Option.bind (f_sm_of N 11 μ ) (fun r7 =>
                if a0 = r7 then
                  some 1
                else
                  Option.bind (f_sm_of N 12 μ ) (fun r9 =>
                    if a0 = r9 then
                      some 1
                    else
                      some 0)))))
set_option maxRecDepth 100000 in
set_option maxHeartbeats 4000000 in
theorem ok_f_sm_isRow {G : sw_G} {ad : Nat → Nat} {ν : sw_N} {L : sw_L}  {N : Nat} {o : Int32} (g : sw_ok G cX11_isRow "DeadWiresModel" (some .boolean) 6 0 0 ad) (hm : G.2.2.1.2.1.maxLocals = 1)  (μ : sw_M) (ho : sw_out G 0 0 (fun a => a = ad) (.inl (some (.int o))) L μ ν) (a0 : Int32) (h : f_sm_isRow N  μ a0 = some o) : SW G ad L ν 0 0 0 [some (.int a0)] [] μ := by
  unfold f_sm_isRow at h
  refine SW.iload_n (pc := 0) g (dt dt_X11_isRow 0 rfl) rfl ?_
  refine SW.ldcS (pc := 1) (j := 3) g (dt dt_X11_isRow 1 rfl) sr_X11_191 rfl ?_
  obtain ⟨r1, h2, h⟩ := bindI h
  refine SW.callSi (pc := 3) g (dt dt_X11_isRow 2 rfl) (mt_f_sm_of _ _ _ _ ad ν L 3 (by decide) N μ  r1 h2) me_X11_of ms_X11_of ml_X11_192 rfl (Nat.le_of_ble_eq_true rfl) (Nat.le_of_ble_eq_true rfl) (Nat.le_of_ble_eq_true rfl) (Nat.le_of_ble_eq_true rfl) rfl ?_
  refine SW.icmp_eq (pc := 6) (t := 45) g (dt dt_X11_isRow 3 rfl) rfl (fun hc => ?_) (fun hc => ?_)
  · have h := iteT hc h
    refine SW.iconst (pc := 45) (v := 1) g (dt dt_X11_isRow 20 rfl) ki_1 ?_
    refine SW.goto (pc := 46) (t := 50) g (dt dt_X11_isRow 21 rfl) rfl ?_
    exact SW.zreturn (pc := 50) g (leafI h ho) rfl (Nat.le_of_ble_eq_true rfl) (Nat.le_of_ble_eq_true rfl) (by decide) (dt dt_X11_isRow 23 rfl)
  · have h := iteF hc h
    refine SW.iload_n (pc := 9) g (dt dt_X11_isRow 4 rfl) rfl ?_
    refine SW.ldcS (pc := 10) (j := 17) g (dt dt_X11_isRow 5 rfl) sr_X11_196 rfl ?_
    obtain ⟨r3, h4, h⟩ := bindI h
    refine SW.callSi (pc := 12) g (dt dt_X11_isRow 6 rfl) (mt_f_sm_of _ _ _ _ ad ν L 17 (by decide) N μ  r3 h4) me_X11_of ms_X11_of ml_X11_192 rfl (Nat.le_of_ble_eq_true rfl) (Nat.le_of_ble_eq_true rfl) (Nat.le_of_ble_eq_true rfl) (Nat.le_of_ble_eq_true rfl) rfl ?_
    refine SW.icmp_eq (pc := 15) (t := 45) g (dt dt_X11_isRow 7 rfl) rfl (fun hc => ?_) (fun hc => ?_)
    · have h := iteT hc h
      refine SW.iconst (pc := 45) (v := 1) g (dt dt_X11_isRow 20 rfl) ki_1 ?_
      refine SW.goto (pc := 46) (t := 50) g (dt dt_X11_isRow 21 rfl) rfl ?_
      exact SW.zreturn (pc := 50) g (leafI h ho) rfl (Nat.le_of_ble_eq_true rfl) (Nat.le_of_ble_eq_true rfl) (by decide) (dt dt_X11_isRow 23 rfl)
    · have h := iteF hc h
      refine SW.iload_n (pc := 18) g (dt dt_X11_isRow 8 rfl) rfl ?_
      refine SW.ldcS (pc := 19) (j := 15) g (dt dt_X11_isRow 9 rfl) sr_X11_197 rfl ?_
      obtain ⟨r5, h6, h⟩ := bindI h
      refine SW.callSi (pc := 21) g (dt dt_X11_isRow 10 rfl) (mt_f_sm_of _ _ _ _ ad ν L 15 (by decide) N μ  r5 h6) me_X11_of ms_X11_of ml_X11_192 rfl (Nat.le_of_ble_eq_true rfl) (Nat.le_of_ble_eq_true rfl) (Nat.le_of_ble_eq_true rfl) (Nat.le_of_ble_eq_true rfl) rfl ?_
      refine SW.icmp_eq (pc := 24) (t := 45) g (dt dt_X11_isRow 11 rfl) rfl (fun hc => ?_) (fun hc => ?_)
      · have h := iteT hc h
        refine SW.iconst (pc := 45) (v := 1) g (dt dt_X11_isRow 20 rfl) ki_1 ?_
        refine SW.goto (pc := 46) (t := 50) g (dt dt_X11_isRow 21 rfl) rfl ?_
        exact SW.zreturn (pc := 50) g (leafI h ho) rfl (Nat.le_of_ble_eq_true rfl) (Nat.le_of_ble_eq_true rfl) (by decide) (dt dt_X11_isRow 23 rfl)
      · have h := iteF hc h
        refine SW.iload_n (pc := 27) g (dt dt_X11_isRow 12 rfl) rfl ?_
        refine SW.ldcS (pc := 28) (j := 11) g (dt dt_X11_isRow 13 rfl) sr_X11_198 rfl ?_
        obtain ⟨r7, h8, h⟩ := bindI h
        refine SW.callSi (pc := 30) g (dt dt_X11_isRow 14 rfl) (mt_f_sm_of _ _ _ _ ad ν L 11 (by decide) N μ  r7 h8) me_X11_of ms_X11_of ml_X11_192 rfl (Nat.le_of_ble_eq_true rfl) (Nat.le_of_ble_eq_true rfl) (Nat.le_of_ble_eq_true rfl) (Nat.le_of_ble_eq_true rfl) rfl ?_
        refine SW.icmp_eq (pc := 33) (t := 45) g (dt dt_X11_isRow 15 rfl) rfl (fun hc => ?_) (fun hc => ?_)
        · have h := iteT hc h
          refine SW.iconst (pc := 45) (v := 1) g (dt dt_X11_isRow 20 rfl) ki_1 ?_
          refine SW.goto (pc := 46) (t := 50) g (dt dt_X11_isRow 21 rfl) rfl ?_
          exact SW.zreturn (pc := 50) g (leafI h ho) rfl (Nat.le_of_ble_eq_true rfl) (Nat.le_of_ble_eq_true rfl) (by decide) (dt dt_X11_isRow 23 rfl)
        · have h := iteF hc h
          refine SW.iload_n (pc := 36) g (dt dt_X11_isRow 16 rfl) rfl ?_
          refine SW.ldcS (pc := 37) (j := 12) g (dt dt_X11_isRow 17 rfl) sr_X11_199 rfl ?_
          obtain ⟨r9, h10, h⟩ := bindI h
          refine SW.callSi (pc := 39) g (dt dt_X11_isRow 18 rfl) (mt_f_sm_of _ _ _ _ ad ν L 12 (by decide) N μ  r9 h10) me_X11_of ms_X11_of ml_X11_192 rfl (Nat.le_of_ble_eq_true rfl) (Nat.le_of_ble_eq_true rfl) (Nat.le_of_ble_eq_true rfl) (Nat.le_of_ble_eq_true rfl) rfl ?_
          refine SW.icmp_ne (pc := 42) (t := 49) g (dt dt_X11_isRow 19 rfl) rfl (fun hc => ?_) (fun hc => ?_)
          · have h := iteF hc h
            refine SW.iconst (pc := 49) (v := 0) g (dt dt_X11_isRow 22 rfl) ki_0 ?_
            exact SW.zreturn (pc := 50) g (leafI h ho) rfl (Nat.le_of_ble_eq_true rfl) (Nat.le_of_ble_eq_true rfl) (by decide) (dt dt_X11_isRow 23 rfl)
          · have h := iteT hc h
            refine SW.iconst (pc := 45) (v := 1) g (dt dt_X11_isRow 20 rfl) ki_1 ?_
            refine SW.goto (pc := 46) (t := 50) g (dt dt_X11_isRow 21 rfl) rfl ?_
            exact SW.zreturn (pc := 50) g (leafI h ho) rfl (Nat.le_of_ble_eq_true rfl) (Nat.le_of_ble_eq_true rfl) (by decide) (dt dt_X11_isRow 23 rfl)
set_option maxRecDepth 100000 in
set_option maxHeartbeats 4000000 in
theorem mt_f_sm_isRow (l : Launch) (D : va_G) (cI cL : ClassId) (ad : Nat → Nat) (ν : sw_N) (L : sw_L)   (N : Nat) (μ : sw_M) (a0 : Int32) (o : Int32) (h : f_sm_isRow N  μ a0 = some o) : MetR l D cI cL yX11_isRow cX11_isRow 1 (some .boolean) 6 0 0 (fun a => a = ad) ad [.int a0] L μ ν (some (.int o)) L μ ν :=
  MetR.of (n := 0) rfl (Nat.le_of_ble_eq_true rfl) (fun G g ho hm _ _ => ok_f_sm_isRow  g hm  μ ho a0 h)
def f_m_isFull (N : Nat)  (μ : sw_M) (a1 : Int32) : Option (Int32) :=
  Option.bind (f_sm_of N 17 μ ) (fun r1 =>
    if a1 = r1 then
      if (μ 63 17) = 12 then
        some 1
      else
        some 0
    else
      Option.bind (f_sm_of N 15 μ ) (fun r3 =>
        if a1 = r3 then
          if (μ 63 18) = 6 then
            some 1
          else
            some 0
        else
          Option.bind (f_sm_of N 11 μ ) (fun r5 =>
            if a1 = r5 then
              if (μ 63 19) = 5 then
                some 1
              else
                some 0
            else
              some 0)))
set_option maxRecDepth 100000 in
set_option maxHeartbeats 4000000 in
theorem ok_f_m_isFull {G : sw_G} {ad : Nat → Nat} {ν : sw_N}   {N : Nat} {o : Int32} (g : sw_ok G cX11_isFull "DeadWiresModel" (some .boolean) 6 0 0 ad) (hm : G.2.2.1.2.1.maxLocals = 2)  (μ : sw_M) (ho : sw_out G 0 0 (fun a => a = ad) (.inl (some (.int o))) lay0 μ ν) (a1 : Int32) (h : f_m_isFull N  μ a1 = some o) : SW G ad lay0 ν 0 0 0 [some (.ref 63), some (.int a1)] [] μ := by
  unfold f_m_isFull at h
  refine SW.iload_n (pc := 0) g (dt dt_X11_isFull 0 rfl) rfl ?_
  refine SW.ldcS (pc := 1) (j := 17) g (dt dt_X11_isFull 1 rfl) sr_X11_196 rfl ?_
  obtain ⟨r1, h2, h⟩ := bindI h
  refine SW.callSi (pc := 3) g (dt dt_X11_isFull 2 rfl) (mt_f_sm_of _ _ _ _ ad ν lay0 17 (by decide) N μ  r1 h2) me_X11_of ms_X11_of ml_X11_192 rfl (Nat.le_of_ble_eq_true rfl) (Nat.le_of_ble_eq_true rfl) (Nat.le_of_ble_eq_true rfl) (Nat.le_of_ble_eq_true rfl) rfl ?_
  refine SW.icmp_ne (pc := 6) (t := 26) g (dt dt_X11_isFull 3 rfl) rfl (fun hc => ?_) (fun hc => ?_)
  · have h := iteF hc h
    refine SW.iload_n (pc := 26) g (dt dt_X11_isFull 12 rfl) rfl ?_
    refine SW.ldcS (pc := 27) (j := 15) g (dt dt_X11_isFull 13 rfl) sr_X11_197 rfl ?_
    obtain ⟨r3, h4, h⟩ := bindI h
    refine SW.callSi (pc := 29) g (dt dt_X11_isFull 14 rfl) (mt_f_sm_of _ _ _ _ ad ν lay0 15 (by decide) N μ  r3 h4) me_X11_of ms_X11_of ml_X11_192 rfl (Nat.le_of_ble_eq_true rfl) (Nat.le_of_ble_eq_true rfl) (Nat.le_of_ble_eq_true rfl) (Nat.le_of_ble_eq_true rfl) rfl ?_
    refine SW.icmp_ne (pc := 32) (t := 52) g (dt dt_X11_isFull 15 rfl) rfl (fun hc => ?_) (fun hc => ?_)
    · have h := iteF hc h
      refine SW.iload_n (pc := 52) g (dt dt_X11_isFull 24 rfl) rfl ?_
      refine SW.ldcS (pc := 53) (j := 11) g (dt dt_X11_isFull 25 rfl) sr_X11_198 rfl ?_
      obtain ⟨r5, h6, h⟩ := bindI h
      refine SW.callSi (pc := 55) g (dt dt_X11_isFull 26 rfl) (mt_f_sm_of _ _ _ _ ad ν lay0 11 (by decide) N μ  r5 h6) me_X11_of ms_X11_of ml_X11_192 rfl (Nat.le_of_ble_eq_true rfl) (Nat.le_of_ble_eq_true rfl) (Nat.le_of_ble_eq_true rfl) (Nat.le_of_ble_eq_true rfl) rfl ?_
      refine SW.icmp_ne (pc := 58) (t := 73) g (dt dt_X11_isFull 27 rfl) rfl (fun hc => ?_) (fun hc => ?_)
      · have h := iteF hc h
        refine SW.iconst (pc := 73) (v := 0) g (dt dt_X11_isFull 34 rfl) ki_0 ?_
        exact SW.zreturn (pc := 74) g (leafI h ho) rfl (Nat.le_of_ble_eq_true rfl) (Nat.le_of_ble_eq_true rfl) (by decide) (dt dt_X11_isFull 35 rfl)
      · have h := iteT hc h
        refine SW.aload_n (pc := 61) g (dt dt_X11_isFull 28 rfl) rfl ?_
        refine SW.getI (pc := 62) g (dt dt_X11_isFull 29 rfl) fl_X11_147 cell_63 rfl ?_
        refine SW.iconst (pc := 65) (v := 5) g (dt dt_X11_isFull 30 rfl) ki_5 ?_
        refine SW.icmp_ne (pc := 66) (t := 73) g (dt dt_X11_isFull 31 rfl) rfl (fun hc => ?_) (fun hc => ?_)
        · have h := iteF hc h
          refine SW.iconst (pc := 73) (v := 0) g (dt dt_X11_isFull 34 rfl) ki_0 ?_
          exact SW.zreturn (pc := 74) g (leafI h ho) rfl (Nat.le_of_ble_eq_true rfl) (Nat.le_of_ble_eq_true rfl) (by decide) (dt dt_X11_isFull 35 rfl)
        · have h := iteT hc h
          refine SW.iconst (pc := 69) (v := 1) g (dt dt_X11_isFull 32 rfl) ki_1 ?_
          refine SW.goto (pc := 70) (t := 74) g (dt dt_X11_isFull 33 rfl) rfl ?_
          exact SW.zreturn (pc := 74) g (leafI h ho) rfl (Nat.le_of_ble_eq_true rfl) (Nat.le_of_ble_eq_true rfl) (by decide) (dt dt_X11_isFull 35 rfl)
    · have h := iteT hc h
      refine SW.aload_n (pc := 35) g (dt dt_X11_isFull 16 rfl) rfl ?_
      refine SW.getI (pc := 36) g (dt dt_X11_isFull 17 rfl) fl_X11_144 cell_63 rfl ?_
      refine SW.bipush (pc := 39) (v := 6) g (dt dt_X11_isFull 18 rfl) kb_6 ?_
      refine SW.icmp_ne (pc := 41) (t := 48) g (dt dt_X11_isFull 19 rfl) rfl (fun hc => ?_) (fun hc => ?_)
      · have h := iteF hc h
        refine SW.iconst (pc := 48) (v := 0) g (dt dt_X11_isFull 22 rfl) ki_0 ?_
        refine SW.goto (pc := 49) (t := 74) g (dt dt_X11_isFull 23 rfl) rfl ?_
        exact SW.zreturn (pc := 74) g (leafI h ho) rfl (Nat.le_of_ble_eq_true rfl) (Nat.le_of_ble_eq_true rfl) (by decide) (dt dt_X11_isFull 35 rfl)
      · have h := iteT hc h
        refine SW.iconst (pc := 44) (v := 1) g (dt dt_X11_isFull 20 rfl) ki_1 ?_
        refine SW.goto (pc := 45) (t := 74) g (dt dt_X11_isFull 21 rfl) rfl ?_
        exact SW.zreturn (pc := 74) g (leafI h ho) rfl (Nat.le_of_ble_eq_true rfl) (Nat.le_of_ble_eq_true rfl) (by decide) (dt dt_X11_isFull 35 rfl)
  · have h := iteT hc h
    refine SW.aload_n (pc := 9) g (dt dt_X11_isFull 4 rfl) rfl ?_
    refine SW.getI (pc := 10) g (dt dt_X11_isFull 5 rfl) fl_X11_141 cell_63 rfl ?_
    refine SW.bipush (pc := 13) (v := 12) g (dt dt_X11_isFull 6 rfl) kb_12 ?_
    refine SW.icmp_ne (pc := 15) (t := 22) g (dt dt_X11_isFull 7 rfl) rfl (fun hc => ?_) (fun hc => ?_)
    · have h := iteF hc h
      refine SW.iconst (pc := 22) (v := 0) g (dt dt_X11_isFull 10 rfl) ki_0 ?_
      refine SW.goto (pc := 23) (t := 74) g (dt dt_X11_isFull 11 rfl) rfl ?_
      exact SW.zreturn (pc := 74) g (leafI h ho) rfl (Nat.le_of_ble_eq_true rfl) (Nat.le_of_ble_eq_true rfl) (by decide) (dt dt_X11_isFull 35 rfl)
    · have h := iteT hc h
      refine SW.iconst (pc := 18) (v := 1) g (dt dt_X11_isFull 8 rfl) ki_1 ?_
      refine SW.goto (pc := 19) (t := 74) g (dt dt_X11_isFull 9 rfl) rfl ?_
      exact SW.zreturn (pc := 74) g (leafI h ho) rfl (Nat.le_of_ble_eq_true rfl) (Nat.le_of_ble_eq_true rfl) (by decide) (dt dt_X11_isFull 35 rfl)
set_option maxRecDepth 100000 in
set_option maxHeartbeats 4000000 in
theorem mt_f_m_isFull (l : Launch) (D : va_G) (cI cL : ClassId) (ad : Nat → Nat) (ν : sw_N)    (N : Nat) (μ : sw_M) (a1 : Int32) (o : Int32) (h : f_m_isFull N  μ a1 = some o) : MetR l D cI cL yX11_isFull cX11_isFull 2 (some .boolean) 6 0 0 (fun a => a = ad) ad [.ref 63, .int a1] lay0 μ ν (some (.int o)) lay0 μ ν :=
  MetR.of (n := 0) rfl (Nat.le_of_ble_eq_true rfl) (fun G g ho hm _ _ => ok_f_m_isFull  g hm  μ ho a1 h)
def f_m_readRow_51 (N : Nat)   (μ : sw_M) (x3 : Int32) : Option (sw_M) :=
  Option.bind (f_m_fine N  μ ) (fun r1 =>
    if r1 = 0 then
      some μ
    else
      wb (wr μ 63 16 ((μ 63 16) + x3)) (fun μ3 =>
        some μ3))
def f_m_readRow (N : Nat)  (μ : sw_M) (a1 : Int32) : Option (sw_M) :=
  Option.bind (f_sm_of N 3 μ ) (fun r1 =>
    if a1 = r1 then
      Option.bind (f_m_here N  μ ) (fun r32 =>
        ib (r32.2 63 4) (fun y34 =>
          Option.bind (f_m_readNumber N  r32.2 1 8) (fun r35 =>
            Option.bind (f_m_fine N  r35.2 ) (fun r37 =>
              if r37 = 0 then
                f_m_readRow_51 N    r35.2 r35.1
              else
                if ((r35.2 63 16) + r35.1) ≤ 8 then
                  f_m_readRow_51 N    r35.2 r35.1
                else
                  Option.bind (f_m_wrong N  r35.2 2 y34) (fun r39 =>
                    f_m_readRow_51 N    r39 r35.1)))))
    else
      Option.bind (f_sm_of N 17 μ ) (fun r3 =>
        if a1 = r3 then
          Option.bind (f_m_readWire N  μ ) (fun r30 =>
            some r30)
        else
          Option.bind (f_sm_of N 15 μ ) (fun r5 =>
            if a1 = r5 then
              Option.bind (f_m_readField N  μ ) (fun r21 =>
                inb ((2 : Int32) * (μ 63 18)) 12 (wb (wr r21.2 67 ((2 : Int32) * (μ 63 18)).toNatClampNeg r21.1) (fun μ24 =>
                  Option.bind (f_m_readNumber N  μ24 1 30) (fun r25 =>
                    inb (((2 : Int32) * (μ24 63 18)) + 1) 12 (wb (wr r25.2 67 (((2 : Int32) * (μ24 63 18)) + 1).toNatClampNeg r25.1) (fun μ28 =>
                      wb (wr μ28 63 18 ((μ28 63 18) + 1)) (fun μ29 =>
                        some μ29)))))))
            else
              Option.bind (f_sm_of N 11 μ ) (fun r7 =>
                if a1 = r7 then
                  Option.bind (f_m_readField N  μ ) (fun r12 =>
                    inb ((2 : Int32) * (μ 63 19)) 10 (wb (wr r12.2 68 ((2 : Int32) * (μ 63 19)).toNatClampNeg r12.1) (fun μ15 =>
                      Option.bind (f_m_readNumber N  μ15 1 40) (fun r16 =>
                        inb (((2 : Int32) * (μ15 63 19)) + 1) 10 (wb (wr r16.2 68 (((2 : Int32) * (μ15 63 19)) + 1).toNatClampNeg r16.1) (fun μ19 =>
                          wb (wr μ19 63 19 ((μ19 63 19) + 1)) (fun μ20 =>
                            some μ20)))))))
                else
                  Option.bind (f_m_readNumber N  μ 0 9) (fun r9 =>
                    wb (wr r9.2 63 20 r9.1) (fun μ11 =>
                      some μ11))))))
set_option maxRecDepth 100000 in
set_option maxHeartbeats 4000000 in
theorem ok_f_m_readRow_51 {G : sw_G} {ad : Nat → Nat} {ν : sw_N}   {N : Nat} {o : sw_M} (g : sw_ok G cX11_readRow "DeadWiresModel" none 6 0 0 ad) (hm : G.2.2.1.2.1.maxLocals = 4)  (ho : sw_out G 0 0 (fun a => a = ad) (.inl none) lay0 o ν)  (μ : sw_M) (x3 : Int32) (h : f_m_readRow_51 N    μ x3 = some o) : SW G ad lay0 ν 0 0 51 [some (.ref 63), none, none, some (.int x3)] [] μ := by
  unfold f_m_readRow_51 at h
  refine SW.aload_n (pc := 51) g (dt dt_X11_readRow 28 rfl) rfl ?_
  obtain ⟨r1, h2, h⟩ := bindI h
  refine SW.callVi (pc := 52) g (dt dt_X11_readRow 29 rfl) (mt_f_m_fine _ _ _ _ ad ν   N μ  r1 h2) me_X11_fine mv_X11_fine ml_X11_124 cell_63 rfl rfl (Nat.le_of_ble_eq_true rfl) (Nat.le_of_ble_eq_true rfl) (Nat.le_of_ble_eq_true rfl) (Nat.le_of_ble_eq_true rfl) rfl ?_
  refine SW.if_eq (pc := 55) (t := 68) g (dt dt_X11_readRow 30 rfl) rfl (fun hc => ?_) (fun hc => ?_)
  · have h := iteT hc h
    refine SW.goto (pc := 68) (t := 212) g (dt dt_X11_readRow 37 rfl) rfl ?_
    exact SW.vreturn (pc := 212) g (leafV h ho) rfl (Nat.le_of_ble_eq_true rfl) (Nat.le_of_ble_eq_true rfl) (dt dt_X11_readRow 117 rfl)
  · have h := iteF hc h
    refine SW.aload_n (pc := 58) g (dt dt_X11_readRow 31 rfl) rfl ?_
    refine SW.dup (pc := 59) g (dt dt_X11_readRow 32 rfl) rfl ?_
    refine SW.getI (pc := 60) g (dt dt_X11_readRow 33 rfl) fl_X11_138 cell_63 rfl ?_
    refine SW.iload_n (pc := 63) g (dt dt_X11_readRow 34 rfl) rfl ?_
    refine SW.iadd (pc := 64) g (dt dt_X11_readRow 35 rfl) ?_
    refine SW.putI (pc := 65) g (dt dt_X11_readRow 36 rfl) fl_X11_138 cell_63 rfl ?_
    refine SW.genM h (fun μ3 h => ?_)
    refine SW.goto (pc := 68) (t := 212) g (dt dt_X11_readRow 37 rfl) rfl ?_
    exact SW.vreturn (pc := 212) g (leafV h ho) rfl (Nat.le_of_ble_eq_true rfl) (Nat.le_of_ble_eq_true rfl) (dt dt_X11_readRow 117 rfl)
set_option maxRecDepth 100000 in
set_option maxHeartbeats 4000000 in
theorem ok_f_m_readRow {G : sw_G} {ad : Nat → Nat} {ν : sw_N}   {N : Nat} {o : sw_M} (g : sw_ok G cX11_readRow "DeadWiresModel" none 6 0 0 ad) (hm : G.2.2.1.2.1.maxLocals = 4)  (μ : sw_M) (ho : sw_out G 0 0 (fun a => a = ad) (.inl none) lay0 o ν) (a1 : Int32) (h : f_m_readRow N  μ a1 = some o) : SW G ad lay0 ν 0 0 0 [some (.ref 63), some (.int a1), none, none] [] μ := by
  unfold f_m_readRow at h
  refine SW.iload_n (pc := 0) g (dt dt_X11_readRow 0 rfl) rfl ?_
  refine SW.ldcS (pc := 1) (j := 3) g (dt dt_X11_readRow 1 rfl) sr_X11_191 rfl ?_
  obtain ⟨r1, h2, h⟩ := bindI h
  refine SW.callSi (pc := 3) g (dt dt_X11_readRow 2 rfl) (mt_f_sm_of _ _ _ _ ad ν lay0 3 (by decide) N μ  r1 h2) me_X11_of ms_X11_of ml_X11_192 rfl (Nat.le_of_ble_eq_true rfl) (Nat.le_of_ble_eq_true rfl) (Nat.le_of_ble_eq_true rfl) (Nat.le_of_ble_eq_true rfl) rfl ?_
  refine SW.icmp_ne (pc := 6) (t := 71) g (dt dt_X11_readRow 3 rfl) rfl (fun hc => ?_) (fun hc => ?_)
  · have h := iteF hc h
    refine SW.iload_n (pc := 71) g (dt dt_X11_readRow 38 rfl) rfl ?_
    refine SW.ldcS (pc := 72) (j := 17) g (dt dt_X11_readRow 39 rfl) sr_X11_196 rfl ?_
    obtain ⟨r3, h4, h⟩ := bindI h
    refine SW.callSi (pc := 74) g (dt dt_X11_readRow 40 rfl) (mt_f_sm_of _ _ _ _ ad ν lay0 17 (by decide) N μ  r3 h4) me_X11_of ms_X11_of ml_X11_192 rfl (Nat.le_of_ble_eq_true rfl) (Nat.le_of_ble_eq_true rfl) (Nat.le_of_ble_eq_true rfl) (Nat.le_of_ble_eq_true rfl) rfl ?_
    refine SW.icmp_ne (pc := 77) (t := 87) g (dt dt_X11_readRow 41 rfl) rfl (fun hc => ?_) (fun hc => ?_)
    · have h := iteF hc h
      refine SW.iload_n (pc := 87) g (dt dt_X11_readRow 45 rfl) rfl ?_
      refine SW.ldcS (pc := 88) (j := 15) g (dt dt_X11_readRow 46 rfl) sr_X11_197 rfl ?_
      obtain ⟨r5, h6, h⟩ := bindI h
      refine SW.callSi (pc := 90) g (dt dt_X11_readRow 47 rfl) (mt_f_sm_of _ _ _ _ ad ν lay0 15 (by decide) N μ  r5 h6) me_X11_of ms_X11_of ml_X11_192 rfl (Nat.le_of_ble_eq_true rfl) (Nat.le_of_ble_eq_true rfl) (Nat.le_of_ble_eq_true rfl) (Nat.le_of_ble_eq_true rfl) rfl ?_
      refine SW.icmp_ne (pc := 93) (t := 144) g (dt dt_X11_readRow 48 rfl) rfl (fun hc => ?_) (fun hc => ?_)
      · have h := iteF hc h
        refine SW.iload_n (pc := 144) g (dt dt_X11_readRow 78 rfl) rfl ?_
        refine SW.ldcS (pc := 145) (j := 11) g (dt dt_X11_readRow 79 rfl) sr_X11_198 rfl ?_
        obtain ⟨r7, h8, h⟩ := bindI h
        refine SW.callSi (pc := 147) g (dt dt_X11_readRow 80 rfl) (mt_f_sm_of _ _ _ _ ad ν lay0 11 (by decide) N μ  r7 h8) me_X11_of ms_X11_of ml_X11_192 rfl (Nat.le_of_ble_eq_true rfl) (Nat.le_of_ble_eq_true rfl) (Nat.le_of_ble_eq_true rfl) (Nat.le_of_ble_eq_true rfl) rfl ?_
        refine SW.icmp_ne (pc := 150) (t := 201) g (dt dt_X11_readRow 81 rfl) rfl (fun hc => ?_) (fun hc => ?_)
        · have h := iteF hc h
          refine SW.aload_n (pc := 201) g (dt dt_X11_readRow 111 rfl) rfl ?_
          refine SW.aload_n (pc := 202) g (dt dt_X11_readRow 112 rfl) rfl ?_
          refine SW.iconst (pc := 203) (v := 0) g (dt dt_X11_readRow 113 rfl) ki_0 ?_
          refine SW.bipush (pc := 204) (v := 9) g (dt dt_X11_readRow 114 rfl) kb_9 ?_
          obtain ⟨r9, h10, h⟩ := bindI h
          refine SW.callVi (pc := 206) g (dt dt_X11_readRow 115 rfl) (mt_f_m_readNumber _ _ _ _ ad ν   N μ 0 9 r9 h10) me_X11_readNumber mv_X11_readNumber ml_X11_184 cell_63 rfl rfl (Nat.le_of_ble_eq_true rfl) (Nat.le_of_ble_eq_true rfl) (Nat.le_of_ble_eq_true rfl) (Nat.le_of_ble_eq_true rfl) rfl ?_
          refine SW.putI (pc := 209) g (dt dt_X11_readRow 116 rfl) fl_X11_150 cell_63 rfl ?_
          refine SW.genM h (fun μ11 h => ?_)
          exact SW.vreturn (pc := 212) g (leafV h ho) rfl (Nat.le_of_ble_eq_true rfl) (Nat.le_of_ble_eq_true rfl) (dt dt_X11_readRow 117 rfl)
        · have h := iteT hc h
          refine SW.aload_n (pc := 153) g (dt dt_X11_readRow 82 rfl) rfl ?_
          refine SW.getR (pc := 154) g (dt dt_X11_readRow 83 rfl) fl_X11_29 cell_63 rfl ?_
          refine SW.iconst (pc := 157) (v := 2) g (dt dt_X11_readRow 84 rfl) ki_2 ?_
          refine SW.aload_n (pc := 158) g (dt dt_X11_readRow 85 rfl) rfl ?_
          refine SW.getI (pc := 159) g (dt dt_X11_readRow 86 rfl) fl_X11_147 cell_63 rfl ?_
          refine SW.imul (pc := 162) g (dt dt_X11_readRow 87 rfl) ?_
          refine SW.aload_n (pc := 163) g (dt dt_X11_readRow 88 rfl) rfl ?_
          obtain ⟨r12, h13, h⟩ := bindI h
          refine SW.callVi (pc := 164) g (dt dt_X11_readRow 89 rfl) (mt_f_m_readField _ _ _ _ ad ν   N μ  r12 h13) me_X11_readField mv_X11_readField ml_X11_188 cell_63 rfl rfl (Nat.le_of_ble_eq_true rfl) (Nat.le_of_ble_eq_true rfl) (Nat.le_of_ble_eq_true rfl) (Nat.le_of_ble_eq_true rfl) rfl ?_
          obtain ⟨hb14, h⟩ := inbI h
          refine SW.iastore (pc := 167) g (dt dt_X11_readRow 90 rfl) cell_68 hb14 ?_
          refine SW.genM h (fun μ15 h => ?_)
          refine SW.aload_n (pc := 168) g (dt dt_X11_readRow 91 rfl) rfl ?_
          refine SW.getR (pc := 169) g (dt dt_X11_readRow 92 rfl) fl_X11_29 cell_63 rfl ?_
          refine SW.iconst (pc := 172) (v := 2) g (dt dt_X11_readRow 93 rfl) ki_2 ?_
          refine SW.aload_n (pc := 173) g (dt dt_X11_readRow 94 rfl) rfl ?_
          refine SW.getI (pc := 174) g (dt dt_X11_readRow 95 rfl) fl_X11_147 cell_63 rfl ?_
          refine SW.imul (pc := 177) g (dt dt_X11_readRow 96 rfl) ?_
          refine SW.iconst (pc := 178) (v := 1) g (dt dt_X11_readRow 97 rfl) ki_1 ?_
          refine SW.iadd (pc := 179) g (dt dt_X11_readRow 98 rfl) ?_
          refine SW.aload_n (pc := 180) g (dt dt_X11_readRow 99 rfl) rfl ?_
          refine SW.iconst (pc := 181) (v := 1) g (dt dt_X11_readRow 100 rfl) ki_1 ?_
          refine SW.bipush (pc := 182) (v := 40) g (dt dt_X11_readRow 101 rfl) kb_40 ?_
          obtain ⟨r16, h17, h⟩ := bindI h
          refine SW.callVi (pc := 184) g (dt dt_X11_readRow 102 rfl) (mt_f_m_readNumber _ _ _ _ ad ν   N μ15 1 40 r16 h17) me_X11_readNumber mv_X11_readNumber ml_X11_184 cell_63 rfl rfl (Nat.le_of_ble_eq_true rfl) (Nat.le_of_ble_eq_true rfl) (Nat.le_of_ble_eq_true rfl) (Nat.le_of_ble_eq_true rfl) rfl ?_
          obtain ⟨hb18, h⟩ := inbI h
          refine SW.iastore (pc := 187) g (dt dt_X11_readRow 103 rfl) cell_68 hb18 ?_
          refine SW.genM h (fun μ19 h => ?_)
          refine SW.aload_n (pc := 188) g (dt dt_X11_readRow 104 rfl) rfl ?_
          refine SW.dup (pc := 189) g (dt dt_X11_readRow 105 rfl) rfl ?_
          refine SW.getI (pc := 190) g (dt dt_X11_readRow 106 rfl) fl_X11_147 cell_63 rfl ?_
          refine SW.iconst (pc := 193) (v := 1) g (dt dt_X11_readRow 107 rfl) ki_1 ?_
          refine SW.iadd (pc := 194) g (dt dt_X11_readRow 108 rfl) ?_
          refine SW.putI (pc := 195) g (dt dt_X11_readRow 109 rfl) fl_X11_147 cell_63 rfl ?_
          refine SW.genM h (fun μ20 h => ?_)
          refine SW.goto (pc := 198) (t := 212) g (dt dt_X11_readRow 110 rfl) rfl ?_
          exact SW.vreturn (pc := 212) g (leafV h ho) rfl (Nat.le_of_ble_eq_true rfl) (Nat.le_of_ble_eq_true rfl) (dt dt_X11_readRow 117 rfl)
      · have h := iteT hc h
        refine SW.aload_n (pc := 96) g (dt dt_X11_readRow 49 rfl) rfl ?_
        refine SW.getR (pc := 97) g (dt dt_X11_readRow 50 rfl) fl_X11_26 cell_63 rfl ?_
        refine SW.iconst (pc := 100) (v := 2) g (dt dt_X11_readRow 51 rfl) ki_2 ?_
        refine SW.aload_n (pc := 101) g (dt dt_X11_readRow 52 rfl) rfl ?_
        refine SW.getI (pc := 102) g (dt dt_X11_readRow 53 rfl) fl_X11_144 cell_63 rfl ?_
        refine SW.imul (pc := 105) g (dt dt_X11_readRow 54 rfl) ?_
        refine SW.aload_n (pc := 106) g (dt dt_X11_readRow 55 rfl) rfl ?_
        obtain ⟨r21, h22, h⟩ := bindI h
        refine SW.callVi (pc := 107) g (dt dt_X11_readRow 56 rfl) (mt_f_m_readField _ _ _ _ ad ν   N μ  r21 h22) me_X11_readField mv_X11_readField ml_X11_188 cell_63 rfl rfl (Nat.le_of_ble_eq_true rfl) (Nat.le_of_ble_eq_true rfl) (Nat.le_of_ble_eq_true rfl) (Nat.le_of_ble_eq_true rfl) rfl ?_
        obtain ⟨hb23, h⟩ := inbI h
        refine SW.iastore (pc := 110) g (dt dt_X11_readRow 57 rfl) cell_67 hb23 ?_
        refine SW.genM h (fun μ24 h => ?_)
        refine SW.aload_n (pc := 111) g (dt dt_X11_readRow 58 rfl) rfl ?_
        refine SW.getR (pc := 112) g (dt dt_X11_readRow 59 rfl) fl_X11_26 cell_63 rfl ?_
        refine SW.iconst (pc := 115) (v := 2) g (dt dt_X11_readRow 60 rfl) ki_2 ?_
        refine SW.aload_n (pc := 116) g (dt dt_X11_readRow 61 rfl) rfl ?_
        refine SW.getI (pc := 117) g (dt dt_X11_readRow 62 rfl) fl_X11_144 cell_63 rfl ?_
        refine SW.imul (pc := 120) g (dt dt_X11_readRow 63 rfl) ?_
        refine SW.iconst (pc := 121) (v := 1) g (dt dt_X11_readRow 64 rfl) ki_1 ?_
        refine SW.iadd (pc := 122) g (dt dt_X11_readRow 65 rfl) ?_
        refine SW.aload_n (pc := 123) g (dt dt_X11_readRow 66 rfl) rfl ?_
        refine SW.iconst (pc := 124) (v := 1) g (dt dt_X11_readRow 67 rfl) ki_1 ?_
        refine SW.bipush (pc := 125) (v := 30) g (dt dt_X11_readRow 68 rfl) kb_30 ?_
        obtain ⟨r25, h26, h⟩ := bindI h
        refine SW.callVi (pc := 127) g (dt dt_X11_readRow 69 rfl) (mt_f_m_readNumber _ _ _ _ ad ν   N μ24 1 30 r25 h26) me_X11_readNumber mv_X11_readNumber ml_X11_184 cell_63 rfl rfl (Nat.le_of_ble_eq_true rfl) (Nat.le_of_ble_eq_true rfl) (Nat.le_of_ble_eq_true rfl) (Nat.le_of_ble_eq_true rfl) rfl ?_
        obtain ⟨hb27, h⟩ := inbI h
        refine SW.iastore (pc := 130) g (dt dt_X11_readRow 70 rfl) cell_67 hb27 ?_
        refine SW.genM h (fun μ28 h => ?_)
        refine SW.aload_n (pc := 131) g (dt dt_X11_readRow 71 rfl) rfl ?_
        refine SW.dup (pc := 132) g (dt dt_X11_readRow 72 rfl) rfl ?_
        refine SW.getI (pc := 133) g (dt dt_X11_readRow 73 rfl) fl_X11_144 cell_63 rfl ?_
        refine SW.iconst (pc := 136) (v := 1) g (dt dt_X11_readRow 74 rfl) ki_1 ?_
        refine SW.iadd (pc := 137) g (dt dt_X11_readRow 75 rfl) ?_
        refine SW.putI (pc := 138) g (dt dt_X11_readRow 76 rfl) fl_X11_144 cell_63 rfl ?_
        refine SW.genM h (fun μ29 h => ?_)
        refine SW.goto (pc := 141) (t := 212) g (dt dt_X11_readRow 77 rfl) rfl ?_
        exact SW.vreturn (pc := 212) g (leafV h ho) rfl (Nat.le_of_ble_eq_true rfl) (Nat.le_of_ble_eq_true rfl) (dt dt_X11_readRow 117 rfl)
    · have h := iteT hc h
      refine SW.aload_n (pc := 80) g (dt dt_X11_readRow 42 rfl) rfl ?_
      obtain ⟨r30, h31, h⟩ := bindI h
      refine SW.callVv (pc := 81) g (dt dt_X11_readRow 43 rfl) (mt_f_m_readWire _ _ _ _ ad ν   N μ  r30 h31) me_X11_readWire mv_X11_readWire ml_X11_201 cell_63 rfl rfl (Nat.le_of_ble_eq_true rfl) (Nat.le_of_ble_eq_true rfl) (Nat.le_of_ble_eq_true rfl) (Nat.le_of_ble_eq_true rfl) rfl ?_
      refine SW.goto (pc := 84) (t := 212) g (dt dt_X11_readRow 44 rfl) rfl ?_
      exact SW.vreturn (pc := 212) g (leafV h ho) rfl (Nat.le_of_ble_eq_true rfl) (Nat.le_of_ble_eq_true rfl) (dt dt_X11_readRow 117 rfl)
  · have h := iteT hc h
    refine SW.aload_n (pc := 9) g (dt dt_X11_readRow 4 rfl) rfl ?_
    obtain ⟨r32, h33, h⟩ := bindI h
    refine SW.callVi (pc := 10) g (dt dt_X11_readRow 5 rfl) (mt_f_m_here _ _ _ _ ad ν   N μ  r32 h33) me_X11_here mv_X11_here ml_X11_107 cell_63 rfl rfl (Nat.le_of_ble_eq_true rfl) (Nat.le_of_ble_eq_true rfl) (Nat.le_of_ble_eq_true rfl) (Nat.le_of_ble_eq_true rfl) rfl ?_
    refine SW.pop (pc := 13) g (dt dt_X11_readRow 6 rfl) rfl ?_
    refine SW.aload_n (pc := 14) g (dt dt_X11_readRow 7 rfl) rfl ?_
    refine SW.getI (pc := 15) g (dt dt_X11_readRow 8 rfl) fl_X11_101 cell_63 rfl ?_
    refine SW.istore_n (pc := 18) g (dt dt_X11_readRow 9 rfl) (sw_ltm hm (Nat.le_of_ble_eq_true rfl)) rfl ?_
    refine SW.genL h (fun y34 h => ?_)
    refine SW.aload_n (pc := 19) g (dt dt_X11_readRow 10 rfl) rfl ?_
    refine SW.iconst (pc := 20) (v := 1) g (dt dt_X11_readRow 11 rfl) ki_1 ?_
    refine SW.bipush (pc := 21) (v := 8) g (dt dt_X11_readRow 12 rfl) kb_8 ?_
    obtain ⟨r35, h36, h⟩ := bindI h
    refine SW.callVi (pc := 23) g (dt dt_X11_readRow 13 rfl) (mt_f_m_readNumber _ _ _ _ ad ν   N r32.2 1 8 r35 h36) me_X11_readNumber mv_X11_readNumber ml_X11_184 cell_63 rfl rfl (Nat.le_of_ble_eq_true rfl) (Nat.le_of_ble_eq_true rfl) (Nat.le_of_ble_eq_true rfl) (Nat.le_of_ble_eq_true rfl) rfl ?_
    refine SW.istore_n (pc := 26) g (dt dt_X11_readRow 14 rfl) (sw_ltm hm (Nat.le_of_ble_eq_true rfl)) rfl ?_
    refine SW.aload_n (pc := 27) g (dt dt_X11_readRow 15 rfl) rfl ?_
    obtain ⟨r37, h38, h⟩ := bindI h
    refine SW.callVi (pc := 28) g (dt dt_X11_readRow 16 rfl) (mt_f_m_fine _ _ _ _ ad ν   N r35.2  r37 h38) me_X11_fine mv_X11_fine ml_X11_124 cell_63 rfl rfl (Nat.le_of_ble_eq_true rfl) (Nat.le_of_ble_eq_true rfl) (Nat.le_of_ble_eq_true rfl) (Nat.le_of_ble_eq_true rfl) rfl ?_
    refine SW.if_eq (pc := 31) (t := 51) g (dt dt_X11_readRow 17 rfl) rfl (fun hc => ?_) (fun hc => ?_)
    · have h := iteT hc h
      refine SW.msk [true, false, false, true] ?_
      exact ok_f_m_readRow_51  g hm  ho    r35.2 r35.1 h
    · have h := iteF hc h
      refine SW.aload_n (pc := 34) g (dt dt_X11_readRow 18 rfl) rfl ?_
      refine SW.getI (pc := 35) g (dt dt_X11_readRow 19 rfl) fl_X11_138 cell_63 rfl ?_
      refine SW.iload_n (pc := 38) g (dt dt_X11_readRow 20 rfl) rfl ?_
      refine SW.iadd (pc := 39) g (dt dt_X11_readRow 21 rfl) ?_
      refine SW.bipush (pc := 40) (v := 8) g (dt dt_X11_readRow 22 rfl) kb_8 ?_
      refine SW.icmp_le (pc := 42) (t := 51) g (dt dt_X11_readRow 23 rfl) rfl (fun hc => ?_) (fun hc => ?_)
      · have h := iteT hc h
        refine SW.msk [true, false, false, true] ?_
        exact ok_f_m_readRow_51  g hm  ho    r35.2 r35.1 h
      · have h := iteF hc h
        refine SW.aload_n (pc := 45) g (dt dt_X11_readRow 24 rfl) rfl ?_
        refine SW.iconst (pc := 46) (v := 2) g (dt dt_X11_readRow 25 rfl) ki_2 ?_
        refine SW.iload_n (pc := 47) g (dt dt_X11_readRow 26 rfl) rfl ?_
        obtain ⟨r39, h40, h⟩ := bindI h
        refine SW.callVv (pc := 48) g (dt dt_X11_readRow 27 rfl) (mt_f_m_wrong _ _ _ _ ad ν   N r35.2 2 y34 r39 h40) me_X11_wrong mv_X11_wrong ml_X11_131 cell_63 rfl rfl (Nat.le_of_ble_eq_true rfl) (Nat.le_of_ble_eq_true rfl) (Nat.le_of_ble_eq_true rfl) (Nat.le_of_ble_eq_true rfl) rfl ?_
        refine SW.msk [true, false, false, true] ?_
        exact ok_f_m_readRow_51  g hm  ho    r39 r35.1 h
set_option maxRecDepth 100000 in
set_option maxHeartbeats 4000000 in
theorem mt_f_m_readRow (l : Launch) (D : va_G) (cI cL : ClassId) (ad : Nat → Nat) (ν : sw_N)    (N : Nat) (μ : sw_M) (a1 : Int32) (o : sw_M) (h : f_m_readRow N  μ a1 = some o) : MetR l D cI cL yX11_readRow cX11_readRow 4 none 6 0 0 (fun a => a = ad) ad [.ref 63, .int a1] lay0 μ ν none lay0 o ν :=
  MetR.of (n := 2) rfl (Nat.le_of_ble_eq_true rfl) (fun G g ho hm _ _ => ok_f_m_readRow  g hm  μ ho a1 h)
def f_m_country_136 (N : Nat)   (μ : sw_M)  : Option (Int32 × sw_M) :=
  Option.bind (f_m_result N  μ (μ 63 17)) (fun r1 =>
    if (r1.2 63 5) = (-1) then
      Option.bind (f_m_sets N  r1.2 ) (fun r3 =>
        some (r1.1, r3))
    else
      some (r1.1, r1.2))
def f_m_country_105 (N : Nat)  (k_44 : sw_M → Int32 → Option (Int32 × sw_M)) (μ : sw_M) (x2 : Int32) (x3 : Int32) : Option (Int32 × sw_M) :=
  Option.bind (f_m_fine N  μ ) (fun r1 =>
    if r1 = 0 then
      f_m_country_136 N    μ 
    else
      Option.bind (f_m_pass N  μ ) (fun r3 =>
        Option.bind (f_m_readRow N  r3 x3) (fun r5 =>
          Option.bind (f_m_sign N  r5 59) (fun r7 =>
            k_44 r7 (x2 + 1)))))
def f_m_country_96 (N : Nat)  (k_44 : sw_M → Int32 → Option (Int32 × sw_M)) (μ : sw_M) (x2 : Int32) (x3 : Int32) : Option (Int32 × sw_M) :=
  Option.bind (f_m_wrong N  μ 3 (μ 63 4)) (fun r1 =>
    f_m_country_105 N  k_44  r1 x2 x3)
def f_m_country_44 (N : Nat)   : Nat → sw_M → Int32 → Option (Int32 × sw_M)
  | 0, _, _ => none
  | n + 1, μ, x2 =>
    Option.bind (f_m_fine N  μ ) (fun r1 =>
      if r1 = 0 then
        f_m_country_136 N    μ 
      else
        Option.bind (f_m_isMore N  μ ) (fun r3 =>
          if r3.1 = 0 then
            f_m_country_136 N    r3.2 
          else
            Option.bind (f_m_word N  r3.2 ) (fun r5 =>
              Option.bind (f_sm_isRow N  r5.2 r5.1) (fun r7 =>
                if r7 = 0 then
                  Option.bind (f_m_wrong N  r5.2 1 (r5.2 63 4)) (fun r11 =>
                    f_m_country_105 N  (f_m_country_44 N   n)  r11 x2 r5.1)
                else
                  if x2 = 60 then
                    f_m_country_96 N  (f_m_country_44 N   n)  r5.2 x2 r5.1
                  else
                    Option.bind (f_m_isFull N  r5.2 r5.1) (fun r9 =>
                      if r9 = 0 then
                        f_m_country_105 N  (f_m_country_44 N   n)  r5.2 x2 r5.1
                      else
                        f_m_country_96 N  (f_m_country_44 N   n)  r5.2 x2 r5.1)))))
def f_m_country_23 (N : Nat)   (μ : sw_M) (x1 : Int32) (s0 : Int32) : Option (Int32 × sw_M) :=
  Option.bind (f_m_may N  μ s0 1 1) (fun r1 =>
    if r1.1 = 0 then
      some (0, r1.2)
    else
      Option.bind (f_m_begins N  r1.2 x1) (fun r3 =>
        Option.bind (f_m_clears N  r3 ) (fun r5 =>
          f_m_country_44 N   N r5 0)))
def f_m_country_22 (N : Nat)   (μ : sw_M) (x1 : Int32) : Option (Int32 × sw_M) :=
  f_m_country_23 N    μ x1 0
def f_m_country (N : Nat)  (μ : sw_M) (a1 : Int32) : Option (Int32 × sw_M) :=
  wb (wr μ 63 0 0) (fun μ1 =>
    if a1 < 0 then
      f_m_country_22 N    μ1 a1
    else
      if (μ1 63 2) < a1 then
        f_m_country_22 N    μ1 a1
      else
        f_m_country_23 N    μ1 a1 1)
set_option maxRecDepth 100000 in
set_option maxHeartbeats 4000000 in
theorem ok_f_m_country_136 {G : sw_G} {ad : Nat → Nat} {ν : sw_N}   {N : Nat} {o : Int32 × sw_M} (g : sw_ok G cX11_country "DeadWiresModel" (some .int) 7 0 0 ad) (hm : G.2.2.1.2.1.maxLocals = 4)  (ho : sw_out G 0 0 (fun a => a = ad) (.inl (some (.int o.1))) lay0 o.2 ν)  (μ : sw_M)  (h : f_m_country_136 N    μ  = some o) : SW G ad lay0 ν 0 0 136 [some (.ref 63), none, none, none] [] μ := by
  unfold f_m_country_136 at h
  refine SW.aload_n (pc := 136) g (dt dt_X11_country 70 rfl) rfl ?_
  refine SW.aload_n (pc := 137) g (dt dt_X11_country 71 rfl) rfl ?_
  refine SW.getI (pc := 138) g (dt dt_X11_country 72 rfl) fl_X11_141 cell_63 rfl ?_
  obtain ⟨r1, h2, h⟩ := bindI h
  refine SW.callVi (pc := 141) g (dt dt_X11_country 73 rfl) (mt_f_m_result _ _ _ _ ad ν   N μ (μ 63 17) r1 h2) me_X11_result mv_X11_result ml_X11_233 cell_63 rfl rfl (Nat.le_of_ble_eq_true rfl) (Nat.le_of_ble_eq_true rfl) (Nat.le_of_ble_eq_true rfl) (Nat.le_of_ble_eq_true rfl) rfl ?_
  refine SW.istore_n (pc := 144) g (dt dt_X11_country 74 rfl) (sw_ltm hm (Nat.le_of_ble_eq_true rfl)) rfl ?_
  refine SW.aload_n (pc := 145) g (dt dt_X11_country 75 rfl) rfl ?_
  refine SW.getI (pc := 146) g (dt dt_X11_country 76 rfl) fl_X11_95 cell_63 rfl ?_
  refine SW.iconst (pc := 149) (v := (-1)) g (dt dt_X11_country 77 rfl) ki_m1 ?_
  refine SW.icmp_ne (pc := 150) (t := 157) g (dt dt_X11_country 78 rfl) rfl (fun hc => ?_) (fun hc => ?_)
  · have h := iteF hc h
    refine SW.iload_n (pc := 157) g (dt dt_X11_country 81 rfl) rfl ?_
    exact SW.ireturn (pc := 158) g (leafW h ho) rfl (Nat.le_of_ble_eq_true rfl) (Nat.le_of_ble_eq_true rfl) (dt dt_X11_country 82 rfl)
  · have h := iteT hc h
    refine SW.aload_n (pc := 153) g (dt dt_X11_country 79 rfl) rfl ?_
    obtain ⟨r3, h4, h⟩ := bindI h
    refine SW.callVv (pc := 154) g (dt dt_X11_country 80 rfl) (mt_f_m_sets _ _ _ _ ad ν   N r1.2  r3 h4) me_X11_sets mv_X11_sets ml_X11_89 cell_63 rfl rfl (Nat.le_of_ble_eq_true rfl) (Nat.le_of_ble_eq_true rfl) (Nat.le_of_ble_eq_true rfl) (Nat.le_of_ble_eq_true rfl) rfl ?_
    refine SW.iload_n (pc := 157) g (dt dt_X11_country 81 rfl) rfl ?_
    exact SW.ireturn (pc := 158) g (leafW h ho) rfl (Nat.le_of_ble_eq_true rfl) (Nat.le_of_ble_eq_true rfl) (dt dt_X11_country 82 rfl)
set_option maxRecDepth 100000 in
set_option maxHeartbeats 4000000 in
theorem ok_f_m_country_105 {G : sw_G} {ad : Nat → Nat} {ν : sw_N}   {N : Nat} {o : Int32 × sw_M} (g : sw_ok G cX11_country "DeadWiresModel" (some .int) 7 0 0 ad) (hm : G.2.2.1.2.1.maxLocals = 4)  (ho : sw_out G 0 0 (fun a => a = ad) (.inl (some (.int o.1))) lay0 o.2 ν) (k_44 : sw_M → Int32 → Option (Int32 × sw_M)) (hk_44 : ∀ (μ : sw_M) (x2 : Int32), k_44 μ x2 = some o → SW G ad lay0 ν 0 0 44 [some (.ref 63), none, some (.int x2), none] [] μ) (μ : sw_M) (x2 : Int32) (x3 : Int32) (h : f_m_country_105 N  k_44  μ x2 x3 = some o) : SW G ad lay0 ν 0 0 105 [some (.ref 63), none, some (.int x2), some (.int x3)] [] μ := by
  unfold f_m_country_105 at h
  refine SW.aload_n (pc := 105) g (dt dt_X11_country 56 rfl) rfl ?_
  obtain ⟨r1, h2, h⟩ := bindI h
  refine SW.callVi (pc := 106) g (dt dt_X11_country 57 rfl) (mt_f_m_fine _ _ _ _ ad ν   N μ  r1 h2) me_X11_fine mv_X11_fine ml_X11_124 cell_63 rfl rfl (Nat.le_of_ble_eq_true rfl) (Nat.le_of_ble_eq_true rfl) (Nat.le_of_ble_eq_true rfl) (Nat.le_of_ble_eq_true rfl) rfl ?_
  refine SW.if_ne (pc := 109) (t := 115) g (dt dt_X11_country 58 rfl) rfl (fun hc => ?_) (fun hc => ?_)
  · have h := iteF hc h
    refine SW.aload_n (pc := 115) g (dt dt_X11_country 60 rfl) rfl ?_
    obtain ⟨r3, h4, h⟩ := bindI h
    refine SW.callVv (pc := 116) g (dt dt_X11_country 61 rfl) (mt_f_m_pass _ _ _ _ ad ν   N μ  r3 h4) me_X11_pass mv_X11_pass ml_X11_224 cell_63 rfl rfl (Nat.le_of_ble_eq_true rfl) (Nat.le_of_ble_eq_true rfl) (Nat.le_of_ble_eq_true rfl) (Nat.le_of_ble_eq_true rfl) rfl ?_
    refine SW.aload_n (pc := 119) g (dt dt_X11_country 62 rfl) rfl ?_
    refine SW.iload_n (pc := 120) g (dt dt_X11_country 63 rfl) rfl ?_
    obtain ⟨r5, h6, h⟩ := bindI h
    refine SW.callVv (pc := 121) g (dt dt_X11_country 64 rfl) (mt_f_m_readRow _ _ _ _ ad ν   N r3 x3 r5 h6) me_X11_readRow mv_X11_readRow ml_X11_227 cell_63 rfl rfl (Nat.le_of_ble_eq_true rfl) (Nat.le_of_ble_eq_true rfl) (Nat.le_of_ble_eq_true rfl) (Nat.le_of_ble_eq_true rfl) rfl ?_
    refine SW.aload_n (pc := 124) g (dt dt_X11_country 65 rfl) rfl ?_
    refine SW.bipush (pc := 125) (v := 59) g (dt dt_X11_country 66 rfl) kb_59 ?_
    obtain ⟨r7, h8, h⟩ := bindI h
    refine SW.callVv (pc := 127) g (dt dt_X11_country 67 rfl) (mt_f_m_sign _ _ _ _ ad ν   N r5 59 r7 h8) me_X11_sign mv_X11_sign ml_X11_230 cell_63 rfl rfl (Nat.le_of_ble_eq_true rfl) (Nat.le_of_ble_eq_true rfl) (Nat.le_of_ble_eq_true rfl) (Nat.le_of_ble_eq_true rfl) rfl ?_
    refine SW.iinc (pc := 130) (v := x2 + 1) g (dt dt_X11_country 68 rfl) rfl (kn_1 _) (sw_ltm hm (Nat.le_of_ble_eq_true rfl)) rfl ?_
    refine SW.goto (pc := 133) (t := 44) g (dt dt_X11_country 69 rfl) rfl ?_
    refine SW.msk [true, false, true, false] ?_
    exact hk_44 r7 (x2 + 1) h
  · have h := iteT hc h
    refine SW.goto (pc := 112) (t := 136) g (dt dt_X11_country 59 rfl) rfl ?_
    refine SW.msk [true, false, false, false] ?_
    exact ok_f_m_country_136  g hm  ho    μ  h
set_option maxRecDepth 100000 in
set_option maxHeartbeats 4000000 in
theorem ok_f_m_country_96 {G : sw_G} {ad : Nat → Nat} {ν : sw_N}   {N : Nat} {o : Int32 × sw_M} (g : sw_ok G cX11_country "DeadWiresModel" (some .int) 7 0 0 ad) (hm : G.2.2.1.2.1.maxLocals = 4)  (ho : sw_out G 0 0 (fun a => a = ad) (.inl (some (.int o.1))) lay0 o.2 ν) (k_44 : sw_M → Int32 → Option (Int32 × sw_M)) (hk_44 : ∀ (μ : sw_M) (x2 : Int32), k_44 μ x2 = some o → SW G ad lay0 ν 0 0 44 [some (.ref 63), none, some (.int x2), none] [] μ) (μ : sw_M) (x2 : Int32) (x3 : Int32) (h : f_m_country_96 N  k_44  μ x2 x3 = some o) : SW G ad lay0 ν 0 0 96 [some (.ref 63), none, some (.int x2), some (.int x3)] [] μ := by
  unfold f_m_country_96 at h
  refine SW.aload_n (pc := 96) g (dt dt_X11_country 51 rfl) rfl ?_
  refine SW.iconst (pc := 97) (v := 3) g (dt dt_X11_country 52 rfl) ki_3 ?_
  refine SW.aload_n (pc := 98) g (dt dt_X11_country 53 rfl) rfl ?_
  refine SW.getI (pc := 99) g (dt dt_X11_country 54 rfl) fl_X11_101 cell_63 rfl ?_
  obtain ⟨r1, h2, h⟩ := bindI h
  refine SW.callVv (pc := 102) g (dt dt_X11_country 55 rfl) (mt_f_m_wrong _ _ _ _ ad ν   N μ 3 (μ 63 4) r1 h2) me_X11_wrong mv_X11_wrong ml_X11_131 cell_63 rfl rfl (Nat.le_of_ble_eq_true rfl) (Nat.le_of_ble_eq_true rfl) (Nat.le_of_ble_eq_true rfl) (Nat.le_of_ble_eq_true rfl) rfl ?_
  refine SW.msk [true, false, true, true] ?_
  exact ok_f_m_country_105  g hm  ho k_44 hk_44  r1 x2 x3 h
set_option maxRecDepth 100000 in
set_option maxHeartbeats 4000000 in
theorem ok_f_m_country_44 {G : sw_G} {ad : Nat → Nat} {ν : sw_N}   {N : Nat} {o : Int32 × sw_M} (g : sw_ok G cX11_country "DeadWiresModel" (some .int) 7 0 0 ad) (hm : G.2.2.1.2.1.maxLocals = 4)  (ho : sw_out G 0 0 (fun a => a = ad) (.inl (some (.int o.1))) lay0 o.2 ν)  : ∀ (n : Nat) (μ : sw_M) (x2 : Int32) (h : f_m_country_44 N   n μ x2 = some o), SW G ad lay0 ν 0 0 44 [some (.ref 63), none, some (.int x2), none] [] μ := by
  intro n
  induction n with
  | zero => intro μ x2 h; simp only [f_m_country_44] at h; cases h
  | succ n ih =>
    intro μ x2 h
    unfold f_m_country_44 at h
    refine SW.aload_n (pc := 44) g (dt dt_X11_country 26 rfl) rfl ?_
    obtain ⟨r1, h2, h⟩ := bindI h
    refine SW.callVi (pc := 45) g (dt dt_X11_country 27 rfl) (mt_f_m_fine _ _ _ _ ad ν   N μ  r1 h2) me_X11_fine mv_X11_fine ml_X11_124 cell_63 rfl rfl (Nat.le_of_ble_eq_true rfl) (Nat.le_of_ble_eq_true rfl) (Nat.le_of_ble_eq_true rfl) (Nat.le_of_ble_eq_true rfl) rfl ?_
    refine SW.if_eq (pc := 48) (t := 136) g (dt dt_X11_country 28 rfl) rfl (fun hc => ?_) (fun hc => ?_)
    · have h := iteT hc h
      refine SW.msk [true, false, false, false] ?_
      exact ok_f_m_country_136  g hm  ho    μ  h
    · have h := iteF hc h
      refine SW.aload_n (pc := 51) g (dt dt_X11_country 29 rfl) rfl ?_
      obtain ⟨r3, h4, h⟩ := bindI h
      refine SW.callVi (pc := 52) g (dt dt_X11_country 30 rfl) (mt_f_m_isMore _ _ _ _ ad ν   N μ  r3 h4) me_X11_isMore mv_X11_isMore ml_X11_212 cell_63 rfl rfl (Nat.le_of_ble_eq_true rfl) (Nat.le_of_ble_eq_true rfl) (Nat.le_of_ble_eq_true rfl) (Nat.le_of_ble_eq_true rfl) rfl ?_
      refine SW.if_eq (pc := 55) (t := 136) g (dt dt_X11_country 31 rfl) rfl (fun hc => ?_) (fun hc => ?_)
      · have h := iteT hc h
        refine SW.msk [true, false, false, false] ?_
        exact ok_f_m_country_136  g hm  ho    r3.2  h
      · have h := iteF hc h
        refine SW.aload_n (pc := 58) g (dt dt_X11_country 32 rfl) rfl ?_
        obtain ⟨r5, h6, h⟩ := bindI h
        refine SW.callVi (pc := 59) g (dt dt_X11_country 33 rfl) (mt_f_m_word _ _ _ _ ad ν   N r3.2  r5 h6) me_X11_word mv_X11_word ml_X11_215 cell_63 rfl rfl (Nat.le_of_ble_eq_true rfl) (Nat.le_of_ble_eq_true rfl) (Nat.le_of_ble_eq_true rfl) (Nat.le_of_ble_eq_true rfl) rfl ?_
        refine SW.istore_n (pc := 62) g (dt dt_X11_country 34 rfl) (sw_ltm hm (Nat.le_of_ble_eq_true rfl)) rfl ?_
        refine SW.iload_n (pc := 63) g (dt dt_X11_country 35 rfl) rfl ?_
        obtain ⟨r7, h8, h⟩ := bindI h
        refine SW.callSi (pc := 64) g (dt dt_X11_country 36 rfl) (mt_f_sm_isRow _ _ _ _ ad ν lay0   N r5.2 r5.1 r7 h8) me_X11_isRow ms_X11_isRow ml_X11_218 rfl (Nat.le_of_ble_eq_true rfl) (Nat.le_of_ble_eq_true rfl) (Nat.le_of_ble_eq_true rfl) (Nat.le_of_ble_eq_true rfl) rfl ?_
        refine SW.if_ne (pc := 67) (t := 82) g (dt dt_X11_country 37 rfl) rfl (fun hc => ?_) (fun hc => ?_)
        · have h := iteF hc h
          refine SW.iload_n (pc := 82) g (dt dt_X11_country 44 rfl) rfl ?_
          refine SW.bipush (pc := 83) (v := 60) g (dt dt_X11_country 45 rfl) kb_60 ?_
          refine SW.icmp_eq (pc := 85) (t := 96) g (dt dt_X11_country 46 rfl) rfl (fun hc => ?_) (fun hc => ?_)
          · have h := iteT hc h
            refine SW.msk [true, false, true, true] ?_
            exact ok_f_m_country_96  g hm  ho (f_m_country_44 N   n) ih  r5.2 x2 r5.1 h
          · have h := iteF hc h
            refine SW.aload_n (pc := 88) g (dt dt_X11_country 47 rfl) rfl ?_
            refine SW.iload_n (pc := 89) g (dt dt_X11_country 48 rfl) rfl ?_
            obtain ⟨r9, h10, h⟩ := bindI h
            refine SW.callVi (pc := 90) g (dt dt_X11_country 49 rfl) (mt_f_m_isFull _ _ _ _ ad ν   N r5.2 r5.1 r9 h10) me_X11_isFull mv_X11_isFull ml_X11_221 cell_63 rfl rfl (Nat.le_of_ble_eq_true rfl) (Nat.le_of_ble_eq_true rfl) (Nat.le_of_ble_eq_true rfl) (Nat.le_of_ble_eq_true rfl) rfl ?_
            refine SW.if_eq (pc := 93) (t := 105) g (dt dt_X11_country 50 rfl) rfl (fun hc => ?_) (fun hc => ?_)
            · have h := iteT hc h
              refine SW.msk [true, false, true, true] ?_
              exact ok_f_m_country_105  g hm  ho (f_m_country_44 N   n) ih  r5.2 x2 r5.1 h
            · have h := iteF hc h
              refine SW.msk [true, false, true, true] ?_
              exact ok_f_m_country_96  g hm  ho (f_m_country_44 N   n) ih  r5.2 x2 r5.1 h
        · have h := iteT hc h
          refine SW.aload_n (pc := 70) g (dt dt_X11_country 38 rfl) rfl ?_
          refine SW.iconst (pc := 71) (v := 1) g (dt dt_X11_country 39 rfl) ki_1 ?_
          refine SW.aload_n (pc := 72) g (dt dt_X11_country 40 rfl) rfl ?_
          refine SW.getI (pc := 73) g (dt dt_X11_country 41 rfl) fl_X11_101 cell_63 rfl ?_
          obtain ⟨r11, h12, h⟩ := bindI h
          refine SW.callVv (pc := 76) g (dt dt_X11_country 42 rfl) (mt_f_m_wrong _ _ _ _ ad ν   N r5.2 1 (r5.2 63 4) r11 h12) me_X11_wrong mv_X11_wrong ml_X11_131 cell_63 rfl rfl (Nat.le_of_ble_eq_true rfl) (Nat.le_of_ble_eq_true rfl) (Nat.le_of_ble_eq_true rfl) (Nat.le_of_ble_eq_true rfl) rfl ?_
          refine SW.goto (pc := 79) (t := 105) g (dt dt_X11_country 43 rfl) rfl ?_
          refine SW.msk [true, false, true, true] ?_
          exact ok_f_m_country_105  g hm  ho (f_m_country_44 N   n) ih  r11 x2 r5.1 h
set_option maxRecDepth 100000 in
set_option maxHeartbeats 4000000 in
theorem ok_f_m_country_23 {G : sw_G} {ad : Nat → Nat} {ν : sw_N}   {N : Nat} {o : Int32 × sw_M} (g : sw_ok G cX11_country "DeadWiresModel" (some .int) 7 0 0 ad) (hm : G.2.2.1.2.1.maxLocals = 4)  (ho : sw_out G 0 0 (fun a => a = ad) (.inl (some (.int o.1))) lay0 o.2 ν)  (μ : sw_M) (x1 : Int32) (s0 : Int32) (h : f_m_country_23 N    μ x1 s0 = some o) : SW G ad lay0 ν 0 0 23 [some (.ref 63), some (.int x1), none, none] [.int s0, .ref 63] μ := by
  unfold f_m_country_23 at h
  refine SW.iconst (pc := 23) (v := 1) g (dt dt_X11_country 13 rfl) ki_1 ?_
  refine SW.iconst (pc := 24) (v := 1) g (dt dt_X11_country 14 rfl) ki_1 ?_
  obtain ⟨r1, h2, h⟩ := bindI h
  refine SW.callVi (pc := 25) g (dt dt_X11_country 15 rfl) (mt_f_m_may _ _ _ _ ad ν   N μ s0 1 1 r1 h2) me_X11_may mv_X11_may ml_X11_204 cell_63 rfl rfl (Nat.le_of_ble_eq_true rfl) (Nat.le_of_ble_eq_true rfl) (Nat.le_of_ble_eq_true rfl) (Nat.le_of_ble_eq_true rfl) rfl ?_
  refine SW.if_ne (pc := 28) (t := 33) g (dt dt_X11_country 16 rfl) rfl (fun hc => ?_) (fun hc => ?_)
  · have h := iteF hc h
    refine SW.aload_n (pc := 33) g (dt dt_X11_country 19 rfl) rfl ?_
    refine SW.iload_n (pc := 34) g (dt dt_X11_country 20 rfl) rfl ?_
    obtain ⟨r3, h4, h⟩ := bindI h
    refine SW.callVv (pc := 35) g (dt dt_X11_country 21 rfl) (mt_f_m_begins _ _ _ _ ad ν   N r1.2 x1 r3 h4) me_X11_begins mv_X11_begins ml_X11_208 cell_63 rfl rfl (Nat.le_of_ble_eq_true rfl) (Nat.le_of_ble_eq_true rfl) (Nat.le_of_ble_eq_true rfl) (Nat.le_of_ble_eq_true rfl) rfl ?_
    refine SW.aload_n (pc := 38) g (dt dt_X11_country 22 rfl) rfl ?_
    obtain ⟨r5, h6, h⟩ := bindI h
    refine SW.callVv (pc := 39) g (dt dt_X11_country 23 rfl) (mt_f_m_clears _ _ _ _ ad ν   N r3  r5 h6) me_X11_clears mv_X11_clears ml_X11_86 cell_63 rfl rfl (Nat.le_of_ble_eq_true rfl) (Nat.le_of_ble_eq_true rfl) (Nat.le_of_ble_eq_true rfl) (Nat.le_of_ble_eq_true rfl) rfl ?_
    refine SW.iconst (pc := 42) (v := 0) g (dt dt_X11_country 24 rfl) ki_0 ?_
    refine SW.istore_n (pc := 43) g (dt dt_X11_country 25 rfl) (sw_ltm hm (Nat.le_of_ble_eq_true rfl)) rfl ?_
    refine SW.msk [true, false, true, false] ?_
    exact ok_f_m_country_44  g hm  ho   N r5 0 h
  · have h := iteT hc h
    refine SW.iconst (pc := 31) (v := 0) g (dt dt_X11_country 17 rfl) ki_0 ?_
    exact SW.ireturn (pc := 32) g (leafW h ho) rfl (Nat.le_of_ble_eq_true rfl) (Nat.le_of_ble_eq_true rfl) (dt dt_X11_country 18 rfl)
set_option maxRecDepth 100000 in
set_option maxHeartbeats 4000000 in
theorem ok_f_m_country_22 {G : sw_G} {ad : Nat → Nat} {ν : sw_N}   {N : Nat} {o : Int32 × sw_M} (g : sw_ok G cX11_country "DeadWiresModel" (some .int) 7 0 0 ad) (hm : G.2.2.1.2.1.maxLocals = 4)  (ho : sw_out G 0 0 (fun a => a = ad) (.inl (some (.int o.1))) lay0 o.2 ν)  (μ : sw_M) (x1 : Int32) (h : f_m_country_22 N    μ x1 = some o) : SW G ad lay0 ν 0 0 22 [some (.ref 63), some (.int x1), none, none] [.ref 63] μ := by
  unfold f_m_country_22 at h
  refine SW.iconst (pc := 22) (v := 0) g (dt dt_X11_country 12 rfl) ki_0 ?_
  refine SW.msk [true, true, false, false] ?_
  exact ok_f_m_country_23  g hm  ho    μ x1 0 h
set_option maxRecDepth 100000 in
set_option maxHeartbeats 4000000 in
theorem ok_f_m_country {G : sw_G} {ad : Nat → Nat} {ν : sw_N}   {N : Nat} {o : Int32 × sw_M} (g : sw_ok G cX11_country "DeadWiresModel" (some .int) 7 0 0 ad) (hm : G.2.2.1.2.1.maxLocals = 4)  (μ : sw_M) (ho : sw_out G 0 0 (fun a => a = ad) (.inl (some (.int o.1))) lay0 o.2 ν) (a1 : Int32) (h : f_m_country N  μ a1 = some o) : SW G ad lay0 ν 0 0 0 [some (.ref 63), some (.int a1), none, none] [] μ := by
  unfold f_m_country at h
  refine SW.aload_n (pc := 0) g (dt dt_X11_country 0 rfl) rfl ?_
  refine SW.iconst (pc := 1) (v := 0) g (dt dt_X11_country 1 rfl) ki_0 ?_
  refine SW.putI (pc := 2) g (dt dt_X11_country 2 rfl) fl_X11_3 cell_63 rfl ?_
  refine SW.genM h (fun μ1 h => ?_)
  refine SW.aload_n (pc := 5) g (dt dt_X11_country 3 rfl) rfl ?_
  refine SW.iload_n (pc := 6) g (dt dt_X11_country 4 rfl) rfl ?_
  refine SW.if_lt (pc := 7) (t := 22) g (dt dt_X11_country 5 rfl) rfl (fun hc => ?_) (fun hc => ?_)
  · have h := iteT hc h
    refine SW.msk [true, true, false, false] ?_
    exact ok_f_m_country_22  g hm  ho    μ1 a1 h
  · have h := iteF hc h
    refine SW.iload_n (pc := 10) g (dt dt_X11_country 6 rfl) rfl ?_
    refine SW.aload_n (pc := 11) g (dt dt_X11_country 7 rfl) rfl ?_
    refine SW.getI (pc := 12) g (dt dt_X11_country 8 rfl) fl_X11_92 cell_63 rfl ?_
    refine SW.icmp_gt (pc := 15) (t := 22) g (dt dt_X11_country 9 rfl) rfl (fun hc => ?_) (fun hc => ?_)
    · have h := iteT hc h
      refine SW.msk [true, true, false, false] ?_
      exact ok_f_m_country_22  g hm  ho    μ1 a1 h
    · have h := iteF hc h
      refine SW.iconst (pc := 18) (v := 1) g (dt dt_X11_country 10 rfl) ki_1 ?_
      refine SW.goto (pc := 19) (t := 23) g (dt dt_X11_country 11 rfl) rfl ?_
      refine SW.msk [true, true, false, false] ?_
      exact ok_f_m_country_23  g hm  ho    μ1 a1 1 h
set_option maxRecDepth 100000 in
set_option maxHeartbeats 4000000 in
theorem mt_f_m_country (l : Launch) (D : va_G) (cI cL : ClassId) (ad : Nat → Nat) (ν : sw_N)    (N : Nat) (μ : sw_M) (a1 : Int32) (o : Int32 × sw_M) (h : f_m_country N  μ a1 = some o) : MetR l D cI cL yX11_country cX11_country 4 (some .int) 7 0 0 (fun a => a = ad) ad [.ref 63, .int a1] lay0 μ ν (some (.int o.1)) lay0 o.2 ν :=
  MetR.of (n := 2) rfl (Nat.le_of_ble_eq_true rfl) (fun G g ho hm _ _ => ok_f_m_country  g hm  μ ho a1 h)
def f_m_emit (N : Nat)  (μ : sw_M) (a1 : Int32) (a2 : Int32) : Option (sw_M) :=
  Option.bind (f_m_fine N  μ ) (fun r1 =>
    if r1 = 0 then
      some μ
    else
      inb (μ 63 30) 150 (wb (wr μ 72 (μ 63 30).toNatClampNeg a1) (fun μ4 =>
        inb (μ4 63 30) 150 (wb (wr μ4 73 (μ4 63 30).toNatClampNeg a2) (fun μ6 =>
          wb (wr μ6 63 30 ((μ6 63 30) + 1)) (fun μ7 =>
            some μ7))))))
set_option maxRecDepth 100000 in
set_option maxHeartbeats 4000000 in
theorem ok_f_m_emit {G : sw_G} {ad : Nat → Nat} {ν : sw_N}   {N : Nat} {o : sw_M} (g : sw_ok G cX11_emit "DeadWiresModel" none 2 0 0 ad) (hm : G.2.2.1.2.1.maxLocals = 3)  (μ : sw_M) (ho : sw_out G 0 0 (fun a => a = ad) (.inl none) lay0 o ν) (a1 : Int32) (a2 : Int32) (h : f_m_emit N  μ a1 a2 = some o) : SW G ad lay0 ν 0 0 0 [some (.ref 63), some (.int a1), some (.int a2)] [] μ := by
  unfold f_m_emit at h
  refine SW.aload_n (pc := 0) g (dt dt_X11_emit 0 rfl) rfl ?_
  obtain ⟨r1, h2, h⟩ := bindI h
  refine SW.callVi (pc := 1) g (dt dt_X11_emit 1 rfl) (mt_f_m_fine _ _ _ _ ad ν   N μ  r1 h2) me_X11_fine mv_X11_fine ml_X11_124 cell_63 rfl rfl (Nat.le_of_ble_eq_true rfl) (Nat.le_of_ble_eq_true rfl) (Nat.le_of_ble_eq_true rfl) (Nat.le_of_ble_eq_true rfl) rfl ?_
  refine SW.if_ne (pc := 4) (t := 8) g (dt dt_X11_emit 2 rfl) rfl (fun hc => ?_) (fun hc => ?_)
  · have h := iteF hc h
    refine SW.aload_n (pc := 8) g (dt dt_X11_emit 4 rfl) rfl ?_
    refine SW.getR (pc := 9) g (dt dt_X11_emit 5 rfl) fl_X11_41 cell_63 rfl ?_
    refine SW.aload_n (pc := 12) g (dt dt_X11_emit 6 rfl) rfl ?_
    refine SW.getI (pc := 13) g (dt dt_X11_emit 7 rfl) fl_X11_237 cell_63 rfl ?_
    refine SW.iload_n (pc := 16) g (dt dt_X11_emit 8 rfl) rfl ?_
    obtain ⟨hb3, h⟩ := inbI h
    refine SW.iastore (pc := 17) g (dt dt_X11_emit 9 rfl) cell_72 hb3 ?_
    refine SW.genM h (fun μ4 h => ?_)
    refine SW.aload_n (pc := 18) g (dt dt_X11_emit 10 rfl) rfl ?_
    refine SW.getR (pc := 19) g (dt dt_X11_emit 11 rfl) fl_X11_44 cell_63 rfl ?_
    refine SW.aload_n (pc := 22) g (dt dt_X11_emit 12 rfl) rfl ?_
    refine SW.getI (pc := 23) g (dt dt_X11_emit 13 rfl) fl_X11_237 cell_63 rfl ?_
    refine SW.iload_n (pc := 26) g (dt dt_X11_emit 14 rfl) rfl ?_
    obtain ⟨hb5, h⟩ := inbI h
    refine SW.iastore (pc := 27) g (dt dt_X11_emit 15 rfl) cell_73 hb5 ?_
    refine SW.genM h (fun μ6 h => ?_)
    refine SW.aload_n (pc := 28) g (dt dt_X11_emit 16 rfl) rfl ?_
    refine SW.dup (pc := 29) g (dt dt_X11_emit 17 rfl) rfl ?_
    refine SW.getI (pc := 30) g (dt dt_X11_emit 18 rfl) fl_X11_237 cell_63 rfl ?_
    refine SW.iconst (pc := 33) (v := 1) g (dt dt_X11_emit 19 rfl) ki_1 ?_
    refine SW.iadd (pc := 34) g (dt dt_X11_emit 20 rfl) ?_
    refine SW.putI (pc := 35) g (dt dt_X11_emit 21 rfl) fl_X11_237 cell_63 rfl ?_
    refine SW.genM h (fun μ7 h => ?_)
    exact SW.vreturn (pc := 38) g (leafV h ho) rfl (Nat.le_of_ble_eq_true rfl) (Nat.le_of_ble_eq_true rfl) (dt dt_X11_emit 22 rfl)
  · have h := iteT hc h
    exact SW.vreturn (pc := 7) g (leafV h ho) rfl (Nat.le_of_ble_eq_true rfl) (Nat.le_of_ble_eq_true rfl) (dt dt_X11_emit 3 rfl)
set_option maxRecDepth 100000 in
set_option maxHeartbeats 4000000 in
theorem mt_f_m_emit (l : Launch) (D : va_G) (cI cL : ClassId) (ad : Nat → Nat) (ν : sw_N)    (N : Nat) (μ : sw_M) (a1 : Int32) (a2 : Int32) (o : sw_M) (h : f_m_emit N  μ a1 a2 = some o) : MetR l D cI cL yX11_emit cX11_emit 3 none 2 0 0 (fun a => a = ad) ad [.ref 63, .int a1, .int a2] lay0 μ ν none lay0 o ν :=
  MetR.of (n := 0) rfl (Nat.le_of_ble_eq_true rfl) (fun G g ho hm _ _ => ok_f_m_emit  g hm  μ ho a1 a2 h)
def f_m_opensOne_42 (N : Nat)   (μ : sw_M)  : Option (sw_M) :=
  wb (wr μ 63 7 ((μ 63 7) + 1)) (fun μ1 =>
    some μ1)
def f_m_opensOne_25 (N : Nat)   (μ : sw_M) (x1 : Int32) : Option (sw_M) :=
  Option.bind (f_m_fine N  μ ) (fun r1 =>
    if r1 = 0 then
      f_m_opensOne_42 N    μ 
    else
      wb (wr μ 63 4 ((μ 63 4) + x1)) (fun μ3 =>
        f_m_opensOne_42 N    μ3 ))
def f_m_opensOne (N : Nat)  (μ : sw_M) (a1 : Int32) : Option (sw_M) :=
  Option.bind (f_m_fine N  μ ) (fun r1 =>
    if r1 = 0 then
      f_m_opensOne_25 N    μ a1
    else
      if (μ 63 7) = 6 then
        Option.bind (f_m_wrong N  μ 3 (μ 63 4)) (fun r3 =>
          f_m_opensOne_25 N    r3 a1)
      else
        f_m_opensOne_25 N    μ a1)
set_option maxRecDepth 100000 in
set_option maxHeartbeats 4000000 in
theorem ok_f_m_opensOne_42 {G : sw_G} {ad : Nat → Nat} {ν : sw_N}   {N : Nat} {o : sw_M} (g : sw_ok G cX11_opensOne "DeadWiresModel" none 2 0 0 ad) (hm : G.2.2.1.2.1.maxLocals = 2)  (ho : sw_out G 0 0 (fun a => a = ad) (.inl none) lay0 o ν)  (μ : sw_M)  (h : f_m_opensOne_42 N    μ  = some o) : SW G ad lay0 ν 0 0 42 [some (.ref 63), none] [] μ := by
  unfold f_m_opensOne_42 at h
  refine SW.aload_n (pc := 42) g (dt dt_X11_opensOne 21 rfl) rfl ?_
  refine SW.dup (pc := 43) g (dt dt_X11_opensOne 22 rfl) rfl ?_
  refine SW.getI (pc := 44) g (dt dt_X11_opensOne 23 rfl) fl_X11_135 cell_63 rfl ?_
  refine SW.iconst (pc := 47) (v := 1) g (dt dt_X11_opensOne 24 rfl) ki_1 ?_
  refine SW.iadd (pc := 48) g (dt dt_X11_opensOne 25 rfl) ?_
  refine SW.putI (pc := 49) g (dt dt_X11_opensOne 26 rfl) fl_X11_135 cell_63 rfl ?_
  refine SW.genM h (fun μ1 h => ?_)
  exact SW.vreturn (pc := 52) g (leafV h ho) rfl (Nat.le_of_ble_eq_true rfl) (Nat.le_of_ble_eq_true rfl) (dt dt_X11_opensOne 27 rfl)
set_option maxRecDepth 100000 in
set_option maxHeartbeats 4000000 in
theorem ok_f_m_opensOne_25 {G : sw_G} {ad : Nat → Nat} {ν : sw_N}   {N : Nat} {o : sw_M} (g : sw_ok G cX11_opensOne "DeadWiresModel" none 2 0 0 ad) (hm : G.2.2.1.2.1.maxLocals = 2)  (ho : sw_out G 0 0 (fun a => a = ad) (.inl none) lay0 o ν)  (μ : sw_M) (x1 : Int32) (h : f_m_opensOne_25 N    μ x1 = some o) : SW G ad lay0 ν 0 0 25 [some (.ref 63), some (.int x1)] [] μ := by
  unfold f_m_opensOne_25 at h
  refine SW.aload_n (pc := 25) g (dt dt_X11_opensOne 12 rfl) rfl ?_
  obtain ⟨r1, h2, h⟩ := bindI h
  refine SW.callVi (pc := 26) g (dt dt_X11_opensOne 13 rfl) (mt_f_m_fine _ _ _ _ ad ν   N μ  r1 h2) me_X11_fine mv_X11_fine ml_X11_124 cell_63 rfl rfl (Nat.le_of_ble_eq_true rfl) (Nat.le_of_ble_eq_true rfl) (Nat.le_of_ble_eq_true rfl) (Nat.le_of_ble_eq_true rfl) rfl ?_
  refine SW.if_eq (pc := 29) (t := 42) g (dt dt_X11_opensOne 14 rfl) rfl (fun hc => ?_) (fun hc => ?_)
  · have h := iteT hc h
    refine SW.msk [true, false] ?_
    exact ok_f_m_opensOne_42  g hm  ho    μ  h
  · have h := iteF hc h
    refine SW.aload_n (pc := 32) g (dt dt_X11_opensOne 15 rfl) rfl ?_
    refine SW.dup (pc := 33) g (dt dt_X11_opensOne 16 rfl) rfl ?_
    refine SW.getI (pc := 34) g (dt dt_X11_opensOne 17 rfl) fl_X11_101 cell_63 rfl ?_
    refine SW.iload_n (pc := 37) g (dt dt_X11_opensOne 18 rfl) rfl ?_
    refine SW.iadd (pc := 38) g (dt dt_X11_opensOne 19 rfl) ?_
    refine SW.putI (pc := 39) g (dt dt_X11_opensOne 20 rfl) fl_X11_101 cell_63 rfl ?_
    refine SW.genM h (fun μ3 h => ?_)
    refine SW.msk [true, false] ?_
    exact ok_f_m_opensOne_42  g hm  ho    μ3  h
set_option maxRecDepth 100000 in
set_option maxHeartbeats 4000000 in
theorem ok_f_m_opensOne {G : sw_G} {ad : Nat → Nat} {ν : sw_N}   {N : Nat} {o : sw_M} (g : sw_ok G cX11_opensOne "DeadWiresModel" none 2 0 0 ad) (hm : G.2.2.1.2.1.maxLocals = 2)  (μ : sw_M) (ho : sw_out G 0 0 (fun a => a = ad) (.inl none) lay0 o ν) (a1 : Int32) (h : f_m_opensOne N  μ a1 = some o) : SW G ad lay0 ν 0 0 0 [some (.ref 63), some (.int a1)] [] μ := by
  unfold f_m_opensOne at h
  refine SW.aload_n (pc := 0) g (dt dt_X11_opensOne 0 rfl) rfl ?_
  obtain ⟨r1, h2, h⟩ := bindI h
  refine SW.callVi (pc := 1) g (dt dt_X11_opensOne 1 rfl) (mt_f_m_fine _ _ _ _ ad ν   N μ  r1 h2) me_X11_fine mv_X11_fine ml_X11_124 cell_63 rfl rfl (Nat.le_of_ble_eq_true rfl) (Nat.le_of_ble_eq_true rfl) (Nat.le_of_ble_eq_true rfl) (Nat.le_of_ble_eq_true rfl) rfl ?_
  refine SW.if_eq (pc := 4) (t := 25) g (dt dt_X11_opensOne 2 rfl) rfl (fun hc => ?_) (fun hc => ?_)
  · have h := iteT hc h
    refine SW.msk [true, true] ?_
    exact ok_f_m_opensOne_25  g hm  ho    μ a1 h
  · have h := iteF hc h
    refine SW.aload_n (pc := 7) g (dt dt_X11_opensOne 3 rfl) rfl ?_
    refine SW.getI (pc := 8) g (dt dt_X11_opensOne 4 rfl) fl_X11_135 cell_63 rfl ?_
    refine SW.bipush (pc := 11) (v := 6) g (dt dt_X11_opensOne 5 rfl) kb_6 ?_
    refine SW.icmp_ne (pc := 13) (t := 25) g (dt dt_X11_opensOne 6 rfl) rfl (fun hc => ?_) (fun hc => ?_)
    · have h := iteF hc h
      refine SW.msk [true, true] ?_
      exact ok_f_m_opensOne_25  g hm  ho    μ a1 h
    · have h := iteT hc h
      refine SW.aload_n (pc := 16) g (dt dt_X11_opensOne 7 rfl) rfl ?_
      refine SW.iconst (pc := 17) (v := 3) g (dt dt_X11_opensOne 8 rfl) ki_3 ?_
      refine SW.aload_n (pc := 18) g (dt dt_X11_opensOne 9 rfl) rfl ?_
      refine SW.getI (pc := 19) g (dt dt_X11_opensOne 10 rfl) fl_X11_101 cell_63 rfl ?_
      obtain ⟨r3, h4, h⟩ := bindI h
      refine SW.callVv (pc := 22) g (dt dt_X11_opensOne 11 rfl) (mt_f_m_wrong _ _ _ _ ad ν   N μ 3 (μ 63 4) r3 h4) me_X11_wrong mv_X11_wrong ml_X11_131 cell_63 rfl rfl (Nat.le_of_ble_eq_true rfl) (Nat.le_of_ble_eq_true rfl) (Nat.le_of_ble_eq_true rfl) (Nat.le_of_ble_eq_true rfl) rfl ?_
      refine SW.msk [true, true] ?_
      exact ok_f_m_opensOne_25  g hm  ho    r3 a1 h
set_option maxRecDepth 100000 in
set_option maxHeartbeats 4000000 in
theorem mt_f_m_opensOne (l : Launch) (D : va_G) (cI cL : ClassId) (ad : Nat → Nat) (ν : sw_N)    (N : Nat) (μ : sw_M) (a1 : Int32) (o : sw_M) (h : f_m_opensOne N  μ a1 = some o) : MetR l D cI cL yX11_opensOne cX11_opensOne 2 none 2 0 0 (fun a => a = ad) ad [.ref 63, .int a1] lay0 μ ν none lay0 o ν :=
  MetR.of (n := 0) rfl (Nat.le_of_ble_eq_true rfl) (fun G g ho hm _ _ => ok_f_m_opensOne  g hm  μ ho a1 h)
def f_m_factHere (N : Nat)  (μ : sw_M)  : Option (Int32 × sw_M) :=
  Option.bind (f_m_word N  μ ) (fun r1 =>
    Option.bind (f_sm_of N 8 r1.2 ) (fun r3 =>
      if r1.1 = r3 then
        some (0, r1.2)
      else
        Option.bind (f_sm_of N 14 r1.2 ) (fun r5 =>
          if r1.1 = r5 then
            some (1, r1.2)
          else
            Option.bind (f_sm_of N 16 r1.2 ) (fun r7 =>
              if r1.1 = r7 then
                some (2, r1.2)
              else
                Option.bind (f_sm_of N 6 r1.2 ) (fun r9 =>
                  if r1.1 = r9 then
                    some (3, r1.2)
                  else
                    Option.bind (f_sm_of N 4 r1.2 ) (fun r11 =>
                      if r1.1 = r11 then
                        some (4, r1.2)
                      else
                        Option.bind (f_sm_of N 18 r1.2 ) (fun r13 =>
                          if r1.1 = r13 then
                            some (5, r1.2)
                          else
                            Option.bind (f_sm_of N 11 r1.2 ) (fun r15 =>
                              if r1.1 = r15 then
                                some (6, r1.2)
                              else
                                some ((-1), r1.2)))))))))
set_option maxRecDepth 100000 in
set_option maxHeartbeats 4000000 in
theorem ok_f_m_factHere {G : sw_G} {ad : Nat → Nat} {ν : sw_N}   {N : Nat} {o : Int32 × sw_M} (g : sw_ok G cX11_factHere "DeadWiresModel" (some .int) 6 0 0 ad) (hm : G.2.2.1.2.1.maxLocals = 2)  (μ : sw_M) (ho : sw_out G 0 0 (fun a => a = ad) (.inl (some (.int o.1))) lay0 o.2 ν)  (h : f_m_factHere N  μ  = some o) : SW G ad lay0 ν 0 0 0 [some (.ref 63), none] [] μ := by
  unfold f_m_factHere at h
  refine SW.aload_n (pc := 0) g (dt dt_X11_factHere 0 rfl) rfl ?_
  obtain ⟨r1, h2, h⟩ := bindI h
  refine SW.callVi (pc := 1) g (dt dt_X11_factHere 1 rfl) (mt_f_m_word _ _ _ _ ad ν   N μ  r1 h2) me_X11_word mv_X11_word ml_X11_215 cell_63 rfl rfl (Nat.le_of_ble_eq_true rfl) (Nat.le_of_ble_eq_true rfl) (Nat.le_of_ble_eq_true rfl) (Nat.le_of_ble_eq_true rfl) rfl ?_
  refine SW.istore_n (pc := 4) g (dt dt_X11_factHere 2 rfl) (sw_ltm hm (Nat.le_of_ble_eq_true rfl)) rfl ?_
  refine SW.iload_n (pc := 5) g (dt dt_X11_factHere 3 rfl) rfl ?_
  refine SW.ldcS (pc := 6) (j := 8) g (dt dt_X11_factHere 4 rfl) sr_X11_255 rfl ?_
  obtain ⟨r3, h4, h⟩ := bindI h
  refine SW.callSi (pc := 8) g (dt dt_X11_factHere 5 rfl) (mt_f_sm_of _ _ _ _ ad ν lay0 8 (by decide) N r1.2  r3 h4) me_X11_of ms_X11_of ml_X11_192 rfl (Nat.le_of_ble_eq_true rfl) (Nat.le_of_ble_eq_true rfl) (Nat.le_of_ble_eq_true rfl) (Nat.le_of_ble_eq_true rfl) rfl ?_
  refine SW.icmp_ne (pc := 11) (t := 18) g (dt dt_X11_factHere 6 rfl) rfl (fun hc => ?_) (fun hc => ?_)
  · have h := iteF hc h
    refine SW.iload_n (pc := 18) g (dt dt_X11_factHere 9 rfl) rfl ?_
    refine SW.ldcwS (pc := 19) (j := 14) g (dt dt_X11_factHere 10 rfl) sr_X11_257 rfl ?_
    obtain ⟨r5, h6, h⟩ := bindI h
    refine SW.callSi (pc := 22) g (dt dt_X11_factHere 11 rfl) (mt_f_sm_of _ _ _ _ ad ν lay0 14 (by decide) N r1.2  r5 h6) me_X11_of ms_X11_of ml_X11_192 rfl (Nat.le_of_ble_eq_true rfl) (Nat.le_of_ble_eq_true rfl) (Nat.le_of_ble_eq_true rfl) (Nat.le_of_ble_eq_true rfl) rfl ?_
    refine SW.icmp_ne (pc := 25) (t := 32) g (dt dt_X11_factHere 12 rfl) rfl (fun hc => ?_) (fun hc => ?_)
    · have h := iteF hc h
      refine SW.iload_n (pc := 32) g (dt dt_X11_factHere 15 rfl) rfl ?_
      refine SW.ldcwS (pc := 33) (j := 16) g (dt dt_X11_factHere 16 rfl) sr_X11_259 rfl ?_
      obtain ⟨r7, h8, h⟩ := bindI h
      refine SW.callSi (pc := 36) g (dt dt_X11_factHere 17 rfl) (mt_f_sm_of _ _ _ _ ad ν lay0 16 (by decide) N r1.2  r7 h8) me_X11_of ms_X11_of ml_X11_192 rfl (Nat.le_of_ble_eq_true rfl) (Nat.le_of_ble_eq_true rfl) (Nat.le_of_ble_eq_true rfl) (Nat.le_of_ble_eq_true rfl) rfl ?_
      refine SW.icmp_ne (pc := 39) (t := 46) g (dt dt_X11_factHere 18 rfl) rfl (fun hc => ?_) (fun hc => ?_)
      · have h := iteF hc h
        refine SW.iload_n (pc := 46) g (dt dt_X11_factHere 21 rfl) rfl ?_
        refine SW.ldcwS (pc := 47) (j := 6) g (dt dt_X11_factHere 22 rfl) sr_X11_261 rfl ?_
        obtain ⟨r9, h10, h⟩ := bindI h
        refine SW.callSi (pc := 50) g (dt dt_X11_factHere 23 rfl) (mt_f_sm_of _ _ _ _ ad ν lay0 6 (by decide) N r1.2  r9 h10) me_X11_of ms_X11_of ml_X11_192 rfl (Nat.le_of_ble_eq_true rfl) (Nat.le_of_ble_eq_true rfl) (Nat.le_of_ble_eq_true rfl) (Nat.le_of_ble_eq_true rfl) rfl ?_
        refine SW.icmp_ne (pc := 53) (t := 60) g (dt dt_X11_factHere 24 rfl) rfl (fun hc => ?_) (fun hc => ?_)
        · have h := iteF hc h
          refine SW.iload_n (pc := 60) g (dt dt_X11_factHere 27 rfl) rfl ?_
          refine SW.ldcwS (pc := 61) (j := 4) g (dt dt_X11_factHere 28 rfl) sr_X11_263 rfl ?_
          obtain ⟨r11, h12, h⟩ := bindI h
          refine SW.callSi (pc := 64) g (dt dt_X11_factHere 29 rfl) (mt_f_sm_of _ _ _ _ ad ν lay0 4 (by decide) N r1.2  r11 h12) me_X11_of ms_X11_of ml_X11_192 rfl (Nat.le_of_ble_eq_true rfl) (Nat.le_of_ble_eq_true rfl) (Nat.le_of_ble_eq_true rfl) (Nat.le_of_ble_eq_true rfl) rfl ?_
          refine SW.icmp_ne (pc := 67) (t := 74) g (dt dt_X11_factHere 30 rfl) rfl (fun hc => ?_) (fun hc => ?_)
          · have h := iteF hc h
            refine SW.iload_n (pc := 74) g (dt dt_X11_factHere 33 rfl) rfl ?_
            refine SW.ldcwS (pc := 75) (j := 18) g (dt dt_X11_factHere 34 rfl) sr_X11_265 rfl ?_
            obtain ⟨r13, h14, h⟩ := bindI h
            refine SW.callSi (pc := 78) g (dt dt_X11_factHere 35 rfl) (mt_f_sm_of _ _ _ _ ad ν lay0 18 (by decide) N r1.2  r13 h14) me_X11_of ms_X11_of ml_X11_192 rfl (Nat.le_of_ble_eq_true rfl) (Nat.le_of_ble_eq_true rfl) (Nat.le_of_ble_eq_true rfl) (Nat.le_of_ble_eq_true rfl) rfl ?_
            refine SW.icmp_ne (pc := 81) (t := 88) g (dt dt_X11_factHere 36 rfl) rfl (fun hc => ?_) (fun hc => ?_)
            · have h := iteF hc h
              refine SW.iload_n (pc := 88) g (dt dt_X11_factHere 39 rfl) rfl ?_
              refine SW.ldcS (pc := 89) (j := 11) g (dt dt_X11_factHere 40 rfl) sr_X11_198 rfl ?_
              obtain ⟨r15, h16, h⟩ := bindI h
              refine SW.callSi (pc := 91) g (dt dt_X11_factHere 41 rfl) (mt_f_sm_of _ _ _ _ ad ν lay0 11 (by decide) N r1.2  r15 h16) me_X11_of ms_X11_of ml_X11_192 rfl (Nat.le_of_ble_eq_true rfl) (Nat.le_of_ble_eq_true rfl) (Nat.le_of_ble_eq_true rfl) (Nat.le_of_ble_eq_true rfl) rfl ?_
              refine SW.icmp_ne (pc := 94) (t := 102) g (dt dt_X11_factHere 42 rfl) rfl (fun hc => ?_) (fun hc => ?_)
              · have h := iteF hc h
                refine SW.iconst (pc := 102) (v := (-1)) g (dt dt_X11_factHere 45 rfl) ki_m1 ?_
                exact SW.ireturn (pc := 103) g (leafW h ho) rfl (Nat.le_of_ble_eq_true rfl) (Nat.le_of_ble_eq_true rfl) (dt dt_X11_factHere 46 rfl)
              · have h := iteT hc h
                refine SW.bipush (pc := 97) (v := 6) g (dt dt_X11_factHere 43 rfl) kb_6 ?_
                refine SW.goto (pc := 99) (t := 103) g (dt dt_X11_factHere 44 rfl) rfl ?_
                exact SW.ireturn (pc := 103) g (leafW h ho) rfl (Nat.le_of_ble_eq_true rfl) (Nat.le_of_ble_eq_true rfl) (dt dt_X11_factHere 46 rfl)
            · have h := iteT hc h
              refine SW.iconst (pc := 84) (v := 5) g (dt dt_X11_factHere 37 rfl) ki_5 ?_
              refine SW.goto (pc := 85) (t := 103) g (dt dt_X11_factHere 38 rfl) rfl ?_
              exact SW.ireturn (pc := 103) g (leafW h ho) rfl (Nat.le_of_ble_eq_true rfl) (Nat.le_of_ble_eq_true rfl) (dt dt_X11_factHere 46 rfl)
          · have h := iteT hc h
            refine SW.iconst (pc := 70) (v := 4) g (dt dt_X11_factHere 31 rfl) ki_4 ?_
            refine SW.goto (pc := 71) (t := 103) g (dt dt_X11_factHere 32 rfl) rfl ?_
            exact SW.ireturn (pc := 103) g (leafW h ho) rfl (Nat.le_of_ble_eq_true rfl) (Nat.le_of_ble_eq_true rfl) (dt dt_X11_factHere 46 rfl)
        · have h := iteT hc h
          refine SW.iconst (pc := 56) (v := 3) g (dt dt_X11_factHere 25 rfl) ki_3 ?_
          refine SW.goto (pc := 57) (t := 103) g (dt dt_X11_factHere 26 rfl) rfl ?_
          exact SW.ireturn (pc := 103) g (leafW h ho) rfl (Nat.le_of_ble_eq_true rfl) (Nat.le_of_ble_eq_true rfl) (dt dt_X11_factHere 46 rfl)
      · have h := iteT hc h
        refine SW.iconst (pc := 42) (v := 2) g (dt dt_X11_factHere 19 rfl) ki_2 ?_
        refine SW.goto (pc := 43) (t := 103) g (dt dt_X11_factHere 20 rfl) rfl ?_
        exact SW.ireturn (pc := 103) g (leafW h ho) rfl (Nat.le_of_ble_eq_true rfl) (Nat.le_of_ble_eq_true rfl) (dt dt_X11_factHere 46 rfl)
    · have h := iteT hc h
      refine SW.iconst (pc := 28) (v := 1) g (dt dt_X11_factHere 13 rfl) ki_1 ?_
      refine SW.goto (pc := 29) (t := 103) g (dt dt_X11_factHere 14 rfl) rfl ?_
      exact SW.ireturn (pc := 103) g (leafW h ho) rfl (Nat.le_of_ble_eq_true rfl) (Nat.le_of_ble_eq_true rfl) (dt dt_X11_factHere 46 rfl)
  · have h := iteT hc h
    refine SW.iconst (pc := 14) (v := 0) g (dt dt_X11_factHere 7 rfl) ki_0 ?_
    refine SW.goto (pc := 15) (t := 103) g (dt dt_X11_factHere 8 rfl) rfl ?_
    exact SW.ireturn (pc := 103) g (leafW h ho) rfl (Nat.le_of_ble_eq_true rfl) (Nat.le_of_ble_eq_true rfl) (dt dt_X11_factHere 46 rfl)
set_option maxRecDepth 100000 in
set_option maxHeartbeats 4000000 in
theorem mt_f_m_factHere (l : Launch) (D : va_G) (cI cL : ClassId) (ad : Nat → Nat) (ν : sw_N)    (N : Nat) (μ : sw_M)  (o : Int32 × sw_M) (h : f_m_factHere N  μ  = some o) : MetR l D cI cL yX11_factHere cX11_factHere 2 (some .int) 6 0 0 (fun a => a = ad) ad [.ref 63] lay0 μ ν (some (.int o.1)) lay0 o.2 ν :=
  MetR.of (n := 1) rfl (Nat.le_of_ble_eq_true rfl) (fun G g ho hm _ _ => ok_f_m_factHere  g hm  μ ho  h)
def f_m_readTwo_b (N : Nat) (q_f_m_readSum : sw_M → Option (sw_M)) (q_f_m_readProduct : sw_M → Option (sw_M)) (q_f_m_readUnit : sw_M → Option (sw_M)) (q_f_m_readTwo : sw_M → Int32 → Int32 → Option (sw_M)) (μ : sw_M) (a1 : Int32) (a2 : Int32) : Option (sw_M) :=
  Option.bind (f_m_opensOne N  μ a1) (fun r1 =>
    Option.bind (f_m_sign N  r1 91) (fun r3 =>
      Option.bind (q_f_m_readSum r3 ) (fun r5 =>
        Option.bind (f_m_sign N  r5 44) (fun r7 =>
          Option.bind (q_f_m_readSum r7 ) (fun r9 =>
            Option.bind (f_m_sign N  r9 93) (fun r11 =>
              wb (wr r11 63 7 ((r11 63 7) - 1)) (fun μ13 =>
                Option.bind (f_m_emit N  μ13 a2 0) (fun r14 =>
                  some r14))))))))
set_option maxRecDepth 100000 in
set_option maxHeartbeats 4000000 in
theorem ok_f_m_readTwo_b {G : sw_G} {ad : Nat → Nat} {ν : sw_N}   {d : Nat} (q_f_m_readSum : sw_M → Option (sw_M)) (q_f_m_readProduct : sw_M → Option (sw_M)) (q_f_m_readUnit : sw_M → Option (sw_M)) (q_f_m_readTwo : sw_M → Int32 → Int32 → Option (sw_M)) {N : Nat} {o : sw_M} (g : sw_ok G cX11_readTwo "DeadWiresModel" none (7 + (d + 1)) 0 0 ad) (hm : G.2.2.1.2.1.maxLocals = 3) (hq_f_m_readSum : ∀ (l : Launch) (D : va_G) (cI cL : ClassId) (ad : Nat → Nat) (ν : sw_N) (μ : sw_M)  (o : sw_M), q_f_m_readSum μ  = some o → MetR l D cI cL yX11_readSum cX11_readSum 2 none (7 + d) 0 0 (fun a => a = ad) ad [.ref 63] lay0 μ ν none lay0 o ν) (hq_f_m_readProduct : ∀ (l : Launch) (D : va_G) (cI cL : ClassId) (ad : Nat → Nat) (ν : sw_N) (μ : sw_M)  (o : sw_M), q_f_m_readProduct μ  = some o → MetR l D cI cL yX11_readProduct cX11_readProduct 2 none (7 + d) 0 0 (fun a => a = ad) ad [.ref 63] lay0 μ ν none lay0 o ν) (hq_f_m_readUnit : ∀ (l : Launch) (D : va_G) (cI cL : ClassId) (ad : Nat → Nat) (ν : sw_N) (μ : sw_M)  (o : sw_M), q_f_m_readUnit μ  = some o → MetR l D cI cL yX11_readUnit cX11_readUnit 2 none (7 + d) 0 0 (fun a => a = ad) ad [.ref 63] lay0 μ ν none lay0 o ν) (hq_f_m_readTwo : ∀ (l : Launch) (D : va_G) (cI cL : ClassId) (ad : Nat → Nat) (ν : sw_N) (μ : sw_M) (a1 : Int32) (a2 : Int32) (o : sw_M), q_f_m_readTwo μ a1 a2 = some o → MetR l D cI cL yX11_readTwo cX11_readTwo 3 none (7 + d) 0 0 (fun a => a = ad) ad [.ref 63, .int a1, .int a2] lay0 μ ν none lay0 o ν) (μ : sw_M) (ho : sw_out G 0 0 (fun a => a = ad) (.inl none) lay0 o ν) (a1 : Int32) (a2 : Int32) (h : f_m_readTwo_b N  q_f_m_readSum q_f_m_readProduct q_f_m_readUnit q_f_m_readTwo μ a1 a2 = some o) : SW G ad lay0 ν 0 0 0 [some (.ref 63), some (.int a1), some (.int a2)] [] μ := by
  unfold f_m_readTwo_b at h
  refine SW.aload_n (pc := 0) g (dt dt_X11_readTwo 0 rfl) rfl ?_
  refine SW.iload_n (pc := 1) g (dt dt_X11_readTwo 1 rfl) rfl ?_
  obtain ⟨r1, h2, h⟩ := bindI h
  refine SW.callVv (pc := 2) g (dt dt_X11_readTwo 2 rfl) (mt_f_m_opensOne _ _ _ _ ad ν   N μ a1 r1 h2) me_X11_opensOne mv_X11_opensOne ml_X11_249 cell_63 rfl rfl (Nat.le_of_ble_eq_true rfl) (by omega) (Nat.le_of_ble_eq_true rfl) (Nat.le_of_ble_eq_true rfl) rfl ?_
  refine SW.aload_n (pc := 5) g (dt dt_X11_readTwo 3 rfl) rfl ?_
  refine SW.bipush (pc := 6) (v := 91) g (dt dt_X11_readTwo 4 rfl) kb_91 ?_
  obtain ⟨r3, h4, h⟩ := bindI h
  refine SW.callVv (pc := 8) g (dt dt_X11_readTwo 5 rfl) (mt_f_m_sign _ _ _ _ ad ν   N r1 91 r3 h4) me_X11_sign mv_X11_sign ml_X11_230 cell_63 rfl rfl (Nat.le_of_ble_eq_true rfl) (by omega) (Nat.le_of_ble_eq_true rfl) (Nat.le_of_ble_eq_true rfl) rfl ?_
  refine SW.aload_n (pc := 11) g (dt dt_X11_readTwo 6 rfl) rfl ?_
  obtain ⟨r5, h6, h⟩ := bindI h
  refine SW.callVv (pc := 12) g (dt dt_X11_readTwo 7 rfl) (hq_f_m_readSum _ _ _ _ ad ν r3  r5 h6) me_X11_readSum mv_X11_readSum ml_X11_252 cell_63 rfl rfl (Nat.le_of_ble_eq_true rfl) (by omega) (Nat.le_of_ble_eq_true rfl) (Nat.le_of_ble_eq_true rfl) rfl ?_
  refine SW.aload_n (pc := 15) g (dt dt_X11_readTwo 8 rfl) rfl ?_
  refine SW.bipush (pc := 16) (v := 44) g (dt dt_X11_readTwo 9 rfl) kb_44 ?_
  obtain ⟨r7, h8, h⟩ := bindI h
  refine SW.callVv (pc := 18) g (dt dt_X11_readTwo 10 rfl) (mt_f_m_sign _ _ _ _ ad ν   N r5 44 r7 h8) me_X11_sign mv_X11_sign ml_X11_230 cell_63 rfl rfl (Nat.le_of_ble_eq_true rfl) (by omega) (Nat.le_of_ble_eq_true rfl) (Nat.le_of_ble_eq_true rfl) rfl ?_
  refine SW.aload_n (pc := 21) g (dt dt_X11_readTwo 11 rfl) rfl ?_
  obtain ⟨r9, h10, h⟩ := bindI h
  refine SW.callVv (pc := 22) g (dt dt_X11_readTwo 12 rfl) (hq_f_m_readSum _ _ _ _ ad ν r7  r9 h10) me_X11_readSum mv_X11_readSum ml_X11_252 cell_63 rfl rfl (Nat.le_of_ble_eq_true rfl) (by omega) (Nat.le_of_ble_eq_true rfl) (Nat.le_of_ble_eq_true rfl) rfl ?_
  refine SW.aload_n (pc := 25) g (dt dt_X11_readTwo 13 rfl) rfl ?_
  refine SW.bipush (pc := 26) (v := 93) g (dt dt_X11_readTwo 14 rfl) kb_93 ?_
  obtain ⟨r11, h12, h⟩ := bindI h
  refine SW.callVv (pc := 28) g (dt dt_X11_readTwo 15 rfl) (mt_f_m_sign _ _ _ _ ad ν   N r9 93 r11 h12) me_X11_sign mv_X11_sign ml_X11_230 cell_63 rfl rfl (Nat.le_of_ble_eq_true rfl) (by omega) (Nat.le_of_ble_eq_true rfl) (Nat.le_of_ble_eq_true rfl) rfl ?_
  refine SW.aload_n (pc := 31) g (dt dt_X11_readTwo 16 rfl) rfl ?_
  refine SW.dup (pc := 32) g (dt dt_X11_readTwo 17 rfl) rfl ?_
  refine SW.getI (pc := 33) g (dt dt_X11_readTwo 18 rfl) fl_X11_135 cell_63 rfl ?_
  refine SW.iconst (pc := 36) (v := 1) g (dt dt_X11_readTwo 19 rfl) ki_1 ?_
  refine SW.isub (pc := 37) g (dt dt_X11_readTwo 20 rfl) ?_
  refine SW.putI (pc := 38) g (dt dt_X11_readTwo 21 rfl) fl_X11_135 cell_63 rfl ?_
  refine SW.genM h (fun μ13 h => ?_)
  refine SW.aload_n (pc := 41) g (dt dt_X11_readTwo 22 rfl) rfl ?_
  refine SW.iload_n (pc := 42) g (dt dt_X11_readTwo 23 rfl) rfl ?_
  refine SW.iconst (pc := 43) (v := 0) g (dt dt_X11_readTwo 24 rfl) ki_0 ?_
  obtain ⟨r14, h15, h⟩ := bindI h
  refine SW.callVv (pc := 44) g (dt dt_X11_readTwo 25 rfl) (mt_f_m_emit _ _ _ _ ad ν   N μ13 a2 0 r14 h15) me_X11_emit mv_X11_emit ml_X11_243 cell_63 rfl rfl (Nat.le_of_ble_eq_true rfl) (by omega) (Nat.le_of_ble_eq_true rfl) (Nat.le_of_ble_eq_true rfl) rfl ?_
  exact SW.vreturn (pc := 47) g (leafV h ho) rfl (Nat.le_of_ble_eq_true rfl) (Nat.le_of_ble_eq_true rfl) (dt dt_X11_readTwo 26 rfl)
set_option maxRecDepth 100000 in
set_option maxHeartbeats 4000000 in
theorem mtb_f_m_readTwo (l : Launch) (D : va_G) (cI cL : ClassId) (ad : Nat → Nat) (ν : sw_N)   {d : Nat} (q_f_m_readSum : sw_M → Option (sw_M)) (q_f_m_readProduct : sw_M → Option (sw_M)) (q_f_m_readUnit : sw_M → Option (sw_M)) (q_f_m_readTwo : sw_M → Int32 → Int32 → Option (sw_M)) (hq_f_m_readSum : ∀ (l : Launch) (D : va_G) (cI cL : ClassId) (ad : Nat → Nat) (ν : sw_N) (μ : sw_M)  (o : sw_M), q_f_m_readSum μ  = some o → MetR l D cI cL yX11_readSum cX11_readSum 2 none (7 + d) 0 0 (fun a => a = ad) ad [.ref 63] lay0 μ ν none lay0 o ν) (hq_f_m_readProduct : ∀ (l : Launch) (D : va_G) (cI cL : ClassId) (ad : Nat → Nat) (ν : sw_N) (μ : sw_M)  (o : sw_M), q_f_m_readProduct μ  = some o → MetR l D cI cL yX11_readProduct cX11_readProduct 2 none (7 + d) 0 0 (fun a => a = ad) ad [.ref 63] lay0 μ ν none lay0 o ν) (hq_f_m_readUnit : ∀ (l : Launch) (D : va_G) (cI cL : ClassId) (ad : Nat → Nat) (ν : sw_N) (μ : sw_M)  (o : sw_M), q_f_m_readUnit μ  = some o → MetR l D cI cL yX11_readUnit cX11_readUnit 2 none (7 + d) 0 0 (fun a => a = ad) ad [.ref 63] lay0 μ ν none lay0 o ν) (hq_f_m_readTwo : ∀ (l : Launch) (D : va_G) (cI cL : ClassId) (ad : Nat → Nat) (ν : sw_N) (μ : sw_M) (a1 : Int32) (a2 : Int32) (o : sw_M), q_f_m_readTwo μ a1 a2 = some o → MetR l D cI cL yX11_readTwo cX11_readTwo 3 none (7 + d) 0 0 (fun a => a = ad) ad [.ref 63, .int a1, .int a2] lay0 μ ν none lay0 o ν) (N : Nat) (μ : sw_M) (a1 : Int32) (a2 : Int32) (o : sw_M) (h : f_m_readTwo_b N  q_f_m_readSum q_f_m_readProduct q_f_m_readUnit q_f_m_readTwo μ a1 a2 = some o) : MetR l D cI cL yX11_readTwo cX11_readTwo 3 none (7 + (d + 1)) 0 0 (fun a => a = ad) ad [.ref 63, .int a1, .int a2] lay0 μ ν none lay0 o ν :=
  MetR.of (n := 0) rfl (Nat.le_of_ble_eq_true rfl) (fun G g ho hm _ _ => ok_f_m_readTwo_b  q_f_m_readSum q_f_m_readProduct q_f_m_readUnit q_f_m_readTwo g hm  hq_f_m_readSum hq_f_m_readProduct hq_f_m_readUnit hq_f_m_readTwo μ ho a1 a2 h)
def f_m_readUnit_136 (N : Nat) (q_f_m_readSum : sw_M → Option (sw_M)) (q_f_m_readProduct : sw_M → Option (sw_M)) (q_f_m_readUnit : sw_M → Option (sw_M)) (q_f_m_readTwo : sw_M → Int32 → Int32 → Option (sw_M))  (μ : sw_M) (x1 : Int32) : Option (sw_M) :=
  Option.bind (f_m_fine N  μ ) (fun r1 =>
    if r1 = 0 then
      some μ
    else
      Option.bind (f_m_pass N  μ ) (fun r3 =>
        Option.bind (f_m_emit N  r3 1 x1) (fun r5 =>
          some r5)))
def f_m_readUnit_b (N : Nat) (q_f_m_readSum : sw_M → Option (sw_M)) (q_f_m_readProduct : sw_M → Option (sw_M)) (q_f_m_readUnit : sw_M → Option (sw_M)) (q_f_m_readTwo : sw_M → Int32 → Int32 → Option (sw_M)) (μ : sw_M)  : Option (sw_M) :=
  Option.bind (f_m_fine N  μ ) (fun r1 =>
    if r1 = 0 then
      some μ
    else
      Option.bind (f_m_here N  μ ) (fun r3 =>
        if r3.1 = 40 then
          Option.bind (f_m_opensOne N  r3.2 1) (fun r29 =>
            Option.bind (q_f_m_readSum r29 ) (fun r31 =>
              Option.bind (f_m_sign N  r31 41) (fun r33 =>
                wb (wr r33 63 7 ((r33 63 7) - 1)) (fun μ35 =>
                  some μ35))))
        else
          Option.bind (f_m_here N  r3.2 ) (fun r5 =>
            Option.bind (f_sm_isDigit N  r5.2 r5.1) (fun r7 =>
              if r7 = 0 then
                Option.bind (f_m_word N  r5.2 ) (fun r9 =>
                  Option.bind (f_sm_of N 5 r9.2 ) (fun r11 =>
                    if r9.1 = r11 then
                      Option.bind (q_f_m_readTwo r9.2 5 6) (fun r23 =>
                        some r23)
                    else
                      Option.bind (f_m_word N  r9.2 ) (fun r13 =>
                        Option.bind (f_sm_of N 9 r13.2 ) (fun r15 =>
                          if r13.1 = r15 then
                            Option.bind (q_f_m_readTwo r13.2 4 7) (fun r21 =>
                              some r21)
                          else
                            Option.bind (f_m_factHere N  r13.2 ) (fun r17 =>
                              if r17.1 = (-1) then
                                Option.bind (f_m_wrong N  r17.2 1 (r17.2 63 4)) (fun r19 =>
                                  f_m_readUnit_136 N  q_f_m_readSum q_f_m_readProduct q_f_m_readUnit q_f_m_readTwo   r19 r17.1)
                              else
                                f_m_readUnit_136 N  q_f_m_readSum q_f_m_readProduct q_f_m_readUnit q_f_m_readTwo   r17.2 r17.1)))))
              else
                Option.bind (f_m_readNumber N  r5.2 0 999) (fun r25 =>
                  Option.bind (f_m_emit N  r25.2 0 r25.1) (fun r27 =>
                    some r27))))))
set_option maxRecDepth 100000 in
set_option maxHeartbeats 4000000 in
theorem ok_f_m_readUnit_136 {G : sw_G} {ad : Nat → Nat} {ν : sw_N}   {d : Nat} (q_f_m_readSum : sw_M → Option (sw_M)) (q_f_m_readProduct : sw_M → Option (sw_M)) (q_f_m_readUnit : sw_M → Option (sw_M)) (q_f_m_readTwo : sw_M → Int32 → Int32 → Option (sw_M)) {N : Nat} {o : sw_M} (g : sw_ok G cX11_readUnit "DeadWiresModel" none (7 + (d + 1)) 0 0 ad) (hm : G.2.2.1.2.1.maxLocals = 2) (hq_f_m_readSum : ∀ (l : Launch) (D : va_G) (cI cL : ClassId) (ad : Nat → Nat) (ν : sw_N) (μ : sw_M)  (o : sw_M), q_f_m_readSum μ  = some o → MetR l D cI cL yX11_readSum cX11_readSum 2 none (7 + d) 0 0 (fun a => a = ad) ad [.ref 63] lay0 μ ν none lay0 o ν) (hq_f_m_readProduct : ∀ (l : Launch) (D : va_G) (cI cL : ClassId) (ad : Nat → Nat) (ν : sw_N) (μ : sw_M)  (o : sw_M), q_f_m_readProduct μ  = some o → MetR l D cI cL yX11_readProduct cX11_readProduct 2 none (7 + d) 0 0 (fun a => a = ad) ad [.ref 63] lay0 μ ν none lay0 o ν) (hq_f_m_readUnit : ∀ (l : Launch) (D : va_G) (cI cL : ClassId) (ad : Nat → Nat) (ν : sw_N) (μ : sw_M)  (o : sw_M), q_f_m_readUnit μ  = some o → MetR l D cI cL yX11_readUnit cX11_readUnit 2 none (7 + d) 0 0 (fun a => a = ad) ad [.ref 63] lay0 μ ν none lay0 o ν) (hq_f_m_readTwo : ∀ (l : Launch) (D : va_G) (cI cL : ClassId) (ad : Nat → Nat) (ν : sw_N) (μ : sw_M) (a1 : Int32) (a2 : Int32) (o : sw_M), q_f_m_readTwo μ a1 a2 = some o → MetR l D cI cL yX11_readTwo cX11_readTwo 3 none (7 + d) 0 0 (fun a => a = ad) ad [.ref 63, .int a1, .int a2] lay0 μ ν none lay0 o ν) (ho : sw_out G 0 0 (fun a => a = ad) (.inl none) lay0 o ν)  (μ : sw_M) (x1 : Int32) (h : f_m_readUnit_136 N  q_f_m_readSum q_f_m_readProduct q_f_m_readUnit q_f_m_readTwo   μ x1 = some o) : SW G ad lay0 ν 0 0 136 [some (.ref 63), some (.int x1)] [] μ := by
  unfold f_m_readUnit_136 at h
  refine SW.aload_n (pc := 136) g (dt dt_X11_readUnit 66 rfl) rfl ?_
  obtain ⟨r1, h2, h⟩ := bindI h
  refine SW.callVi (pc := 137) g (dt dt_X11_readUnit 67 rfl) (mt_f_m_fine _ _ _ _ ad ν   N μ  r1 h2) me_X11_fine mv_X11_fine ml_X11_124 cell_63 rfl rfl (Nat.le_of_ble_eq_true rfl) (by omega) (Nat.le_of_ble_eq_true rfl) (Nat.le_of_ble_eq_true rfl) rfl ?_
  refine SW.if_ne (pc := 140) (t := 144) g (dt dt_X11_readUnit 68 rfl) rfl (fun hc => ?_) (fun hc => ?_)
  · have h := iteF hc h
    refine SW.aload_n (pc := 144) g (dt dt_X11_readUnit 70 rfl) rfl ?_
    obtain ⟨r3, h4, h⟩ := bindI h
    refine SW.callVv (pc := 145) g (dt dt_X11_readUnit 71 rfl) (mt_f_m_pass _ _ _ _ ad ν   N μ  r3 h4) me_X11_pass mv_X11_pass ml_X11_224 cell_63 rfl rfl (Nat.le_of_ble_eq_true rfl) (by omega) (Nat.le_of_ble_eq_true rfl) (Nat.le_of_ble_eq_true rfl) rfl ?_
    refine SW.aload_n (pc := 148) g (dt dt_X11_readUnit 72 rfl) rfl ?_
    refine SW.iconst (pc := 149) (v := 1) g (dt dt_X11_readUnit 73 rfl) ki_1 ?_
    refine SW.iload_n (pc := 150) g (dt dt_X11_readUnit 74 rfl) rfl ?_
    obtain ⟨r5, h6, h⟩ := bindI h
    refine SW.callVv (pc := 151) g (dt dt_X11_readUnit 75 rfl) (mt_f_m_emit _ _ _ _ ad ν   N r3 1 x1 r5 h6) me_X11_emit mv_X11_emit ml_X11_243 cell_63 rfl rfl (Nat.le_of_ble_eq_true rfl) (by omega) (Nat.le_of_ble_eq_true rfl) (Nat.le_of_ble_eq_true rfl) rfl ?_
    exact SW.vreturn (pc := 154) g (leafV h ho) rfl (Nat.le_of_ble_eq_true rfl) (Nat.le_of_ble_eq_true rfl) (dt dt_X11_readUnit 76 rfl)
  · have h := iteT hc h
    exact SW.vreturn (pc := 143) g (leafV h ho) rfl (Nat.le_of_ble_eq_true rfl) (Nat.le_of_ble_eq_true rfl) (dt dt_X11_readUnit 69 rfl)
set_option maxRecDepth 100000 in
set_option maxHeartbeats 4000000 in
theorem ok_f_m_readUnit_b {G : sw_G} {ad : Nat → Nat} {ν : sw_N}   {d : Nat} (q_f_m_readSum : sw_M → Option (sw_M)) (q_f_m_readProduct : sw_M → Option (sw_M)) (q_f_m_readUnit : sw_M → Option (sw_M)) (q_f_m_readTwo : sw_M → Int32 → Int32 → Option (sw_M)) {N : Nat} {o : sw_M} (g : sw_ok G cX11_readUnit "DeadWiresModel" none (7 + (d + 1)) 0 0 ad) (hm : G.2.2.1.2.1.maxLocals = 2) (hq_f_m_readSum : ∀ (l : Launch) (D : va_G) (cI cL : ClassId) (ad : Nat → Nat) (ν : sw_N) (μ : sw_M)  (o : sw_M), q_f_m_readSum μ  = some o → MetR l D cI cL yX11_readSum cX11_readSum 2 none (7 + d) 0 0 (fun a => a = ad) ad [.ref 63] lay0 μ ν none lay0 o ν) (hq_f_m_readProduct : ∀ (l : Launch) (D : va_G) (cI cL : ClassId) (ad : Nat → Nat) (ν : sw_N) (μ : sw_M)  (o : sw_M), q_f_m_readProduct μ  = some o → MetR l D cI cL yX11_readProduct cX11_readProduct 2 none (7 + d) 0 0 (fun a => a = ad) ad [.ref 63] lay0 μ ν none lay0 o ν) (hq_f_m_readUnit : ∀ (l : Launch) (D : va_G) (cI cL : ClassId) (ad : Nat → Nat) (ν : sw_N) (μ : sw_M)  (o : sw_M), q_f_m_readUnit μ  = some o → MetR l D cI cL yX11_readUnit cX11_readUnit 2 none (7 + d) 0 0 (fun a => a = ad) ad [.ref 63] lay0 μ ν none lay0 o ν) (hq_f_m_readTwo : ∀ (l : Launch) (D : va_G) (cI cL : ClassId) (ad : Nat → Nat) (ν : sw_N) (μ : sw_M) (a1 : Int32) (a2 : Int32) (o : sw_M), q_f_m_readTwo μ a1 a2 = some o → MetR l D cI cL yX11_readTwo cX11_readTwo 3 none (7 + d) 0 0 (fun a => a = ad) ad [.ref 63, .int a1, .int a2] lay0 μ ν none lay0 o ν) (μ : sw_M) (ho : sw_out G 0 0 (fun a => a = ad) (.inl none) lay0 o ν)  (h : f_m_readUnit_b N  q_f_m_readSum q_f_m_readProduct q_f_m_readUnit q_f_m_readTwo μ  = some o) : SW G ad lay0 ν 0 0 0 [some (.ref 63), none] [] μ := by
  unfold f_m_readUnit_b at h
  refine SW.aload_n (pc := 0) g (dt dt_X11_readUnit 0 rfl) rfl ?_
  obtain ⟨r1, h2, h⟩ := bindI h
  refine SW.callVi (pc := 1) g (dt dt_X11_readUnit 1 rfl) (mt_f_m_fine _ _ _ _ ad ν   N μ  r1 h2) me_X11_fine mv_X11_fine ml_X11_124 cell_63 rfl rfl (Nat.le_of_ble_eq_true rfl) (by omega) (Nat.le_of_ble_eq_true rfl) (Nat.le_of_ble_eq_true rfl) rfl ?_
  refine SW.if_ne (pc := 4) (t := 8) g (dt dt_X11_readUnit 2 rfl) rfl (fun hc => ?_) (fun hc => ?_)
  · have h := iteF hc h
    refine SW.aload_n (pc := 8) g (dt dt_X11_readUnit 4 rfl) rfl ?_
    obtain ⟨r3, h4, h⟩ := bindI h
    refine SW.callVi (pc := 9) g (dt dt_X11_readUnit 5 rfl) (mt_f_m_here _ _ _ _ ad ν   N μ  r3 h4) me_X11_here mv_X11_here ml_X11_107 cell_63 rfl rfl (Nat.le_of_ble_eq_true rfl) (by omega) (Nat.le_of_ble_eq_true rfl) (Nat.le_of_ble_eq_true rfl) rfl ?_
    refine SW.bipush (pc := 12) (v := 40) g (dt dt_X11_readUnit 6 rfl) kb_40 ?_
    refine SW.icmp_ne (pc := 14) (t := 45) g (dt dt_X11_readUnit 7 rfl) rfl (fun hc => ?_) (fun hc => ?_)
    · have h := iteF hc h
      refine SW.aload_n (pc := 45) g (dt dt_X11_readUnit 23 rfl) rfl ?_
      obtain ⟨r5, h6, h⟩ := bindI h
      refine SW.callVi (pc := 46) g (dt dt_X11_readUnit 24 rfl) (mt_f_m_here _ _ _ _ ad ν   N r3.2  r5 h6) me_X11_here mv_X11_here ml_X11_107 cell_63 rfl rfl (Nat.le_of_ble_eq_true rfl) (by omega) (Nat.le_of_ble_eq_true rfl) (Nat.le_of_ble_eq_true rfl) rfl ?_
      obtain ⟨r7, h8, h⟩ := bindI h
      refine SW.callSi (pc := 49) g (dt dt_X11_readUnit 25 rfl) (mt_f_sm_isDigit _ _ _ _ ad ν lay0   N r5.2 r5.1 r7 h8) me_X11_isDigit ms_X11_isDigit ml_X11_128 rfl (Nat.le_of_ble_eq_true rfl) (by omega) (Nat.le_of_ble_eq_true rfl) (Nat.le_of_ble_eq_true rfl) rfl ?_
      refine SW.if_eq (pc := 52) (t := 71) g (dt dt_X11_readUnit 26 rfl) rfl (fun hc => ?_) (fun hc => ?_)
      · have h := iteT hc h
        refine SW.aload_n (pc := 71) g (dt dt_X11_readUnit 35 rfl) rfl ?_
        obtain ⟨r9, h10, h⟩ := bindI h
        refine SW.callVi (pc := 72) g (dt dt_X11_readUnit 36 rfl) (mt_f_m_word _ _ _ _ ad ν   N r5.2  r9 h10) me_X11_word mv_X11_word ml_X11_215 cell_63 rfl rfl (Nat.le_of_ble_eq_true rfl) (by omega) (Nat.le_of_ble_eq_true rfl) (Nat.le_of_ble_eq_true rfl) rfl ?_
        refine SW.ldcwS (pc := 75) (j := 5) g (dt dt_X11_readUnit 37 rfl) sr_X11_266 rfl ?_
        obtain ⟨r11, h12, h⟩ := bindI h
        refine SW.callSi (pc := 78) g (dt dt_X11_readUnit 38 rfl) (mt_f_sm_of _ _ _ _ ad ν lay0 5 (by decide) N r9.2  r11 h12) me_X11_of ms_X11_of ml_X11_192 rfl (Nat.le_of_ble_eq_true rfl) (by omega) (Nat.le_of_ble_eq_true rfl) (Nat.le_of_ble_eq_true rfl) rfl ?_
        refine SW.icmp_ne (pc := 81) (t := 94) g (dt dt_X11_readUnit 39 rfl) rfl (fun hc => ?_) (fun hc => ?_)
        · have h := iteF hc h
          refine SW.aload_n (pc := 94) g (dt dt_X11_readUnit 45 rfl) rfl ?_
          obtain ⟨r13, h14, h⟩ := bindI h
          refine SW.callVi (pc := 95) g (dt dt_X11_readUnit 46 rfl) (mt_f_m_word _ _ _ _ ad ν   N r9.2  r13 h14) me_X11_word mv_X11_word ml_X11_215 cell_63 rfl rfl (Nat.le_of_ble_eq_true rfl) (by omega) (Nat.le_of_ble_eq_true rfl) (Nat.le_of_ble_eq_true rfl) rfl ?_
          refine SW.ldcwS (pc := 98) (j := 9) g (dt dt_X11_readUnit 47 rfl) sr_X11_271 rfl ?_
          obtain ⟨r15, h16, h⟩ := bindI h
          refine SW.callSi (pc := 101) g (dt dt_X11_readUnit 48 rfl) (mt_f_sm_of _ _ _ _ ad ν lay0 9 (by decide) N r13.2  r15 h16) me_X11_of ms_X11_of ml_X11_192 rfl (Nat.le_of_ble_eq_true rfl) (by omega) (Nat.le_of_ble_eq_true rfl) (Nat.le_of_ble_eq_true rfl) rfl ?_
          refine SW.icmp_ne (pc := 104) (t := 117) g (dt dt_X11_readUnit 49 rfl) rfl (fun hc => ?_) (fun hc => ?_)
          · have h := iteF hc h
            refine SW.aload_n (pc := 117) g (dt dt_X11_readUnit 55 rfl) rfl ?_
            obtain ⟨r17, h18, h⟩ := bindI h
            refine SW.callVi (pc := 118) g (dt dt_X11_readUnit 56 rfl) (mt_f_m_factHere _ _ _ _ ad ν   N r13.2  r17 h18) me_X11_factHere mv_X11_factHere ml_X11_273 cell_63 rfl rfl (Nat.le_of_ble_eq_true rfl) (by omega) (Nat.le_of_ble_eq_true rfl) (Nat.le_of_ble_eq_true rfl) rfl ?_
            refine SW.istore_n (pc := 121) g (dt dt_X11_readUnit 57 rfl) (sw_ltm hm (Nat.le_of_ble_eq_true rfl)) rfl ?_
            refine SW.iload_n (pc := 122) g (dt dt_X11_readUnit 58 rfl) rfl ?_
            refine SW.iconst (pc := 123) (v := (-1)) g (dt dt_X11_readUnit 59 rfl) ki_m1 ?_
            refine SW.icmp_ne (pc := 124) (t := 136) g (dt dt_X11_readUnit 60 rfl) rfl (fun hc => ?_) (fun hc => ?_)
            · have h := iteF hc h
              refine SW.msk [true, true] ?_
              exact ok_f_m_readUnit_136  q_f_m_readSum q_f_m_readProduct q_f_m_readUnit q_f_m_readTwo g hm  hq_f_m_readSum hq_f_m_readProduct hq_f_m_readUnit hq_f_m_readTwo ho    r17.2 r17.1 h
            · have h := iteT hc h
              refine SW.aload_n (pc := 127) g (dt dt_X11_readUnit 61 rfl) rfl ?_
              refine SW.iconst (pc := 128) (v := 1) g (dt dt_X11_readUnit 62 rfl) ki_1 ?_
              refine SW.aload_n (pc := 129) g (dt dt_X11_readUnit 63 rfl) rfl ?_
              refine SW.getI (pc := 130) g (dt dt_X11_readUnit 64 rfl) fl_X11_101 cell_63 rfl ?_
              obtain ⟨r19, h20, h⟩ := bindI h
              refine SW.callVv (pc := 133) g (dt dt_X11_readUnit 65 rfl) (mt_f_m_wrong _ _ _ _ ad ν   N r17.2 1 (r17.2 63 4) r19 h20) me_X11_wrong mv_X11_wrong ml_X11_131 cell_63 rfl rfl (Nat.le_of_ble_eq_true rfl) (by omega) (Nat.le_of_ble_eq_true rfl) (Nat.le_of_ble_eq_true rfl) rfl ?_
              refine SW.msk [true, true] ?_
              exact ok_f_m_readUnit_136  q_f_m_readSum q_f_m_readProduct q_f_m_readUnit q_f_m_readTwo g hm  hq_f_m_readSum hq_f_m_readProduct hq_f_m_readUnit hq_f_m_readTwo ho    r19 r17.1 h
          · have h := iteT hc h
            refine SW.aload_n (pc := 107) g (dt dt_X11_readUnit 50 rfl) rfl ?_
            refine SW.iconst (pc := 108) (v := 4) g (dt dt_X11_readUnit 51 rfl) ki_4 ?_
            refine SW.bipush (pc := 109) (v := 7) g (dt dt_X11_readUnit 52 rfl) kb_7 ?_
            obtain ⟨r21, h22, h⟩ := bindI h
            refine SW.callVv (pc := 111) g (dt dt_X11_readUnit 53 rfl) (hq_f_m_readTwo _ _ _ _ ad ν r13.2 4 7 r21 h22) me_X11_readTwo mv_X11_readTwo ml_X11_268 cell_63 rfl rfl (Nat.le_of_ble_eq_true rfl) (by omega) (Nat.le_of_ble_eq_true rfl) (Nat.le_of_ble_eq_true rfl) rfl ?_
            refine SW.goto (pc := 114) (t := 154) g (dt dt_X11_readUnit 54 rfl) rfl ?_
            exact SW.vreturn (pc := 154) g (leafV h ho) rfl (Nat.le_of_ble_eq_true rfl) (Nat.le_of_ble_eq_true rfl) (dt dt_X11_readUnit 76 rfl)
        · have h := iteT hc h
          refine SW.aload_n (pc := 84) g (dt dt_X11_readUnit 40 rfl) rfl ?_
          refine SW.iconst (pc := 85) (v := 5) g (dt dt_X11_readUnit 41 rfl) ki_5 ?_
          refine SW.bipush (pc := 86) (v := 6) g (dt dt_X11_readUnit 42 rfl) kb_6 ?_
          obtain ⟨r23, h24, h⟩ := bindI h
          refine SW.callVv (pc := 88) g (dt dt_X11_readUnit 43 rfl) (hq_f_m_readTwo _ _ _ _ ad ν r9.2 5 6 r23 h24) me_X11_readTwo mv_X11_readTwo ml_X11_268 cell_63 rfl rfl (Nat.le_of_ble_eq_true rfl) (by omega) (Nat.le_of_ble_eq_true rfl) (Nat.le_of_ble_eq_true rfl) rfl ?_
          refine SW.goto (pc := 91) (t := 154) g (dt dt_X11_readUnit 44 rfl) rfl ?_
          exact SW.vreturn (pc := 154) g (leafV h ho) rfl (Nat.le_of_ble_eq_true rfl) (Nat.le_of_ble_eq_true rfl) (dt dt_X11_readUnit 76 rfl)
      · have h := iteF hc h
        refine SW.aload_n (pc := 55) g (dt dt_X11_readUnit 27 rfl) rfl ?_
        refine SW.iconst (pc := 56) (v := 0) g (dt dt_X11_readUnit 28 rfl) ki_0 ?_
        refine SW.aload_n (pc := 57) g (dt dt_X11_readUnit 29 rfl) rfl ?_
        refine SW.iconst (pc := 58) (v := 0) g (dt dt_X11_readUnit 30 rfl) ki_0 ?_
        refine SW.sipush (pc := 59) (v := 999) g (dt dt_X11_readUnit 31 rfl) ks_999 ?_
        obtain ⟨r25, h26, h⟩ := bindI h
        refine SW.callVi (pc := 62) g (dt dt_X11_readUnit 32 rfl) (mt_f_m_readNumber _ _ _ _ ad ν   N r5.2 0 999 r25 h26) me_X11_readNumber mv_X11_readNumber ml_X11_184 cell_63 rfl rfl (Nat.le_of_ble_eq_true rfl) (by omega) (Nat.le_of_ble_eq_true rfl) (Nat.le_of_ble_eq_true rfl) rfl ?_
        obtain ⟨r27, h28, h⟩ := bindI h
        refine SW.callVv (pc := 65) g (dt dt_X11_readUnit 33 rfl) (mt_f_m_emit _ _ _ _ ad ν   N r25.2 0 r25.1 r27 h28) me_X11_emit mv_X11_emit ml_X11_243 cell_63 rfl rfl (Nat.le_of_ble_eq_true rfl) (by omega) (Nat.le_of_ble_eq_true rfl) (Nat.le_of_ble_eq_true rfl) rfl ?_
        refine SW.goto (pc := 68) (t := 154) g (dt dt_X11_readUnit 34 rfl) rfl ?_
        exact SW.vreturn (pc := 154) g (leafV h ho) rfl (Nat.le_of_ble_eq_true rfl) (Nat.le_of_ble_eq_true rfl) (dt dt_X11_readUnit 76 rfl)
    · have h := iteT hc h
      refine SW.aload_n (pc := 17) g (dt dt_X11_readUnit 8 rfl) rfl ?_
      refine SW.iconst (pc := 18) (v := 1) g (dt dt_X11_readUnit 9 rfl) ki_1 ?_
      obtain ⟨r29, h30, h⟩ := bindI h
      refine SW.callVv (pc := 19) g (dt dt_X11_readUnit 10 rfl) (mt_f_m_opensOne _ _ _ _ ad ν   N r3.2 1 r29 h30) me_X11_opensOne mv_X11_opensOne ml_X11_249 cell_63 rfl rfl (Nat.le_of_ble_eq_true rfl) (by omega) (Nat.le_of_ble_eq_true rfl) (Nat.le_of_ble_eq_true rfl) rfl ?_
      refine SW.aload_n (pc := 22) g (dt dt_X11_readUnit 11 rfl) rfl ?_
      obtain ⟨r31, h32, h⟩ := bindI h
      refine SW.callVv (pc := 23) g (dt dt_X11_readUnit 12 rfl) (hq_f_m_readSum _ _ _ _ ad ν r29  r31 h32) me_X11_readSum mv_X11_readSum ml_X11_252 cell_63 rfl rfl (Nat.le_of_ble_eq_true rfl) (by omega) (Nat.le_of_ble_eq_true rfl) (Nat.le_of_ble_eq_true rfl) rfl ?_
      refine SW.aload_n (pc := 26) g (dt dt_X11_readUnit 13 rfl) rfl ?_
      refine SW.bipush (pc := 27) (v := 41) g (dt dt_X11_readUnit 14 rfl) kb_41 ?_
      obtain ⟨r33, h34, h⟩ := bindI h
      refine SW.callVv (pc := 29) g (dt dt_X11_readUnit 15 rfl) (mt_f_m_sign _ _ _ _ ad ν   N r31 41 r33 h34) me_X11_sign mv_X11_sign ml_X11_230 cell_63 rfl rfl (Nat.le_of_ble_eq_true rfl) (by omega) (Nat.le_of_ble_eq_true rfl) (Nat.le_of_ble_eq_true rfl) rfl ?_
      refine SW.aload_n (pc := 32) g (dt dt_X11_readUnit 16 rfl) rfl ?_
      refine SW.dup (pc := 33) g (dt dt_X11_readUnit 17 rfl) rfl ?_
      refine SW.getI (pc := 34) g (dt dt_X11_readUnit 18 rfl) fl_X11_135 cell_63 rfl ?_
      refine SW.iconst (pc := 37) (v := 1) g (dt dt_X11_readUnit 19 rfl) ki_1 ?_
      refine SW.isub (pc := 38) g (dt dt_X11_readUnit 20 rfl) ?_
      refine SW.putI (pc := 39) g (dt dt_X11_readUnit 21 rfl) fl_X11_135 cell_63 rfl ?_
      refine SW.genM h (fun μ35 h => ?_)
      refine SW.goto (pc := 42) (t := 154) g (dt dt_X11_readUnit 22 rfl) rfl ?_
      exact SW.vreturn (pc := 154) g (leafV h ho) rfl (Nat.le_of_ble_eq_true rfl) (Nat.le_of_ble_eq_true rfl) (dt dt_X11_readUnit 76 rfl)
  · have h := iteT hc h
    exact SW.vreturn (pc := 7) g (leafV h ho) rfl (Nat.le_of_ble_eq_true rfl) (Nat.le_of_ble_eq_true rfl) (dt dt_X11_readUnit 3 rfl)
set_option maxRecDepth 100000 in
set_option maxHeartbeats 4000000 in
theorem mtb_f_m_readUnit (l : Launch) (D : va_G) (cI cL : ClassId) (ad : Nat → Nat) (ν : sw_N)   {d : Nat} (q_f_m_readSum : sw_M → Option (sw_M)) (q_f_m_readProduct : sw_M → Option (sw_M)) (q_f_m_readUnit : sw_M → Option (sw_M)) (q_f_m_readTwo : sw_M → Int32 → Int32 → Option (sw_M)) (hq_f_m_readSum : ∀ (l : Launch) (D : va_G) (cI cL : ClassId) (ad : Nat → Nat) (ν : sw_N) (μ : sw_M)  (o : sw_M), q_f_m_readSum μ  = some o → MetR l D cI cL yX11_readSum cX11_readSum 2 none (7 + d) 0 0 (fun a => a = ad) ad [.ref 63] lay0 μ ν none lay0 o ν) (hq_f_m_readProduct : ∀ (l : Launch) (D : va_G) (cI cL : ClassId) (ad : Nat → Nat) (ν : sw_N) (μ : sw_M)  (o : sw_M), q_f_m_readProduct μ  = some o → MetR l D cI cL yX11_readProduct cX11_readProduct 2 none (7 + d) 0 0 (fun a => a = ad) ad [.ref 63] lay0 μ ν none lay0 o ν) (hq_f_m_readUnit : ∀ (l : Launch) (D : va_G) (cI cL : ClassId) (ad : Nat → Nat) (ν : sw_N) (μ : sw_M)  (o : sw_M), q_f_m_readUnit μ  = some o → MetR l D cI cL yX11_readUnit cX11_readUnit 2 none (7 + d) 0 0 (fun a => a = ad) ad [.ref 63] lay0 μ ν none lay0 o ν) (hq_f_m_readTwo : ∀ (l : Launch) (D : va_G) (cI cL : ClassId) (ad : Nat → Nat) (ν : sw_N) (μ : sw_M) (a1 : Int32) (a2 : Int32) (o : sw_M), q_f_m_readTwo μ a1 a2 = some o → MetR l D cI cL yX11_readTwo cX11_readTwo 3 none (7 + d) 0 0 (fun a => a = ad) ad [.ref 63, .int a1, .int a2] lay0 μ ν none lay0 o ν) (N : Nat) (μ : sw_M)  (o : sw_M) (h : f_m_readUnit_b N  q_f_m_readSum q_f_m_readProduct q_f_m_readUnit q_f_m_readTwo μ  = some o) : MetR l D cI cL yX11_readUnit cX11_readUnit 2 none (7 + (d + 1)) 0 0 (fun a => a = ad) ad [.ref 63] lay0 μ ν none lay0 o ν :=
  MetR.of (n := 1) rfl (Nat.le_of_ble_eq_true rfl) (fun G g ho hm _ _ => ok_f_m_readUnit_b  q_f_m_readSum q_f_m_readProduct q_f_m_readUnit q_f_m_readTwo g hm  hq_f_m_readSum hq_f_m_readProduct hq_f_m_readUnit hq_f_m_readTwo μ ho  h)
def f_m_readProduct_66 (N : Nat) (q_f_m_readSum : sw_M → Option (sw_M)) (q_f_m_readProduct : sw_M → Option (sw_M)) (q_f_m_readUnit : sw_M → Option (sw_M)) (q_f_m_readTwo : sw_M → Int32 → Int32 → Option (sw_M)) (k_4 : sw_M → Option (sw_M)) (μ : sw_M) (s0 : Int32) : Option (sw_M) :=
  wb (wr μ 63 4 ((μ 63 4) + 1)) (fun μ1 =>
    Option.bind (q_f_m_readUnit μ1 ) (fun r2 =>
      Option.bind (f_m_emit N  r2 s0 0) (fun r4 =>
        k_4 r4 )))
def f_m_readProduct_38 (N : Nat) (q_f_m_readSum : sw_M → Option (sw_M)) (q_f_m_readProduct : sw_M → Option (sw_M)) (q_f_m_readUnit : sw_M → Option (sw_M)) (q_f_m_readTwo : sw_M → Int32 → Int32 → Option (sw_M)) (k_4 : sw_M → Option (sw_M)) (μ : sw_M)  : Option (sw_M) :=
  Option.bind (f_m_here N  μ ) (fun r1 =>
    if r1.1 = 42 then
      f_m_readProduct_66 N  q_f_m_readSum q_f_m_readProduct q_f_m_readUnit q_f_m_readTwo k_4  r1.2 4
    else
      Option.bind (f_m_here N  r1.2 ) (fun r3 =>
        if r3.1 = 47 then
          f_m_readProduct_66 N  q_f_m_readSum q_f_m_readProduct q_f_m_readUnit q_f_m_readTwo k_4  r3.2 5
        else
          f_m_readProduct_66 N  q_f_m_readSum q_f_m_readProduct q_f_m_readUnit q_f_m_readTwo k_4  r3.2 8))
def f_m_readProduct_4 (N : Nat) (q_f_m_readSum : sw_M → Option (sw_M)) (q_f_m_readProduct : sw_M → Option (sw_M)) (q_f_m_readUnit : sw_M → Option (sw_M)) (q_f_m_readTwo : sw_M → Int32 → Int32 → Option (sw_M))  : Nat → sw_M → Option (sw_M)
  | 0, _ => none
  | n + 1, μ =>
    Option.bind (f_m_fine N  μ ) (fun r1 =>
      if r1 = 0 then
        some μ
      else
        Option.bind (f_m_here N  μ ) (fun r3 =>
          if r3.1 = 42 then
            f_m_readProduct_38 N  q_f_m_readSum q_f_m_readProduct q_f_m_readUnit q_f_m_readTwo (f_m_readProduct_4 N  q_f_m_readSum q_f_m_readProduct q_f_m_readUnit q_f_m_readTwo  n)  r3.2 
          else
            Option.bind (f_m_here N  r3.2 ) (fun r5 =>
              if r5.1 = 47 then
                f_m_readProduct_38 N  q_f_m_readSum q_f_m_readProduct q_f_m_readUnit q_f_m_readTwo (f_m_readProduct_4 N  q_f_m_readSum q_f_m_readProduct q_f_m_readUnit q_f_m_readTwo  n)  r5.2 
              else
                Option.bind (f_m_here N  r5.2 ) (fun r7 =>
                  if r7.1 = 37 then
                    f_m_readProduct_38 N  q_f_m_readSum q_f_m_readProduct q_f_m_readUnit q_f_m_readTwo (f_m_readProduct_4 N  q_f_m_readSum q_f_m_readProduct q_f_m_readUnit q_f_m_readTwo  n)  r7.2 
                  else
                    some r7.2))))
def f_m_readProduct_b (N : Nat) (q_f_m_readSum : sw_M → Option (sw_M)) (q_f_m_readProduct : sw_M → Option (sw_M)) (q_f_m_readUnit : sw_M → Option (sw_M)) (q_f_m_readTwo : sw_M → Int32 → Int32 → Option (sw_M)) (μ : sw_M)  : Option (sw_M) :=
  Option.bind (q_f_m_readUnit μ ) (fun r1 =>
    f_m_readProduct_4 N  q_f_m_readSum q_f_m_readProduct q_f_m_readUnit q_f_m_readTwo  N r1 )
set_option maxRecDepth 100000 in
set_option maxHeartbeats 4000000 in
theorem ok_f_m_readProduct_66 {G : sw_G} {ad : Nat → Nat} {ν : sw_N}   {d : Nat} (q_f_m_readSum : sw_M → Option (sw_M)) (q_f_m_readProduct : sw_M → Option (sw_M)) (q_f_m_readUnit : sw_M → Option (sw_M)) (q_f_m_readTwo : sw_M → Int32 → Int32 → Option (sw_M)) {N : Nat} {o : sw_M} (g : sw_ok G cX11_readProduct "DeadWiresModel" none (7 + (d + 1)) 0 0 ad) (hm : G.2.2.1.2.1.maxLocals = 2) (hq_f_m_readSum : ∀ (l : Launch) (D : va_G) (cI cL : ClassId) (ad : Nat → Nat) (ν : sw_N) (μ : sw_M)  (o : sw_M), q_f_m_readSum μ  = some o → MetR l D cI cL yX11_readSum cX11_readSum 2 none (7 + d) 0 0 (fun a => a = ad) ad [.ref 63] lay0 μ ν none lay0 o ν) (hq_f_m_readProduct : ∀ (l : Launch) (D : va_G) (cI cL : ClassId) (ad : Nat → Nat) (ν : sw_N) (μ : sw_M)  (o : sw_M), q_f_m_readProduct μ  = some o → MetR l D cI cL yX11_readProduct cX11_readProduct 2 none (7 + d) 0 0 (fun a => a = ad) ad [.ref 63] lay0 μ ν none lay0 o ν) (hq_f_m_readUnit : ∀ (l : Launch) (D : va_G) (cI cL : ClassId) (ad : Nat → Nat) (ν : sw_N) (μ : sw_M)  (o : sw_M), q_f_m_readUnit μ  = some o → MetR l D cI cL yX11_readUnit cX11_readUnit 2 none (7 + d) 0 0 (fun a => a = ad) ad [.ref 63] lay0 μ ν none lay0 o ν) (hq_f_m_readTwo : ∀ (l : Launch) (D : va_G) (cI cL : ClassId) (ad : Nat → Nat) (ν : sw_N) (μ : sw_M) (a1 : Int32) (a2 : Int32) (o : sw_M), q_f_m_readTwo μ a1 a2 = some o → MetR l D cI cL yX11_readTwo cX11_readTwo 3 none (7 + d) 0 0 (fun a => a = ad) ad [.ref 63, .int a1, .int a2] lay0 μ ν none lay0 o ν) (ho : sw_out G 0 0 (fun a => a = ad) (.inl none) lay0 o ν) (k_4 : sw_M → Option (sw_M)) (hk_4 : ∀ (μ : sw_M), k_4 μ  = some o → SW G ad lay0 ν 0 0 4 [some (.ref 63), none] [] μ) (μ : sw_M) (s0 : Int32) (h : f_m_readProduct_66 N  q_f_m_readSum q_f_m_readProduct q_f_m_readUnit q_f_m_readTwo k_4  μ s0 = some o) : SW G ad lay0 ν 0 0 66 [some (.ref 63), none] [.int s0] μ := by
  unfold f_m_readProduct_66 at h
  refine SW.istore_n (pc := 66) g (dt dt_X11_readProduct 30 rfl) (sw_ltm hm (Nat.le_of_ble_eq_true rfl)) rfl ?_
  refine SW.aload_n (pc := 67) g (dt dt_X11_readProduct 31 rfl) rfl ?_
  refine SW.dup (pc := 68) g (dt dt_X11_readProduct 32 rfl) rfl ?_
  refine SW.getI (pc := 69) g (dt dt_X11_readProduct 33 rfl) fl_X11_101 cell_63 rfl ?_
  refine SW.iconst (pc := 72) (v := 1) g (dt dt_X11_readProduct 34 rfl) ki_1 ?_
  refine SW.iadd (pc := 73) g (dt dt_X11_readProduct 35 rfl) ?_
  refine SW.putI (pc := 74) g (dt dt_X11_readProduct 36 rfl) fl_X11_101 cell_63 rfl ?_
  refine SW.genM h (fun μ1 h => ?_)
  refine SW.aload_n (pc := 77) g (dt dt_X11_readProduct 37 rfl) rfl ?_
  obtain ⟨r2, h3, h⟩ := bindI h
  refine SW.callVv (pc := 78) g (dt dt_X11_readProduct 38 rfl) (hq_f_m_readUnit _ _ _ _ ad ν μ1  r2 h3) me_X11_readUnit mv_X11_readUnit ml_X11_246 cell_63 rfl rfl (Nat.le_of_ble_eq_true rfl) (by omega) (Nat.le_of_ble_eq_true rfl) (Nat.le_of_ble_eq_true rfl) rfl ?_
  refine SW.aload_n (pc := 81) g (dt dt_X11_readProduct 39 rfl) rfl ?_
  refine SW.iload_n (pc := 82) g (dt dt_X11_readProduct 40 rfl) rfl ?_
  refine SW.iconst (pc := 83) (v := 0) g (dt dt_X11_readProduct 41 rfl) ki_0 ?_
  obtain ⟨r4, h5, h⟩ := bindI h
  refine SW.callVv (pc := 84) g (dt dt_X11_readProduct 42 rfl) (mt_f_m_emit _ _ _ _ ad ν   N r2 s0 0 r4 h5) me_X11_emit mv_X11_emit ml_X11_243 cell_63 rfl rfl (Nat.le_of_ble_eq_true rfl) (by omega) (Nat.le_of_ble_eq_true rfl) (Nat.le_of_ble_eq_true rfl) rfl ?_
  refine SW.goto (pc := 87) (t := 4) g (dt dt_X11_readProduct 43 rfl) rfl ?_
  refine SW.msk [true, false] ?_
  exact hk_4 r4  h
set_option maxRecDepth 100000 in
set_option maxHeartbeats 4000000 in
theorem ok_f_m_readProduct_38 {G : sw_G} {ad : Nat → Nat} {ν : sw_N}   {d : Nat} (q_f_m_readSum : sw_M → Option (sw_M)) (q_f_m_readProduct : sw_M → Option (sw_M)) (q_f_m_readUnit : sw_M → Option (sw_M)) (q_f_m_readTwo : sw_M → Int32 → Int32 → Option (sw_M)) {N : Nat} {o : sw_M} (g : sw_ok G cX11_readProduct "DeadWiresModel" none (7 + (d + 1)) 0 0 ad) (hm : G.2.2.1.2.1.maxLocals = 2) (hq_f_m_readSum : ∀ (l : Launch) (D : va_G) (cI cL : ClassId) (ad : Nat → Nat) (ν : sw_N) (μ : sw_M)  (o : sw_M), q_f_m_readSum μ  = some o → MetR l D cI cL yX11_readSum cX11_readSum 2 none (7 + d) 0 0 (fun a => a = ad) ad [.ref 63] lay0 μ ν none lay0 o ν) (hq_f_m_readProduct : ∀ (l : Launch) (D : va_G) (cI cL : ClassId) (ad : Nat → Nat) (ν : sw_N) (μ : sw_M)  (o : sw_M), q_f_m_readProduct μ  = some o → MetR l D cI cL yX11_readProduct cX11_readProduct 2 none (7 + d) 0 0 (fun a => a = ad) ad [.ref 63] lay0 μ ν none lay0 o ν) (hq_f_m_readUnit : ∀ (l : Launch) (D : va_G) (cI cL : ClassId) (ad : Nat → Nat) (ν : sw_N) (μ : sw_M)  (o : sw_M), q_f_m_readUnit μ  = some o → MetR l D cI cL yX11_readUnit cX11_readUnit 2 none (7 + d) 0 0 (fun a => a = ad) ad [.ref 63] lay0 μ ν none lay0 o ν) (hq_f_m_readTwo : ∀ (l : Launch) (D : va_G) (cI cL : ClassId) (ad : Nat → Nat) (ν : sw_N) (μ : sw_M) (a1 : Int32) (a2 : Int32) (o : sw_M), q_f_m_readTwo μ a1 a2 = some o → MetR l D cI cL yX11_readTwo cX11_readTwo 3 none (7 + d) 0 0 (fun a => a = ad) ad [.ref 63, .int a1, .int a2] lay0 μ ν none lay0 o ν) (ho : sw_out G 0 0 (fun a => a = ad) (.inl none) lay0 o ν) (k_4 : sw_M → Option (sw_M)) (hk_4 : ∀ (μ : sw_M), k_4 μ  = some o → SW G ad lay0 ν 0 0 4 [some (.ref 63), none] [] μ) (μ : sw_M)  (h : f_m_readProduct_38 N  q_f_m_readSum q_f_m_readProduct q_f_m_readUnit q_f_m_readTwo k_4  μ  = some o) : SW G ad lay0 ν 0 0 38 [some (.ref 63), none] [] μ := by
  unfold f_m_readProduct_38 at h
  refine SW.aload_n (pc := 38) g (dt dt_X11_readProduct 17 rfl) rfl ?_
  obtain ⟨r1, h2, h⟩ := bindI h
  refine SW.callVi (pc := 39) g (dt dt_X11_readProduct 18 rfl) (mt_f_m_here _ _ _ _ ad ν   N μ  r1 h2) me_X11_here mv_X11_here ml_X11_107 cell_63 rfl rfl (Nat.le_of_ble_eq_true rfl) (by omega) (Nat.le_of_ble_eq_true rfl) (Nat.le_of_ble_eq_true rfl) rfl ?_
  refine SW.bipush (pc := 42) (v := 42) g (dt dt_X11_readProduct 19 rfl) kb_42 ?_
  refine SW.icmp_ne (pc := 44) (t := 51) g (dt dt_X11_readProduct 20 rfl) rfl (fun hc => ?_) (fun hc => ?_)
  · have h := iteF hc h
    refine SW.aload_n (pc := 51) g (dt dt_X11_readProduct 23 rfl) rfl ?_
    obtain ⟨r3, h4, h⟩ := bindI h
    refine SW.callVi (pc := 52) g (dt dt_X11_readProduct 24 rfl) (mt_f_m_here _ _ _ _ ad ν   N r1.2  r3 h4) me_X11_here mv_X11_here ml_X11_107 cell_63 rfl rfl (Nat.le_of_ble_eq_true rfl) (by omega) (Nat.le_of_ble_eq_true rfl) (Nat.le_of_ble_eq_true rfl) rfl ?_
    refine SW.bipush (pc := 55) (v := 47) g (dt dt_X11_readProduct 25 rfl) kb_47 ?_
    refine SW.icmp_ne (pc := 57) (t := 64) g (dt dt_X11_readProduct 26 rfl) rfl (fun hc => ?_) (fun hc => ?_)
    · have h := iteF hc h
      refine SW.bipush (pc := 64) (v := 8) g (dt dt_X11_readProduct 29 rfl) kb_8 ?_
      refine SW.msk [true, false] ?_
      exact ok_f_m_readProduct_66  q_f_m_readSum q_f_m_readProduct q_f_m_readUnit q_f_m_readTwo g hm  hq_f_m_readSum hq_f_m_readProduct hq_f_m_readUnit hq_f_m_readTwo ho k_4 hk_4  r3.2 8 h
    · have h := iteT hc h
      refine SW.iconst (pc := 60) (v := 5) g (dt dt_X11_readProduct 27 rfl) ki_5 ?_
      refine SW.goto (pc := 61) (t := 66) g (dt dt_X11_readProduct 28 rfl) rfl ?_
      refine SW.msk [true, false] ?_
      exact ok_f_m_readProduct_66  q_f_m_readSum q_f_m_readProduct q_f_m_readUnit q_f_m_readTwo g hm  hq_f_m_readSum hq_f_m_readProduct hq_f_m_readUnit hq_f_m_readTwo ho k_4 hk_4  r3.2 5 h
  · have h := iteT hc h
    refine SW.iconst (pc := 47) (v := 4) g (dt dt_X11_readProduct 21 rfl) ki_4 ?_
    refine SW.goto (pc := 48) (t := 66) g (dt dt_X11_readProduct 22 rfl) rfl ?_
    refine SW.msk [true, false] ?_
    exact ok_f_m_readProduct_66  q_f_m_readSum q_f_m_readProduct q_f_m_readUnit q_f_m_readTwo g hm  hq_f_m_readSum hq_f_m_readProduct hq_f_m_readUnit hq_f_m_readTwo ho k_4 hk_4  r1.2 4 h
set_option maxRecDepth 100000 in
set_option maxHeartbeats 4000000 in
theorem ok_f_m_readProduct_4 {G : sw_G} {ad : Nat → Nat} {ν : sw_N}   {d : Nat} (q_f_m_readSum : sw_M → Option (sw_M)) (q_f_m_readProduct : sw_M → Option (sw_M)) (q_f_m_readUnit : sw_M → Option (sw_M)) (q_f_m_readTwo : sw_M → Int32 → Int32 → Option (sw_M)) {N : Nat} {o : sw_M} (g : sw_ok G cX11_readProduct "DeadWiresModel" none (7 + (d + 1)) 0 0 ad) (hm : G.2.2.1.2.1.maxLocals = 2) (hq_f_m_readSum : ∀ (l : Launch) (D : va_G) (cI cL : ClassId) (ad : Nat → Nat) (ν : sw_N) (μ : sw_M)  (o : sw_M), q_f_m_readSum μ  = some o → MetR l D cI cL yX11_readSum cX11_readSum 2 none (7 + d) 0 0 (fun a => a = ad) ad [.ref 63] lay0 μ ν none lay0 o ν) (hq_f_m_readProduct : ∀ (l : Launch) (D : va_G) (cI cL : ClassId) (ad : Nat → Nat) (ν : sw_N) (μ : sw_M)  (o : sw_M), q_f_m_readProduct μ  = some o → MetR l D cI cL yX11_readProduct cX11_readProduct 2 none (7 + d) 0 0 (fun a => a = ad) ad [.ref 63] lay0 μ ν none lay0 o ν) (hq_f_m_readUnit : ∀ (l : Launch) (D : va_G) (cI cL : ClassId) (ad : Nat → Nat) (ν : sw_N) (μ : sw_M)  (o : sw_M), q_f_m_readUnit μ  = some o → MetR l D cI cL yX11_readUnit cX11_readUnit 2 none (7 + d) 0 0 (fun a => a = ad) ad [.ref 63] lay0 μ ν none lay0 o ν) (hq_f_m_readTwo : ∀ (l : Launch) (D : va_G) (cI cL : ClassId) (ad : Nat → Nat) (ν : sw_N) (μ : sw_M) (a1 : Int32) (a2 : Int32) (o : sw_M), q_f_m_readTwo μ a1 a2 = some o → MetR l D cI cL yX11_readTwo cX11_readTwo 3 none (7 + d) 0 0 (fun a => a = ad) ad [.ref 63, .int a1, .int a2] lay0 μ ν none lay0 o ν) (ho : sw_out G 0 0 (fun a => a = ad) (.inl none) lay0 o ν)  : ∀ (n : Nat) (μ : sw_M)  (h : f_m_readProduct_4 N  q_f_m_readSum q_f_m_readProduct q_f_m_readUnit q_f_m_readTwo  n μ  = some o), SW G ad lay0 ν 0 0 4 [some (.ref 63), none] [] μ := by
  intro n
  induction n with
  | zero => intro μ  h; simp only [f_m_readProduct_4] at h; cases h
  | succ n ih =>
    intro μ  h
    unfold f_m_readProduct_4 at h
    refine SW.aload_n (pc := 4) g (dt dt_X11_readProduct 2 rfl) rfl ?_
    obtain ⟨r1, h2, h⟩ := bindI h
    refine SW.callVi (pc := 5) g (dt dt_X11_readProduct 3 rfl) (mt_f_m_fine _ _ _ _ ad ν   N μ  r1 h2) me_X11_fine mv_X11_fine ml_X11_124 cell_63 rfl rfl (Nat.le_of_ble_eq_true rfl) (by omega) (Nat.le_of_ble_eq_true rfl) (Nat.le_of_ble_eq_true rfl) rfl ?_
    refine SW.if_eq (pc := 8) (t := 90) g (dt dt_X11_readProduct 4 rfl) rfl (fun hc => ?_) (fun hc => ?_)
    · have h := iteT hc h
      exact SW.vreturn (pc := 90) g (leafV h ho) rfl (Nat.le_of_ble_eq_true rfl) (Nat.le_of_ble_eq_true rfl) (dt dt_X11_readProduct 44 rfl)
    · have h := iteF hc h
      refine SW.aload_n (pc := 11) g (dt dt_X11_readProduct 5 rfl) rfl ?_
      obtain ⟨r3, h4, h⟩ := bindI h
      refine SW.callVi (pc := 12) g (dt dt_X11_readProduct 6 rfl) (mt_f_m_here _ _ _ _ ad ν   N μ  r3 h4) me_X11_here mv_X11_here ml_X11_107 cell_63 rfl rfl (Nat.le_of_ble_eq_true rfl) (by omega) (Nat.le_of_ble_eq_true rfl) (Nat.le_of_ble_eq_true rfl) rfl ?_
      refine SW.bipush (pc := 15) (v := 42) g (dt dt_X11_readProduct 7 rfl) kb_42 ?_
      refine SW.icmp_eq (pc := 17) (t := 38) g (dt dt_X11_readProduct 8 rfl) rfl (fun hc => ?_) (fun hc => ?_)
      · have h := iteT hc h
        refine SW.msk [true, false] ?_
        exact ok_f_m_readProduct_38  q_f_m_readSum q_f_m_readProduct q_f_m_readUnit q_f_m_readTwo g hm  hq_f_m_readSum hq_f_m_readProduct hq_f_m_readUnit hq_f_m_readTwo ho (f_m_readProduct_4 N  q_f_m_readSum q_f_m_readProduct q_f_m_readUnit q_f_m_readTwo  n) ih  r3.2  h
      · have h := iteF hc h
        refine SW.aload_n (pc := 20) g (dt dt_X11_readProduct 9 rfl) rfl ?_
        obtain ⟨r5, h6, h⟩ := bindI h
        refine SW.callVi (pc := 21) g (dt dt_X11_readProduct 10 rfl) (mt_f_m_here _ _ _ _ ad ν   N r3.2  r5 h6) me_X11_here mv_X11_here ml_X11_107 cell_63 rfl rfl (Nat.le_of_ble_eq_true rfl) (by omega) (Nat.le_of_ble_eq_true rfl) (Nat.le_of_ble_eq_true rfl) rfl ?_
        refine SW.bipush (pc := 24) (v := 47) g (dt dt_X11_readProduct 11 rfl) kb_47 ?_
        refine SW.icmp_eq (pc := 26) (t := 38) g (dt dt_X11_readProduct 12 rfl) rfl (fun hc => ?_) (fun hc => ?_)
        · have h := iteT hc h
          refine SW.msk [true, false] ?_
          exact ok_f_m_readProduct_38  q_f_m_readSum q_f_m_readProduct q_f_m_readUnit q_f_m_readTwo g hm  hq_f_m_readSum hq_f_m_readProduct hq_f_m_readUnit hq_f_m_readTwo ho (f_m_readProduct_4 N  q_f_m_readSum q_f_m_readProduct q_f_m_readUnit q_f_m_readTwo  n) ih  r5.2  h
        · have h := iteF hc h
          refine SW.aload_n (pc := 29) g (dt dt_X11_readProduct 13 rfl) rfl ?_
          obtain ⟨r7, h8, h⟩ := bindI h
          refine SW.callVi (pc := 30) g (dt dt_X11_readProduct 14 rfl) (mt_f_m_here _ _ _ _ ad ν   N r5.2  r7 h8) me_X11_here mv_X11_here ml_X11_107 cell_63 rfl rfl (Nat.le_of_ble_eq_true rfl) (by omega) (Nat.le_of_ble_eq_true rfl) (Nat.le_of_ble_eq_true rfl) rfl ?_
          refine SW.bipush (pc := 33) (v := 37) g (dt dt_X11_readProduct 15 rfl) kb_37 ?_
          refine SW.icmp_ne (pc := 35) (t := 90) g (dt dt_X11_readProduct 16 rfl) rfl (fun hc => ?_) (fun hc => ?_)
          · have h := iteF hc h
            exact SW.vreturn (pc := 90) g (leafV h ho) rfl (Nat.le_of_ble_eq_true rfl) (Nat.le_of_ble_eq_true rfl) (dt dt_X11_readProduct 44 rfl)
          · have h := iteT hc h
            refine SW.msk [true, false] ?_
            exact ok_f_m_readProduct_38  q_f_m_readSum q_f_m_readProduct q_f_m_readUnit q_f_m_readTwo g hm  hq_f_m_readSum hq_f_m_readProduct hq_f_m_readUnit hq_f_m_readTwo ho (f_m_readProduct_4 N  q_f_m_readSum q_f_m_readProduct q_f_m_readUnit q_f_m_readTwo  n) ih  r7.2  h
set_option maxRecDepth 100000 in
set_option maxHeartbeats 4000000 in
theorem ok_f_m_readProduct_b {G : sw_G} {ad : Nat → Nat} {ν : sw_N}   {d : Nat} (q_f_m_readSum : sw_M → Option (sw_M)) (q_f_m_readProduct : sw_M → Option (sw_M)) (q_f_m_readUnit : sw_M → Option (sw_M)) (q_f_m_readTwo : sw_M → Int32 → Int32 → Option (sw_M)) {N : Nat} {o : sw_M} (g : sw_ok G cX11_readProduct "DeadWiresModel" none (7 + (d + 1)) 0 0 ad) (hm : G.2.2.1.2.1.maxLocals = 2) (hq_f_m_readSum : ∀ (l : Launch) (D : va_G) (cI cL : ClassId) (ad : Nat → Nat) (ν : sw_N) (μ : sw_M)  (o : sw_M), q_f_m_readSum μ  = some o → MetR l D cI cL yX11_readSum cX11_readSum 2 none (7 + d) 0 0 (fun a => a = ad) ad [.ref 63] lay0 μ ν none lay0 o ν) (hq_f_m_readProduct : ∀ (l : Launch) (D : va_G) (cI cL : ClassId) (ad : Nat → Nat) (ν : sw_N) (μ : sw_M)  (o : sw_M), q_f_m_readProduct μ  = some o → MetR l D cI cL yX11_readProduct cX11_readProduct 2 none (7 + d) 0 0 (fun a => a = ad) ad [.ref 63] lay0 μ ν none lay0 o ν) (hq_f_m_readUnit : ∀ (l : Launch) (D : va_G) (cI cL : ClassId) (ad : Nat → Nat) (ν : sw_N) (μ : sw_M)  (o : sw_M), q_f_m_readUnit μ  = some o → MetR l D cI cL yX11_readUnit cX11_readUnit 2 none (7 + d) 0 0 (fun a => a = ad) ad [.ref 63] lay0 μ ν none lay0 o ν) (hq_f_m_readTwo : ∀ (l : Launch) (D : va_G) (cI cL : ClassId) (ad : Nat → Nat) (ν : sw_N) (μ : sw_M) (a1 : Int32) (a2 : Int32) (o : sw_M), q_f_m_readTwo μ a1 a2 = some o → MetR l D cI cL yX11_readTwo cX11_readTwo 3 none (7 + d) 0 0 (fun a => a = ad) ad [.ref 63, .int a1, .int a2] lay0 μ ν none lay0 o ν) (μ : sw_M) (ho : sw_out G 0 0 (fun a => a = ad) (.inl none) lay0 o ν)  (h : f_m_readProduct_b N  q_f_m_readSum q_f_m_readProduct q_f_m_readUnit q_f_m_readTwo μ  = some o) : SW G ad lay0 ν 0 0 0 [some (.ref 63), none] [] μ := by
  unfold f_m_readProduct_b at h
  refine SW.aload_n (pc := 0) g (dt dt_X11_readProduct 0 rfl) rfl ?_
  obtain ⟨r1, h2, h⟩ := bindI h
  refine SW.callVv (pc := 1) g (dt dt_X11_readProduct 1 rfl) (hq_f_m_readUnit _ _ _ _ ad ν μ  r1 h2) me_X11_readUnit mv_X11_readUnit ml_X11_246 cell_63 rfl rfl (Nat.le_of_ble_eq_true rfl) (by omega) (Nat.le_of_ble_eq_true rfl) (Nat.le_of_ble_eq_true rfl) rfl ?_
  refine SW.msk [true, false] ?_
  exact ok_f_m_readProduct_4  q_f_m_readSum q_f_m_readProduct q_f_m_readUnit q_f_m_readTwo g hm  hq_f_m_readSum hq_f_m_readProduct hq_f_m_readUnit hq_f_m_readTwo ho   N r1  h
set_option maxRecDepth 100000 in
set_option maxHeartbeats 4000000 in
theorem mtb_f_m_readProduct (l : Launch) (D : va_G) (cI cL : ClassId) (ad : Nat → Nat) (ν : sw_N)   {d : Nat} (q_f_m_readSum : sw_M → Option (sw_M)) (q_f_m_readProduct : sw_M → Option (sw_M)) (q_f_m_readUnit : sw_M → Option (sw_M)) (q_f_m_readTwo : sw_M → Int32 → Int32 → Option (sw_M)) (hq_f_m_readSum : ∀ (l : Launch) (D : va_G) (cI cL : ClassId) (ad : Nat → Nat) (ν : sw_N) (μ : sw_M)  (o : sw_M), q_f_m_readSum μ  = some o → MetR l D cI cL yX11_readSum cX11_readSum 2 none (7 + d) 0 0 (fun a => a = ad) ad [.ref 63] lay0 μ ν none lay0 o ν) (hq_f_m_readProduct : ∀ (l : Launch) (D : va_G) (cI cL : ClassId) (ad : Nat → Nat) (ν : sw_N) (μ : sw_M)  (o : sw_M), q_f_m_readProduct μ  = some o → MetR l D cI cL yX11_readProduct cX11_readProduct 2 none (7 + d) 0 0 (fun a => a = ad) ad [.ref 63] lay0 μ ν none lay0 o ν) (hq_f_m_readUnit : ∀ (l : Launch) (D : va_G) (cI cL : ClassId) (ad : Nat → Nat) (ν : sw_N) (μ : sw_M)  (o : sw_M), q_f_m_readUnit μ  = some o → MetR l D cI cL yX11_readUnit cX11_readUnit 2 none (7 + d) 0 0 (fun a => a = ad) ad [.ref 63] lay0 μ ν none lay0 o ν) (hq_f_m_readTwo : ∀ (l : Launch) (D : va_G) (cI cL : ClassId) (ad : Nat → Nat) (ν : sw_N) (μ : sw_M) (a1 : Int32) (a2 : Int32) (o : sw_M), q_f_m_readTwo μ a1 a2 = some o → MetR l D cI cL yX11_readTwo cX11_readTwo 3 none (7 + d) 0 0 (fun a => a = ad) ad [.ref 63, .int a1, .int a2] lay0 μ ν none lay0 o ν) (N : Nat) (μ : sw_M)  (o : sw_M) (h : f_m_readProduct_b N  q_f_m_readSum q_f_m_readProduct q_f_m_readUnit q_f_m_readTwo μ  = some o) : MetR l D cI cL yX11_readProduct cX11_readProduct 2 none (7 + (d + 1)) 0 0 (fun a => a = ad) ad [.ref 63] lay0 μ ν none lay0 o ν :=
  MetR.of (n := 1) rfl (Nat.le_of_ble_eq_true rfl) (fun G g ho hm _ _ => ok_f_m_readProduct_b  q_f_m_readSum q_f_m_readProduct q_f_m_readUnit q_f_m_readTwo g hm  hq_f_m_readSum hq_f_m_readProduct hq_f_m_readUnit hq_f_m_readTwo μ ho  h)
def f_m_readSum_43 (N : Nat) (q_f_m_readSum : sw_M → Option (sw_M)) (q_f_m_readProduct : sw_M → Option (sw_M)) (q_f_m_readUnit : sw_M → Option (sw_M)) (q_f_m_readTwo : sw_M → Int32 → Int32 → Option (sw_M)) (k_4 : sw_M → Option (sw_M)) (μ : sw_M) (s0 : Int32) : Option (sw_M) :=
  wb (wr μ 63 4 ((μ 63 4) + 1)) (fun μ1 =>
    Option.bind (q_f_m_readProduct μ1 ) (fun r2 =>
      Option.bind (f_m_emit N  r2 s0 0) (fun r4 =>
        k_4 r4 )))
def f_m_readSum_29 (N : Nat) (q_f_m_readSum : sw_M → Option (sw_M)) (q_f_m_readProduct : sw_M → Option (sw_M)) (q_f_m_readUnit : sw_M → Option (sw_M)) (q_f_m_readTwo : sw_M → Int32 → Int32 → Option (sw_M)) (k_4 : sw_M → Option (sw_M)) (μ : sw_M)  : Option (sw_M) :=
  Option.bind (f_m_here N  μ ) (fun r1 =>
    if r1.1 = 43 then
      f_m_readSum_43 N  q_f_m_readSum q_f_m_readProduct q_f_m_readUnit q_f_m_readTwo k_4  r1.2 2
    else
      f_m_readSum_43 N  q_f_m_readSum q_f_m_readProduct q_f_m_readUnit q_f_m_readTwo k_4  r1.2 3)
def f_m_readSum_4 (N : Nat) (q_f_m_readSum : sw_M → Option (sw_M)) (q_f_m_readProduct : sw_M → Option (sw_M)) (q_f_m_readUnit : sw_M → Option (sw_M)) (q_f_m_readTwo : sw_M → Int32 → Int32 → Option (sw_M))  : Nat → sw_M → Option (sw_M)
  | 0, _ => none
  | n + 1, μ =>
    Option.bind (f_m_fine N  μ ) (fun r1 =>
      if r1 = 0 then
        some μ
      else
        Option.bind (f_m_here N  μ ) (fun r3 =>
          if r3.1 = 43 then
            f_m_readSum_29 N  q_f_m_readSum q_f_m_readProduct q_f_m_readUnit q_f_m_readTwo (f_m_readSum_4 N  q_f_m_readSum q_f_m_readProduct q_f_m_readUnit q_f_m_readTwo  n)  r3.2 
          else
            Option.bind (f_m_here N  r3.2 ) (fun r5 =>
              if r5.1 = 45 then
                f_m_readSum_29 N  q_f_m_readSum q_f_m_readProduct q_f_m_readUnit q_f_m_readTwo (f_m_readSum_4 N  q_f_m_readSum q_f_m_readProduct q_f_m_readUnit q_f_m_readTwo  n)  r5.2 
              else
                some r5.2)))
def f_m_readSum_b (N : Nat) (q_f_m_readSum : sw_M → Option (sw_M)) (q_f_m_readProduct : sw_M → Option (sw_M)) (q_f_m_readUnit : sw_M → Option (sw_M)) (q_f_m_readTwo : sw_M → Int32 → Int32 → Option (sw_M)) (μ : sw_M)  : Option (sw_M) :=
  Option.bind (q_f_m_readProduct μ ) (fun r1 =>
    f_m_readSum_4 N  q_f_m_readSum q_f_m_readProduct q_f_m_readUnit q_f_m_readTwo  N r1 )
set_option maxRecDepth 100000 in
set_option maxHeartbeats 4000000 in
theorem ok_f_m_readSum_43 {G : sw_G} {ad : Nat → Nat} {ν : sw_N}   {d : Nat} (q_f_m_readSum : sw_M → Option (sw_M)) (q_f_m_readProduct : sw_M → Option (sw_M)) (q_f_m_readUnit : sw_M → Option (sw_M)) (q_f_m_readTwo : sw_M → Int32 → Int32 → Option (sw_M)) {N : Nat} {o : sw_M} (g : sw_ok G cX11_readSum "DeadWiresModel" none (7 + (d + 1)) 0 0 ad) (hm : G.2.2.1.2.1.maxLocals = 2) (hq_f_m_readSum : ∀ (l : Launch) (D : va_G) (cI cL : ClassId) (ad : Nat → Nat) (ν : sw_N) (μ : sw_M)  (o : sw_M), q_f_m_readSum μ  = some o → MetR l D cI cL yX11_readSum cX11_readSum 2 none (7 + d) 0 0 (fun a => a = ad) ad [.ref 63] lay0 μ ν none lay0 o ν) (hq_f_m_readProduct : ∀ (l : Launch) (D : va_G) (cI cL : ClassId) (ad : Nat → Nat) (ν : sw_N) (μ : sw_M)  (o : sw_M), q_f_m_readProduct μ  = some o → MetR l D cI cL yX11_readProduct cX11_readProduct 2 none (7 + d) 0 0 (fun a => a = ad) ad [.ref 63] lay0 μ ν none lay0 o ν) (hq_f_m_readUnit : ∀ (l : Launch) (D : va_G) (cI cL : ClassId) (ad : Nat → Nat) (ν : sw_N) (μ : sw_M)  (o : sw_M), q_f_m_readUnit μ  = some o → MetR l D cI cL yX11_readUnit cX11_readUnit 2 none (7 + d) 0 0 (fun a => a = ad) ad [.ref 63] lay0 μ ν none lay0 o ν) (hq_f_m_readTwo : ∀ (l : Launch) (D : va_G) (cI cL : ClassId) (ad : Nat → Nat) (ν : sw_N) (μ : sw_M) (a1 : Int32) (a2 : Int32) (o : sw_M), q_f_m_readTwo μ a1 a2 = some o → MetR l D cI cL yX11_readTwo cX11_readTwo 3 none (7 + d) 0 0 (fun a => a = ad) ad [.ref 63, .int a1, .int a2] lay0 μ ν none lay0 o ν) (ho : sw_out G 0 0 (fun a => a = ad) (.inl none) lay0 o ν) (k_4 : sw_M → Option (sw_M)) (hk_4 : ∀ (μ : sw_M), k_4 μ  = some o → SW G ad lay0 ν 0 0 4 [some (.ref 63), none] [] μ) (μ : sw_M) (s0 : Int32) (h : f_m_readSum_43 N  q_f_m_readSum q_f_m_readProduct q_f_m_readUnit q_f_m_readTwo k_4  μ s0 = some o) : SW G ad lay0 ν 0 0 43 [some (.ref 63), none] [.int s0] μ := by
  unfold f_m_readSum_43 at h
  refine SW.istore_n (pc := 43) g (dt dt_X11_readSum 20 rfl) (sw_ltm hm (Nat.le_of_ble_eq_true rfl)) rfl ?_
  refine SW.aload_n (pc := 44) g (dt dt_X11_readSum 21 rfl) rfl ?_
  refine SW.dup (pc := 45) g (dt dt_X11_readSum 22 rfl) rfl ?_
  refine SW.getI (pc := 46) g (dt dt_X11_readSum 23 rfl) fl_X11_101 cell_63 rfl ?_
  refine SW.iconst (pc := 49) (v := 1) g (dt dt_X11_readSum 24 rfl) ki_1 ?_
  refine SW.iadd (pc := 50) g (dt dt_X11_readSum 25 rfl) ?_
  refine SW.putI (pc := 51) g (dt dt_X11_readSum 26 rfl) fl_X11_101 cell_63 rfl ?_
  refine SW.genM h (fun μ1 h => ?_)
  refine SW.aload_n (pc := 54) g (dt dt_X11_readSum 27 rfl) rfl ?_
  obtain ⟨r2, h3, h⟩ := bindI h
  refine SW.callVv (pc := 55) g (dt dt_X11_readSum 28 rfl) (hq_f_m_readProduct _ _ _ _ ad ν μ1  r2 h3) me_X11_readProduct mv_X11_readProduct ml_X11_240 cell_63 rfl rfl (Nat.le_of_ble_eq_true rfl) (by omega) (Nat.le_of_ble_eq_true rfl) (Nat.le_of_ble_eq_true rfl) rfl ?_
  refine SW.aload_n (pc := 58) g (dt dt_X11_readSum 29 rfl) rfl ?_
  refine SW.iload_n (pc := 59) g (dt dt_X11_readSum 30 rfl) rfl ?_
  refine SW.iconst (pc := 60) (v := 0) g (dt dt_X11_readSum 31 rfl) ki_0 ?_
  obtain ⟨r4, h5, h⟩ := bindI h
  refine SW.callVv (pc := 61) g (dt dt_X11_readSum 32 rfl) (mt_f_m_emit _ _ _ _ ad ν   N r2 s0 0 r4 h5) me_X11_emit mv_X11_emit ml_X11_243 cell_63 rfl rfl (Nat.le_of_ble_eq_true rfl) (by omega) (Nat.le_of_ble_eq_true rfl) (Nat.le_of_ble_eq_true rfl) rfl ?_
  refine SW.goto (pc := 64) (t := 4) g (dt dt_X11_readSum 33 rfl) rfl ?_
  refine SW.msk [true, false] ?_
  exact hk_4 r4  h
set_option maxRecDepth 100000 in
set_option maxHeartbeats 4000000 in
theorem ok_f_m_readSum_29 {G : sw_G} {ad : Nat → Nat} {ν : sw_N}   {d : Nat} (q_f_m_readSum : sw_M → Option (sw_M)) (q_f_m_readProduct : sw_M → Option (sw_M)) (q_f_m_readUnit : sw_M → Option (sw_M)) (q_f_m_readTwo : sw_M → Int32 → Int32 → Option (sw_M)) {N : Nat} {o : sw_M} (g : sw_ok G cX11_readSum "DeadWiresModel" none (7 + (d + 1)) 0 0 ad) (hm : G.2.2.1.2.1.maxLocals = 2) (hq_f_m_readSum : ∀ (l : Launch) (D : va_G) (cI cL : ClassId) (ad : Nat → Nat) (ν : sw_N) (μ : sw_M)  (o : sw_M), q_f_m_readSum μ  = some o → MetR l D cI cL yX11_readSum cX11_readSum 2 none (7 + d) 0 0 (fun a => a = ad) ad [.ref 63] lay0 μ ν none lay0 o ν) (hq_f_m_readProduct : ∀ (l : Launch) (D : va_G) (cI cL : ClassId) (ad : Nat → Nat) (ν : sw_N) (μ : sw_M)  (o : sw_M), q_f_m_readProduct μ  = some o → MetR l D cI cL yX11_readProduct cX11_readProduct 2 none (7 + d) 0 0 (fun a => a = ad) ad [.ref 63] lay0 μ ν none lay0 o ν) (hq_f_m_readUnit : ∀ (l : Launch) (D : va_G) (cI cL : ClassId) (ad : Nat → Nat) (ν : sw_N) (μ : sw_M)  (o : sw_M), q_f_m_readUnit μ  = some o → MetR l D cI cL yX11_readUnit cX11_readUnit 2 none (7 + d) 0 0 (fun a => a = ad) ad [.ref 63] lay0 μ ν none lay0 o ν) (hq_f_m_readTwo : ∀ (l : Launch) (D : va_G) (cI cL : ClassId) (ad : Nat → Nat) (ν : sw_N) (μ : sw_M) (a1 : Int32) (a2 : Int32) (o : sw_M), q_f_m_readTwo μ a1 a2 = some o → MetR l D cI cL yX11_readTwo cX11_readTwo 3 none (7 + d) 0 0 (fun a => a = ad) ad [.ref 63, .int a1, .int a2] lay0 μ ν none lay0 o ν) (ho : sw_out G 0 0 (fun a => a = ad) (.inl none) lay0 o ν) (k_4 : sw_M → Option (sw_M)) (hk_4 : ∀ (μ : sw_M), k_4 μ  = some o → SW G ad lay0 ν 0 0 4 [some (.ref 63), none] [] μ) (μ : sw_M)  (h : f_m_readSum_29 N  q_f_m_readSum q_f_m_readProduct q_f_m_readUnit q_f_m_readTwo k_4  μ  = some o) : SW G ad lay0 ν 0 0 29 [some (.ref 63), none] [] μ := by
  unfold f_m_readSum_29 at h
  refine SW.aload_n (pc := 29) g (dt dt_X11_readSum 13 rfl) rfl ?_
  obtain ⟨r1, h2, h⟩ := bindI h
  refine SW.callVi (pc := 30) g (dt dt_X11_readSum 14 rfl) (mt_f_m_here _ _ _ _ ad ν   N μ  r1 h2) me_X11_here mv_X11_here ml_X11_107 cell_63 rfl rfl (Nat.le_of_ble_eq_true rfl) (by omega) (Nat.le_of_ble_eq_true rfl) (Nat.le_of_ble_eq_true rfl) rfl ?_
  refine SW.bipush (pc := 33) (v := 43) g (dt dt_X11_readSum 15 rfl) kb_43 ?_
  refine SW.icmp_ne (pc := 35) (t := 42) g (dt dt_X11_readSum 16 rfl) rfl (fun hc => ?_) (fun hc => ?_)
  · have h := iteF hc h
    refine SW.iconst (pc := 42) (v := 3) g (dt dt_X11_readSum 19 rfl) ki_3 ?_
    refine SW.msk [true, false] ?_
    exact ok_f_m_readSum_43  q_f_m_readSum q_f_m_readProduct q_f_m_readUnit q_f_m_readTwo g hm  hq_f_m_readSum hq_f_m_readProduct hq_f_m_readUnit hq_f_m_readTwo ho k_4 hk_4  r1.2 3 h
  · have h := iteT hc h
    refine SW.iconst (pc := 38) (v := 2) g (dt dt_X11_readSum 17 rfl) ki_2 ?_
    refine SW.goto (pc := 39) (t := 43) g (dt dt_X11_readSum 18 rfl) rfl ?_
    refine SW.msk [true, false] ?_
    exact ok_f_m_readSum_43  q_f_m_readSum q_f_m_readProduct q_f_m_readUnit q_f_m_readTwo g hm  hq_f_m_readSum hq_f_m_readProduct hq_f_m_readUnit hq_f_m_readTwo ho k_4 hk_4  r1.2 2 h
set_option maxRecDepth 100000 in
set_option maxHeartbeats 4000000 in
theorem ok_f_m_readSum_4 {G : sw_G} {ad : Nat → Nat} {ν : sw_N}   {d : Nat} (q_f_m_readSum : sw_M → Option (sw_M)) (q_f_m_readProduct : sw_M → Option (sw_M)) (q_f_m_readUnit : sw_M → Option (sw_M)) (q_f_m_readTwo : sw_M → Int32 → Int32 → Option (sw_M)) {N : Nat} {o : sw_M} (g : sw_ok G cX11_readSum "DeadWiresModel" none (7 + (d + 1)) 0 0 ad) (hm : G.2.2.1.2.1.maxLocals = 2) (hq_f_m_readSum : ∀ (l : Launch) (D : va_G) (cI cL : ClassId) (ad : Nat → Nat) (ν : sw_N) (μ : sw_M)  (o : sw_M), q_f_m_readSum μ  = some o → MetR l D cI cL yX11_readSum cX11_readSum 2 none (7 + d) 0 0 (fun a => a = ad) ad [.ref 63] lay0 μ ν none lay0 o ν) (hq_f_m_readProduct : ∀ (l : Launch) (D : va_G) (cI cL : ClassId) (ad : Nat → Nat) (ν : sw_N) (μ : sw_M)  (o : sw_M), q_f_m_readProduct μ  = some o → MetR l D cI cL yX11_readProduct cX11_readProduct 2 none (7 + d) 0 0 (fun a => a = ad) ad [.ref 63] lay0 μ ν none lay0 o ν) (hq_f_m_readUnit : ∀ (l : Launch) (D : va_G) (cI cL : ClassId) (ad : Nat → Nat) (ν : sw_N) (μ : sw_M)  (o : sw_M), q_f_m_readUnit μ  = some o → MetR l D cI cL yX11_readUnit cX11_readUnit 2 none (7 + d) 0 0 (fun a => a = ad) ad [.ref 63] lay0 μ ν none lay0 o ν) (hq_f_m_readTwo : ∀ (l : Launch) (D : va_G) (cI cL : ClassId) (ad : Nat → Nat) (ν : sw_N) (μ : sw_M) (a1 : Int32) (a2 : Int32) (o : sw_M), q_f_m_readTwo μ a1 a2 = some o → MetR l D cI cL yX11_readTwo cX11_readTwo 3 none (7 + d) 0 0 (fun a => a = ad) ad [.ref 63, .int a1, .int a2] lay0 μ ν none lay0 o ν) (ho : sw_out G 0 0 (fun a => a = ad) (.inl none) lay0 o ν)  : ∀ (n : Nat) (μ : sw_M)  (h : f_m_readSum_4 N  q_f_m_readSum q_f_m_readProduct q_f_m_readUnit q_f_m_readTwo  n μ  = some o), SW G ad lay0 ν 0 0 4 [some (.ref 63), none] [] μ := by
  intro n
  induction n with
  | zero => intro μ  h; simp only [f_m_readSum_4] at h; cases h
  | succ n ih =>
    intro μ  h
    unfold f_m_readSum_4 at h
    refine SW.aload_n (pc := 4) g (dt dt_X11_readSum 2 rfl) rfl ?_
    obtain ⟨r1, h2, h⟩ := bindI h
    refine SW.callVi (pc := 5) g (dt dt_X11_readSum 3 rfl) (mt_f_m_fine _ _ _ _ ad ν   N μ  r1 h2) me_X11_fine mv_X11_fine ml_X11_124 cell_63 rfl rfl (Nat.le_of_ble_eq_true rfl) (by omega) (Nat.le_of_ble_eq_true rfl) (Nat.le_of_ble_eq_true rfl) rfl ?_
    refine SW.if_eq (pc := 8) (t := 67) g (dt dt_X11_readSum 4 rfl) rfl (fun hc => ?_) (fun hc => ?_)
    · have h := iteT hc h
      exact SW.vreturn (pc := 67) g (leafV h ho) rfl (Nat.le_of_ble_eq_true rfl) (Nat.le_of_ble_eq_true rfl) (dt dt_X11_readSum 34 rfl)
    · have h := iteF hc h
      refine SW.aload_n (pc := 11) g (dt dt_X11_readSum 5 rfl) rfl ?_
      obtain ⟨r3, h4, h⟩ := bindI h
      refine SW.callVi (pc := 12) g (dt dt_X11_readSum 6 rfl) (mt_f_m_here _ _ _ _ ad ν   N μ  r3 h4) me_X11_here mv_X11_here ml_X11_107 cell_63 rfl rfl (Nat.le_of_ble_eq_true rfl) (by omega) (Nat.le_of_ble_eq_true rfl) (Nat.le_of_ble_eq_true rfl) rfl ?_
      refine SW.bipush (pc := 15) (v := 43) g (dt dt_X11_readSum 7 rfl) kb_43 ?_
      refine SW.icmp_eq (pc := 17) (t := 29) g (dt dt_X11_readSum 8 rfl) rfl (fun hc => ?_) (fun hc => ?_)
      · have h := iteT hc h
        refine SW.msk [true, false] ?_
        exact ok_f_m_readSum_29  q_f_m_readSum q_f_m_readProduct q_f_m_readUnit q_f_m_readTwo g hm  hq_f_m_readSum hq_f_m_readProduct hq_f_m_readUnit hq_f_m_readTwo ho (f_m_readSum_4 N  q_f_m_readSum q_f_m_readProduct q_f_m_readUnit q_f_m_readTwo  n) ih  r3.2  h
      · have h := iteF hc h
        refine SW.aload_n (pc := 20) g (dt dt_X11_readSum 9 rfl) rfl ?_
        obtain ⟨r5, h6, h⟩ := bindI h
        refine SW.callVi (pc := 21) g (dt dt_X11_readSum 10 rfl) (mt_f_m_here _ _ _ _ ad ν   N r3.2  r5 h6) me_X11_here mv_X11_here ml_X11_107 cell_63 rfl rfl (Nat.le_of_ble_eq_true rfl) (by omega) (Nat.le_of_ble_eq_true rfl) (Nat.le_of_ble_eq_true rfl) rfl ?_
        refine SW.bipush (pc := 24) (v := 45) g (dt dt_X11_readSum 11 rfl) kb_45 ?_
        refine SW.icmp_ne (pc := 26) (t := 67) g (dt dt_X11_readSum 12 rfl) rfl (fun hc => ?_) (fun hc => ?_)
        · have h := iteF hc h
          exact SW.vreturn (pc := 67) g (leafV h ho) rfl (Nat.le_of_ble_eq_true rfl) (Nat.le_of_ble_eq_true rfl) (dt dt_X11_readSum 34 rfl)
        · have h := iteT hc h
          refine SW.msk [true, false] ?_
          exact ok_f_m_readSum_29  q_f_m_readSum q_f_m_readProduct q_f_m_readUnit q_f_m_readTwo g hm  hq_f_m_readSum hq_f_m_readProduct hq_f_m_readUnit hq_f_m_readTwo ho (f_m_readSum_4 N  q_f_m_readSum q_f_m_readProduct q_f_m_readUnit q_f_m_readTwo  n) ih  r5.2  h
set_option maxRecDepth 100000 in
set_option maxHeartbeats 4000000 in
theorem ok_f_m_readSum_b {G : sw_G} {ad : Nat → Nat} {ν : sw_N}   {d : Nat} (q_f_m_readSum : sw_M → Option (sw_M)) (q_f_m_readProduct : sw_M → Option (sw_M)) (q_f_m_readUnit : sw_M → Option (sw_M)) (q_f_m_readTwo : sw_M → Int32 → Int32 → Option (sw_M)) {N : Nat} {o : sw_M} (g : sw_ok G cX11_readSum "DeadWiresModel" none (7 + (d + 1)) 0 0 ad) (hm : G.2.2.1.2.1.maxLocals = 2) (hq_f_m_readSum : ∀ (l : Launch) (D : va_G) (cI cL : ClassId) (ad : Nat → Nat) (ν : sw_N) (μ : sw_M)  (o : sw_M), q_f_m_readSum μ  = some o → MetR l D cI cL yX11_readSum cX11_readSum 2 none (7 + d) 0 0 (fun a => a = ad) ad [.ref 63] lay0 μ ν none lay0 o ν) (hq_f_m_readProduct : ∀ (l : Launch) (D : va_G) (cI cL : ClassId) (ad : Nat → Nat) (ν : sw_N) (μ : sw_M)  (o : sw_M), q_f_m_readProduct μ  = some o → MetR l D cI cL yX11_readProduct cX11_readProduct 2 none (7 + d) 0 0 (fun a => a = ad) ad [.ref 63] lay0 μ ν none lay0 o ν) (hq_f_m_readUnit : ∀ (l : Launch) (D : va_G) (cI cL : ClassId) (ad : Nat → Nat) (ν : sw_N) (μ : sw_M)  (o : sw_M), q_f_m_readUnit μ  = some o → MetR l D cI cL yX11_readUnit cX11_readUnit 2 none (7 + d) 0 0 (fun a => a = ad) ad [.ref 63] lay0 μ ν none lay0 o ν) (hq_f_m_readTwo : ∀ (l : Launch) (D : va_G) (cI cL : ClassId) (ad : Nat → Nat) (ν : sw_N) (μ : sw_M) (a1 : Int32) (a2 : Int32) (o : sw_M), q_f_m_readTwo μ a1 a2 = some o → MetR l D cI cL yX11_readTwo cX11_readTwo 3 none (7 + d) 0 0 (fun a => a = ad) ad [.ref 63, .int a1, .int a2] lay0 μ ν none lay0 o ν) (μ : sw_M) (ho : sw_out G 0 0 (fun a => a = ad) (.inl none) lay0 o ν)  (h : f_m_readSum_b N  q_f_m_readSum q_f_m_readProduct q_f_m_readUnit q_f_m_readTwo μ  = some o) : SW G ad lay0 ν 0 0 0 [some (.ref 63), none] [] μ := by
  unfold f_m_readSum_b at h
  refine SW.aload_n (pc := 0) g (dt dt_X11_readSum 0 rfl) rfl ?_
  obtain ⟨r1, h2, h⟩ := bindI h
  refine SW.callVv (pc := 1) g (dt dt_X11_readSum 1 rfl) (hq_f_m_readProduct _ _ _ _ ad ν μ  r1 h2) me_X11_readProduct mv_X11_readProduct ml_X11_240 cell_63 rfl rfl (Nat.le_of_ble_eq_true rfl) (by omega) (Nat.le_of_ble_eq_true rfl) (Nat.le_of_ble_eq_true rfl) rfl ?_
  refine SW.msk [true, false] ?_
  exact ok_f_m_readSum_4  q_f_m_readSum q_f_m_readProduct q_f_m_readUnit q_f_m_readTwo g hm  hq_f_m_readSum hq_f_m_readProduct hq_f_m_readUnit hq_f_m_readTwo ho   N r1  h
set_option maxRecDepth 100000 in
set_option maxHeartbeats 4000000 in
theorem mtb_f_m_readSum (l : Launch) (D : va_G) (cI cL : ClassId) (ad : Nat → Nat) (ν : sw_N)   {d : Nat} (q_f_m_readSum : sw_M → Option (sw_M)) (q_f_m_readProduct : sw_M → Option (sw_M)) (q_f_m_readUnit : sw_M → Option (sw_M)) (q_f_m_readTwo : sw_M → Int32 → Int32 → Option (sw_M)) (hq_f_m_readSum : ∀ (l : Launch) (D : va_G) (cI cL : ClassId) (ad : Nat → Nat) (ν : sw_N) (μ : sw_M)  (o : sw_M), q_f_m_readSum μ  = some o → MetR l D cI cL yX11_readSum cX11_readSum 2 none (7 + d) 0 0 (fun a => a = ad) ad [.ref 63] lay0 μ ν none lay0 o ν) (hq_f_m_readProduct : ∀ (l : Launch) (D : va_G) (cI cL : ClassId) (ad : Nat → Nat) (ν : sw_N) (μ : sw_M)  (o : sw_M), q_f_m_readProduct μ  = some o → MetR l D cI cL yX11_readProduct cX11_readProduct 2 none (7 + d) 0 0 (fun a => a = ad) ad [.ref 63] lay0 μ ν none lay0 o ν) (hq_f_m_readUnit : ∀ (l : Launch) (D : va_G) (cI cL : ClassId) (ad : Nat → Nat) (ν : sw_N) (μ : sw_M)  (o : sw_M), q_f_m_readUnit μ  = some o → MetR l D cI cL yX11_readUnit cX11_readUnit 2 none (7 + d) 0 0 (fun a => a = ad) ad [.ref 63] lay0 μ ν none lay0 o ν) (hq_f_m_readTwo : ∀ (l : Launch) (D : va_G) (cI cL : ClassId) (ad : Nat → Nat) (ν : sw_N) (μ : sw_M) (a1 : Int32) (a2 : Int32) (o : sw_M), q_f_m_readTwo μ a1 a2 = some o → MetR l D cI cL yX11_readTwo cX11_readTwo 3 none (7 + d) 0 0 (fun a => a = ad) ad [.ref 63, .int a1, .int a2] lay0 μ ν none lay0 o ν) (N : Nat) (μ : sw_M)  (o : sw_M) (h : f_m_readSum_b N  q_f_m_readSum q_f_m_readProduct q_f_m_readUnit q_f_m_readTwo μ  = some o) : MetR l D cI cL yX11_readSum cX11_readSum 2 none (7 + (d + 1)) 0 0 (fun a => a = ad) ad [.ref 63] lay0 μ ν none lay0 o ν :=
  MetR.of (n := 1) rfl (Nat.le_of_ble_eq_true rfl) (fun G g ho hm _ _ => ok_f_m_readSum_b  q_f_m_readSum q_f_m_readProduct q_f_m_readUnit q_f_m_readTwo g hm  hq_f_m_readSum hq_f_m_readProduct hq_f_m_readUnit hq_f_m_readTwo μ ho  h)
def grp_m_readSum (N : Nat) : Nat → (sw_M → Option (sw_M)) × (sw_M → Option (sw_M)) × (sw_M → Option (sw_M)) × (sw_M → Int32 → Int32 → Option (sw_M))
  | 0 => (fun _ => none, fun _ => none, fun _ => none, fun _ _ _ => none)
  | d + 1 => (f_m_readSum_b N ((grp_m_readSum N d).1) ((grp_m_readSum N d).2.1) ((grp_m_readSum N d).2.2.1) ((grp_m_readSum N d).2.2.2), f_m_readProduct_b N ((grp_m_readSum N d).1) ((grp_m_readSum N d).2.1) ((grp_m_readSum N d).2.2.1) ((grp_m_readSum N d).2.2.2), f_m_readUnit_b N ((grp_m_readSum N d).1) ((grp_m_readSum N d).2.1) ((grp_m_readSum N d).2.2.1) ((grp_m_readSum N d).2.2.2), f_m_readTwo_b N ((grp_m_readSum N d).1) ((grp_m_readSum N d).2.1) ((grp_m_readSum N d).2.2.1) ((grp_m_readSum N d).2.2.2))
def f_m_readSum (N : Nat) (μ : sw_M)  : Option (sw_M) := (grp_m_readSum N 40).1 μ 
def f_m_readProduct (N : Nat) (μ : sw_M)  : Option (sw_M) := (grp_m_readSum N 40).2.1 μ 
def f_m_readUnit (N : Nat) (μ : sw_M)  : Option (sw_M) := (grp_m_readSum N 40).2.2.1 μ 
def f_m_readTwo (N : Nat) (μ : sw_M) (a1 : Int32) (a2 : Int32) : Option (sw_M) := (grp_m_readSum N 40).2.2.2 μ a1 a2
set_option maxRecDepth 100000 in
set_option maxHeartbeats 4000000 in
theorem ok_grp_m_readSum (N : Nat) : ∀ d : Nat, (∀ (l : Launch) (D : va_G) (cI cL : ClassId) (ad : Nat → Nat) (ν : sw_N) (μ : sw_M)  (o : sw_M), (grp_m_readSum N d).1 μ  = some o → MetR l D cI cL yX11_readSum cX11_readSum 2 none (7 + d) 0 0 (fun a => a = ad) ad [.ref 63] lay0 μ ν none lay0 o ν) ∧ (∀ (l : Launch) (D : va_G) (cI cL : ClassId) (ad : Nat → Nat) (ν : sw_N) (μ : sw_M)  (o : sw_M), (grp_m_readSum N d).2.1 μ  = some o → MetR l D cI cL yX11_readProduct cX11_readProduct 2 none (7 + d) 0 0 (fun a => a = ad) ad [.ref 63] lay0 μ ν none lay0 o ν) ∧ (∀ (l : Launch) (D : va_G) (cI cL : ClassId) (ad : Nat → Nat) (ν : sw_N) (μ : sw_M)  (o : sw_M), (grp_m_readSum N d).2.2.1 μ  = some o → MetR l D cI cL yX11_readUnit cX11_readUnit 2 none (7 + d) 0 0 (fun a => a = ad) ad [.ref 63] lay0 μ ν none lay0 o ν) ∧ (∀ (l : Launch) (D : va_G) (cI cL : ClassId) (ad : Nat → Nat) (ν : sw_N) (μ : sw_M) (a1 : Int32) (a2 : Int32) (o : sw_M), (grp_m_readSum N d).2.2.2 μ a1 a2 = some o → MetR l D cI cL yX11_readTwo cX11_readTwo 3 none (7 + d) 0 0 (fun a => a = ad) ad [.ref 63, .int a1, .int a2] lay0 μ ν none lay0 o ν) := by
  intro d
  induction d with
  | zero => exact ⟨(fun l D cI cL ad ν μ  o h => nomatch h), (fun l D cI cL ad ν μ  o h => nomatch h), (fun l D cI cL ad ν μ  o h => nomatch h), (fun l D cI cL ad ν μ a1 a2 o h => nomatch h)⟩
  | succ d ih => exact ⟨fun l D cI cL ad ν μ  o h => mtb_f_m_readSum l D cI cL ad ν ((grp_m_readSum N d).1) ((grp_m_readSum N d).2.1) ((grp_m_readSum N d).2.2.1) ((grp_m_readSum N d).2.2.2) (ih.1) (ih.2.1) (ih.2.2.1) (ih.2.2.2) N μ  o h, fun l D cI cL ad ν μ  o h => mtb_f_m_readProduct l D cI cL ad ν ((grp_m_readSum N d).1) ((grp_m_readSum N d).2.1) ((grp_m_readSum N d).2.2.1) ((grp_m_readSum N d).2.2.2) (ih.1) (ih.2.1) (ih.2.2.1) (ih.2.2.2) N μ  o h, fun l D cI cL ad ν μ  o h => mtb_f_m_readUnit l D cI cL ad ν ((grp_m_readSum N d).1) ((grp_m_readSum N d).2.1) ((grp_m_readSum N d).2.2.1) ((grp_m_readSum N d).2.2.2) (ih.1) (ih.2.1) (ih.2.2.1) (ih.2.2.2) N μ  o h, fun l D cI cL ad ν μ a1 a2 o h => mtb_f_m_readTwo l D cI cL ad ν ((grp_m_readSum N d).1) ((grp_m_readSum N d).2.1) ((grp_m_readSum N d).2.2.1) ((grp_m_readSum N d).2.2.2) (ih.1) (ih.2.1) (ih.2.2.1) (ih.2.2.2) N μ a1 a2 o h⟩
set_option maxRecDepth 100000 in
set_option maxHeartbeats 4000000 in
theorem mt_f_m_readSum (l : Launch) (D : va_G) (cI cL : ClassId) (ad : Nat → Nat) (ν : sw_N) (N : Nat) (μ : sw_M)  (o : sw_M) (h : f_m_readSum N μ  = some o) : MetR l D cI cL yX11_readSum cX11_readSum 2 none 47 0 0 (fun a => a = ad) ad [.ref 63] lay0 μ ν none lay0 o ν := (ok_grp_m_readSum N 40).1 l D cI cL ad ν μ  o h
set_option maxRecDepth 100000 in
set_option maxHeartbeats 4000000 in
theorem mt_f_m_readProduct (l : Launch) (D : va_G) (cI cL : ClassId) (ad : Nat → Nat) (ν : sw_N) (N : Nat) (μ : sw_M)  (o : sw_M) (h : f_m_readProduct N μ  = some o) : MetR l D cI cL yX11_readProduct cX11_readProduct 2 none 47 0 0 (fun a => a = ad) ad [.ref 63] lay0 μ ν none lay0 o ν := (ok_grp_m_readSum N 40).2.1 l D cI cL ad ν μ  o h
set_option maxRecDepth 100000 in
set_option maxHeartbeats 4000000 in
theorem mt_f_m_readUnit (l : Launch) (D : va_G) (cI cL : ClassId) (ad : Nat → Nat) (ν : sw_N) (N : Nat) (μ : sw_M)  (o : sw_M) (h : f_m_readUnit N μ  = some o) : MetR l D cI cL yX11_readUnit cX11_readUnit 2 none 47 0 0 (fun a => a = ad) ad [.ref 63] lay0 μ ν none lay0 o ν := (ok_grp_m_readSum N 40).2.2.1 l D cI cL ad ν μ  o h
set_option maxRecDepth 100000 in
set_option maxHeartbeats 4000000 in
theorem mt_f_m_readTwo (l : Launch) (D : va_G) (cI cL : ClassId) (ad : Nat → Nat) (ν : sw_N) (N : Nat) (μ : sw_M) (a1 : Int32) (a2 : Int32) (o : sw_M) (h : f_m_readTwo N μ a1 a2 = some o) : MetR l D cI cL yX11_readTwo cX11_readTwo 3 none 47 0 0 (fun a => a = ad) ad [.ref 63, .int a1, .int a2] lay0 μ ν none lay0 o ν := (ok_grp_m_readSum N 40).2.2.2 l D cI cL ad ν μ a1 a2 o h
def f_m_law_77 (N : Nat)   (μ : sw_M)  : Option (Int32 × sw_M) :=
  Option.bind (f_m_result N  μ 1) (fun r1 =>
    if (r1.2 63 5) = (-1) then
      wb (wr r1.2 63 31 (r1.2 63 30)) (fun μ3 =>
        Option.bind (f_m_copies N 72 150 74 150 μ3 (μ3 63 30)) (fun r4 =>
          Option.bind (f_m_copies N 73 150 75 150 r4 (r4 63 30)) (fun r6 =>
            some (r1.1, r6))))
    else
      some (r1.1, r1.2))
def f_m_law_30 (N : Nat)   (μ : sw_M) (x1 : Int32) (s0 : Int32) : Option (Int32 × sw_M) :=
  Option.bind (f_m_may N  μ s0 1 1) (fun r1 =>
    if r1.1 = 0 then
      some (0, r1.2)
    else
      Option.bind (f_m_begins N  r1.2 x1) (fun r3 =>
        wb (wr r3 63 30 0) (fun μ5 =>
          Option.bind (f_m_readSum N  μ5 ) (fun r6 =>
            Option.bind (f_m_fine N  r6 ) (fun r8 =>
              if r8 = 0 then
                f_m_law_77 N    r6 
              else
                Option.bind (f_m_isMore N  r6 ) (fun r10 =>
                  if r10.1 = 0 then
                    f_m_law_77 N    r10.2 
                  else
                    Option.bind (f_m_wrong N  r10.2 1 (r10.2 63 4)) (fun r12 =>
                      f_m_law_77 N    r12 )))))))
def f_m_law_29 (N : Nat)   (μ : sw_M) (x1 : Int32) : Option (Int32 × sw_M) :=
  f_m_law_30 N    μ x1 0
def f_m_law (N : Nat)  (μ : sw_M) (a1 : Int32) : Option (Int32 × sw_M) :=
  wb (wr μ 63 0 0) (fun μ1 =>
    if a1 < 0 then
      f_m_law_29 N    μ1 a1
    else
      if (μ1 63 2) < a1 then
        f_m_law_29 N    μ1 a1
      else
        if 150 < a1 then
          f_m_law_29 N    μ1 a1
        else
          f_m_law_30 N    μ1 a1 1)
set_option maxRecDepth 100000 in
set_option maxHeartbeats 4000000 in
theorem ok_f_m_law_77 {G : sw_G} {ad : Nat → Nat} {ν : sw_N}   {N : Nat} {o : Int32 × sw_M} (g : sw_ok G cX11_law "DeadWiresModel" (some .int) 48 0 0 ad) (hm : G.2.2.1.2.1.maxLocals = 3)  (ho : sw_out G 0 0 (fun a => a = ad) (.inl (some (.int o.1))) lay0 o.2 ν)  (μ : sw_M)  (h : f_m_law_77 N    μ  = some o) : SW G ad lay0 ν 0 0 77 [some (.ref 63), none, none] [] μ := by
  unfold f_m_law_77 at h
  refine SW.aload_n (pc := 77) g (dt dt_X11_law 41 rfl) rfl ?_
  refine SW.iconst (pc := 78) (v := 1) g (dt dt_X11_law 42 rfl) ki_1 ?_
  obtain ⟨r1, h2, h⟩ := bindI h
  refine SW.callVi (pc := 79) g (dt dt_X11_law 43 rfl) (mt_f_m_result _ _ _ _ ad ν   N μ 1 r1 h2) me_X11_result mv_X11_result ml_X11_233 cell_63 rfl rfl (Nat.le_of_ble_eq_true rfl) (Nat.le_of_ble_eq_true rfl) (Nat.le_of_ble_eq_true rfl) (Nat.le_of_ble_eq_true rfl) rfl ?_
  refine SW.istore_n (pc := 82) g (dt dt_X11_law 44 rfl) (sw_ltm hm (Nat.le_of_ble_eq_true rfl)) rfl ?_
  refine SW.aload_n (pc := 83) g (dt dt_X11_law 45 rfl) rfl ?_
  refine SW.getI (pc := 84) g (dt dt_X11_law 46 rfl) fl_X11_95 cell_63 rfl ?_
  refine SW.iconst (pc := 87) (v := (-1)) g (dt dt_X11_law 47 rfl) ki_m1 ?_
  refine SW.icmp_eq (pc := 88) (t := 93) g (dt dt_X11_law 48 rfl) rfl (fun hc => ?_) (fun hc => ?_)
  · have h := iteT hc h
    refine SW.aload_n (pc := 93) g (dt dt_X11_law 51 rfl) rfl ?_
    refine SW.aload_n (pc := 94) g (dt dt_X11_law 52 rfl) rfl ?_
    refine SW.getI (pc := 95) g (dt dt_X11_law 53 rfl) fl_X11_237 cell_63 rfl ?_
    refine SW.putI (pc := 98) g (dt dt_X11_law 54 rfl) fl_X11_169 cell_63 rfl ?_
    refine SW.genM h (fun μ3 h => ?_)
    refine SW.aload_n (pc := 101) g (dt dt_X11_law 55 rfl) rfl ?_
    refine SW.aload_n (pc := 102) g (dt dt_X11_law 56 rfl) rfl ?_
    refine SW.getR (pc := 103) g (dt dt_X11_law 57 rfl) fl_X11_41 cell_63 rfl ?_
    refine SW.aload_n (pc := 106) g (dt dt_X11_law 58 rfl) rfl ?_
    refine SW.getR (pc := 107) g (dt dt_X11_law 59 rfl) fl_X11_47 cell_63 rfl ?_
    refine SW.aload_n (pc := 110) g (dt dt_X11_law 60 rfl) rfl ?_
    refine SW.getI (pc := 111) g (dt dt_X11_law 61 rfl) fl_X11_237 cell_63 rfl ?_
    obtain ⟨r4, h5, h⟩ := bindI h
    refine SW.callVv (pc := 114) g (dt dt_X11_law 62 rfl) (mt_f_m_copies _ _ _ _ ad ν 72 150 74 150 cell_72 cell_74 N μ3 (μ3 63 30) r4 h5) me_X11_copies mv_X11_copies ml_X11_165 cell_63 rfl rfl (Nat.le_of_ble_eq_true rfl) (Nat.le_of_ble_eq_true rfl) (Nat.le_of_ble_eq_true rfl) (Nat.le_of_ble_eq_true rfl) rfl ?_
    refine SW.aload_n (pc := 117) g (dt dt_X11_law 63 rfl) rfl ?_
    refine SW.aload_n (pc := 118) g (dt dt_X11_law 64 rfl) rfl ?_
    refine SW.getR (pc := 119) g (dt dt_X11_law 65 rfl) fl_X11_44 cell_63 rfl ?_
    refine SW.aload_n (pc := 122) g (dt dt_X11_law 66 rfl) rfl ?_
    refine SW.getR (pc := 123) g (dt dt_X11_law 67 rfl) fl_X11_50 cell_63 rfl ?_
    refine SW.aload_n (pc := 126) g (dt dt_X11_law 68 rfl) rfl ?_
    refine SW.getI (pc := 127) g (dt dt_X11_law 69 rfl) fl_X11_237 cell_63 rfl ?_
    obtain ⟨r6, h7, h⟩ := bindI h
    refine SW.callVv (pc := 130) g (dt dt_X11_law 70 rfl) (mt_f_m_copies _ _ _ _ ad ν 73 150 75 150 cell_73 cell_75 N r4 (r4 63 30) r6 h7) me_X11_copies mv_X11_copies ml_X11_165 cell_63 rfl rfl (Nat.le_of_ble_eq_true rfl) (Nat.le_of_ble_eq_true rfl) (Nat.le_of_ble_eq_true rfl) (Nat.le_of_ble_eq_true rfl) rfl ?_
    refine SW.iload_n (pc := 133) g (dt dt_X11_law 71 rfl) rfl ?_
    exact SW.ireturn (pc := 134) g (leafW h ho) rfl (Nat.le_of_ble_eq_true rfl) (Nat.le_of_ble_eq_true rfl) (dt dt_X11_law 72 rfl)
  · have h := iteF hc h
    refine SW.iload_n (pc := 91) g (dt dt_X11_law 49 rfl) rfl ?_
    exact SW.ireturn (pc := 92) g (leafW h ho) rfl (Nat.le_of_ble_eq_true rfl) (Nat.le_of_ble_eq_true rfl) (dt dt_X11_law 50 rfl)
set_option maxRecDepth 100000 in
set_option maxHeartbeats 4000000 in
theorem ok_f_m_law_30 {G : sw_G} {ad : Nat → Nat} {ν : sw_N}   {N : Nat} {o : Int32 × sw_M} (g : sw_ok G cX11_law "DeadWiresModel" (some .int) 48 0 0 ad) (hm : G.2.2.1.2.1.maxLocals = 3)  (ho : sw_out G 0 0 (fun a => a = ad) (.inl (some (.int o.1))) lay0 o.2 ν)  (μ : sw_M) (x1 : Int32) (s0 : Int32) (h : f_m_law_30 N    μ x1 s0 = some o) : SW G ad lay0 ν 0 0 30 [some (.ref 63), some (.int x1), none] [.int s0, .ref 63] μ := by
  unfold f_m_law_30 at h
  refine SW.iconst (pc := 30) (v := 1) g (dt dt_X11_law 16 rfl) ki_1 ?_
  refine SW.iconst (pc := 31) (v := 1) g (dt dt_X11_law 17 rfl) ki_1 ?_
  obtain ⟨r1, h2, h⟩ := bindI h
  refine SW.callVi (pc := 32) g (dt dt_X11_law 18 rfl) (mt_f_m_may _ _ _ _ ad ν   N μ s0 1 1 r1 h2) me_X11_may mv_X11_may ml_X11_204 cell_63 rfl rfl (Nat.le_of_ble_eq_true rfl) (Nat.le_of_ble_eq_true rfl) (Nat.le_of_ble_eq_true rfl) (Nat.le_of_ble_eq_true rfl) rfl ?_
  refine SW.if_ne (pc := 35) (t := 40) g (dt dt_X11_law 19 rfl) rfl (fun hc => ?_) (fun hc => ?_)
  · have h := iteF hc h
    refine SW.aload_n (pc := 40) g (dt dt_X11_law 22 rfl) rfl ?_
    refine SW.iload_n (pc := 41) g (dt dt_X11_law 23 rfl) rfl ?_
    obtain ⟨r3, h4, h⟩ := bindI h
    refine SW.callVv (pc := 42) g (dt dt_X11_law 24 rfl) (mt_f_m_begins _ _ _ _ ad ν   N r1.2 x1 r3 h4) me_X11_begins mv_X11_begins ml_X11_208 cell_63 rfl rfl (Nat.le_of_ble_eq_true rfl) (Nat.le_of_ble_eq_true rfl) (Nat.le_of_ble_eq_true rfl) (Nat.le_of_ble_eq_true rfl) rfl ?_
    refine SW.aload_n (pc := 45) g (dt dt_X11_law 25 rfl) rfl ?_
    refine SW.iconst (pc := 46) (v := 0) g (dt dt_X11_law 26 rfl) ki_0 ?_
    refine SW.putI (pc := 47) g (dt dt_X11_law 27 rfl) fl_X11_237 cell_63 rfl ?_
    refine SW.genM h (fun μ5 h => ?_)
    refine SW.aload_n (pc := 50) g (dt dt_X11_law 28 rfl) rfl ?_
    obtain ⟨r6, h7, h⟩ := bindI h
    refine SW.callVv (pc := 51) g (dt dt_X11_law 29 rfl) (mt_f_m_readSum _ _ _ _ ad ν   N μ5  r6 h7) me_X11_readSum mv_X11_readSum ml_X11_252 cell_63 rfl rfl (Nat.le_of_ble_eq_true rfl) (Nat.le_of_ble_eq_true rfl) (Nat.le_of_ble_eq_true rfl) (Nat.le_of_ble_eq_true rfl) rfl ?_
    refine SW.aload_n (pc := 54) g (dt dt_X11_law 30 rfl) rfl ?_
    obtain ⟨r8, h9, h⟩ := bindI h
    refine SW.callVi (pc := 55) g (dt dt_X11_law 31 rfl) (mt_f_m_fine _ _ _ _ ad ν   N r6  r8 h9) me_X11_fine mv_X11_fine ml_X11_124 cell_63 rfl rfl (Nat.le_of_ble_eq_true rfl) (Nat.le_of_ble_eq_true rfl) (Nat.le_of_ble_eq_true rfl) (Nat.le_of_ble_eq_true rfl) rfl ?_
    refine SW.if_eq (pc := 58) (t := 77) g (dt dt_X11_law 32 rfl) rfl (fun hc => ?_) (fun hc => ?_)
    · have h := iteT hc h
      refine SW.msk [true, false, false] ?_
      exact ok_f_m_law_77  g hm  ho    r6  h
    · have h := iteF hc h
      refine SW.aload_n (pc := 61) g (dt dt_X11_law 33 rfl) rfl ?_
      obtain ⟨r10, h11, h⟩ := bindI h
      refine SW.callVi (pc := 62) g (dt dt_X11_law 34 rfl) (mt_f_m_isMore _ _ _ _ ad ν   N r6  r10 h11) me_X11_isMore mv_X11_isMore ml_X11_212 cell_63 rfl rfl (Nat.le_of_ble_eq_true rfl) (Nat.le_of_ble_eq_true rfl) (Nat.le_of_ble_eq_true rfl) (Nat.le_of_ble_eq_true rfl) rfl ?_
      refine SW.if_eq (pc := 65) (t := 77) g (dt dt_X11_law 35 rfl) rfl (fun hc => ?_) (fun hc => ?_)
      · have h := iteT hc h
        refine SW.msk [true, false, false] ?_
        exact ok_f_m_law_77  g hm  ho    r10.2  h
      · have h := iteF hc h
        refine SW.aload_n (pc := 68) g (dt dt_X11_law 36 rfl) rfl ?_
        refine SW.iconst (pc := 69) (v := 1) g (dt dt_X11_law 37 rfl) ki_1 ?_
        refine SW.aload_n (pc := 70) g (dt dt_X11_law 38 rfl) rfl ?_
        refine SW.getI (pc := 71) g (dt dt_X11_law 39 rfl) fl_X11_101 cell_63 rfl ?_
        obtain ⟨r12, h13, h⟩ := bindI h
        refine SW.callVv (pc := 74) g (dt dt_X11_law 40 rfl) (mt_f_m_wrong _ _ _ _ ad ν   N r10.2 1 (r10.2 63 4) r12 h13) me_X11_wrong mv_X11_wrong ml_X11_131 cell_63 rfl rfl (Nat.le_of_ble_eq_true rfl) (Nat.le_of_ble_eq_true rfl) (Nat.le_of_ble_eq_true rfl) (Nat.le_of_ble_eq_true rfl) rfl ?_
        refine SW.msk [true, false, false] ?_
        exact ok_f_m_law_77  g hm  ho    r12  h
  · have h := iteT hc h
    refine SW.iconst (pc := 38) (v := 0) g (dt dt_X11_law 20 rfl) ki_0 ?_
    exact SW.ireturn (pc := 39) g (leafW h ho) rfl (Nat.le_of_ble_eq_true rfl) (Nat.le_of_ble_eq_true rfl) (dt dt_X11_law 21 rfl)
set_option maxRecDepth 100000 in
set_option maxHeartbeats 4000000 in
theorem ok_f_m_law_29 {G : sw_G} {ad : Nat → Nat} {ν : sw_N}   {N : Nat} {o : Int32 × sw_M} (g : sw_ok G cX11_law "DeadWiresModel" (some .int) 48 0 0 ad) (hm : G.2.2.1.2.1.maxLocals = 3)  (ho : sw_out G 0 0 (fun a => a = ad) (.inl (some (.int o.1))) lay0 o.2 ν)  (μ : sw_M) (x1 : Int32) (h : f_m_law_29 N    μ x1 = some o) : SW G ad lay0 ν 0 0 29 [some (.ref 63), some (.int x1), none] [.ref 63] μ := by
  unfold f_m_law_29 at h
  refine SW.iconst (pc := 29) (v := 0) g (dt dt_X11_law 15 rfl) ki_0 ?_
  refine SW.msk [true, true, false] ?_
  exact ok_f_m_law_30  g hm  ho    μ x1 0 h
set_option maxRecDepth 100000 in
set_option maxHeartbeats 4000000 in
theorem ok_f_m_law {G : sw_G} {ad : Nat → Nat} {ν : sw_N}   {N : Nat} {o : Int32 × sw_M} (g : sw_ok G cX11_law "DeadWiresModel" (some .int) 48 0 0 ad) (hm : G.2.2.1.2.1.maxLocals = 3)  (μ : sw_M) (ho : sw_out G 0 0 (fun a => a = ad) (.inl (some (.int o.1))) lay0 o.2 ν) (a1 : Int32) (h : f_m_law N  μ a1 = some o) : SW G ad lay0 ν 0 0 0 [some (.ref 63), some (.int a1), none] [] μ := by
  unfold f_m_law at h
  refine SW.aload_n (pc := 0) g (dt dt_X11_law 0 rfl) rfl ?_
  refine SW.iconst (pc := 1) (v := 0) g (dt dt_X11_law 1 rfl) ki_0 ?_
  refine SW.putI (pc := 2) g (dt dt_X11_law 2 rfl) fl_X11_3 cell_63 rfl ?_
  refine SW.genM h (fun μ1 h => ?_)
  refine SW.aload_n (pc := 5) g (dt dt_X11_law 3 rfl) rfl ?_
  refine SW.iload_n (pc := 6) g (dt dt_X11_law 4 rfl) rfl ?_
  refine SW.if_lt (pc := 7) (t := 29) g (dt dt_X11_law 5 rfl) rfl (fun hc => ?_) (fun hc => ?_)
  · have h := iteT hc h
    refine SW.msk [true, true, false] ?_
    exact ok_f_m_law_29  g hm  ho    μ1 a1 h
  · have h := iteF hc h
    refine SW.iload_n (pc := 10) g (dt dt_X11_law 6 rfl) rfl ?_
    refine SW.aload_n (pc := 11) g (dt dt_X11_law 7 rfl) rfl ?_
    refine SW.getI (pc := 12) g (dt dt_X11_law 8 rfl) fl_X11_92 cell_63 rfl ?_
    refine SW.icmp_gt (pc := 15) (t := 29) g (dt dt_X11_law 9 rfl) rfl (fun hc => ?_) (fun hc => ?_)
    · have h := iteT hc h
      refine SW.msk [true, true, false] ?_
      exact ok_f_m_law_29  g hm  ho    μ1 a1 h
    · have h := iteF hc h
      refine SW.iload_n (pc := 18) g (dt dt_X11_law 10 rfl) rfl ?_
      refine SW.sipush (pc := 19) (v := 150) g (dt dt_X11_law 11 rfl) ks_150 ?_
      refine SW.icmp_gt (pc := 22) (t := 29) g (dt dt_X11_law 12 rfl) rfl (fun hc => ?_) (fun hc => ?_)
      · have h := iteT hc h
        refine SW.msk [true, true, false] ?_
        exact ok_f_m_law_29  g hm  ho    μ1 a1 h
      · have h := iteF hc h
        refine SW.iconst (pc := 25) (v := 1) g (dt dt_X11_law 13 rfl) ki_1 ?_
        refine SW.goto (pc := 26) (t := 30) g (dt dt_X11_law 14 rfl) rfl ?_
        refine SW.msk [true, true, false] ?_
        exact ok_f_m_law_30  g hm  ho    μ1 a1 1 h
set_option maxRecDepth 100000 in
set_option maxHeartbeats 4000000 in
theorem mt_f_m_law (l : Launch) (D : va_G) (cI cL : ClassId) (ad : Nat → Nat) (ν : sw_N)    (N : Nat) (μ : sw_M) (a1 : Int32) (o : Int32 × sw_M) (h : f_m_law N  μ a1 = some o) : MetR l D cI cL yX11_law cX11_law 3 (some .int) 48 0 0 (fun a => a = ad) ad [.ref 63, .int a1] lay0 μ ν (some (.int o.1)) lay0 o.2 ν :=
  MetR.of (n := 1) rfl (Nat.le_of_ble_eq_true rfl) (fun G g ho hm _ _ => ok_f_m_law  g hm  μ ho a1 h)
def f_sm_both_82 (N : Nat)  (μ : sw_M)  (x1 : Int32) (x2 : Int32) (s0 : Int32) (s1 : Int32) : Option (Int32) :=
  if s1 = s0 then
    some x1
  else
    some x2
def f_sm_both_71 (N : Nat)  (μ : sw_M)  (x0 : Int32) (x1 : Int32) (x2 : Int32) (s0 : Int32) : Option (Int32) :=
  if x0 = 6 then
    f_sm_both_82 N  μ   x1 x2 1 s0
  else
    f_sm_both_82 N  μ   x1 x2 0 s0
def f_sm_both_38 (N : Nat)  (μ : sw_M)  (x0 : Int32) (x1 : Int32) (x2 : Int32) : Option (Int32) :=
  if x2 = 0 then
    some 0
  else
    if x0 = 5 then
      nz x2
        (some (x1 / x2))
    else
      nz x2
        (some (x1 - x1 / x2 * x2))
def f_sm_both (N : Nat)  (μ : sw_M) (a0 : Int32) (a1 : Int32) (a2 : Int32) : Option (Int32) :=
  if a0 = 2 then
    some (a1 + a2)
  else
    if a0 = 3 then
      some (a1 - a2)
    else
      if a0 = 4 then
        some (a1 * a2)
      else
        if a0 = 5 then
          f_sm_both_38 N  μ   a0 a1 a2
        else
          if a0 = 8 then
            f_sm_both_38 N  μ   a0 a1 a2
          else
            if a2 ≤ a1 then
              f_sm_both_71 N  μ   a0 a1 a2 0
            else
              f_sm_both_71 N  μ   a0 a1 a2 1
set_option maxRecDepth 100000 in
set_option maxHeartbeats 4000000 in
theorem ok_f_sm_both_82 {G : sw_G} {ad : Nat → Nat} {ν : sw_N} {L : sw_L}  {N : Nat} {o : Int32} (g : sw_ok G cX11_both "DeadWiresModel" (some .int) 1 0 0 ad) (hm : G.2.2.1.2.1.maxLocals = 3)  (μ : sw_M) (ho : sw_out G 0 0 (fun a => a = ad) (.inl (some (.int o))) L μ ν)  (x1 : Int32) (x2 : Int32) (s0 : Int32) (s1 : Int32) (h : f_sm_both_82 N  μ   x1 x2 s0 s1 = some o) : SW G ad L ν 0 0 82 [none, some (.int x1), some (.int x2)] [.int s0, .int s1] μ := by
  unfold f_sm_both_82 at h
  refine SW.icmp_ne (pc := 82) (t := 89) g (dt dt_X11_both 54 rfl) rfl (fun hc => ?_) (fun hc => ?_)
  · have h := iteF hc h
    refine SW.iload_n (pc := 89) g (dt dt_X11_both 57 rfl) rfl ?_
    exact SW.ireturn (pc := 90) g (leafI h ho) rfl (Nat.le_of_ble_eq_true rfl) (Nat.le_of_ble_eq_true rfl) (dt dt_X11_both 58 rfl)
  · have h := iteT hc h
    refine SW.iload_n (pc := 85) g (dt dt_X11_both 55 rfl) rfl ?_
    refine SW.goto (pc := 86) (t := 90) g (dt dt_X11_both 56 rfl) rfl ?_
    exact SW.ireturn (pc := 90) g (leafI h ho) rfl (Nat.le_of_ble_eq_true rfl) (Nat.le_of_ble_eq_true rfl) (dt dt_X11_both 58 rfl)
set_option maxRecDepth 100000 in
set_option maxHeartbeats 4000000 in
theorem ok_f_sm_both_71 {G : sw_G} {ad : Nat → Nat} {ν : sw_N} {L : sw_L}  {N : Nat} {o : Int32} (g : sw_ok G cX11_both "DeadWiresModel" (some .int) 1 0 0 ad) (hm : G.2.2.1.2.1.maxLocals = 3)  (μ : sw_M) (ho : sw_out G 0 0 (fun a => a = ad) (.inl (some (.int o))) L μ ν)  (x0 : Int32) (x1 : Int32) (x2 : Int32) (s0 : Int32) (h : f_sm_both_71 N  μ   x0 x1 x2 s0 = some o) : SW G ad L ν 0 0 71 [some (.int x0), some (.int x1), some (.int x2)] [.int s0] μ := by
  unfold f_sm_both_71 at h
  refine SW.iload_n (pc := 71) g (dt dt_X11_both 48 rfl) rfl ?_
  refine SW.bipush (pc := 72) (v := 6) g (dt dt_X11_both 49 rfl) kb_6 ?_
  refine SW.icmp_ne (pc := 74) (t := 81) g (dt dt_X11_both 50 rfl) rfl (fun hc => ?_) (fun hc => ?_)
  · have h := iteF hc h
    refine SW.iconst (pc := 81) (v := 0) g (dt dt_X11_both 53 rfl) ki_0 ?_
    refine SW.msk [false, true, true] ?_
    exact ok_f_sm_both_82  g hm  μ ho    x1 x2 0 s0 h
  · have h := iteT hc h
    refine SW.iconst (pc := 77) (v := 1) g (dt dt_X11_both 51 rfl) ki_1 ?_
    refine SW.goto (pc := 78) (t := 82) g (dt dt_X11_both 52 rfl) rfl ?_
    refine SW.msk [false, true, true] ?_
    exact ok_f_sm_both_82  g hm  μ ho    x1 x2 1 s0 h
set_option maxRecDepth 100000 in
set_option maxHeartbeats 4000000 in
theorem ok_f_sm_both_38 {G : sw_G} {ad : Nat → Nat} {ν : sw_N} {L : sw_L}  {N : Nat} {o : Int32} (g : sw_ok G cX11_both "DeadWiresModel" (some .int) 1 0 0 ad) (hm : G.2.2.1.2.1.maxLocals = 3)  (μ : sw_M) (ho : sw_out G 0 0 (fun a => a = ad) (.inl (some (.int o))) L μ ν)  (x0 : Int32) (x1 : Int32) (x2 : Int32) (h : f_sm_both_38 N  μ   x0 x1 x2 = some o) : SW G ad L ν 0 0 38 [some (.int x0), some (.int x1), some (.int x2)] [] μ := by
  unfold f_sm_both_38 at h
  refine SW.iload_n (pc := 38) g (dt dt_X11_both 27 rfl) rfl ?_
  refine SW.if_ne (pc := 39) (t := 46) g (dt dt_X11_both 28 rfl) rfl (fun hc => ?_) (fun hc => ?_)
  · have h := iteF hc h
    refine SW.iload_n (pc := 46) g (dt dt_X11_both 31 rfl) rfl ?_
    refine SW.iconst (pc := 47) (v := 5) g (dt dt_X11_both 32 rfl) ki_5 ?_
    refine SW.icmp_ne (pc := 48) (t := 57) g (dt dt_X11_both 33 rfl) rfl (fun hc => ?_) (fun hc => ?_)
    · have h := iteF hc h
      refine SW.iload_n (pc := 57) g (dt dt_X11_both 38 rfl) rfl ?_
      refine SW.iload_n (pc := 58) g (dt dt_X11_both 39 rfl) rfl ?_
      obtain ⟨hz1, h⟩ := nzI h
      refine SW.irem (pc := 59) g (dt dt_X11_both 40 rfl) hz1 ?_
      exact SW.ireturn (pc := 60) g (leafI h ho) rfl (Nat.le_of_ble_eq_true rfl) (Nat.le_of_ble_eq_true rfl) (dt dt_X11_both 41 rfl)
    · have h := iteT hc h
      refine SW.iload_n (pc := 51) g (dt dt_X11_both 34 rfl) rfl ?_
      refine SW.iload_n (pc := 52) g (dt dt_X11_both 35 rfl) rfl ?_
      obtain ⟨hz2, h⟩ := nzI h
      refine SW.idiv (pc := 53) g (dt dt_X11_both 36 rfl) hz2 ?_
      refine SW.goto (pc := 54) (t := 60) g (dt dt_X11_both 37 rfl) rfl ?_
      exact SW.ireturn (pc := 60) g (leafI h ho) rfl (Nat.le_of_ble_eq_true rfl) (Nat.le_of_ble_eq_true rfl) (dt dt_X11_both 41 rfl)
  · have h := iteT hc h
    refine SW.iconst (pc := 42) (v := 0) g (dt dt_X11_both 29 rfl) ki_0 ?_
    refine SW.goto (pc := 43) (t := 60) g (dt dt_X11_both 30 rfl) rfl ?_
    exact SW.ireturn (pc := 60) g (leafI h ho) rfl (Nat.le_of_ble_eq_true rfl) (Nat.le_of_ble_eq_true rfl) (dt dt_X11_both 41 rfl)
set_option maxRecDepth 100000 in
set_option maxHeartbeats 4000000 in
theorem ok_f_sm_both {G : sw_G} {ad : Nat → Nat} {ν : sw_N} {L : sw_L}  {N : Nat} {o : Int32} (g : sw_ok G cX11_both "DeadWiresModel" (some .int) 1 0 0 ad) (hm : G.2.2.1.2.1.maxLocals = 3)  (μ : sw_M) (ho : sw_out G 0 0 (fun a => a = ad) (.inl (some (.int o))) L μ ν) (a0 : Int32) (a1 : Int32) (a2 : Int32) (h : f_sm_both N  μ a0 a1 a2 = some o) : SW G ad L ν 0 0 0 [some (.int a0), some (.int a1), some (.int a2)] [] μ := by
  unfold f_sm_both at h
  refine SW.iload_n (pc := 0) g (dt dt_X11_both 0 rfl) rfl ?_
  refine SW.iconst (pc := 1) (v := 2) g (dt dt_X11_both 1 rfl) ki_2 ?_
  refine SW.icmp_ne (pc := 2) (t := 9) g (dt dt_X11_both 2 rfl) rfl (fun hc => ?_) (fun hc => ?_)
  · have h := iteF hc h
    refine SW.iload_n (pc := 9) g (dt dt_X11_both 7 rfl) rfl ?_
    refine SW.iconst (pc := 10) (v := 3) g (dt dt_X11_both 8 rfl) ki_3 ?_
    refine SW.icmp_ne (pc := 11) (t := 18) g (dt dt_X11_both 9 rfl) rfl (fun hc => ?_) (fun hc => ?_)
    · have h := iteF hc h
      refine SW.iload_n (pc := 18) g (dt dt_X11_both 14 rfl) rfl ?_
      refine SW.iconst (pc := 19) (v := 4) g (dt dt_X11_both 15 rfl) ki_4 ?_
      refine SW.icmp_ne (pc := 20) (t := 27) g (dt dt_X11_both 16 rfl) rfl (fun hc => ?_) (fun hc => ?_)
      · have h := iteF hc h
        refine SW.iload_n (pc := 27) g (dt dt_X11_both 21 rfl) rfl ?_
        refine SW.iconst (pc := 28) (v := 5) g (dt dt_X11_both 22 rfl) ki_5 ?_
        refine SW.icmp_eq (pc := 29) (t := 38) g (dt dt_X11_both 23 rfl) rfl (fun hc => ?_) (fun hc => ?_)
        · have h := iteT hc h
          refine SW.msk [true, true, true] ?_
          exact ok_f_sm_both_38  g hm  μ ho    a0 a1 a2 h
        · have h := iteF hc h
          refine SW.iload_n (pc := 32) g (dt dt_X11_both 24 rfl) rfl ?_
          refine SW.bipush (pc := 33) (v := 8) g (dt dt_X11_both 25 rfl) kb_8 ?_
          refine SW.icmp_ne (pc := 35) (t := 61) g (dt dt_X11_both 26 rfl) rfl (fun hc => ?_) (fun hc => ?_)
          · have h := iteF hc h
            refine SW.iload_n (pc := 61) g (dt dt_X11_both 42 rfl) rfl ?_
            refine SW.iload_n (pc := 62) g (dt dt_X11_both 43 rfl) rfl ?_
            refine SW.icmp_ge (pc := 63) (t := 70) g (dt dt_X11_both 44 rfl) rfl (fun hc => ?_) (fun hc => ?_)
            · have h := iteT hc h
              refine SW.iconst (pc := 70) (v := 0) g (dt dt_X11_both 47 rfl) ki_0 ?_
              refine SW.msk [true, true, true] ?_
              exact ok_f_sm_both_71  g hm  μ ho    a0 a1 a2 0 h
            · have h := iteF hc h
              refine SW.iconst (pc := 66) (v := 1) g (dt dt_X11_both 45 rfl) ki_1 ?_
              refine SW.goto (pc := 67) (t := 71) g (dt dt_X11_both 46 rfl) rfl ?_
              refine SW.msk [true, true, true] ?_
              exact ok_f_sm_both_71  g hm  μ ho    a0 a1 a2 1 h
          · have h := iteT hc h
            refine SW.msk [true, true, true] ?_
            exact ok_f_sm_both_38  g hm  μ ho    a0 a1 a2 h
      · have h := iteT hc h
        refine SW.iload_n (pc := 23) g (dt dt_X11_both 17 rfl) rfl ?_
        refine SW.iload_n (pc := 24) g (dt dt_X11_both 18 rfl) rfl ?_
        refine SW.imul (pc := 25) g (dt dt_X11_both 19 rfl) ?_
        exact SW.ireturn (pc := 26) g (leafI h ho) rfl (Nat.le_of_ble_eq_true rfl) (Nat.le_of_ble_eq_true rfl) (dt dt_X11_both 20 rfl)
    · have h := iteT hc h
      refine SW.iload_n (pc := 14) g (dt dt_X11_both 10 rfl) rfl ?_
      refine SW.iload_n (pc := 15) g (dt dt_X11_both 11 rfl) rfl ?_
      refine SW.isub (pc := 16) g (dt dt_X11_both 12 rfl) ?_
      exact SW.ireturn (pc := 17) g (leafI h ho) rfl (Nat.le_of_ble_eq_true rfl) (Nat.le_of_ble_eq_true rfl) (dt dt_X11_both 13 rfl)
  · have h := iteT hc h
    refine SW.iload_n (pc := 5) g (dt dt_X11_both 3 rfl) rfl ?_
    refine SW.iload_n (pc := 6) g (dt dt_X11_both 4 rfl) rfl ?_
    refine SW.iadd (pc := 7) g (dt dt_X11_both 5 rfl) ?_
    exact SW.ireturn (pc := 8) g (leafI h ho) rfl (Nat.le_of_ble_eq_true rfl) (Nat.le_of_ble_eq_true rfl) (dt dt_X11_both 6 rfl)
set_option maxRecDepth 100000 in
set_option maxHeartbeats 4000000 in
theorem mt_f_sm_both (l : Launch) (D : va_G) (cI cL : ClassId) (ad : Nat → Nat) (ν : sw_N) (L : sw_L)   (N : Nat) (μ : sw_M) (a0 : Int32) (a1 : Int32) (a2 : Int32) (o : Int32) (h : f_sm_both N  μ a0 a1 a2 = some o) : MetR l D cI cL yX11_both cX11_both 3 (some .int) 1 0 0 (fun a => a = ad) ad [.int a0, .int a1, .int a2] L μ ν (some (.int o)) L μ ν :=
  MetR.of (n := 0) rfl (Nat.le_of_ble_eq_true rfl) (fun G g ho hm _ _ => ok_f_sm_both  g hm  μ ho a0 a1 a2 h)
def f_m_valueNow_53 (N : Nat)  (k_4 : sw_M → Int32 → Int32 → Option (Int32 × sw_M)) (μ : sw_M) (x1 : Int32) (x2 : Int32) (s0 : Int32) (s1 : Int32) : Option (Int32 × sw_M) :=
  inb s1 150 (wb (wr μ 76 s1.toNatClampNeg s0) (fun μ2 =>
    ib (x1 + 1) (fun y3 =>
      k_4 μ2 y3 (x2 + 1))))
def f_m_valueNow_4 (N : Nat)   : Nat → sw_M → Int32 → Int32 → Option (Int32 × sw_M)
  | 0, _, _, _ => none
  | n + 1, μ, x1, x2 =>
    if (μ 63 31) ≤ x2 then
      inb 0 150 (
        some (μ 76 (0 : Int32).toNatClampNeg, μ))
    else
      inb x2 150 (
        ib (μ 74 x2.toNatClampNeg) (fun y3 =>
          if 1 < y3 then
            ib (x1 + (-1)) (fun y4 =>
              inb (y4 - 1) 150 (
                inb y4 150 (
                  Option.bind (f_sm_both N  μ y3 (μ 76 (y4 - 1).toNatClampNeg) (μ 76 y4.toNatClampNeg)) (fun r7 =>
                    inb (y4 - 1) 150 (wb (wr μ 76 (y4 - 1).toNatClampNeg r7) (fun μ10 =>
                      f_m_valueNow_4 N   n μ10 y4 (x2 + 1)))))))
          else
            if y3 = 0 then
              inb x2 150 (
                f_m_valueNow_53 N  (f_m_valueNow_4 N   n)  μ x1 x2 (μ 75 x2.toNatClampNeg) x1)
            else
              inb x2 150 (
                inb (μ 75 x2.toNatClampNeg) 7 (
                  f_m_valueNow_53 N  (f_m_valueNow_4 N   n)  μ x1 x2 (μ 77 (μ 75 x2.toNatClampNeg).toNatClampNeg) x1))))
def f_m_valueNow (N : Nat)  (μ : sw_M)  : Option (Int32 × sw_M) :=
  f_m_valueNow_4 N   N μ 0 0
set_option maxRecDepth 100000 in
set_option maxHeartbeats 4000000 in
theorem ok_f_m_valueNow_53 {G : sw_G} {ad : Nat → Nat} {ν : sw_N}   {N : Nat} {o : Int32 × sw_M} (g : sw_ok G cX11_valueNow "DeadWiresModel" (some .int) 2 0 0 ad) (hm : G.2.2.1.2.1.maxLocals = 4)  (ho : sw_out G 0 0 (fun a => a = ad) (.inl (some (.int o.1))) lay0 o.2 ν) (k_4 : sw_M → Int32 → Int32 → Option (Int32 × sw_M)) (hk_4 : ∀ (μ : sw_M) (x1 : Int32) (x2 : Int32), k_4 μ x1 x2 = some o → SW G ad lay0 ν 0 0 4 [some (.ref 63), some (.int x1), some (.int x2), none] [] μ) (μ : sw_M) (x1 : Int32) (x2 : Int32) (s0 : Int32) (s1 : Int32) (h : f_m_valueNow_53 N  k_4  μ x1 x2 s0 s1 = some o) : SW G ad lay0 ν 0 0 53 [some (.ref 63), some (.int x1), some (.int x2), none] [.int s0, .int s1, .ref 76] μ := by
  unfold f_m_valueNow_53 at h
  obtain ⟨hb1, h⟩ := inbI h
  refine SW.iastore (pc := 53) g (dt dt_X11_valueNow 33 rfl) cell_76 hb1 ?_
  refine SW.genM h (fun μ2 h => ?_)
  refine SW.iinc (pc := 54) (v := x1 + 1) g (dt dt_X11_valueNow 34 rfl) rfl (kn_1 _) (sw_ltm hm (Nat.le_of_ble_eq_true rfl)) rfl ?_
  refine SW.genL h (fun y3 h => ?_)
  refine SW.goto (pc := 57) (t := 89) g (dt dt_X11_valueNow 35 rfl) rfl ?_
  refine SW.iinc (pc := 89) (v := x2 + 1) g (dt dt_X11_valueNow 55 rfl) rfl (kn_1 _) (sw_ltm hm (Nat.le_of_ble_eq_true rfl)) rfl ?_
  refine SW.goto (pc := 92) (t := 4) g (dt dt_X11_valueNow 56 rfl) rfl ?_
  refine SW.msk [true, true, true, false] ?_
  exact hk_4 μ2 y3 (x2 + 1) h
set_option maxRecDepth 100000 in
set_option maxHeartbeats 4000000 in
theorem ok_f_m_valueNow_4 {G : sw_G} {ad : Nat → Nat} {ν : sw_N}   {N : Nat} {o : Int32 × sw_M} (g : sw_ok G cX11_valueNow "DeadWiresModel" (some .int) 2 0 0 ad) (hm : G.2.2.1.2.1.maxLocals = 4)  (ho : sw_out G 0 0 (fun a => a = ad) (.inl (some (.int o.1))) lay0 o.2 ν)  : ∀ (n : Nat) (μ : sw_M) (x1 : Int32) (x2 : Int32) (h : f_m_valueNow_4 N   n μ x1 x2 = some o), SW G ad lay0 ν 0 0 4 [some (.ref 63), some (.int x1), some (.int x2), none] [] μ := by
  intro n
  induction n with
  | zero => intro μ x1 x2 h; simp only [f_m_valueNow_4] at h; cases h
  | succ n ih =>
    intro μ x1 x2 h
    unfold f_m_valueNow_4 at h
    refine SW.iload_n (pc := 4) g (dt dt_X11_valueNow 4 rfl) rfl ?_
    refine SW.aload_n (pc := 5) g (dt dt_X11_valueNow 5 rfl) rfl ?_
    refine SW.getI (pc := 6) g (dt dt_X11_valueNow 6 rfl) fl_X11_169 cell_63 rfl ?_
    refine SW.icmp_ge (pc := 9) (t := 95) g (dt dt_X11_valueNow 7 rfl) rfl (fun hc => ?_) (fun hc => ?_)
    · have h := iteT hc h
      refine SW.aload_n (pc := 95) g (dt dt_X11_valueNow 57 rfl) rfl ?_
      refine SW.getR (pc := 96) g (dt dt_X11_valueNow 58 rfl) fl_X11_53 cell_63 rfl ?_
      refine SW.iconst (pc := 99) (v := 0) g (dt dt_X11_valueNow 59 rfl) ki_0 ?_
      obtain ⟨hb1, h⟩ := inbI h
      refine SW.iaload (pc := 100) g (dt dt_X11_valueNow 60 rfl) cell_76 hb1 ?_
      exact SW.ireturn (pc := 101) g (leafW h ho) rfl (Nat.le_of_ble_eq_true rfl) (Nat.le_of_ble_eq_true rfl) (dt dt_X11_valueNow 61 rfl)
    · have h := iteF hc h
      refine SW.aload_n (pc := 12) g (dt dt_X11_valueNow 8 rfl) rfl ?_
      refine SW.getR (pc := 13) g (dt dt_X11_valueNow 9 rfl) fl_X11_47 cell_63 rfl ?_
      refine SW.iload_n (pc := 16) g (dt dt_X11_valueNow 10 rfl) rfl ?_
      obtain ⟨hb2, h⟩ := inbI h
      refine SW.iaload (pc := 17) g (dt dt_X11_valueNow 11 rfl) cell_74 hb2 ?_
      refine SW.istore_n (pc := 18) g (dt dt_X11_valueNow 12 rfl) (sw_ltm hm (Nat.le_of_ble_eq_true rfl)) rfl ?_
      refine SW.genL h (fun y3 h => ?_)
      refine SW.iload_n (pc := 19) g (dt dt_X11_valueNow 13 rfl) rfl ?_
      refine SW.iconst (pc := 20) (v := 1) g (dt dt_X11_valueNow 14 rfl) ki_1 ?_
      refine SW.icmp_gt (pc := 21) (t := 60) g (dt dt_X11_valueNow 15 rfl) rfl (fun hc => ?_) (fun hc => ?_)
      · have h := iteT hc h
        refine SW.iinc (pc := 60) (v := x1 + (-1)) g (dt dt_X11_valueNow 36 rfl) rfl (kn_m1 _) (sw_ltm hm (Nat.le_of_ble_eq_true rfl)) rfl ?_
        refine SW.genL h (fun y4 h => ?_)
        refine SW.aload_n (pc := 63) g (dt dt_X11_valueNow 37 rfl) rfl ?_
        refine SW.getR (pc := 64) g (dt dt_X11_valueNow 38 rfl) fl_X11_53 cell_63 rfl ?_
        refine SW.iload_n (pc := 67) g (dt dt_X11_valueNow 39 rfl) rfl ?_
        refine SW.iconst (pc := 68) (v := 1) g (dt dt_X11_valueNow 40 rfl) ki_1 ?_
        refine SW.isub (pc := 69) g (dt dt_X11_valueNow 41 rfl) ?_
        refine SW.iload_n (pc := 70) g (dt dt_X11_valueNow 42 rfl) rfl ?_
        refine SW.aload_n (pc := 71) g (dt dt_X11_valueNow 43 rfl) rfl ?_
        refine SW.getR (pc := 72) g (dt dt_X11_valueNow 44 rfl) fl_X11_53 cell_63 rfl ?_
        refine SW.iload_n (pc := 75) g (dt dt_X11_valueNow 45 rfl) rfl ?_
        refine SW.iconst (pc := 76) (v := 1) g (dt dt_X11_valueNow 46 rfl) ki_1 ?_
        refine SW.isub (pc := 77) g (dt dt_X11_valueNow 47 rfl) ?_
        obtain ⟨hb5, h⟩ := inbI h
        refine SW.iaload (pc := 78) g (dt dt_X11_valueNow 48 rfl) cell_76 hb5 ?_
        refine SW.aload_n (pc := 79) g (dt dt_X11_valueNow 49 rfl) rfl ?_
        refine SW.getR (pc := 80) g (dt dt_X11_valueNow 50 rfl) fl_X11_53 cell_63 rfl ?_
        refine SW.iload_n (pc := 83) g (dt dt_X11_valueNow 51 rfl) rfl ?_
        obtain ⟨hb6, h⟩ := inbI h
        refine SW.iaload (pc := 84) g (dt dt_X11_valueNow 52 rfl) cell_76 hb6 ?_
        obtain ⟨r7, h8, h⟩ := bindI h
        refine SW.callSi (pc := 85) g (dt dt_X11_valueNow 53 rfl) (mt_f_sm_both _ _ _ _ ad ν lay0   N μ y3 (μ 76 (y4 - 1).toNatClampNeg) (μ 76 y4.toNatClampNeg) r7 h8) me_X11_both ms_X11_both ml_X11_276 rfl (Nat.le_of_ble_eq_true rfl) (Nat.le_of_ble_eq_true rfl) (Nat.le_of_ble_eq_true rfl) (Nat.le_of_ble_eq_true rfl) rfl ?_
        obtain ⟨hb9, h⟩ := inbI h
        refine SW.iastore (pc := 88) g (dt dt_X11_valueNow 54 rfl) cell_76 hb9 ?_
        refine SW.genM h (fun μ10 h => ?_)
        refine SW.iinc (pc := 89) (v := x2 + 1) g (dt dt_X11_valueNow 55 rfl) rfl (kn_1 _) (sw_ltm hm (Nat.le_of_ble_eq_true rfl)) rfl ?_
        refine SW.goto (pc := 92) (t := 4) g (dt dt_X11_valueNow 56 rfl) rfl ?_
        refine SW.msk [true, true, true, false] ?_
        exact ih μ10 y4 (x2 + 1) h
      · have h := iteF hc h
        refine SW.aload_n (pc := 24) g (dt dt_X11_valueNow 16 rfl) rfl ?_
        refine SW.getR (pc := 25) g (dt dt_X11_valueNow 17 rfl) fl_X11_53 cell_63 rfl ?_
        refine SW.iload_n (pc := 28) g (dt dt_X11_valueNow 18 rfl) rfl ?_
        refine SW.iload_n (pc := 29) g (dt dt_X11_valueNow 19 rfl) rfl ?_
        refine SW.if_ne (pc := 30) (t := 42) g (dt dt_X11_valueNow 20 rfl) rfl (fun hc => ?_) (fun hc => ?_)
        · have h := iteF hc h
          refine SW.aload_n (pc := 42) g (dt dt_X11_valueNow 26 rfl) rfl ?_
          refine SW.getR (pc := 43) g (dt dt_X11_valueNow 27 rfl) fl_X11_56 cell_63 rfl ?_
          refine SW.aload_n (pc := 46) g (dt dt_X11_valueNow 28 rfl) rfl ?_
          refine SW.getR (pc := 47) g (dt dt_X11_valueNow 29 rfl) fl_X11_50 cell_63 rfl ?_
          refine SW.iload_n (pc := 50) g (dt dt_X11_valueNow 30 rfl) rfl ?_
          obtain ⟨hb11, h⟩ := inbI h
          refine SW.iaload (pc := 51) g (dt dt_X11_valueNow 31 rfl) cell_75 hb11 ?_
          obtain ⟨hb12, h⟩ := inbI h
          refine SW.iaload (pc := 52) g (dt dt_X11_valueNow 32 rfl) cell_77 hb12 ?_
          refine SW.msk [true, true, true, false] ?_
          exact ok_f_m_valueNow_53  g hm  ho (f_m_valueNow_4 N   n) ih  μ x1 x2 (μ 77 (μ 75 x2.toNatClampNeg).toNatClampNeg) x1 h
        · have h := iteT hc h
          refine SW.aload_n (pc := 33) g (dt dt_X11_valueNow 21 rfl) rfl ?_
          refine SW.getR (pc := 34) g (dt dt_X11_valueNow 22 rfl) fl_X11_50 cell_63 rfl ?_
          refine SW.iload_n (pc := 37) g (dt dt_X11_valueNow 23 rfl) rfl ?_
          obtain ⟨hb13, h⟩ := inbI h
          refine SW.iaload (pc := 38) g (dt dt_X11_valueNow 24 rfl) cell_75 hb13 ?_
          refine SW.goto (pc := 39) (t := 53) g (dt dt_X11_valueNow 25 rfl) rfl ?_
          refine SW.msk [true, true, true, false] ?_
          exact ok_f_m_valueNow_53  g hm  ho (f_m_valueNow_4 N   n) ih  μ x1 x2 (μ 75 x2.toNatClampNeg) x1 h
set_option maxRecDepth 100000 in
set_option maxHeartbeats 4000000 in
theorem ok_f_m_valueNow {G : sw_G} {ad : Nat → Nat} {ν : sw_N}   {N : Nat} {o : Int32 × sw_M} (g : sw_ok G cX11_valueNow "DeadWiresModel" (some .int) 2 0 0 ad) (hm : G.2.2.1.2.1.maxLocals = 4)  (μ : sw_M) (ho : sw_out G 0 0 (fun a => a = ad) (.inl (some (.int o.1))) lay0 o.2 ν)  (h : f_m_valueNow N  μ  = some o) : SW G ad lay0 ν 0 0 0 [some (.ref 63), none, none, none] [] μ := by
  unfold f_m_valueNow at h
  refine SW.iconst (pc := 0) (v := 0) g (dt dt_X11_valueNow 0 rfl) ki_0 ?_
  refine SW.istore_n (pc := 1) g (dt dt_X11_valueNow 1 rfl) (sw_ltm hm (Nat.le_of_ble_eq_true rfl)) rfl ?_
  refine SW.iconst (pc := 2) (v := 0) g (dt dt_X11_valueNow 2 rfl) ki_0 ?_
  refine SW.istore_n (pc := 3) g (dt dt_X11_valueNow 3 rfl) (sw_ltm hm (Nat.le_of_ble_eq_true rfl)) rfl ?_
  refine SW.msk [true, true, true, false] ?_
  exact ok_f_m_valueNow_4  g hm  ho   N μ 0 0 h
set_option maxRecDepth 100000 in
set_option maxHeartbeats 4000000 in
theorem mt_f_m_valueNow (l : Launch) (D : va_G) (cI cL : ClassId) (ad : Nat → Nat) (ν : sw_N)    (N : Nat) (μ : sw_M)  (o : Int32 × sw_M) (h : f_m_valueNow N  μ  = some o) : MetR l D cI cL yX11_valueNow cX11_valueNow 4 (some .int) 2 0 0 (fun a => a = ad) ad [.ref 63] lay0 μ ν (some (.int o.1)) lay0 o.2 ν :=
  MetR.of (n := 3) rfl (Nat.le_of_ble_eq_true rfl) (fun G g ho hm _ _ => ok_f_m_valueNow  g hm  μ ho  h)
