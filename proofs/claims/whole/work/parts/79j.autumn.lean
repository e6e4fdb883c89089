/-! ===== autumns ===== -/
def sdN (s : Int32) : Int32 := s * 1103515245 + 12345
def drV (s : Int32) (b : Nat) : Nat := ((s >>> ((16 : Int32) &&& 31)) &&& 32767).toNatClampNeg % b
theorem b_ush (n : Nat) (hn : n < 32) (x : Int32) (i : Nat) : bt ((x.toUInt32 >>> ((ic n).toUInt32 &&& Int32.toUInt32 31)).toInt32) i = bt x (n + i) := by
  show (x.toUInt32 >>> ((ic n).toUInt32 &&& Int32.toUInt32 31)).toBitVec.getLsbD i = x.toUInt32.toBitVec.getLsbD (n + i)
  rw [UInt32.toBitVec_shiftRight]
  show (x.toUInt32.toBitVec >>> (((ic n).toUInt32 &&& Int32.toUInt32 31).toBitVec % 32).toNat).getLsbD i = _
  have s_u : ∀ n, n < 32 → (((ic n).toUInt32 &&& Int32.toUInt32 31).toBitVec % 32).toNat = n := by decide +kernel
  rw [s_u n hn, BitVec.getLsbD_ushiftRight]
theorem ush_e (s : Int32) : (s.toUInt32 >>> ((16 : Int32).toUInt32 &&& Int32.toUInt32 31)).toInt32 &&& 32767 = (s >>> ((16 : Int32) &&& 31)) &&& 32767 := by
  refine b_ext (fun i hi => ?_)
  have h1 := b_ush 16 (by decide) s i
  have h2 := b_sshr 16 (by decide) s hi
  rw [b_and, b_and]
  have h1' : bt ((s.toUInt32 >>> ((16 : Int32).toUInt32 &&& Int32.toUInt32 31)).toInt32) i = bt s (16 + i) := h1
  have h2' : bt (s >>> ((16 : Int32) &&& 31)) i = if 16 + i < 32 then bt s (16 + i) else bt s 31 := h2
  rw [h1', h2']
  by_cases q : 16 + i < 32
  · rw [if_pos q]
  · have h3 : ∀ i, i < 32 → 15 ≤ i → bt 32767 i = false := by decide +kernel
    rw [h3 i hi (by omega), Bool.and_false, Bool.and_false]
theorem dr_e (s : Int32) {b : Nat} (hb : 0 < b) (hb2 : b ≤ 1000) : ((s >>> ((16 : Int32) &&& 31)) &&& 32767) - ((s >>> ((16 : Int32) &&& 31)) &&& 32767) / ic b * ic b = ic (drV s b) := by
  obtain ⟨j, hj, e⟩ := pk_andE (s >>> ((16 : Int32) &&& 31)) (m := 32767) 15 (by decide)
  have e : (s >>> ((16 : Int32) &&& 31)) &&& 32767 = ic j := e
  have hj : j < 32768 := hj
  unfold drV
  rw [e, ic_n (by omega)]
  exact pk_rem (a := j) (d := b) (by omega) hb (by omega)
theorem drV_lt (s : Int32) {b : Nat} (hb : 0 < b) : drV s b < b := Nat.mod_lt _ hb
theorem x_draw {N : Nat} {μ : sw_M} {b : Nat} (hb : 0 < b) (hb2 : b ≤ 1000) : f_autm_draw N μ (ic b) = some (ic (drV (sdN (μ 55 3)) b), wr μ 55 3 (sdN (μ 55 3))) := by
  unfold f_autm_draw
  rw [wb_e, show (wr μ 55 3 (μ 55 3 * 1103515245 + 12345)) 55 3 = sdN (μ 55 3) from rfl, ush_e, ib_e, if_pos (by rw [lit_lt (by decide) (by omega)]; omega), nz_e (by rw [ne_eq, eq_lit (by decide) (by omega)]; omega), dr_e _ hb hb2]
  rfl
theorem m_draw {N : Nat} {ν : sw_M} {b : Nat} (hb : 0 < b) (hb2 : b ≤ 1000) : f_m_draws N ν (ic b) = some (ic (drV (sdN (ν 63 48)) b), wr ν 63 48 (sdN (ν 63 48))) := by
  unfold f_m_draws
  rw [wb_e, show (wr ν 63 48 (ν 63 48 * 1103515245 + 12345)) 63 48 = sdN (ν 63 48) from rfl, nz_e (by rw [ne_eq, eq_lit (by decide) (by omega)]; omega), dr_e _ hb hb2]
  rfl
def GX (μ c : sw_M) (W T P : Nat) (K O : Nat → Int32) (nl : Nat) (S0 : Nat → Int32) : Prop := XR μ c ∧ XL μ K O nl ∧ DR μ 35 W T P S0
def GM (ν c : sw_M) (F W T P : Nat) (K O : Nat → Int32) (nl : Nat) (S0 : Nat → Int32) : Prop := MR ν c F W T P ∧ ML ν K O nl ∧ ∀ i, i < 49 → ν 80 i = S0 i
section
variable {N : Nat} {c : sw_M} {F W T P : Nat} {K O S0 : Nat → Int32} {nl : Nat}
theorem GX.sx {μ μ' : sw_M} (h : GX μ c W T P K O nl S0) (f : SX μ μ') : GX μ' c W T P K O nl S0 := by
  refine ⟨h.1.fr (fun a _ _ => f.1 a (by omega) (by omega) (by omega) (by omega)), ?_, h.2.2.fr (fun a _ _ => f.1 a (by omega) (by omega) (by omega) (by omega))⟩
  have hx := h.2.1
  unfold XL at hx ⊢
  rw [f.2 4 (by decide), f.1 20 (by decide) (by decide) (by decide) (by decide), f.1 21 (by decide) (by decide) (by decide) (by decide)]; exact hx
theorem GM.sm {ν ν' : sw_M} (h : GM ν c F W T P K O nl S0) (f : SM ν ν') : GM ν' c F W T P K O nl S0 := by
  refine ⟨h.1.fr (fun j _ _ => f.2 j (by omega) (by omega)) (f.1 69 (by decide) (by decide) (by decide) (by decide) (by decide)) (f.1 70 (by decide) (by decide) (by decide) (by decide) (by decide)) (f.1 71 (by decide) (by decide) (by decide) (by decide) (by decide)), ?_, ?_⟩
  · have hl := h.2.1
    unfold ML at hl ⊢
    rw [f.2 31 (by decide) (by decide), f.1 74 (by decide) (by decide) (by decide) (by decide) (by decide), f.1 75 (by decide) (by decide) (by decide) (by decide) (by decide)]; exact hl
  · rw [f.1 80 (by decide) (by decide) (by decide) (by decide) (by decide)]; exact h.2.2
/-- both dreams are alike -/
def AU (F W T P : Nat) (S0 : Nat → Int32) (μ ν : sw_M) (H Q : Nat) : Prop := WS F W T P (ν 81) ∧ DR μ 57 W T P (ν 81) ∧ μ 55 3 = ν 63 48 ∧ (∃ h : Nat, h ≤ H ∧ ν 81 48 = ic h) ∧ (∃ q : Nat, q ≤ Q ∧ ν 81 47 = S0 47 + ic q) ∧ ν 63 0 = 0
theorem au_draw {μ ν : sw_M} {H Q b : Nat} (h : AU F W T P S0 μ ν H Q) (hb : 0 < b) (hb2 : b ≤ 1000) : ∃ v μ' ν', v < b ∧ f_autm_draw N μ (ic b) = some (ic v, μ') ∧ f_m_draws N ν (ic b) = some (ic v, ν') ∧ SX μ μ' ∧ SM ν ν' ∧ AU F W T P S0 μ' ν' H Q := by
  obtain ⟨h1, h2, h3, h4, h5, h6⟩ := h
  refine ⟨drV (sdN (μ 55 3)) b, wr μ 55 3 (sdN (μ 55 3)), wr ν 63 48 (sdN (ν 63 48)), drV_lt (sdN (μ 55 3)) hb, x_draw hb hb2, ?_, (SX.rf μ).wr 3 _ (by decide) (by decide), (SM.rf ν).wr63 48 _ (Or.inr rfl), ?_⟩
  · rw [h3]; exact m_draw hb hb2
  · refine ⟨h1, h2.fr (fun a _ _ => wr_nr (by omega)), ?_, h4, h5, h6⟩
    show sdN (μ 55 3) = sdN (ν 63 48)
    rw [h3]
theorem au_cross (hN : 5000 ≤ N) (hC : CW c F W T P) {μ ν : sw_M} (gx : GX μ c W T P K O nl S0) (gm : GM ν c F W T P K O nl S0) {H Q p w : Nat} (h : AU F W T P S0 μ ν H Q) (hp : p < P) (hw : w < W) : ∃ r μ' ν', f_dream_cross N μ (ic p) (ic w) = some (r, μ') ∧ f_m_crosses N ν (ic p) (ic w) = some (r, ν') ∧ SX μ μ' ∧ SM ν ν' ∧ AU F W T P S0 μ' ν' H (Q + 1) := by
  obtain ⟨h1, h2, h3, h4, h5, h6⟩ := h
  have hP' := hC.p5; have hT' := hC.t6
  obtain ⟨μ1, e1, f1, d1⟩ := s_dream_cross hN hC gx.1 h1 h2 gx.2.1 hp hw
  obtain ⟨ν1, e2, f2, s2⟩ := s_m_crosses hN hC gm.1 h1 gm.2.1 hp hw
  refine ⟨_, μ1, ν1, e1, e2, f1.sx, f2.sm, ?_⟩
  have t55 : μ1 55 3 = ν1 63 48 := by rw [f1.1 55 (by decide) (by decide) (by decide) (by decide), f2 63 (by decide) (by decide) (by decide)]; exact h3
  have t63 : ν1 63 0 = 0 := by rw [f2 63 (by decide) (by decide) (by decide)]; exact h6
  by_cases q : canS W T c (ν 81) K O nl p w
  · rw [if_pos q] at d1 s2
    unfold AU
    rw [s2]
    refine ⟨ws_cr hC h1 hp hw q, d1, t55, ?_, ?_, t63⟩
    · rw [crS_48 (by omega) hT']; exact h4
    · obtain ⟨k, hk, ek⟩ := h5
      exact ⟨k + 1, by omega, by rw [crS_47 (by omega) hT', ek, Int32.add_assoc, ic_1]⟩
  · rw [if_neg q] at d1 s2
    unfold AU
    rw [s2]
    obtain ⟨k, hk, ek⟩ := h5
    exact ⟨h1, d1, t55, h4, ⟨k, by omega, ek⟩, t63⟩
theorem au_lift (hN : 5000 ≤ N) (hC : CW c F W T P) {μ ν : sw_M} (gx : GX μ c W T P K O nl S0) (gm : GM ν c F W T P K O nl S0) {H Q p t : Nat} (h : AU F W T P S0 μ ν H Q) (hp : p < P) (ht : t < T) : ∃ r μ' ν', f_dream_lift N μ (ic p) (ic t) = some (r, μ') ∧ f_m_lifts N ν (ic p) (ic t) = some (r, ν') ∧ SX μ μ' ∧ SM ν ν' ∧ AU F W T P S0 μ' ν' H Q := by
  obtain ⟨h1, h2, h3, h4, h5, h6⟩ := h
  have hP' := hC.p5; have hT' := hC.t6
  obtain ⟨μ1, e1, f1, d1⟩ := s_dream_lift hN hC gx.1 h1 h2 hp ht
  have e2 := s_m_lifts hN hC gm.1 h1 hp ht
  have t55 : μ1 55 3 = ν 63 48 := by rw [f1.1 55 (by decide) (by decide) (by decide) (by decide)]; exact h3
  by_cases q : lfC T c (ν 81) p t
  · rw [if_pos q] at d1 e2
    refine ⟨_, μ1, _, e1, e2, f1.sx, (SM.rf ν).wr81 _ _, ?_⟩
    unfold AU
    have e81 : (wr ν 81 (30 + t) (ic p)) 81 = up (ν 81) (30 + t) (ic p) := by rw [wr_up, wrR_r]
    rw [e81, up_n (by omega), up_n (by omega)]
    exact ⟨ws_by hC h1 ht (ic p) (Or.inr ⟨p, hp, rfl, q.2.1⟩), d1, t55, h4, h5, h6⟩
  · rw [if_neg q] at d1 e2
    exact ⟨_, μ1, ν, e1, e2, f1.sx, SM.rf ν, h1, d1, t55, h4, h5, h6⟩
theorem au_move (hN : 5000 ≤ N) (hC : CW c F W T P) {μ ν : sw_M} (gx : GX μ c W T P K O nl S0) (gm : GM ν c F W T P K O nl S0) {H Q w : Nat} (h : AU F W T P S0 μ ν H Q) (hw : w < W) : ∃ r μ' ν', f_dream_move N μ (ic w) 3 = some (r, μ') ∧ f_m_moves N ν (ic w) 3 = some (r, ν') ∧ SX μ μ' ∧ SM ν ν' ∧ AU F W T P S0 μ' ν' H Q := by
  obtain ⟨h1, h2, h3, h4, h5, h6⟩ := h
  have hW' := hC.w12
  obtain ⟨μ1, e1, f1, d1⟩ := s_dream_move hN hC gx.1 h1 h2 (m := 3) hw (by decide)
  have e2 := s_m_moves hN hC gm.1 h1 hw (ic 3)
  have t55 : μ1 55 3 = ν 63 48 := by rw [f1.1 55 (by decide) (by decide) (by decide) (by decide)]; exact h3
  by_cases q : mvC (ν 81) w
  · rw [if_pos q] at d1 e2
    refine ⟨_, μ1, _, e1, e2, f1.sx, (SM.rf ν).wrR81 _, ?_⟩
    unfold AU
    have o1 : mvS (ν 81) w (ic 3) 48 = ν 81 48 := by unfold mvS; rw [up_n (by omega)]
    have o2 : mvS (ν 81) w (ic 3) 47 = ν 81 47 := by unfold mvS; rw [up_n (by omega)]
    rw [wrR_r, o1, o2]
    exact ⟨ws_mv hC h1 hw (by decide), d1, t55, h4, h5, h6⟩
  · rw [if_neg q] at d1 e2
    exact ⟨_, μ1, ν, e1, e2, f1.sx, SM.rf ν, h1, d1, t55, h4, h5, h6⟩
theorem au_pass (hN : 5000 ≤ N) (hC : CW c F W T P) {μ ν : sw_M} (gx : GX μ c W T P K O nl S0) (gm : GM ν c F W T P K O nl S0) {H Q : Nat} (hH : H ≤ 900) (h : AU F W T P S0 μ ν H Q) : ∃ μ' ν', f_dream_passHour N μ = some μ' ∧ f_m_goesOn N ν = some ν' ∧ SX μ μ' ∧ SM ν ν' ∧ AU F W T P S0 μ' ν' (H + 1) Q := by
  obtain ⟨h1, h2, h3, ⟨h, hh, eh⟩, h5, h6⟩ := h
  have hP' := hC.p5
  obtain ⟨μ1, e1, f1, d1⟩ := s_dream_passHour hN hC gx.1 h1 h2
  have e2 := s_m_goesOn hN hC gm.1 h1
  have t55 : μ1 55 3 = ν 63 48 := by rw [f1.1 55 (by decide) (by decide) (by decide) (by decide)]; exact h3
  refine ⟨μ1, _, e1, e2, f1.sx, (SM.rf ν).wrR81 _, ?_⟩
  unfold AU
  rw [wrR_r]
  exact ⟨ws_hr hC h1 ⟨h, by omega, eh⟩, d1, t55, ⟨h + 1, by omega, by rw [hrS_48 hP', eh, ic_1]⟩, by rw [hrS_47 hP']; exact h5, h6⟩
theorem au_loop (hN : 5000 ≤ N) (hC : CW c F W T P) {q m : Nat} (hm : m ≤ 96) (x4 : Int32) (hx4 : x4 = if 0 < P ∧ 0 < W then 1 else 0) : ∀ (j i : Nat) (μ ν : sw_M) (n n2 : Nat), i + j = m → j < n → j < n2 → GX μ c W T P K O nl S0 → GM ν c F W T P K O nl S0 → AU F W T P S0 μ ν (400 + i) i → ∃ μ' ν', f_autm_go_65 N n μ (ic q) (ic m) x4 (ic i) = some μ' ∧ f_m_autumnGoes_12 N n2 ν (ic q) (ic m) (ic i) = some ν' ∧ SX μ μ' ∧ SM ν ν' ∧ AU F W T P S0 μ' ν' (400 + m) m
  | 0, i, μ, ν, n, n2, h, hn, hn2, gx, gm, hA => by
    obtain ⟨n, rfl⟩ := fu_s hn
    obtain ⟨n2, rfl⟩ := fu_s hn2
    have hi : i = m := by omega
    subst hi
    refine ⟨μ, ν, ?_, ?_, SX.rf μ, SM.rf ν, hA⟩
    · rw [f_autm_go_65, if_pos (by rw [ic_le (by omega) (by omega)]; omega)]
    · rw [f_m_autumnGoes_12, if_pos (by rw [ic_le (by omega) (by omega)]; omega)]
  | j + 1, i, μ, ν, n, n2, h, hn, hn2, gx, gm, hA => by
    have hP' := hC.p5; have hW' := hC.w12; have hT' := hC.t6
    obtain ⟨n, rfl⟩ := fu_s (show 0 < n by omega)
    obtain ⟨n2, rfl⟩ := fu_s (show 0 < n2 by omega)
    have fin : ∀ μ1 ν1, SX μ μ1 → SM ν ν1 → AU F W T P S0 μ1 ν1 (400 + i) (i + 1) → ∃ μ' ν', f_autm_go_81 N (f_autm_go_65 N n) μ1 (ic q) (ic m) x4 (ic i) = some μ' ∧ f_m_autumnGoes_101 N (f_m_autumnGoes_12 N n2) ν1 (ic q) (ic m) (ic i) = some ν' ∧ SX μ μ' ∧ SM ν ν' ∧ AU F W T P S0 μ' ν' (400 + m) m := by
      intro μ1 ν1 fx fm hA1
      obtain ⟨μ2, ν2, e1, e2, fx2, fm2, hA2⟩ := au_pass hN hC (gx.sx fx) (gm.sm fm) (by omega) hA1
      obtain ⟨μ3, ν3, e3, e4, fx3, fm3, hA3⟩ := au_loop hN hC hm x4 hx4 j (i + 1) μ2 ν2 n n2 (by omega) (by omega) (by omega) ((gx.sx fx).sx fx2) ((gm.sm fm).sm fm2) hA2
      refine ⟨μ3, ν3, ?_, ?_, (fx.tr fx2).tr fx3, (fm.tr fm2).tr fm3, hA3⟩
      · unfold f_autm_go_81; rw [e1, ob_e, ic_1, e3]
      · unfold f_m_autumnGoes_101; rw [e2, ob_e, ic_1, e4]
    have n24 := gm.1.nP; have n22 := gm.1.nW
    have hmi : ¬ ic m ≤ ic i := by rw [ic_le (by omega) (by omega)]; omega
    rw [f_autm_go_65, if_neg hmi, f_m_autumnGoes_12, if_neg hmi, n24, n22]
    by_cases hpw : 0 < P ∧ 0 < W
    · rw [if_pos hpw] at hx4
      rw [hx4, if_neg (show ¬ (1 : Int32) = 0 by decide), if_neg (by rw [le_lit (by decide) (by omega)]; omega), if_neg (by rw [le_lit (by decide) (by omega)]; omega)]
      obtain ⟨p, μ1, ν1, hp, a1, a2, fx1, fm1, hA1⟩ := au_draw (N := N) hA hpw.1 (by omega)
      obtain ⟨w, μ2, ν2, hw, b1, b2, fx2, fm2, hA2⟩ := au_draw (N := N) hA1 hpw.2 (by omega)
      have gx2 := (gx.sx fx1).sx fx2
      have gm2 := (gm.sm fm1).sm fm2
      obtain ⟨r, μ3, ν3, c1', c2, fx3, fm3, hA3⟩ := au_cross hN hC gx2 gm2 hA2 hp hw
      have gx3 := gx2.sx fx3
      have gm3 := gm2.sm fm3
      have fx123 := (fx1.tr fx2).tr fx3
      have fm123 := (fm1.tr fm2).tr fm3
      have m22 : ν1 63 22 = ic W := (gm.sm fm1).1.nW
      have m23 : ν3 63 23 = ic T := gm3.1.nT
      have k33 : μ 3 3 = ic P := gx.1.nP hC
      have k31 : μ1 3 1 = ic W := (gx.sx fx1).1.nW hC
      have k32 : μ3 3 2 = ic T := gx3.1.nT hC
      have last : ∀ μ4 ν4, SX μ μ4 → SM ν ν4 → AU F W T P S0 μ4 ν4 (400 + i) (i + 1) → ∃ μ5, f_autm_drawSteps_76 N μ4 (ic q) (ic w) = some μ5 ∧ ∃ μ' ν', f_autm_go_81 N (f_autm_go_65 N n) μ5 (ic q) (ic m) 1 (ic i) = some μ' ∧ f_m_autumnGoes_83 N (f_m_autumnGoes_12 N n2) ν4 (ic q) (ic m) (ic i) (ic w) = some ν' ∧ SX μ μ' ∧ SM ν ν' ∧ AU F W T P S0 μ' ν' (400 + m) m := by
        intro μ4 ν4 fx4 fm4 hA4
        obtain ⟨d, μ5, ν5, hd, d1, d2, fx5, fm5, hA5⟩ := au_draw (N := N) (b := 16) hA4 (by decide) (by decide)
        have d1' : f_autm_draw N μ4 16 = some (ic d, μ5) := d1
        have d2' : f_m_draws N ν4 16 = some (ic d, ν5) := d2
        unfold f_autm_drawSteps_76 f_m_autumnGoes_83
        rw [d1', d2', ob_e, ob_e]
        rw [← hx4]
        by_cases z : ic q ≤ ic d
        · rw [if_pos z]
          refine ⟨μ5, rfl, ?_⟩
          rw [if_pos z]
          exact fin μ5 ν5 (fx4.tr fx5) (fm4.tr fm5) hA5
        · rw [if_neg z]
          obtain ⟨r, μ6, ν6, g1, g2, fx6, fm6, hA6⟩ := au_move hN hC ((gx.sx fx4).sx fx5) ((gm.sm fm4).sm fm5) hA5 hw
          rw [g1, ob_e]
          refine ⟨μ6, rfl, ?_⟩
          rw [if_neg z, g2, ob_e]
          exact fin μ6 ν6 ((fx4.tr fx5).tr fx6) ((fm4.tr fm5).tr fm6) hA6
      unfold f_autm_drawSteps
      rw [k33, a1, ob_e]
      simp only
      rw [k31, b1, ob_e]
      simp only
      rw [c1', ob_e]
      simp only
      rw [k32, a2, ob_e]
      simp only
      rw [m22, b2, ob_e]
      simp only
      rw [c2, ob_e]
      simp only
      rw [m23]
      by_cases hT : T = 0
      · obtain ⟨μ5, g1, μ', ν', g2, g3, g4⟩ := last μ3 ν3 fx123 fm123 hA3
        rw [if_pos (by rw [le_lit (by decide) (by omega)]; omega), if_pos (by rw [le_lit (by decide) (by omega)]; omega), g1, ob_e]
        exact ⟨μ', ν', g2, g3, g4⟩
      · obtain ⟨t, μ4, ν4, ht, t1, t2, fx4, fm4, hA4⟩ := au_draw (N := N) (b := T) hA3 (by omega) (by omega)
        obtain ⟨r2, μ5, ν5, l1, l2, fx5, fm5, hA5⟩ := au_lift hN hC (gx3.sx fx4) (gm3.sm fm4) hA4 hp ht
        obtain ⟨μ6, g1, μ', ν', g2, g3, g4⟩ := last μ5 ν5 ((fx123.tr fx4).tr fx5) ((fm123.tr fm4).tr fm5) hA5
        rw [if_neg (by rw [le_lit (by decide) (by omega)]; omega), if_neg (by rw [le_lit (by decide) (by omega)]; omega), t1, ob_e]
        simp only
        rw [l1, ob_e]
        simp only
        rw [g1, ob_e, t2, ob_e]
        simp only
        rw [l2, ob_e]
        exact ⟨μ', ν', g2, g3, g4⟩
    · rw [if_neg hpw] at hx4
      have hA' : AU F W T P S0 μ ν (400 + i) (i + 1) := by
        obtain ⟨a1, a2, a3, a4, ⟨k, hk, ek⟩, a6⟩ := hA
        exact ⟨a1, a2, a3, a4, ⟨k, by omega, ek⟩, a6⟩
      obtain ⟨μ', ν', g1, g2, g3⟩ := fin μ ν (SX.rf μ) (SM.rf ν) hA'
      rw [if_pos hx4, g1]
      refine ⟨μ', ν', rfl, ?_, g3⟩
      by_cases hP : P = 0
      · rw [if_pos (by rw [le_lit (by decide) (by omega)]; omega), g2]
      · rw [if_neg (by rw [le_lit (by decide) (by omega)]; omega), if_pos (by rw [le_lit (by decide) (by omega)]; omega), g2]
theorem au_go (hN : 5000 ≤ N) (hC : CW c F W T P) (hS0 : OKS F W T P S0) {q m : Nat} (hm : m ≤ 96) (seed : Int32) {μ ν : sw_M} (gx : GX μ c W T P K O nl S0) (gm : GM ν c F W T P K O nl S0) (h0 : ν 63 0 = 0) : ∃ μ' ν', f_autm_go N μ seed (ic q) (ic m) = some μ' ∧ f_m_autumnGoes N ν seed (ic q) (ic m) = some ν' ∧ SX μ μ' ∧ SM ν ν' ∧ AU F W T P S0 μ' ν' 496 96 := by
  have hP' := hC.p5; have hW' := hC.w12; have hT' := hC.t6
  have e1 := e_save (N := N) (k0 := 56) (n0 := 38) (r := 0) (by decide) (by decide) (by decide) μ
  obtain ⟨μ1, e2, f2, d2⟩ := e_load_dream (N := N) (k0 := 56) (n0 := 38) (r := 0) (by decide) (by decide) (by decide) (wrR μ 56 (svF μ (μ 56) (38 * 0)))
  have e1' : f_days_save N 56 38 μ 0 = _ := e1
  have e2' : f_dream_load N 56 38 (wrR μ 56 (svF μ (μ 56) (38 * 0))) 0 = _ := e2
  have fx1 : SX μ (wrR μ 56 (svF μ (μ 56) (38 * 0))) := (SX.rf μ).wrR _ (by decide) (by decide)
  have fx2 : SX (wrR μ 56 (svF μ (μ 56) (38 * 0))) μ1 := ⟨fun a _ _ _ h => f2 a (by omega), fun j _ => by rw [f2 19 (by decide)]⟩
  have fx3 : SX μ1 (wr μ1 55 3 seed) := (SX.rf μ1).wr 3 seed (by decide) (by decide)
  have gx3 := ((gx.sx fx1).sx fx2).sx fx3
  have e3 := e_m_take hN ν
  have fm1 : SM ν (wr (wrR ν 81 (tkS ν)) 63 48 seed) := ((SM.rf ν).wrR81 _).wr63 48 seed (Or.inr rfl)
  have gm1 := gm.sm fm1
  have tk : ∀ i, i < 49 → tkS ν i = S0 i := fun i hi => by unfold tkS; rw [if_pos hi]; exact gm.2.2 i hi
  have hrw : RW W T P (fun j => (wrR μ 56 (svF μ (μ 56) (38 * 0))) 56 (38 * 0 + j)) S0 := by
    have := RW.sv hW' hT' hP' gx.2.2 (μ 56) (38 * 0)
    rw [wrR_r]; exact this
  have hd := d2 W T P S0 hW' hT' hP' hrw
  have hA : AU F W T P S0 (wr μ1 55 3 seed) (wr (wrR ν 81 (tkS ν)) 63 48 seed) (400 + 0) 0 := by
    have e81 : (wr (wrR ν 81 (tkS ν)) 63 48 seed) 81 = tkS ν := by rw [wr_nr (by decide), wrR_r]
    unfold AU
    rw [e81]
    refine ⟨hS0.1.cg hW' hT' hP' tk, (hd.fr (fun a _ _ => wr_nr (by omega))).cg hW' hT' hP' tk, rfl, ?_, ⟨0, Nat.le_refl 0, ?_⟩, h0⟩
    · rw [tk 48 (by decide)]; exact hS0.2
    · rw [tk 47 (by decide)]; exact (Int32.add_zero _).symm
  obtain ⟨μ2, ν2, g1, g2, fx4, fm2, hA2⟩ := au_loop hN hC (q := q) hm (if 0 < P ∧ 0 < W then 1 else 0) rfl m 0 (wr μ1 55 3 seed) (wr (wrR ν 81 (tkS ν)) 63 48 seed) N N (by omega) (by omega) (by omega) gx3 gm1 hA
  refine ⟨μ2, ν2, ?_, ?_, ((fx1.tr fx2).tr fx3).tr fx4, fm1.tr fm2, ?_⟩
  · unfold f_autm_go f_autm_go_59 f_autm_go_60
    have k33 : (wr μ1 55 3 seed) 3 3 = ic P := gx3.1.nP hC
    have k31 : (wr μ1 55 3 seed) 3 1 = ic W := gx3.1.nW hC
    rw [e1', ob_e, e2', ob_e, wb_e, k33, k31]
    by_cases a : P = 0
    · rw [if_pos (by rw [le_lit (by decide) (by omega)]; omega)]
      rw [if_neg (by omega)] at g1; exact g1
    · rw [if_neg (by rw [le_lit (by decide) (by omega)]; omega)]
      by_cases b : W = 0
      · rw [if_pos (by rw [le_lit (by decide) (by omega)]; omega)]
        rw [if_neg (by omega)] at g1; exact g1
      · rw [if_neg (by rw [le_lit (by decide) (by omega)]; omega)]
        rw [if_pos (by omega)] at g1; exact g1
  · unfold f_m_autumnGoes
    rw [e3, ob_e, wb_e]; exact g2
  · obtain ⟨a1, a2, a3, ⟨h, hh, eh⟩, ⟨k, hk, ek⟩, a6⟩ := hA2
    exact ⟨a1, a2, a3, ⟨h, by omega, eh⟩, ⟨k, by omega, ek⟩, a6⟩
end
