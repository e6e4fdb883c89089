/-! ===== printed by wip/whole/gen73.py ===== -/
/-! thing -/
theorem e_days_placeOfThing {N : Nat} {μ c : sw_M} {F W T P : Nat} (hN : 5000 ≤ N) (hC : CW c F W T P) (hX : XR μ c) {S : Nat → Int32} (hS : WS F W T P S) (hD : DR μ 35 W T P S) {t : Nat} (ht : t < T) : f_days_placeOfThing N μ (ic t) = some (S (24 + t)) := by
  have hT' := hC.t6; have hP' := hC.p5
  unfold f_days_placeOfThing
  rw [at_e (show t < 6 by omega) (by decide), ob_e, hD.db ht]
  rcases (hS.2.2.2.1 t ht).2 with e | ⟨p, hp, e, e2⟩
  · rw [e, if_pos rfl, at_e (show t < 6 by omega) (by decide), ob_e, hD.dt ht e]
  · rw [e, if_neg (by rw [ic_m1 (by omega)]; exact id), at_e (show p < 5 by omega) (by decide), ob_e, hD.da hp, e2]
theorem q_thing {N : Nat} {μ : sw_M} {F W T P : Nat} {K O : Nat → Int32} {nl nb : Nat} (hN : 5000 ≤ N) (hQ : QI μ F W T P K O nl nb) {t k : Nat} (ht : t < T) (hk : k ≤ 2) : ∃ v, f_x_thing N μ (ic t) (ic k) = some (.inl (v, μ)) ∧ f_m_thing N μ (ic t) (ic k) = some (v, wr μ 63 0 0) := by
  obtain ⟨hC, hM, hS, hD, -⟩ := id hQ
  have hX : XR μ μ := ⟨rfl, rfl, rfl, rfl, rfl, rfl, rfl, rfl⟩
  have hT' := hC.t6
  have gT : 0 ≤ ic t ∧ ic t ≤ ic T - 1 := wn_in ht (by omega)
  have gw : 0 ≤ ic k ∧ ic k ≤ 2 := w2_in (n := 2) hk (by decide)
  have m23 := hM.nT
  have z0 : (wr μ 63 0 0) 63 0 = 0 := rfl
  have e8 := hM.t1 ht
  have hk2 : k = 0 ∨ k = 1 ∨ k = 2 := by omega
  have ep := e_days_placeOfThing hN hC hX hS.1 hD ht
  have eb := hD.db ht
  have n23 : (wr μ 63 0 0) 63 23 = ic T := m23
  have r70 : (wr μ 63 0 0) 70 = μ 70 := rfl
  have r80 : (wr μ 63 0 0) 80 = μ 80 := rfl
  rcases hk2 with rfl | rfl | rfl
  · refine ⟨μ 8 t, ?_, ?_⟩
    · simp (disch := omega) only [f_x_thing, tb_l, hX.nT hC, wx_1 gT, nt_1 (show ¬ (1 : Int32) = 0 by decide), g_needWhat_1 gw, at_e (N := N) (k := 8) (n := 6) (μ := μ) (show t < 6 by omega) (by decide), wb_e, ib_e, ibL_e, ob_e, nz4, inb_e, inb_lit, ic_n, n_lit, ic_1, lit_add, add_lit, lit_mul, mul_lit, ic_add, ic_mul, ic_le, ic_lt, ic_eq, lit_le, le_lit, lit_lt, lt_lit, lit_eq, eq_lit, ic_m1, m1_ic, ic_lt0, ic_0le, b2_0, b2_1, b2_bl, sh_e, Nat.not_lt_zero, Nat.zero_le, Nat.reduceEqDiff, Nat.reduceAdd, Nat.reduceMul, Nat.reduceSub, Nat.reduceLT, Nat.reduceLeDiff, reduceIte, ne_eq, not_false_eq_true, not_true_eq_false, if_true, if_false, Nat.zero_add]
    · simp (disch := omega) only [f_m_thing, n23, wm_1 gT, wm_1 gw, may_1 (show ¬ (1 : Int32) = 0 by decide) z0, show ¬ (1 : Int32) = 0 by decide, r70, e8, wb_e, ib_e, ibL_e, ob_e, nz4, inb_e, inb_lit, ic_n, n_lit, ic_1, lit_add, add_lit, lit_mul, mul_lit, ic_add, ic_mul, ic_le, ic_lt, ic_eq, lit_le, le_lit, lit_lt, lt_lit, lit_eq, eq_lit, ic_m1, m1_ic, ic_lt0, ic_0le, b2_0, b2_1, b2_bl, sh_e, Nat.not_lt_zero, Nat.zero_le, Nat.reduceEqDiff, Nat.reduceAdd, Nat.reduceMul, Nat.reduceSub, Nat.reduceLT, Nat.reduceLeDiff, reduceIte, ne_eq, not_false_eq_true, not_true_eq_false, if_true, if_false, Nat.zero_add]
  · refine ⟨μ 80 (24 + t), ?_, ?_⟩
    · simp (disch := omega) only [f_x_thing, tb_l, hX.nT hC, wx_1 gT, nt_1 (show ¬ (1 : Int32) = 0 by decide), g_needWhat_1 gw, ep, wb_e, ib_e, ibL_e, ob_e, nz4, inb_e, inb_lit, ic_n, n_lit, ic_1, lit_add, add_lit, lit_mul, mul_lit, ic_add, ic_mul, ic_le, ic_lt, ic_eq, lit_le, le_lit, lit_lt, lt_lit, lit_eq, eq_lit, ic_m1, m1_ic, ic_lt0, ic_0le, b2_0, b2_1, b2_bl, sh_e, Nat.not_lt_zero, Nat.zero_le, Nat.reduceEqDiff, Nat.reduceAdd, Nat.reduceMul, Nat.reduceSub, Nat.reduceLT, Nat.reduceLeDiff, reduceIte, ne_eq, not_false_eq_true, not_true_eq_false, if_true, if_false, Nat.zero_add]
    · simp (disch := omega) only [f_m_thing, f_m_thing_75, n23, wm_1 gT, wm_1 gw, may_1 (show ¬ (1 : Int32) = 0 by decide) z0, show ¬ (1 : Int32) = 0 by decide, r80, wb_e, ib_e, ibL_e, ob_e, nz4, inb_e, inb_lit, ic_n, n_lit, ic_1, lit_add, add_lit, lit_mul, mul_lit, ic_add, ic_mul, ic_le, ic_lt, ic_eq, lit_le, le_lit, lit_lt, lt_lit, lit_eq, eq_lit, ic_m1, m1_ic, ic_lt0, ic_0le, b2_0, b2_1, b2_bl, sh_e, Nat.not_lt_zero, Nat.zero_le, Nat.reduceEqDiff, Nat.reduceAdd, Nat.reduceMul, Nat.reduceSub, Nat.reduceLT, Nat.reduceLeDiff, reduceIte, ne_eq, not_false_eq_true, not_true_eq_false, if_true, if_false, Nat.zero_add]
  · refine ⟨μ 80 (30 + t), ?_, ?_⟩
    · simp (disch := omega) only [f_x_thing, tb_l, hX.nT hC, wx_1 gT, nt_1 (show ¬ (1 : Int32) = 0 by decide), g_needWhat_1 gw, at_e (N := N) (k := 38) (n := 6) (μ := μ) (show t < 6 by omega) (by decide), eb, wb_e, ib_e, ibL_e, ob_e, nz4, inb_e, inb_lit, ic_n, n_lit, ic_1, lit_add, add_lit, lit_mul, mul_lit, ic_add, ic_mul, ic_le, ic_lt, ic_eq, lit_le, le_lit, lit_lt, lt_lit, lit_eq, eq_lit, ic_m1, m1_ic, ic_lt0, ic_0le, b2_0, b2_1, b2_bl, sh_e, Nat.not_lt_zero, Nat.zero_le, Nat.reduceEqDiff, Nat.reduceAdd, Nat.reduceMul, Nat.reduceSub, Nat.reduceLT, Nat.reduceLeDiff, reduceIte, ne_eq, not_false_eq_true, not_true_eq_false, if_true, if_false, Nat.zero_add]
    · simp (disch := omega) only [f_m_thing, f_m_thing_75, n23, wm_1 gT, wm_1 gw, may_1 (show ¬ (1 : Int32) = 0 by decide) z0, show ¬ (1 : Int32) = 0 by decide, r80, wb_e, ib_e, ibL_e, ob_e, nz4, inb_e, inb_lit, ic_n, n_lit, ic_1, lit_add, add_lit, lit_mul, mul_lit, ic_add, ic_mul, ic_le, ic_lt, ic_eq, lit_le, le_lit, lit_lt, lt_lit, lit_eq, eq_lit, ic_m1, m1_ic, ic_lt0, ic_0le, b2_0, b2_1, b2_bl, sh_e, Nat.not_lt_zero, Nat.zero_le, Nat.reduceEqDiff, Nat.reduceAdd, Nat.reduceMul, Nat.reduceSub, Nat.reduceLT, Nat.reduceLeDiff, reduceIte, ne_eq, not_false_eq_true, not_true_eq_false, if_true, if_false, Nat.zero_add]
theorem op_thing {N : Nat} {μ : sw_M} (hN : 5000 ≤ N) (hI : Inv μ) (a1 a2 : Int32) : OpB (f_x_thing N μ a1 a2) (fun μ1 => f_m_thing N μ1 a1 a2) := by
  obtain ⟨F, W, T, P, K, O, nl, nb, n, m, hQ, hR⟩ := id hI
  have hC := hQ.1
  have hF' := hC.f8; have hW' := hC.w12; have hT' := hC.t6; have hP' := hC.p5
  have hX : XR μ μ := ⟨rfl, rfl, rfl, rfl, rfl, rfl, rfl, rfl⟩
  have x0 := hX.nF hC; have x1 := hX.nW hC; have x2 := hX.nT hC; have x3 := hX.nP hC
  have m21 := hQ.2.1.nF; have m22 := hQ.2.1.nW; have m23 := hQ.2.1.nT; have m24 := hQ.2.1.nP
  have z1 : ∀ i, (wr (xr μ i) 63 0 0) 63 0 = 0 := fun _ => rfl
  have n23 : ∀ i, (wr (xr μ i) 63 0 0) 63 23 = ic T := fun _ => m23
  rcases wn_dec a1 (n := T) (by omega) with ⟨t, ht, rfl, hg⟩ | hg
  · rcases wn_dec2 a2 (n := 2) (by decide) with ⟨k, hk, rfl, hz⟩ | hz
    · left
      obtain ⟨v, h1, h2⟩ := q_thing hN hQ ht hk
      exact ⟨v, _, _, h1, h2, rfl, hI.sm ((SM.rf μ).wr63 0 0 (Or.inl rfl))⟩
    · right; right
      have hz : ¬ (0 ≤ a2 ∧ a2 ≤ 2) := hz
      refine ⟨xr μ 1, 0, mr (xr μ 1) 1 2, ?_, ?_, rfl, hI.rr (by decide) 2⟩
      · unfold f_x_thing; rw [within_e, ob_e, x2, b2_p hg, nt_1 (by decide), tb_l, g_needWhat_0 hz, tb_r]; rfl
      · show f_m_thing N (xr μ 1) (ic t) a2 = _
        unfold f_m_thing; rw [wb_e, withinm_e, ob_e, n23 1, b2_p hg, may_1 (by decide) (z1 1), ob_e, if_neg o1, withinm_e, ob_e, b2_n hz, may_i (by decide) (z1 1), ob_e, if_pos rfl]; rfl
  · right; left
    refine ⟨xr μ 0, 0, mr (xr μ 0) 0 1, ?_, ?_, rfl, hI.rr (by decide) 1⟩
    · unfold f_x_thing; rw [within_e, ob_e, x2, b2_n hg, nt_0, tb_r]; rfl
    · show f_m_thing N (xr μ 0) a1 a2 = _
      unfold f_m_thing; rw [wb_e, withinm_e, ob_e, n23 0, b2_n hg, may_n (by decide) (z1 0), ob_e, if_pos rfl]; rfl
theorem op_toll {N : Nat} {μ : sw_M} (hN : 5000 ≤ N) (hI : Inv μ) (a1 a2 : Int32) : OpN (f_x_toll N μ a1 a2) (fun μ1 => f_m_toll N μ1 a1 a2) := by
  obtain ⟨F, W, T, P, K, O, nl, nb, n, m, hQ, hR⟩ := id hI
  have hC := hQ.1
  have hF' := hC.f8; have hW' := hC.w12; have hT' := hC.t6; have hP' := hC.p5
  have hX : XR μ μ := ⟨rfl, rfl, rfl, rfl, rfl, rfl, rfl, rfl⟩
  have x0 := hX.nF hC; have x1 := hX.nW hC; have x2 := hX.nT hC; have x3 := hX.nP hC
  have m21 := hQ.2.1.nF; have m22 := hQ.2.1.nW; have m23 := hQ.2.1.nT; have m24 := hQ.2.1.nP
  have z1 : ∀ i, (wr (xr μ i) 63 0 0) 63 0 = 0 := fun _ => rfl
  rcases wn_dec a1 (n := P) (by omega) with ⟨p, hp, rfl, hg⟩ | hg
  · rcases wn_dec a2 (n := W) (by omega) with ⟨w, hw, rfl, hz⟩ | hz
    · left
      obtain ⟨-, -, hS, hD, -, -, hXL⟩ := qm_ctx hQ
      obtain ⟨μ1, e1, f1⟩ := e_days_tollOf hN hC hX hS hD hXL hp hw
      obtain ⟨hS', hM', hL'⟩ := qm_ctx2 hQ f1.sx
      have hQ1 := hQ.sx f1.sx
      obtain ⟨μ2, e2, f2⟩ := e_m_tollBy hN hC hM' hS' hL' hp hw
      rw [qm_81 f1.sx] at e2
      refine ⟨tolS W T μ ((qm μ) 81) K O nl p w, μ1, μ2, ?_, ?_, ?_, (hI.sx f1.sx).sm ((qm_sm μ1).tr f2.sm)⟩
      · unfold f_x_toll; rw [g_needPerson_1 x3 hg, tb_l, g_needWire_1 x1 hz, tb_l, e1, ob_e]
      · show f_m_toll N μ1 (ic p) (ic w) = _
        unfold f_m_toll; rw [wb_e, h_isPerson_1 (μ := wr μ1 63 0 0) hQ1.2.1.nP rfl hg, ob_e, if_neg o1, h_isWire_1 (μ := wr μ1 63 0 0) hQ1.2.1.nW rfl hz, ob_e, if_neg o1, e_q_take hN, ob_e, e2, ob_e]
      · rw [f2 63 (by decide) (by decide)]; rfl
    · right
      refine ⟨xr μ 0, 0, mr (xr μ 0) 0 1, ?_, ?_, rfl, hI.rr (by decide) 1⟩
      · unfold f_x_toll; rw [g_needPerson_1 x3 hg, tb_l, g_needWire_0 x1 hz, tb_r]; rfl
      · show f_m_toll N (xr μ 0) (ic p) a2 = _
        unfold f_m_toll; rw [wb_e, h_isPerson_1 (μ := wr (xr μ 0) 63 0 0) m24 (z1 0) hg, ob_e, if_neg o1, h_isWire_0 (μ := wr (xr μ 0) 63 0 0) m22 (z1 0) hz, ob_e, if_pos rfl]; rfl
  · right
    refine ⟨xr μ 0, 0, mr (xr μ 0) 0 1, ?_, ?_, rfl, hI.rr (by decide) 1⟩
    · unfold f_x_toll; rw [g_needPerson_0 x3 hg, tb_r]; rfl
    · show f_m_toll N (xr μ 0) a1 a2 = _
      unfold f_m_toll; rw [wb_e, h_isPerson_0 (μ := wr (xr μ 0) 63 0 0) m24 (z1 0) hg, ob_e, if_pos rfl]; rfl
theorem op_can {N : Nat} {μ : sw_M} (hN : 5000 ≤ N) (hI : Inv μ) (a1 a2 : Int32) : OpN (f_x_can N μ a1 a2) (fun μ1 => f_m_can N μ1 a1 a2) := by
  obtain ⟨F, W, T, P, K, O, nl, nb, n, m, hQ, hR⟩ := id hI
  have hC := hQ.1
  have hF' := hC.f8; have hW' := hC.w12; have hT' := hC.t6; have hP' := hC.p5
  have hX : XR μ μ := ⟨rfl, rfl, rfl, rfl, rfl, rfl, rfl, rfl⟩
  have x0 := hX.nF hC; have x1 := hX.nW hC; have x2 := hX.nT hC; have x3 := hX.nP hC
  have m21 := hQ.2.1.nF; have m22 := hQ.2.1.nW; have m23 := hQ.2.1.nT; have m24 := hQ.2.1.nP
  have z1 : ∀ i, (wr (xr μ i) 63 0 0) 63 0 = 0 := fun _ => rfl
  rcases wn_dec a1 (n := P) (by omega) with ⟨p, hp, rfl, hg⟩ | hg
  · rcases wn_dec a2 (n := W) (by omega) with ⟨w, hw, rfl, hz⟩ | hz
    · left
      obtain ⟨-, -, hS, hD, -, -, hXL⟩ := qm_ctx hQ
      obtain ⟨μ1, e1, f1⟩ := e_days_canCross hN hC hX hS hD hXL hp hw
      obtain ⟨hS', hM', hL'⟩ := qm_ctx2 hQ f1.sx
      have hQ1 := hQ.sx f1.sx
      obtain ⟨μ2, e2, f2⟩ := e_m_canCross hN hC hM' hS' hL' hp hw
      rw [qm_81 f1.sx] at e2
      refine ⟨b2 (canS W T μ ((qm μ) 81) K O nl p w), μ1, μ2, ?_, ?_, ?_, (hI.sx f1.sx).sm ((qm_sm μ1).tr f2.sm)⟩
      · unfold f_x_can; rw [g_needPerson_1 x3 hg, tb_l, g_needWire_1 x1 hz, tb_l, e1, ob_e, b2_bl]
      · show f_m_can N μ1 (ic p) (ic w) = _
        unfold f_m_can; rw [wb_e, h_isPerson_1 (μ := wr μ1 63 0 0) hQ1.2.1.nP rfl hg, ob_e, if_neg o1, h_isWire_1 (μ := wr μ1 63 0 0) hQ1.2.1.nW rfl hz, ob_e, if_neg o1, e_q_take hN, ob_e, e2, ob_e, b2_bl]
      · rw [f2 63 (by decide) (by decide)]; rfl
    · right
      refine ⟨xr μ 0, 0, mr (xr μ 0) 0 1, ?_, ?_, rfl, hI.rr (by decide) 1⟩
      · unfold f_x_can; rw [g_needPerson_1 x3 hg, tb_l, g_needWire_0 x1 hz, tb_r]; rfl
      · show f_m_can N (xr μ 0) (ic p) a2 = _
        unfold f_m_can; rw [wb_e, h_isPerson_1 (μ := wr (xr μ 0) 63 0 0) m24 (z1 0) hg, ob_e, if_neg o1, h_isWire_0 (μ := wr (xr μ 0) 63 0 0) m22 (z1 0) hz, ob_e, if_pos rfl]; rfl
  · right
    refine ⟨xr μ 0, 0, mr (xr μ 0) 0 1, ?_, ?_, rfl, hI.rr (by decide) 1⟩
    · unfold f_x_can; rw [g_needPerson_0 x3 hg, tb_r]; rfl
    · show f_m_can N (xr μ 0) a1 a2 = _
      unfold f_m_can; rw [wb_e, h_isPerson_0 (μ := wr (xr μ 0) 63 0 0) m24 (z1 0) hg, ob_e, if_pos rfl]; rfl
theorem op_would {N : Nat} {μ : sw_M} (hN : 5000 ≤ N) (hI : Inv μ) (a1 a2 a3 a4 a5 a6 a7 : Int32) : OpI (f_x_would N μ a1 a2 a3 a4 a5 a6 a7) (fun μ1 => f_m_would N μ1 a1 a2 a3 a4 a5 a6 a7) := by
  obtain ⟨F, W, T, P, K, O, nl, nb, n, m, hQ, hR⟩ := id hI
  have hC := hQ.1
  have hF' := hC.f8; have hW' := hC.w12; have hT' := hC.t6; have hP' := hC.p5
  have hX : XR μ μ := ⟨rfl, rfl, rfl, rfl, rfl, rfl, rfl, rfl⟩
  have x0 := hX.nF hC; have x1 := hX.nW hC; have x2 := hX.nT hC; have x3 := hX.nP hC
  have m21 := hQ.2.1.nF; have m22 := hQ.2.1.nW; have m23 := hQ.2.1.nT; have m24 := hQ.2.1.nP
  have z1 : ∀ i, (wr (xr μ i) 63 0 0) 63 0 = 0 := fun _ => rfl
  by_cases h1 : (0 ≤ a1 ∧ a1 ≤ 180)
  rotate_left
  · right
    refine ⟨xr μ 1, 0, mr (xr μ 1) 1 1, ?_, ?_, rfl, hI.rr (by decide) 1⟩
    · simp only [f_x_would, f_x_would_36, f_x_would_37, f_x_would_68, f_x_would_69, f_x_would_98, f_x_would_99, within_e, ob_e, b2_n h1, nd_1 (show ¬ (1 : Int32) = 0 by decide), nd_0, tb_l, tb_r, if_true, if_false, show ¬ (1 : Int32) = 0 by decide]
      rfl
    · show f_m_would N (xr μ 1) a1 a2 a3 a4 a5 a6 a7 = _
      simp only [f_m_would, f_m_would_85, f_m_would_86, wb_e, withinm_e, ob_e, b2_n h1, may_i (show ¬ (1 : Int32) = 0 by decide) (z1 1), if_true, if_false, show ¬ (1 : Int32) = 0 by decide]
      rfl
  by_cases h2 : (1 ≤ a2 ∧ a2 ≤ 40)
  rotate_left
  · right
    refine ⟨xr μ 1, 0, mr (xr μ 1) 1 1, ?_, ?_, rfl, hI.rr (by decide) 1⟩
    · simp only [f_x_would, f_x_would_36, f_x_would_37, f_x_would_68, f_x_would_69, f_x_would_98, f_x_would_99, within_e, ob_e, b2_p h1, b2_n h2, nd_1 (show ¬ (1 : Int32) = 0 by decide), nd_0, tb_l, tb_r, if_true, if_false, show ¬ (1 : Int32) = 0 by decide]
      rfl
    · show f_m_would N (xr μ 1) a1 a2 a3 a4 a5 a6 a7 = _
      simp only [f_m_would, f_m_would_85, f_m_would_86, wb_e, withinm_e, ob_e, b2_p h1, b2_n h2, may_i (show ¬ (1 : Int32) = 0 by decide) (z1 1), if_true, if_false, show ¬ (1 : Int32) = 0 by decide]
      rfl
  by_cases h3 : (0 ≤ a3 ∧ a3 ≤ 60)
  rotate_left
  · right
    refine ⟨xr μ 1, 0, mr (xr μ 1) 1 1, ?_, ?_, rfl, hI.rr (by decide) 1⟩
    · simp only [f_x_would, f_x_would_36, f_x_would_37, f_x_would_68, f_x_would_69, f_x_would_98, f_x_would_99, within_e, ob_e, b2_p h1, b2_p h2, b2_n h3, nd_1 (show ¬ (1 : Int32) = 0 by decide), nd_0, tb_l, tb_r, if_true, if_false, show ¬ (1 : Int32) = 0 by decide]
      rfl
    · show f_m_would N (xr μ 1) a1 a2 a3 a4 a5 a6 a7 = _
      simp only [f_m_would, f_m_would_85, f_m_would_86, wb_e, withinm_e, ob_e, b2_p h1, b2_p h2, b2_n h3, may_i (show ¬ (1 : Int32) = 0 by decide) (z1 1), if_true, if_false, show ¬ (1 : Int32) = 0 by decide]
      rfl
  by_cases h4 : (0 ≤ a4 ∧ a4 ≤ 99)
  rotate_left
  · right
    refine ⟨xr μ 1, 0, mr (xr μ 1) 1 1, ?_, ?_, rfl, hI.rr (by decide) 1⟩
    · simp only [f_x_would, f_x_would_36, f_x_would_37, f_x_would_68, f_x_would_69, f_x_would_98, f_x_would_99, within_e, ob_e, b2_p h1, b2_p h2, b2_p h3, b2_n h4, nd_1 (show ¬ (1 : Int32) = 0 by decide), nd_0, tb_l, tb_r, if_true, if_false, show ¬ (1 : Int32) = 0 by decide]
      rfl
    · show f_m_would N (xr μ 1) a1 a2 a3 a4 a5 a6 a7 = _
      simp only [f_m_would, f_m_would_85, f_m_would_86, wb_e, withinm_e, ob_e, b2_p h1, b2_p h2, b2_p h3, b2_n h4, may_i (show ¬ (1 : Int32) = 0 by decide) (z1 1), if_true, if_false, show ¬ (1 : Int32) = 0 by decide]
      rfl
  by_cases h5 : (0 ≤ a5 ∧ a5 ≤ 400)
  rotate_left
  · right
    refine ⟨xr μ 1, 0, mr (xr μ 1) 1 1, ?_, ?_, rfl, hI.rr (by decide) 1⟩
    · simp only [f_x_would, f_x_would_36, f_x_would_37, f_x_would_68, f_x_would_69, f_x_would_98, f_x_would_99, within_e, ob_e, b2_p h1, b2_p h2, b2_p h3, b2_p h4, b2_n h5, nd_1 (show ¬ (1 : Int32) = 0 by decide), nd_0, tb_l, tb_r, if_true, if_false, show ¬ (1 : Int32) = 0 by decide]
      rfl
    · show f_m_would N (xr μ 1) a1 a2 a3 a4 a5 a6 a7 = _
      simp only [f_m_would, f_m_would_85, f_m_would_86, wb_e, withinm_e, ob_e, b2_p h1, b2_p h2, b2_p h3, b2_p h4, b2_n h5, may_i (show ¬ (1 : Int32) = 0 by decide) (z1 1), if_true, if_false, show ¬ (1 : Int32) = 0 by decide]
      rfl
  by_cases h6 : (0 ≤ a6 ∧ a6 ≤ 12)
  rotate_left
  · right
    refine ⟨xr μ 1, 0, mr (xr μ 1) 1 1, ?_, ?_, rfl, hI.rr (by decide) 1⟩
    · simp only [f_x_would, f_x_would_36, f_x_would_37, f_x_would_68, f_x_would_69, f_x_would_98, f_x_would_99, within_e, ob_e, b2_p h1, b2_p h2, b2_p h3, b2_p h4, b2_p h5, b2_n h6, nd_1 (show ¬ (1 : Int32) = 0 by decide), nd_0, tb_l, tb_r, if_true, if_false, show ¬ (1 : Int32) = 0 by decide]
      rfl
    · show f_m_would N (xr μ 1) a1 a2 a3 a4 a5 a6 a7 = _
      simp only [f_m_would, f_m_would_85, f_m_would_86, wb_e, withinm_e, ob_e, b2_p h1, b2_p h2, b2_p h3, b2_p h4, b2_p h5, b2_n h6, may_i (show ¬ (1 : Int32) = 0 by decide) (z1 1), if_true, if_false, show ¬ (1 : Int32) = 0 by decide]
      rfl
  by_cases h7 : (0 ≤ a7 ∧ a7 ≤ 4)
  rotate_left
  · right
    refine ⟨xr μ 1, 0, mr (xr μ 1) 1 1, ?_, ?_, rfl, hI.rr (by decide) 1⟩
    · simp only [f_x_would, f_x_would_36, f_x_would_37, f_x_would_68, f_x_would_69, f_x_would_98, f_x_would_99, within_e, ob_e, b2_p h1, b2_p h2, b2_p h3, b2_p h4, b2_p h5, b2_p h6, b2_n h7, nd_1 (show ¬ (1 : Int32) = 0 by decide), nd_0, tb_l, tb_r, if_true, if_false, show ¬ (1 : Int32) = 0 by decide]
      rfl
    · show f_m_would N (xr μ 1) a1 a2 a3 a4 a5 a6 a7 = _
      simp only [f_m_would, f_m_would_85, f_m_would_86, wb_e, withinm_e, ob_e, b2_p h1, b2_p h2, b2_p h3, b2_p h4, b2_p h5, b2_p h6, b2_n h7, may_i (show ¬ (1 : Int32) = 0 by decide) (z1 1), if_true, if_false, show ¬ (1 : Int32) = 0 by decide]
      rfl
  left
  obtain ⟨-, -, -, -, -, -, hXL⟩ := qm_ctx hQ
  obtain ⟨μ1, μ2, e1, e2, f1⟩ := e_law_toll (N := N) hN hXL a1 a2 a3 a4 a5 a6 a7
  have hQ2 := hQ.sx f1.sx
  have hL2 : ML (wr μ2 63 0 0) K O nl := hQ2.2.2.2.2.2.1
  obtain ⟨μ3, e3, f3⟩ := e_m_tollOf (N := N) hN hL2 a1 a2 a3 a4 a5 a6 a7
  have z2 : (wr μ2 63 0 0) 63 0 = 0 := rfl
  refine ⟨tollV K O nl (vf a1 a2 a3 a4 a5 a6 a7), μ2, μ3, ?_, ?_, ?_, (hI.sx f1.sx).sm (((SM.rf μ2).wr63 0 0 (Or.inl rfl)).tr f3.sm)⟩
  · simp only [f_x_would, f_x_would_37, f_x_would_69, f_x_would_99, within_e, ob_e, b2_p h1, b2_p h2, b2_p h3, b2_p h4, b2_p h5, b2_p h6, b2_p h7, nd_1 (show ¬ (1 : Int32) = 0 by decide), tb_l, if_false, show ¬ (1 : Int32) = 0 by decide, e1, e2]
  · show f_m_would N μ2 a1 a2 a3 a4 a5 a6 a7 = _
    simp only [f_m_would, f_m_would_86, wb_e, withinm_e, ob_e, b2_p h1, b2_p h2, b2_p h3, b2_p h4, b2_p h5, b2_p h6, b2_p h7, may_1 (show ¬ (1 : Int32) = 0 by decide) z2, if_false, show ¬ (1 : Int32) = 0 by decide, e3]
  · rw [f3 63 (by decide) (by decide)]; rfl
/-! hours to a field -/
def cmI (W : Nat) (c : sw_M) (S : Nat → Int32) (o : Nat) (h g : Int32) : Nat → Nat → Int32 → Int32
  | 0, _, _ => -1
  | j + 1, k, x => if bt x o = true then ic k else cmI W c S o h g j (k + 1) (spr W c S x (h + ic k) g)
theorem cmI_s (W : Nat) (c : sw_M) (S : Nat → Int32) (o : Nat) (h g : Int32) (j k : Nat) (x : Int32) : cmI W c S o h g (j + 1) k x = if bt x o = true then ic k else cmI W c S o h g j (k + 1) (spr W c S x (h + ic k) g) := rfl
theorem lp_hoursTo {N : Nat} {μ c : sw_M} {F W T P : Nat} (hN : 5000 ≤ N) (hC : CW c F W T P) (hX : XR μ c) {S : Nat → Int32} (hS : WS F W T P S) (hD : DR μ 35 W T P S) {o : Nat} (ho : o < 32) (h g : Int32) : ∀ (j k : Nat) (x : Int32) (n : Nat), k + j = 8 → j < n → f_ways_hoursTo_8 N μ n (ic o) h g x (ic k) = some (cmI W c S o h g j k x)
  | 0, k, x, n, hk, hn => by
    obtain ⟨n, rfl⟩ := fu_s hn
    simp (disch := omega) only [f_ways_hoursTo_8, wb_e, ib_e, ibL_e, ob_e, nz4, inb_e, inb_lit, ic_n, n_lit, ic_1, lit_add, add_lit, lit_mul, mul_lit, ic_add, ic_mul, ic_le, ic_lt, ic_eq, lit_le, le_lit, lit_lt, lt_lit, lit_eq, eq_lit, ic_m1, m1_ic, ic_lt0, ic_0le, b2_0, b2_1, b2_bl, sh_e, Nat.not_lt_zero, Nat.zero_le, Nat.reduceEqDiff, Nat.reduceAdd, Nat.reduceMul, Nat.reduceSub, Nat.reduceLT, Nat.reduceLeDiff, reduceIte, ne_eq, not_false_eq_true, not_true_eq_false, if_true, if_false, Nat.zero_add]
    rw [if_pos (by omega)]; rfl
  | j + 1, k, x, n, hk, hn => by
    obtain ⟨n, rfl⟩ := fu_s (show 0 < n by omega)
    have ih := fun x => lp_hoursTo hN hC hX hS hD ho h g j (k + 1) x n (by omega) (by omega)
    have e1 := has_e (N := N) (μ := μ) x ho
    have e2 := e_ways_spread hN hC hX hS hD x (h + ic k) g
    rw [← Int32.add_assoc] at e2
    have dh := hD.dh
    simp (disch := omega) only [f_ways_hoursTo_8, dh, e1, e2, ih, wb_e, ib_e, ibL_e, ob_e, nz4, inb_e, inb_lit, ic_n, n_lit, ic_1, lit_add, add_lit, lit_mul, mul_lit, ic_add, ic_mul, ic_le, ic_lt, ic_eq, lit_le, le_lit, lit_lt, lt_lit, lit_eq, eq_lit, ic_m1, m1_ic, ic_lt0, ic_0le, b2_0, b2_1, b2_bl, sh_e, Nat.not_lt_zero, Nat.zero_le, Nat.reduceEqDiff, Nat.reduceAdd, Nat.reduceMul, Nat.reduceSub, Nat.reduceLT, Nat.reduceLeDiff, reduceIte, ne_eq, not_false_eq_true, not_true_eq_false, if_true, if_false, Nat.zero_add]
    rw [if_neg (by omega)]
    rw [cmI_s]
    cases bt x o <;> simp
theorem e_ways_hoursTo {N : Nat} {μ c : sw_M} {F W T P : Nat} (hN : 5000 ≤ N) (hC : CW c F W T P) (hX : XR μ c) {S : Nat → Int32} (hS : WS F W T P S) (hD : DR μ 35 W T P S) {f o : Nat} (ho : o < 32) (h g : Int32) : f_ways_hoursTo N μ (ic f) (ic o) h g = some (cmI W c S o h g 8 0 (sh f)) := by
  unfold f_ways_hoursTo
  rw [ib_e, sh_e]
  exact lp_hoursTo hN hC hX hS hD ho h g 8 0 (sh f) N (by omega) (by omega)
theorem lp_comesIn {N : Nat} {μ c : sw_M} {F W T P : Nat} (hN : 5000 ≤ N) (hC : CW c F W T P) (hM : MR μ c F W T P) (hS : WS F W T P (μ 81)) {o : Nat} (ho : o < 32) (h g : Int32) : ∀ (j k : Nat) (x : Int32) (n : Nat), k + j = 8 → j < n → f_m_comesIn_8 N μ n (ic o) h g x (ic k) = some (cmI W c (μ 81) o h g j k x)
  | 0, k, x, n, hk, hn => by
    obtain ⟨n, rfl⟩ := fu_s hn
    simp (disch := omega) only [f_m_comesIn_8, wb_e, ib_e, ibL_e, ob_e, nz4, inb_e, inb_lit, ic_n, n_lit, ic_1, lit_add, add_lit, lit_mul, mul_lit, ic_add, ic_mul, ic_le, ic_lt, ic_eq, lit_le, le_lit, lit_lt, lt_lit, lit_eq, eq_lit, ic_m1, m1_ic, ic_lt0, ic_0le, b2_0, b2_1, b2_bl, sh_e, Nat.not_lt_zero, Nat.zero_le, Nat.reduceEqDiff, Nat.reduceAdd, Nat.reduceMul, Nat.reduceSub, Nat.reduceLT, Nat.reduceLeDiff, reduceIte, ne_eq, not_false_eq_true, not_true_eq_false, if_true, if_false, Nat.zero_add]
    rw [if_pos (by omega)]; rfl
  | j + 1, k, x, n, hk, hn => by
    obtain ⟨n, rfl⟩ := fu_s (show 0 < n by omega)
    have ih := fun x => lp_comesIn hN hC hM hS ho h g j (k + 1) x n (by omega) (by omega)
    have e1 := bit_1 x ho
    have e2 := e_m_onFrom hN hC hM hS x (h + ic k) g
    simp (disch := omega) only [f_m_comesIn_8, e1, e2, ih, wb_e, ib_e, ibL_e, ob_e, nz4, inb_e, inb_lit, ic_n, n_lit, ic_1, lit_add, add_lit, lit_mul, mul_lit, ic_add, ic_mul, ic_le, ic_lt, ic_eq, lit_le, le_lit, lit_lt, lt_lit, lit_eq, eq_lit, ic_m1, m1_ic, ic_lt0, ic_0le, b2_0, b2_1, b2_bl, sh_e, Nat.not_lt_zero, Nat.zero_le, Nat.reduceEqDiff, Nat.reduceAdd, Nat.reduceMul, Nat.reduceSub, Nat.reduceLT, Nat.reduceLeDiff, reduceIte, ne_eq, not_false_eq_true, not_true_eq_false, if_true, if_false, Nat.zero_add]
    rw [if_neg (by omega)]
    rw [cmI_s]
    cases bt x o <;> simp
theorem e_m_comesIn {N : Nat} {μ c : sw_M} {F W T P : Nat} (hN : 5000 ≤ N) (hC : CW c F W T P) (hM : MR μ c F W T P) (hS : WS F W T P (μ 81)) {f o : Nat} (ho : o < 32) (h g : Int32) : f_m_comesIn N μ (ic f) (ic o) h g = some (cmI W c (μ 81) o h g 8 0 (sh f)) := by
  unfold f_m_comesIn
  rw [ib_e, sh_e]
  exact lp_comesIn hN hC hM hS ho h g 8 0 (sh f) N (by omega) (by omega)
theorem op_arrives {N : Nat} {μ : sw_M} (hN : 5000 ≤ N) (hI : Inv μ) (a1 a2 : Int32) : OpN (f_x_arrives N μ a1 a2) (fun μ1 => f_m_arrives N μ1 a1 a2) := by
  obtain ⟨F, W, T, P, K, O, nl, nb, n, m, hQ, hR⟩ := id hI
  have hC := hQ.1
  have hF' := hC.f8; have hW' := hC.w12; have hT' := hC.t6; have hP' := hC.p5
  have hX : XR μ μ := ⟨rfl, rfl, rfl, rfl, rfl, rfl, rfl, rfl⟩
  have x0 := hX.nF hC; have x1 := hX.nW hC; have x2 := hX.nT hC; have x3 := hX.nP hC
  have m21 := hQ.2.1.nF; have m22 := hQ.2.1.nW; have m23 := hQ.2.1.nT; have m24 := hQ.2.1.nP
  have z1 : ∀ i, (wr (xr μ i) 63 0 0) 63 0 = 0 := fun _ => rfl
  rcases wn_dec a1 (n := F) (by omega) with ⟨f, hf, rfl, hg⟩ | hg
  · rcases wn_dec a2 (n := F) (by omega) with ⟨o, ho, rfl, hz⟩ | hz
    · left
      obtain ⟨-, -, hS, hD, hM, -, -⟩ := qm_ctx hQ
      have e1 := e_ways_hoursTo hN hC hX hS hD (f := f) (o := o) (by omega) 0 0
      have e2 := e_m_comesIn hN hC hM hS (f := f) (o := o) (by omega) 0 0
      refine ⟨cmI W μ ((qm μ) 81) o 0 0 8 0 (sh f), μ, qm μ, ?_, ?_, qm_0 μ, hI.sm (qm_sm μ)⟩
      · unfold f_x_arrives; rw [g_needField_1 x0 hg, tb_l, g_needField_1 x0 hz, tb_l, e1, ob_e]
      · show f_m_arrives N μ (ic f) (ic o) = _
        unfold f_m_arrives; rw [wb_e, h_isField_1 (μ := wr μ 63 0 0) m21 rfl hg, ob_e, if_neg o1, h_isField_1 (μ := wr μ 63 0 0) m21 rfl hz, ob_e, if_neg o1, e_q_take hN, ob_e, e2, ob_e]
    · right
      refine ⟨xr μ 0, 0, mr (xr μ 0) 0 1, ?_, ?_, rfl, hI.rr (by decide) 1⟩
      · unfold f_x_arrives; rw [g_needField_1 x0 hg, tb_l, g_needField_0 x0 hz, tb_r]; rfl
      · show f_m_arrives N (xr μ 0) (ic f) a2 = _
        unfold f_m_arrives; rw [wb_e, h_isField_1 (μ := wr (xr μ 0) 63 0 0) m21 (z1 0) hg, ob_e, if_neg o1, h_isField_0 (μ := wr (xr μ 0) 63 0 0) m21 (z1 0) hz, ob_e, if_pos rfl]; rfl
  · right
    refine ⟨xr μ 0, 0, mr (xr μ 0) 0 1, ?_, ?_, rfl, hI.rr (by decide) 1⟩
    · unfold f_x_arrives; rw [g_needField_0 x0 hg, tb_r]; rfl
    · show f_m_arrives N (xr μ 0) a1 a2 = _
      unfold f_m_arrives; rw [wb_e, h_isField_0 (μ := wr (xr μ 0) 63 0 0) m21 (z1 0) hg, ob_e, if_pos rfl]; rfl
