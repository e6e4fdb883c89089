/-! ===== printed by wip/whole/gen71.py ===== -/
theorem wn_in {f n : Nat} (h : f < n) (hn : n ≤ 1000) : 0 ≤ ic f ∧ ic f ≤ ic n - 1 := by
  rw [ic_0le (by omega), show ic n - 1 = ic n - ic 1 from rfl, ic_sub (by omega), ic_le (by omega) (by omega)]
  exact ⟨trivial, by omega⟩
theorem w2_in {f n : Nat} (h : f ≤ n) (hn : n ≤ 1000) : 0 ≤ ic f ∧ ic f ≤ ic n := by
  rw [ic_0le (by omega), ic_le (by omega) (by omega)]
  exact ⟨trivial, h⟩
theorem wm_1 {N : Nat} {μ : sw_M} {a l h : Int32} (q : l ≤ a ∧ a ≤ h) : f_sm_within N μ a l h = some 1 := by rw [withinm_e, b2_p q]
theorem wx_1 {N : Nat} {μ : sw_M} {a l h : Int32} (q : l ≤ a ∧ a ≤ h) : f_sx_within N μ a l h = some 1 := by rw [within_e, b2_p q]
theorem ic_c (k : Nat) : Int32.ofNat k = ic k := rfl
theorem x_told_0 {N : Nat} {μ : sw_M} {F W T P : Nat} {K O : Nat → Int32} {nl nb : Nat} (hN : 5000 ≤ N) (hQ : QI μ F W T P K O nl nb)  : f_x_told N μ (ic 0) = some (.inl (ic F, μ)) := by
  obtain ⟨hC, hX, hS, hD, hM, hL, hXL⟩ := qm_ctx hQ
  have hF' := hC.f8; have hW' := hC.w12; have hT' := hC.t6; have hP' := hC.p5
  have m21 := hQ.2.1.nF; have m22 := hQ.2.1.nW; have m23 := hQ.2.1.nT; have m24 := hQ.2.1.nP
  have z0 : (wr μ 63 0 0) 63 0 = 0 := rfl
  have gw : 0 ≤ ic 0 ∧ ic 0 ≤ 11 := w2_in (n := 11) (by decide) (by decide)
  simp (disch := omega) only [f_x_told, tb_l, g_needWhat_1 gw, hX.nF hC, wb_e, ib_e, ibL_e, ob_e, nz4, inb_e, inb_lit, ic_n, n_lit, ic_1, lit_add, add_lit, lit_mul, mul_lit, ic_add, ic_mul, ic_le, ic_lt, ic_eq, lit_le, le_lit, lit_lt, lt_lit, lit_eq, eq_lit, ic_m1, m1_ic, ic_lt0, ic_0le, b2_0, b2_1, b2_bl, sh_e, Nat.not_lt_zero, Nat.zero_le, Nat.reduceEqDiff, Nat.reduceAdd, Nat.reduceMul, Nat.reduceSub, Nat.reduceLT, Nat.reduceLeDiff, reduceIte, ne_eq, not_false_eq_true, not_true_eq_false, if_true, if_false, Nat.zero_add]
  skip
theorem m_told_0 {N : Nat} {μ : sw_M} {F W T P : Nat} {K O : Nat → Int32} {nl nb : Nat} (hN : 5000 ≤ N) (hQ : QI μ F W T P K O nl nb)  : f_m_told N μ (ic 0) = some (ic F, qm μ) := by
  obtain ⟨hC, hX, hS, hD, hM, hL, hXL⟩ := qm_ctx hQ
  have hF' := hC.f8; have hW' := hC.w12; have hT' := hC.t6; have hP' := hC.p5
  have m21 := hQ.2.1.nF; have m22 := hQ.2.1.nW; have m23 := hQ.2.1.nT; have m24 := hQ.2.1.nP
  have z0 : (wr μ 63 0 0) 63 0 = 0 := rfl
  have gw : 0 ≤ ic 0 ∧ ic 0 ≤ 11 := w2_in (n := 11) (by decide) (by decide)
  simp (disch := omega) only [f_m_told, wm_1 gw, may_1 (show ¬ (1 : Int32) = 0 by decide) z0, show ¬ (1 : Int32) = 0 by decide, e_q_take hN, hM.nF, wb_e, ib_e, ibL_e, ob_e, nz4, inb_e, inb_lit, ic_n, n_lit, ic_1, lit_add, add_lit, lit_mul, mul_lit, ic_add, ic_mul, ic_le, ic_lt, ic_eq, lit_le, le_lit, lit_lt, lt_lit, lit_eq, eq_lit, ic_m1, m1_ic, ic_lt0, ic_0le, b2_0, b2_1, b2_bl, sh_e, Nat.not_lt_zero, Nat.zero_le, Nat.reduceEqDiff, Nat.reduceAdd, Nat.reduceMul, Nat.reduceSub, Nat.reduceLT, Nat.reduceLeDiff, reduceIte, ne_eq, not_false_eq_true, not_true_eq_false, if_true, if_false, Nat.zero_add]
  skip
theorem x_told_1 {N : Nat} {μ : sw_M} {F W T P : Nat} {K O : Nat → Int32} {nl nb : Nat} (hN : 5000 ≤ N) (hQ : QI μ F W T P K O nl nb)  : f_x_told N μ (ic 1) = some (.inl (ic W, μ)) := by
  obtain ⟨hC, hX, hS, hD, hM, hL, hXL⟩ := qm_ctx hQ
  have hF' := hC.f8; have hW' := hC.w12; have hT' := hC.t6; have hP' := hC.p5
  have m21 := hQ.2.1.nF; have m22 := hQ.2.1.nW; have m23 := hQ.2.1.nT; have m24 := hQ.2.1.nP
  have z0 : (wr μ 63 0 0) 63 0 = 0 := rfl
  have gw : 0 ≤ ic 1 ∧ ic 1 ≤ 11 := w2_in (n := 11) (by decide) (by decide)
  simp (disch := omega) only [f_x_told, tb_l, g_needWhat_1 gw, hX.nW hC, wb_e, ib_e, ibL_e, ob_e, nz4, inb_e, inb_lit, ic_n, n_lit, ic_1, lit_add, add_lit, lit_mul, mul_lit, ic_add, ic_mul, ic_le, ic_lt, ic_eq, lit_le, le_lit, lit_lt, lt_lit, lit_eq, eq_lit, ic_m1, m1_ic, ic_lt0, ic_0le, b2_0, b2_1, b2_bl, sh_e, Nat.not_lt_zero, Nat.zero_le, Nat.reduceEqDiff, Nat.reduceAdd, Nat.reduceMul, Nat.reduceSub, Nat.reduceLT, Nat.reduceLeDiff, reduceIte, ne_eq, not_false_eq_true, not_true_eq_false, if_true, if_false, Nat.zero_add]
  skip
theorem m_told_1 {N : Nat} {μ : sw_M} {F W T P : Nat} {K O : Nat → Int32} {nl nb : Nat} (hN : 5000 ≤ N) (hQ : QI μ F W T P K O nl nb)  : f_m_told N μ (ic 1) = some (ic W, qm μ) := by
  obtain ⟨hC, hX, hS, hD, hM, hL, hXL⟩ := qm_ctx hQ
  have hF' := hC.f8; have hW' := hC.w12; have hT' := hC.t6; have hP' := hC.p5
  have m21 := hQ.2.1.nF; have m22 := hQ.2.1.nW; have m23 := hQ.2.1.nT; have m24 := hQ.2.1.nP
  have z0 : (wr μ 63 0 0) 63 0 = 0 := rfl
  have gw : 0 ≤ ic 1 ∧ ic 1 ≤ 11 := w2_in (n := 11) (by decide) (by decide)
  simp (disch := omega) only [f_m_told, wm_1 gw, may_1 (show ¬ (1 : Int32) = 0 by decide) z0, show ¬ (1 : Int32) = 0 by decide, e_q_take hN, hM.nW, wb_e, ib_e, ibL_e, ob_e, nz4, inb_e, inb_lit, ic_n, n_lit, ic_1, lit_add, add_lit, lit_mul, mul_lit, ic_add, ic_mul, ic_le, ic_lt, ic_eq, lit_le, le_lit, lit_lt, lt_lit, lit_eq, eq_lit, ic_m1, m1_ic, ic_lt0, ic_0le, b2_0, b2_1, b2_bl, sh_e, Nat.not_lt_zero, Nat.zero_le, Nat.reduceEqDiff, Nat.reduceAdd, Nat.reduceMul, Nat.reduceSub, Nat.reduceLT, Nat.reduceLeDiff, reduceIte, ne_eq, not_false_eq_true, not_true_eq_false, if_true, if_false, Nat.zero_add]
  skip
theorem x_told_2 {N : Nat} {μ : sw_M} {F W T P : Nat} {K O : Nat → Int32} {nl nb : Nat} (hN : 5000 ≤ N) (hQ : QI μ F W T P K O nl nb)  : f_x_told N μ (ic 2) = some (.inl (ic T, μ)) := by
  obtain ⟨hC, hX, hS, hD, hM, hL, hXL⟩ := qm_ctx hQ
  have hF' := hC.f8; have hW' := hC.w12; have hT' := hC.t6; have hP' := hC.p5
  have m21 := hQ.2.1.nF; have m22 := hQ.2.1.nW; have m23 := hQ.2.1.nT; have m24 := hQ.2.1.nP
  have z0 : (wr μ 63 0 0) 63 0 = 0 := rfl
  have gw : 0 ≤ ic 2 ∧ ic 2 ≤ 11 := w2_in (n := 11) (by decide) (by decide)
  simp (disch := omega) only [f_x_told, tb_l, g_needWhat_1 gw, hX.nT hC, wb_e, ib_e, ibL_e, ob_e, nz4, inb_e, inb_lit, ic_n, n_lit, ic_1, lit_add, add_lit, lit_mul, mul_lit, ic_add, ic_mul, ic_le, ic_lt, ic_eq, lit_le, le_lit, lit_lt, lt_lit, lit_eq, eq_lit, ic_m1, m1_ic, ic_lt0, ic_0le, b2_0, b2_1, b2_bl, sh_e, Nat.not_lt_zero, Nat.zero_le, Nat.reduceEqDiff, Nat.reduceAdd, Nat.reduceMul, Nat.reduceSub, Nat.reduceLT, Nat.reduceLeDiff, reduceIte, ne_eq, not_false_eq_true, not_true_eq_false, if_true, if_false, Nat.zero_add]
  skip
theorem m_told_2 {N : Nat} {μ : sw_M} {F W T P : Nat} {K O : Nat → Int32} {nl nb : Nat} (hN : 5000 ≤ N) (hQ : QI μ F W T P K O nl nb)  : f_m_told N μ (ic 2) = some (ic T, qm μ) := by
  obtain ⟨hC, hX, hS, hD, hM, hL, hXL⟩ := qm_ctx hQ
  have hF' := hC.f8; have hW' := hC.w12; have hT' := hC.t6; have hP' := hC.p5
  have m21 := hQ.2.1.nF; have m22 := hQ.2.1.nW; have m23 := hQ.2.1.nT; have m24 := hQ.2.1.nP
  have z0 : (wr μ 63 0 0) 63 0 = 0 := rfl
  have gw : 0 ≤ ic 2 ∧ ic 2 ≤ 11 := w2_in (n := 11) (by decide) (by decide)
  simp (disch := omega) only [f_m_told, wm_1 gw, may_1 (show ¬ (1 : Int32) = 0 by decide) z0, show ¬ (1 : Int32) = 0 by decide, e_q_take hN, hM.nT, wb_e, ib_e, ibL_e, ob_e, nz4, inb_e, inb_lit, ic_n, n_lit, ic_1, lit_add, add_lit, lit_mul, mul_lit, ic_add, ic_mul, ic_le, ic_lt, ic_eq, lit_le, le_lit, lit_lt, lt_lit, lit_eq, eq_lit, ic_m1, m1_ic, ic_lt0, ic_0le, b2_0, b2_1, b2_bl, sh_e, Nat.not_lt_zero, Nat.zero_le, Nat.reduceEqDiff, Nat.reduceAdd, Nat.reduceMul, Nat.reduceSub, Nat.reduceLT, Nat.reduceLeDiff, reduceIte, ne_eq, not_false_eq_true, not_true_eq_false, if_true, if_false, Nat.zero_add]
  skip
theorem x_told_3 {N : Nat} {μ : sw_M} {F W T P : Nat} {K O : Nat → Int32} {nl nb : Nat} (hN : 5000 ≤ N) (hQ : QI μ F W T P K O nl nb)  : f_x_told N μ (ic 3) = some (.inl (ic P, μ)) := by
  obtain ⟨hC, hX, hS, hD, hM, hL, hXL⟩ := qm_ctx hQ
  have hF' := hC.f8; have hW' := hC.w12; have hT' := hC.t6; have hP' := hC.p5
  have m21 := hQ.2.1.nF; have m22 := hQ.2.1.nW; have m23 := hQ.2.1.nT; have m24 := hQ.2.1.nP
  have z0 : (wr μ 63 0 0) 63 0 = 0 := rfl
  have gw : 0 ≤ ic 3 ∧ ic 3 ≤ 11 := w2_in (n := 11) (by decide) (by decide)
  simp (disch := omega) only [f_x_told, tb_l, g_needWhat_1 gw, hX.nP hC, wb_e, ib_e, ibL_e, ob_e, nz4, inb_e, inb_lit, ic_n, n_lit, ic_1, lit_add, add_lit, lit_mul, mul_lit, ic_add, ic_mul, ic_le, ic_lt, ic_eq, lit_le, le_lit, lit_lt, lt_lit, lit_eq, eq_lit, ic_m1, m1_ic, ic_lt0, ic_0le, b2_0, b2_1, b2_bl, sh_e, Nat.not_lt_zero, Nat.zero_le, Nat.reduceEqDiff, Nat.reduceAdd, Nat.reduceMul, Nat.reduceSub, Nat.reduceLT, Nat.reduceLeDiff, reduceIte, ne_eq, not_false_eq_true, not_true_eq_false, if_true, if_false, Nat.zero_add]
  skip
theorem m_told_3 {N : Nat} {μ : sw_M} {F W T P : Nat} {K O : Nat → Int32} {nl nb : Nat} (hN : 5000 ≤ N) (hQ : QI μ F W T P K O nl nb)  : f_m_told N μ (ic 3) = some (ic P, qm μ) := by
  obtain ⟨hC, hX, hS, hD, hM, hL, hXL⟩ := qm_ctx hQ
  have hF' := hC.f8; have hW' := hC.w12; have hT' := hC.t6; have hP' := hC.p5
  have m21 := hQ.2.1.nF; have m22 := hQ.2.1.nW; have m23 := hQ.2.1.nT; have m24 := hQ.2.1.nP
  have z0 : (wr μ 63 0 0) 63 0 = 0 := rfl
  have gw : 0 ≤ ic 3 ∧ ic 3 ≤ 11 := w2_in (n := 11) (by decide) (by decide)
  simp (disch := omega) only [f_m_told, wm_1 gw, may_1 (show ¬ (1 : Int32) = 0 by decide) z0, show ¬ (1 : Int32) = 0 by decide, e_q_take hN, hM.nP, wb_e, ib_e, ibL_e, ob_e, nz4, inb_e, inb_lit, ic_n, n_lit, ic_1, lit_add, add_lit, lit_mul, mul_lit, ic_add, ic_mul, ic_le, ic_lt, ic_eq, lit_le, le_lit, lit_lt, lt_lit, lit_eq, eq_lit, ic_m1, m1_ic, ic_lt0, ic_0le, b2_0, b2_1, b2_bl, sh_e, Nat.not_lt_zero, Nat.zero_le, Nat.reduceEqDiff, Nat.reduceAdd, Nat.reduceMul, Nat.reduceSub, Nat.reduceLT, Nat.reduceLeDiff, reduceIte, ne_eq, not_false_eq_true, not_true_eq_false, if_true, if_false, Nat.zero_add]
  skip
theorem x_told_4 {N : Nat} {μ : sw_M} {F W T P : Nat} {K O : Nat → Int32} {nl nb : Nat} (hN : 5000 ≤ N) (hQ : QI μ F W T P K O nl nb)  : f_x_told N μ (ic 4) = some (.inl (((qm μ) 81) 48, μ)) := by
  obtain ⟨hC, hX, hS, hD, hM, hL, hXL⟩ := qm_ctx hQ
  have hF' := hC.f8; have hW' := hC.w12; have hT' := hC.t6; have hP' := hC.p5
  have m21 := hQ.2.1.nF; have m22 := hQ.2.1.nW; have m23 := hQ.2.1.nT; have m24 := hQ.2.1.nP
  have z0 : (wr μ 63 0 0) 63 0 = 0 := rfl
  have gw : 0 ≤ ic 4 ∧ ic 4 ≤ 11 := w2_in (n := 11) (by decide) (by decide)
  simp (disch := omega) only [f_x_told, tb_l, g_needWhat_1 gw, hD.dh, wb_e, ib_e, ibL_e, ob_e, nz4, inb_e, inb_lit, ic_n, n_lit, ic_1, lit_add, add_lit, lit_mul, mul_lit, ic_add, ic_mul, ic_le, ic_lt, ic_eq, lit_le, le_lit, lit_lt, lt_lit, lit_eq, eq_lit, ic_m1, m1_ic, ic_lt0, ic_0le, b2_0, b2_1, b2_bl, sh_e, Nat.not_lt_zero, Nat.zero_le, Nat.reduceEqDiff, Nat.reduceAdd, Nat.reduceMul, Nat.reduceSub, Nat.reduceLT, Nat.reduceLeDiff, reduceIte, ne_eq, not_false_eq_true, not_true_eq_false, if_true, if_false, Nat.zero_add]
  skip
theorem m_told_4 {N : Nat} {μ : sw_M} {F W T P : Nat} {K O : Nat → Int32} {nl nb : Nat} (hN : 5000 ≤ N) (hQ : QI μ F W T P K O nl nb)  : f_m_told N μ (ic 4) = some (((qm μ) 81) 48, qm μ) := by
  obtain ⟨hC, hX, hS, hD, hM, hL, hXL⟩ := qm_ctx hQ
  have hF' := hC.f8; have hW' := hC.w12; have hT' := hC.t6; have hP' := hC.p5
  have m21 := hQ.2.1.nF; have m22 := hQ.2.1.nW; have m23 := hQ.2.1.nT; have m24 := hQ.2.1.nP
  have z0 : (wr μ 63 0 0) 63 0 = 0 := rfl
  have gw : 0 ≤ ic 4 ∧ ic 4 ≤ 11 := w2_in (n := 11) (by decide) (by decide)
  simp (disch := omega) only [f_m_told, wm_1 gw, may_1 (show ¬ (1 : Int32) = 0 by decide) z0, show ¬ (1 : Int32) = 0 by decide, e_q_take hN, wb_e, ib_e, ibL_e, ob_e, nz4, inb_e, inb_lit, ic_n, n_lit, ic_1, lit_add, add_lit, lit_mul, mul_lit, ic_add, ic_mul, ic_le, ic_lt, ic_eq, lit_le, le_lit, lit_lt, lt_lit, lit_eq, eq_lit, ic_m1, m1_ic, ic_lt0, ic_0le, b2_0, b2_1, b2_bl, sh_e, Nat.not_lt_zero, Nat.zero_le, Nat.reduceEqDiff, Nat.reduceAdd, Nat.reduceMul, Nat.reduceSub, Nat.reduceLT, Nat.reduceLeDiff, reduceIte, ne_eq, not_false_eq_true, not_true_eq_false, if_true, if_false, Nat.zero_add]
  skip
theorem x_told_5 {N : Nat} {μ : sw_M} {F W T P : Nat} {K O : Nat → Int32} {nl nb : Nat} (hN : 5000 ≤ N) (hQ : QI μ F W T P K O nl nb)  : f_x_told N μ (ic 5) = some (.inl (liveB W ((qm μ) 81) 0, μ)) := by
  obtain ⟨hC, hX, hS, hD, hM, hL, hXL⟩ := qm_ctx hQ
  have hF' := hC.f8; have hW' := hC.w12; have hT' := hC.t6; have hP' := hC.p5
  have m21 := hQ.2.1.nF; have m22 := hQ.2.1.nW; have m23 := hQ.2.1.nT; have m24 := hQ.2.1.nP
  have z0 : (wr μ 63 0 0) 63 0 = 0 := rfl
  have gw : 0 ≤ ic 5 ∧ ic 5 ≤ 11 := w2_in (n := 11) (by decide) (by decide)
  simp (disch := omega) only [f_x_told, tb_l, g_needWhat_1 gw, e_days_liveBits hN hC hX hS hD 0, wb_e, ib_e, ibL_e, ob_e, nz4, inb_e, inb_lit, ic_n, n_lit, ic_1, lit_add, add_lit, lit_mul, mul_lit, ic_add, ic_mul, ic_le, ic_lt, ic_eq, lit_le, le_lit, lit_lt, lt_lit, lit_eq, eq_lit, ic_m1, m1_ic, ic_lt0, ic_0le, b2_0, b2_1, b2_bl, sh_e, Nat.not_lt_zero, Nat.zero_le, Nat.reduceEqDiff, Nat.reduceAdd, Nat.reduceMul, Nat.reduceSub, Nat.reduceLT, Nat.reduceLeDiff, reduceIte, ne_eq, not_false_eq_true, not_true_eq_false, if_true, if_false, Nat.zero_add]
  skip
theorem m_told_5 {N : Nat} {μ : sw_M} {F W T P : Nat} {K O : Nat → Int32} {nl nb : Nat} (hN : 5000 ≤ N) (hQ : QI μ F W T P K O nl nb)  : f_m_told N μ (ic 5) = some (liveB W ((qm μ) 81) 0, qm μ) := by
  obtain ⟨hC, hX, hS, hD, hM, hL, hXL⟩ := qm_ctx hQ
  have hF' := hC.f8; have hW' := hC.w12; have hT' := hC.t6; have hP' := hC.p5
  have m21 := hQ.2.1.nF; have m22 := hQ.2.1.nW; have m23 := hQ.2.1.nT; have m24 := hQ.2.1.nP
  have z0 : (wr μ 63 0 0) 63 0 = 0 := rfl
  have gw : 0 ≤ ic 5 ∧ ic 5 ≤ 11 := w2_in (n := 11) (by decide) (by decide)
  simp (disch := omega) only [f_m_told, wm_1 gw, may_1 (show ¬ (1 : Int32) = 0 by decide) z0, show ¬ (1 : Int32) = 0 by decide, e_q_take hN, e_m_liveIn hN hC hM hS 0, wb_e, ib_e, ibL_e, ob_e, nz4, inb_e, inb_lit, ic_n, n_lit, ic_1, lit_add, add_lit, lit_mul, mul_lit, ic_add, ic_mul, ic_le, ic_lt, ic_eq, lit_le, le_lit, lit_lt, lt_lit, lit_eq, eq_lit, ic_m1, m1_ic, ic_lt0, ic_0le, b2_0, b2_1, b2_bl, sh_e, Nat.not_lt_zero, Nat.zero_le, Nat.reduceEqDiff, Nat.reduceAdd, Nat.reduceMul, Nat.reduceSub, Nat.reduceLT, Nat.reduceLeDiff, reduceIte, ne_eq, not_false_eq_true, not_true_eq_false, if_true, if_false, Nat.zero_add]
  skip
theorem x_told_6 {N : Nat} {μ : sw_M} {F W T P : Nat} {K O : Nat → Int32} {nl nb : Nat} (hN : 5000 ≤ N) (hQ : QI μ F W T P K O nl nb)  : f_x_told N μ (ic 6) = some (.inl (cutS W ((qm μ) 81), μ)) := by
  obtain ⟨hC, hX, hS, hD, hM, hL, hXL⟩ := qm_ctx hQ
  have hF' := hC.f8; have hW' := hC.w12; have hT' := hC.t6; have hP' := hC.p5
  have m21 := hQ.2.1.nF; have m22 := hQ.2.1.nW; have m23 := hQ.2.1.nT; have m24 := hQ.2.1.nP
  have z0 : (wr μ 63 0 0) 63 0 = 0 := rfl
  have gw : 0 ≤ ic 6 ∧ ic 6 ≤ 11 := w2_in (n := 11) (by decide) (by decide)
  simp (disch := omega) only [f_x_told, tb_l, g_needWhat_1 gw, hD.dc, wb_e, ib_e, ibL_e, ob_e, nz4, inb_e, inb_lit, ic_n, n_lit, ic_1, lit_add, add_lit, lit_mul, mul_lit, ic_add, ic_mul, ic_le, ic_lt, ic_eq, lit_le, le_lit, lit_lt, lt_lit, lit_eq, eq_lit, ic_m1, m1_ic, ic_lt0, ic_0le, b2_0, b2_1, b2_bl, sh_e, Nat.not_lt_zero, Nat.zero_le, Nat.reduceEqDiff, Nat.reduceAdd, Nat.reduceMul, Nat.reduceSub, Nat.reduceLT, Nat.reduceLeDiff, reduceIte, ne_eq, not_false_eq_true, not_true_eq_false, if_true, if_false, Nat.zero_add]
  skip
theorem m_told_6 {N : Nat} {μ : sw_M} {F W T P : Nat} {K O : Nat → Int32} {nl nb : Nat} (hN : 5000 ≤ N) (hQ : QI μ F W T P K O nl nb)  : f_m_told N μ (ic 6) = some (cutS W ((qm μ) 81), qm μ) := by
  obtain ⟨hC, hX, hS, hD, hM, hL, hXL⟩ := qm_ctx hQ
  have hF' := hC.f8; have hW' := hC.w12; have hT' := hC.t6; have hP' := hC.p5
  have m21 := hQ.2.1.nF; have m22 := hQ.2.1.nW; have m23 := hQ.2.1.nT; have m24 := hQ.2.1.nP
  have z0 : (wr μ 63 0 0) 63 0 = 0 := rfl
  have gw : 0 ≤ ic 6 ∧ ic 6 ≤ 11 := w2_in (n := 11) (by decide) (by decide)
  simp (disch := omega) only [f_m_told, wm_1 gw, may_1 (show ¬ (1 : Int32) = 0 by decide) z0, show ¬ (1 : Int32) = 0 by decide, e_q_take hN, e_m_cutNow hN hC hM hS, wb_e, ib_e, ibL_e, ob_e, nz4, inb_e, inb_lit, ic_n, n_lit, ic_1, lit_add, add_lit, lit_mul, mul_lit, ic_add, ic_mul, ic_le, ic_lt, ic_eq, lit_le, le_lit, lit_lt, lt_lit, lit_eq, eq_lit, ic_m1, m1_ic, ic_lt0, ic_0le, b2_0, b2_1, b2_bl, sh_e, Nat.not_lt_zero, Nat.zero_le, Nat.reduceEqDiff, Nat.reduceAdd, Nat.reduceMul, Nat.reduceSub, Nat.reduceLT, Nat.reduceLeDiff, reduceIte, ne_eq, not_false_eq_true, not_true_eq_false, if_true, if_false, Nat.zero_add]
  skip
theorem x_told_7 {N : Nat} {μ : sw_M} {F W T P : Nat} {K O : Nat → Int32} {nl nb : Nat} (hN : 5000 ≤ N) (hQ : QI μ F W T P K O nl nb)  : f_x_told N μ (ic 7) = some (.inl (((qm μ) 81) 46, μ)) := by
  obtain ⟨hC, hX, hS, hD, hM, hL, hXL⟩ := qm_ctx hQ
  have hF' := hC.f8; have hW' := hC.w12; have hT' := hC.t6; have hP' := hC.p5
  have m21 := hQ.2.1.nF; have m22 := hQ.2.1.nW; have m23 := hQ.2.1.nT; have m24 := hQ.2.1.nP
  have z0 : (wr μ 63 0 0) 63 0 = 0 := rfl
  have gw : 0 ≤ ic 7 ∧ ic 7 ≤ 11 := w2_in (n := 11) (by decide) (by decide)
  simp (disch := omega) only [f_x_told, tb_l, g_needWhat_1 gw, hD.dp, wb_e, ib_e, ibL_e, ob_e, nz4, inb_e, inb_lit, ic_n, n_lit, ic_1, lit_add, add_lit, lit_mul, mul_lit, ic_add, ic_mul, ic_le, ic_lt, ic_eq, lit_le, le_lit, lit_lt, lt_lit, lit_eq, eq_lit, ic_m1, m1_ic, ic_lt0, ic_0le, b2_0, b2_1, b2_bl, sh_e, Nat.not_lt_zero, Nat.zero_le, Nat.reduceEqDiff, Nat.reduceAdd, Nat.reduceMul, Nat.reduceSub, Nat.reduceLT, Nat.reduceLeDiff, reduceIte, ne_eq, not_false_eq_true, not_true_eq_false, if_true, if_false, Nat.zero_add]
  skip
theorem m_told_7 {N : Nat} {μ : sw_M} {F W T P : Nat} {K O : Nat → Int32} {nl nb : Nat} (hN : 5000 ≤ N) (hQ : QI μ F W T P K O nl nb)  : f_m_told N μ (ic 7) = some (((qm μ) 81) 46, qm μ) := by
  obtain ⟨hC, hX, hS, hD, hM, hL, hXL⟩ := qm_ctx hQ
  have hF' := hC.f8; have hW' := hC.w12; have hT' := hC.t6; have hP' := hC.p5
  have m21 := hQ.2.1.nF; have m22 := hQ.2.1.nW; have m23 := hQ.2.1.nT; have m24 := hQ.2.1.nP
  have z0 : (wr μ 63 0 0) 63 0 = 0 := rfl
  have gw : 0 ≤ ic 7 ∧ ic 7 ≤ 11 := w2_in (n := 11) (by decide) (by decide)
  simp (disch := omega) only [f_m_told, wm_1 gw, may_1 (show ¬ (1 : Int32) = 0 by decide) z0, show ¬ (1 : Int32) = 0 by decide, e_q_take hN, wb_e, ib_e, ibL_e, ob_e, nz4, inb_e, inb_lit, ic_n, n_lit, ic_1, lit_add, add_lit, lit_mul, mul_lit, ic_add, ic_mul, ic_le, ic_lt, ic_eq, lit_le, le_lit, lit_lt, lt_lit, lit_eq, eq_lit, ic_m1, m1_ic, ic_lt0, ic_0le, b2_0, b2_1, b2_bl, sh_e, Nat.not_lt_zero, Nat.zero_le, Nat.reduceEqDiff, Nat.reduceAdd, Nat.reduceMul, Nat.reduceSub, Nat.reduceLT, Nat.reduceLeDiff, reduceIte, ne_eq, not_false_eq_true, not_true_eq_false, if_true, if_false, Nat.zero_add]
  skip
theorem x_told_8 {N : Nat} {μ : sw_M} {F W T P : Nat} {K O : Nat → Int32} {nl nb : Nat} (hN : 5000 ≤ N) (hQ : QI μ F W T P K O nl nb)  : f_x_told N μ (ic 8) = some (.inl (carB T ((qm μ) 81), μ)) := by
  obtain ⟨hC, hX, hS, hD, hM, hL, hXL⟩ := qm_ctx hQ
  have hF' := hC.f8; have hW' := hC.w12; have hT' := hC.t6; have hP' := hC.p5
  have m21 := hQ.2.1.nF; have m22 := hQ.2.1.nW; have m23 := hQ.2.1.nT; have m24 := hQ.2.1.nP
  have z0 : (wr μ 63 0 0) 63 0 = 0 := rfl
  have gw : 0 ≤ ic 8 ∧ ic 8 ≤ 11 := w2_in (n := 11) (by decide) (by decide)
  simp (disch := omega) only [f_x_told, tb_l, g_needWhat_1 gw, e_days_carriedBits hN hC hX hS hD, wb_e, ib_e, ibL_e, ob_e, nz4, inb_e, inb_lit, ic_n, n_lit, ic_1, lit_add, add_lit, lit_mul, mul_lit, ic_add, ic_mul, ic_le, ic_lt, ic_eq, lit_le, le_lit, lit_lt, lt_lit, lit_eq, eq_lit, ic_m1, m1_ic, ic_lt0, ic_0le, b2_0, b2_1, b2_bl, sh_e, Nat.not_lt_zero, Nat.zero_le, Nat.reduceEqDiff, Nat.reduceAdd, Nat.reduceMul, Nat.reduceSub, Nat.reduceLT, Nat.reduceLeDiff, reduceIte, ne_eq, not_false_eq_true, not_true_eq_false, if_true, if_false, Nat.zero_add]
  skip
theorem m_told_8 {N : Nat} {μ : sw_M} {F W T P : Nat} {K O : Nat → Int32} {nl nb : Nat} (hN : 5000 ≤ N) (hQ : QI μ F W T P K O nl nb)  : f_m_told N μ (ic 8) = some (carB T ((qm μ) 81), qm μ) := by
  obtain ⟨hC, hX, hS, hD, hM, hL, hXL⟩ := qm_ctx hQ
  have hF' := hC.f8; have hW' := hC.w12; have hT' := hC.t6; have hP' := hC.p5
  have m21 := hQ.2.1.nF; have m22 := hQ.2.1.nW; have m23 := hQ.2.1.nT; have m24 := hQ.2.1.nP
  have z0 : (wr μ 63 0 0) 63 0 = 0 := rfl
  have gw : 0 ≤ ic 8 ∧ ic 8 ≤ 11 := w2_in (n := 11) (by decide) (by decide)
  simp (disch := omega) only [f_m_told, wm_1 gw, may_1 (show ¬ (1 : Int32) = 0 by decide) z0, show ¬ (1 : Int32) = 0 by decide, e_q_take hN, e_m_carried hN hC hM hS, wb_e, ib_e, ibL_e, ob_e, nz4, inb_e, inb_lit, ic_n, n_lit, ic_1, lit_add, add_lit, lit_mul, mul_lit, ic_add, ic_mul, ic_le, ic_lt, ic_eq, lit_le, le_lit, lit_lt, lt_lit, lit_eq, eq_lit, ic_m1, m1_ic, ic_lt0, ic_0le, b2_0, b2_1, b2_bl, sh_e, Nat.not_lt_zero, Nat.zero_le, Nat.reduceEqDiff, Nat.reduceAdd, Nat.reduceMul, Nat.reduceSub, Nat.reduceLT, Nat.reduceLeDiff, reduceIte, ne_eq, not_false_eq_true, not_true_eq_false, if_true, if_false, Nat.zero_add]
  skip
theorem x_told_9 {N : Nat} {μ : sw_M} {F W T P : Nat} {K O : Nat → Int32} {nl nb : Nat} (hN : 5000 ≤ N) (hQ : QI μ F W T P K O nl nb)  : f_x_told N μ (ic 9) = some (.inl (ic nb, μ)) := by
  obtain ⟨hC, hX, hS, hD, hM, hL, hXL⟩ := qm_ctx hQ
  have hF' := hC.f8; have hW' := hC.w12; have hT' := hC.t6; have hP' := hC.p5
  have m21 := hQ.2.1.nF; have m22 := hQ.2.1.nW; have m23 := hQ.2.1.nT; have m24 := hQ.2.1.nP
  have z0 : (wr μ 63 0 0) 63 0 = 0 := rfl
  have gw : 0 ≤ ic 9 ∧ ic 9 ≤ 11 := w2_in (n := 11) (by decide) (by decide)
  simp (disch := omega) only [f_x_told, tb_l, g_needWhat_1 gw, hQ.2.2.2.2.2.2.2.1, wb_e, ib_e, ibL_e, ob_e, nz4, inb_e, inb_lit, ic_n, n_lit, ic_1, lit_add, add_lit, lit_mul, mul_lit, ic_add, ic_mul, ic_le, ic_lt, ic_eq, lit_le, le_lit, lit_lt, lt_lit, lit_eq, eq_lit, ic_m1, m1_ic, ic_lt0, ic_0le, b2_0, b2_1, b2_bl, sh_e, Nat.not_lt_zero, Nat.zero_le, Nat.reduceEqDiff, Nat.reduceAdd, Nat.reduceMul, Nat.reduceSub, Nat.reduceLT, Nat.reduceLeDiff, reduceIte, ne_eq, not_false_eq_true, not_true_eq_false, if_true, if_false, Nat.zero_add]
  skip
theorem m_told_9 {N : Nat} {μ : sw_M} {F W T P : Nat} {K O : Nat → Int32} {nl nb : Nat} (hN : 5000 ≤ N) (hQ : QI μ F W T P K O nl nb)  : f_m_told N μ (ic 9) = some (ic nb, qm μ) := by
  obtain ⟨hC, hX, hS, hD, hM, hL, hXL⟩ := qm_ctx hQ
  have hF' := hC.f8; have hW' := hC.w12; have hT' := hC.t6; have hP' := hC.p5
  have m21 := hQ.2.1.nF; have m22 := hQ.2.1.nW; have m23 := hQ.2.1.nT; have m24 := hQ.2.1.nP
  have z0 : (wr μ 63 0 0) 63 0 = 0 := rfl
  have gw : 0 ≤ ic 9 ∧ ic 9 ≤ 11 := w2_in (n := 11) (by decide) (by decide)
  simp (disch := omega) only [f_m_told, wm_1 gw, may_1 (show ¬ (1 : Int32) = 0 by decide) z0, show ¬ (1 : Int32) = 0 by decide, e_q_take hN, show (qm μ) 63 46 = ic nb from hQ.2.2.2.2.2.2.2.2.1, wb_e, ib_e, ibL_e, ob_e, nz4, inb_e, inb_lit, ic_n, n_lit, ic_1, lit_add, add_lit, lit_mul, mul_lit, ic_add, ic_mul, ic_le, ic_lt, ic_eq, lit_le, le_lit, lit_lt, lt_lit, lit_eq, eq_lit, ic_m1, m1_ic, ic_lt0, ic_0le, b2_0, b2_1, b2_bl, sh_e, Nat.not_lt_zero, Nat.zero_le, Nat.reduceEqDiff, Nat.reduceAdd, Nat.reduceMul, Nat.reduceSub, Nat.reduceLT, Nat.reduceLeDiff, reduceIte, ne_eq, not_false_eq_true, not_true_eq_false, if_true, if_false, Nat.zero_add]
  skip
theorem x_told_11 {N : Nat} {μ : sw_M} {F W T P : Nat} {K O : Nat → Int32} {nl nb : Nat} (hN : 5000 ≤ N) (hQ : QI μ F W T P K O nl nb)  : f_x_told N μ (ic 11) = some (.inl (((qm μ) 81) 47, μ)) := by
  obtain ⟨hC, hX, hS, hD, hM, hL, hXL⟩ := qm_ctx hQ
  have hF' := hC.f8; have hW' := hC.w12; have hT' := hC.t6; have hP' := hC.p5
  have m21 := hQ.2.1.nF; have m22 := hQ.2.1.nW; have m23 := hQ.2.1.nT; have m24 := hQ.2.1.nP
  have z0 : (wr μ 63 0 0) 63 0 = 0 := rfl
  have gw : 0 ≤ ic 11 ∧ ic 11 ≤ 11 := w2_in (n := 11) (by decide) (by decide)
  simp (disch := omega) only [f_x_told, tb_l, g_needWhat_1 gw, hD.dx, wb_e, ib_e, ibL_e, ob_e, nz4, inb_e, inb_lit, ic_n, n_lit, ic_1, lit_add, add_lit, lit_mul, mul_lit, ic_add, ic_mul, ic_le, ic_lt, ic_eq, lit_le, le_lit, lit_lt, lt_lit, lit_eq, eq_lit, ic_m1, m1_ic, ic_lt0, ic_0le, b2_0, b2_1, b2_bl, sh_e, Nat.not_lt_zero, Nat.zero_le, Nat.reduceEqDiff, Nat.reduceAdd, Nat.reduceMul, Nat.reduceSub, Nat.reduceLT, Nat.reduceLeDiff, reduceIte, ne_eq, not_false_eq_true, not_true_eq_false, if_true, if_false, Nat.zero_add]
  skip
theorem m_told_11 {N : Nat} {μ : sw_M} {F W T P : Nat} {K O : Nat → Int32} {nl nb : Nat} (hN : 5000 ≤ N) (hQ : QI μ F W T P K O nl nb)  : f_m_told N μ (ic 11) = some (((qm μ) 81) 47, qm μ) := by
  obtain ⟨hC, hX, hS, hD, hM, hL, hXL⟩ := qm_ctx hQ
  have hF' := hC.f8; have hW' := hC.w12; have hT' := hC.t6; have hP' := hC.p5
  have m21 := hQ.2.1.nF; have m22 := hQ.2.1.nW; have m23 := hQ.2.1.nT; have m24 := hQ.2.1.nP
  have z0 : (wr μ 63 0 0) 63 0 = 0 := rfl
  have gw : 0 ≤ ic 11 ∧ ic 11 ≤ 11 := w2_in (n := 11) (by decide) (by decide)
  simp (disch := omega) only [f_m_told, wm_1 gw, may_1 (show ¬ (1 : Int32) = 0 by decide) z0, show ¬ (1 : Int32) = 0 by decide, e_q_take hN, wb_e, ib_e, ibL_e, ob_e, nz4, inb_e, inb_lit, ic_n, n_lit, ic_1, lit_add, add_lit, lit_mul, mul_lit, ic_add, ic_mul, ic_le, ic_lt, ic_eq, lit_le, le_lit, lit_lt, lt_lit, lit_eq, eq_lit, ic_m1, m1_ic, ic_lt0, ic_0le, b2_0, b2_1, b2_bl, sh_e, Nat.not_lt_zero, Nat.zero_le, Nat.reduceEqDiff, Nat.reduceAdd, Nat.reduceMul, Nat.reduceSub, Nat.reduceLT, Nat.reduceLeDiff, reduceIte, ne_eq, not_false_eq_true, not_true_eq_false, if_true, if_false, Nat.zero_add]
  skip
theorem x_field_0 {N : Nat} {μ : sw_M} {F W T P : Nat} {K O : Nat → Int32} {nl nb : Nat} (hN : 5000 ≤ N) (hQ : QI μ F W T P K O nl nb) {f : Nat} (hf : f < F) : f_x_field N μ (ic f) (ic 0) = some (.inl (lieB T ((qm μ) 81) (ic f), μ)) := by
  obtain ⟨hC, hX, hS, hD, hM, hL, hXL⟩ := qm_ctx hQ
  have hF' := hC.f8; have hW' := hC.w12; have hT' := hC.t6; have hP' := hC.p5
  have m21 := hQ.2.1.nF; have m22 := hQ.2.1.nW; have m23 := hQ.2.1.nT; have m24 := hQ.2.1.nP
  have z0 : (wr μ 63 0 0) 63 0 = 0 := rfl
  have gF : 0 ≤ ic f ∧ ic f ≤ ic F - 1 := wn_in (show f < F by omega) (by omega); have gw : 0 ≤ ic 0 ∧ ic 0 ≤ 3 := w2_in (n := 3) (by decide) (by decide)
  simp (disch := omega) only [f_x_field, tb_l, g_needField_1 (N := N) (μ := μ) (hX.nF hC) gF, g_needWhat_1 gw, e_days_lyingBits hN hC hX hS hD (ic f), wb_e, ib_e, ibL_e, ob_e, nz4, inb_e, inb_lit, ic_n, n_lit, ic_1, lit_add, add_lit, lit_mul, mul_lit, ic_add, ic_mul, ic_le, ic_lt, ic_eq, lit_le, le_lit, lit_lt, lt_lit, lit_eq, eq_lit, ic_m1, m1_ic, ic_lt0, ic_0le, b2_0, b2_1, b2_bl, sh_e, Nat.not_lt_zero, Nat.zero_le, Nat.reduceEqDiff, Nat.reduceAdd, Nat.reduceMul, Nat.reduceSub, Nat.reduceLT, Nat.reduceLeDiff, reduceIte, ne_eq, not_false_eq_true, not_true_eq_false, if_true, if_false, Nat.zero_add]
  skip
theorem m_field_0 {N : Nat} {μ : sw_M} {F W T P : Nat} {K O : Nat → Int32} {nl nb : Nat} (hN : 5000 ≤ N) (hQ : QI μ F W T P K O nl nb) {f : Nat} (hf : f < F) : f_m_field N μ (ic f) (ic 0) = some (lieB T ((qm μ) 81) (ic f), qm μ) := by
  obtain ⟨hC, hX, hS, hD, hM, hL, hXL⟩ := qm_ctx hQ
  have hF' := hC.f8; have hW' := hC.w12; have hT' := hC.t6; have hP' := hC.p5
  have m21 := hQ.2.1.nF; have m22 := hQ.2.1.nW; have m23 := hQ.2.1.nT; have m24 := hQ.2.1.nP
  have z0 : (wr μ 63 0 0) 63 0 = 0 := rfl
  have gF : 0 ≤ ic f ∧ ic f ≤ ic F - 1 := wn_in (show f < F by omega) (by omega); have gw : 0 ≤ ic 0 ∧ ic 0 ≤ 3 := w2_in (n := 3) (by decide) (by decide)
  simp (disch := omega) only [f_m_field, h_isField_1 (N := N) (μ := wr μ 63 0 0) m21 z0 gF, wm_1 gw, may_1 (show ¬ (1 : Int32) = 0 by decide) z0, show ¬ (1 : Int32) = 0 by decide, e_q_take hN, f_m_field_44, e_m_lyingIn hN hC hM hS (ic f), wb_e, ib_e, ibL_e, ob_e, nz4, inb_e, inb_lit, ic_n, n_lit, ic_1, lit_add, add_lit, lit_mul, mul_lit, ic_add, ic_mul, ic_le, ic_lt, ic_eq, lit_le, le_lit, lit_lt, lt_lit, lit_eq, eq_lit, ic_m1, m1_ic, ic_lt0, ic_0le, b2_0, b2_1, b2_bl, sh_e, Nat.not_lt_zero, Nat.zero_le, Nat.reduceEqDiff, Nat.reduceAdd, Nat.reduceMul, Nat.reduceSub, Nat.reduceLT, Nat.reduceLeDiff, reduceIte, ne_eq, not_false_eq_true, not_true_eq_false, if_true, if_false, Nat.zero_add]
  skip
theorem x_field_1 {N : Nat} {μ : sw_M} {F W T P : Nat} {K O : Nat → Int32} {nl nb : Nat} (hN : 5000 ≤ N) (hQ : QI μ F W T P K O nl nb) {f : Nat} (hf : f < F) : f_x_field N μ (ic f) (ic 1) = some (.inl (manB P ((qm μ) 81) (ic f), μ)) := by
  obtain ⟨hC, hX, hS, hD, hM, hL, hXL⟩ := qm_ctx hQ
  have hF' := hC.f8; have hW' := hC.w12; have hT' := hC.t6; have hP' := hC.p5
  have m21 := hQ.2.1.nF; have m22 := hQ.2.1.nW; have m23 := hQ.2.1.nT; have m24 := hQ.2.1.nP
  have z0 : (wr μ 63 0 0) 63 0 = 0 := rfl
  have gF : 0 ≤ ic f ∧ ic f ≤ ic F - 1 := wn_in (show f < F by omega) (by omega); have gw : 0 ≤ ic 1 ∧ ic 1 ≤ 3 := w2_in (n := 3) (by decide) (by decide)
  simp (disch := omega) only [f_x_field, tb_l, g_needField_1 (N := N) (μ := μ) (hX.nF hC) gF, g_needWhat_1 gw, e_days_peopleBits hN hC hX hS hD (ic f), wb_e, ib_e, ibL_e, ob_e, nz4, inb_e, inb_lit, ic_n, n_lit, ic_1, lit_add, add_lit, lit_mul, mul_lit, ic_add, ic_mul, ic_le, ic_lt, ic_eq, lit_le, le_lit, lit_lt, lt_lit, lit_eq, eq_lit, ic_m1, m1_ic, ic_lt0, ic_0le, b2_0, b2_1, b2_bl, sh_e, Nat.not_lt_zero, Nat.zero_le, Nat.reduceEqDiff, Nat.reduceAdd, Nat.reduceMul, Nat.reduceSub, Nat.reduceLT, Nat.reduceLeDiff, reduceIte, ne_eq, not_false_eq_true, not_true_eq_false, if_true, if_false, Nat.zero_add]
  skip
theorem m_field_1 {N : Nat} {μ : sw_M} {F W T P : Nat} {K O : Nat → Int32} {nl nb : Nat} (hN : 5000 ≤ N) (hQ : QI μ F W T P K O nl nb) {f : Nat} (hf : f < F) : f_m_field N μ (ic f) (ic 1) = some (manB P ((qm μ) 81) (ic f), qm μ) := by
  obtain ⟨hC, hX, hS, hD, hM, hL, hXL⟩ := qm_ctx hQ
  have hF' := hC.f8; have hW' := hC.w12; have hT' := hC.t6; have hP' := hC.p5
  have m21 := hQ.2.1.nF; have m22 := hQ.2.1.nW; have m23 := hQ.2.1.nT; have m24 := hQ.2.1.nP
  have z0 : (wr μ 63 0 0) 63 0 = 0 := rfl
  have gF : 0 ≤ ic f ∧ ic f ≤ ic F - 1 := wn_in (show f < F by omega) (by omega); have gw : 0 ≤ ic 1 ∧ ic 1 ≤ 3 := w2_in (n := 3) (by decide) (by decide)
  have e9 : f_m_field_88 N N (qm μ) (ic f) 0 0 = _ := lp_m_field_88 hN hC hM hS (ic f) P 0 0 N (by omega) (by omega)
  simp (disch := omega) only [f_m_field, h_isField_1 (N := N) (μ := wr μ 63 0 0) m21 z0 gF, wm_1 gw, may_1 (show ¬ (1 : Int32) = 0 by decide) z0, show ¬ (1 : Int32) = 0 by decide, e_q_take hN, e9, wb_e, ib_e, ibL_e, ob_e, nz4, inb_e, inb_lit, ic_n, n_lit, ic_1, lit_add, add_lit, lit_mul, mul_lit, ic_add, ic_mul, ic_le, ic_lt, ic_eq, lit_le, le_lit, lit_lt, lt_lit, lit_eq, eq_lit, ic_m1, m1_ic, ic_lt0, ic_0le, b2_0, b2_1, b2_bl, sh_e, Nat.not_lt_zero, Nat.zero_le, Nat.reduceEqDiff, Nat.reduceAdd, Nat.reduceMul, Nat.reduceSub, Nat.reduceLT, Nat.reduceLeDiff, reduceIte, ne_eq, not_false_eq_true, not_true_eq_false, if_true, if_false, Nat.zero_add]
  rfl
theorem x_field_2 {N : Nat} {μ : sw_M} {F W T P : Nat} {K O : Nat → Int32} {nl nb : Nat} (hN : 5000 ≤ N) (hQ : QI μ F W T P K O nl nb) {f : Nat} (hf : f < F) : f_x_field N μ (ic f) (ic 2) = some (.inl (atN W μ (ic f), μ)) := by
  obtain ⟨hC, hX, hS, hD, hM, hL, hXL⟩ := qm_ctx hQ
  have hF' := hC.f8; have hW' := hC.w12; have hT' := hC.t6; have hP' := hC.p5
  have m21 := hQ.2.1.nF; have m22 := hQ.2.1.nW; have m23 := hQ.2.1.nT; have m24 := hQ.2.1.nP
  have z0 : (wr μ 63 0 0) 63 0 = 0 := rfl
  have gF : 0 ≤ ic f ∧ ic f ≤ ic F - 1 := wn_in (show f < F by omega) (by omega); have gw : 0 ≤ ic 2 ∧ ic 2 ≤ 3 := w2_in (n := 3) (by decide) (by decide)
  simp (disch := omega) only [f_x_field, tb_l, g_needField_1 (N := N) (μ := μ) (hX.nF hC) gF, g_needWhat_1 gw, e_land_wiresAt hN hC hX (ic f), wb_e, ib_e, ibL_e, ob_e, nz4, inb_e, inb_lit, ic_n, n_lit, ic_1, lit_add, add_lit, lit_mul, mul_lit, ic_add, ic_mul, ic_le, ic_lt, ic_eq, lit_le, le_lit, lit_lt, lt_lit, lit_eq, eq_lit, ic_m1, m1_ic, ic_lt0, ic_0le, b2_0, b2_1, b2_bl, sh_e, Nat.not_lt_zero, Nat.zero_le, Nat.reduceEqDiff, Nat.reduceAdd, Nat.reduceMul, Nat.reduceSub, Nat.reduceLT, Nat.reduceLeDiff, reduceIte, ne_eq, not_false_eq_true, not_true_eq_false, if_true, if_false, Nat.zero_add]
  skip
theorem m_field_2 {N : Nat} {μ : sw_M} {F W T P : Nat} {K O : Nat → Int32} {nl nb : Nat} (hN : 5000 ≤ N) (hQ : QI μ F W T P K O nl nb) {f : Nat} (hf : f < F) : f_m_field N μ (ic f) (ic 2) = some (atN W μ (ic f), qm μ) := by
  obtain ⟨hC, hX, hS, hD, hM, hL, hXL⟩ := qm_ctx hQ
  have hF' := hC.f8; have hW' := hC.w12; have hT' := hC.t6; have hP' := hC.p5
  have m21 := hQ.2.1.nF; have m22 := hQ.2.1.nW; have m23 := hQ.2.1.nT; have m24 := hQ.2.1.nP
  have z0 : (wr μ 63 0 0) 63 0 = 0 := rfl
  have gF : 0 ≤ ic f ∧ ic f ≤ ic F - 1 := wn_in (show f < F by omega) (by omega); have gw : 0 ≤ ic 2 ∧ ic 2 ≤ 3 := w2_in (n := 3) (by decide) (by decide)
  simp (disch := omega) only [f_m_field, h_isField_1 (N := N) (μ := wr μ 63 0 0) m21 z0 gF, wm_1 gw, may_1 (show ¬ (1 : Int32) = 0 by decide) z0, show ¬ (1 : Int32) = 0 by decide, e_q_take hN, f_m_field_44, e_m_wiresAt hN hC hM (ic f), wb_e, ib_e, ibL_e, ob_e, nz4, inb_e, inb_lit, ic_n, n_lit, ic_1, lit_add, add_lit, lit_mul, mul_lit, ic_add, ic_mul, ic_le, ic_lt, ic_eq, lit_le, le_lit, lit_lt, lt_lit, lit_eq, eq_lit, ic_m1, m1_ic, ic_lt0, ic_0le, b2_0, b2_1, b2_bl, sh_e, Nat.not_lt_zero, Nat.zero_le, Nat.reduceEqDiff, Nat.reduceAdd, Nat.reduceMul, Nat.reduceSub, Nat.reduceLT, Nat.reduceLeDiff, reduceIte, ne_eq, not_false_eq_true, not_true_eq_false, if_true, if_false, Nat.zero_add]
  skip
theorem x_field_3 {N : Nat} {μ : sw_M} {F W T P : Nat} {K O : Nat → Int32} {nl nb : Nat} (hN : 5000 ≤ N) (hQ : QI μ F W T P K O nl nb) {f : Nat} (hf : f < F) : f_x_field N μ (ic f) (ic 3) = some (.inl (spr W μ ((qm μ) 81) (sh f) 0 0 &&& (sh f ^^^ -1), μ)) := by
  obtain ⟨hC, hX, hS, hD, hM, hL, hXL⟩ := qm_ctx hQ
  have hF' := hC.f8; have hW' := hC.w12; have hT' := hC.t6; have hP' := hC.p5
  have m21 := hQ.2.1.nF; have m22 := hQ.2.1.nW; have m23 := hQ.2.1.nT; have m24 := hQ.2.1.nP
  have z0 : (wr μ 63 0 0) 63 0 = 0 := rfl
  have gF : 0 ≤ ic f ∧ ic f ≤ ic F - 1 := wn_in (show f < F by omega) (by omega); have gw : 0 ≤ ic 3 ∧ ic 3 ≤ 3 := w2_in (n := 3) (by decide) (by decide)
  have e9 := e_ways_spread hN hC hX hS hD (sh f) 0 0; rw [Int32.add_zero] at e9
  simp (disch := omega) only [f_x_field, tb_l, g_needField_1 (N := N) (μ := μ) (hX.nF hC) gF, g_needWhat_1 gw, hD.dh, e9, wb_e, ib_e, ibL_e, ob_e, nz4, inb_e, inb_lit, ic_n, n_lit, ic_1, lit_add, add_lit, lit_mul, mul_lit, ic_add, ic_mul, ic_le, ic_lt, ic_eq, lit_le, le_lit, lit_lt, lt_lit, lit_eq, eq_lit, ic_m1, m1_ic, ic_lt0, ic_0le, b2_0, b2_1, b2_bl, sh_e, Nat.not_lt_zero, Nat.zero_le, Nat.reduceEqDiff, Nat.reduceAdd, Nat.reduceMul, Nat.reduceSub, Nat.reduceLT, Nat.reduceLeDiff, reduceIte, ne_eq, not_false_eq_true, not_true_eq_false, if_true, if_false, Nat.zero_add]
  skip
theorem m_field_3 {N : Nat} {μ : sw_M} {F W T P : Nat} {K O : Nat → Int32} {nl nb : Nat} (hN : 5000 ≤ N) (hQ : QI μ F W T P K O nl nb) {f : Nat} (hf : f < F) : f_m_field N μ (ic f) (ic 3) = some (spr W μ ((qm μ) 81) (sh f) 0 0 &&& (sh f ^^^ -1), qm μ) := by
  obtain ⟨hC, hX, hS, hD, hM, hL, hXL⟩ := qm_ctx hQ
  have hF' := hC.f8; have hW' := hC.w12; have hT' := hC.t6; have hP' := hC.p5
  have m21 := hQ.2.1.nF; have m22 := hQ.2.1.nW; have m23 := hQ.2.1.nT; have m24 := hQ.2.1.nP
  have z0 : (wr μ 63 0 0) 63 0 = 0 := rfl
  have gF : 0 ≤ ic f ∧ ic f ≤ ic F - 1 := wn_in (show f < F by omega) (by omega); have gw : 0 ≤ ic 3 ∧ ic 3 ≤ 3 := w2_in (n := 3) (by decide) (by decide)
  simp (disch := omega) only [f_m_field, h_isField_1 (N := N) (μ := wr μ 63 0 0) m21 z0 gF, wm_1 gw, may_1 (show ¬ (1 : Int32) = 0 by decide) z0, show ¬ (1 : Int32) = 0 by decide, e_q_take hN, e_m_onFrom hN hC hM hS (sh f) 0 0, wb_e, ib_e, ibL_e, ob_e, nz4, inb_e, inb_lit, ic_n, n_lit, ic_1, lit_add, add_lit, lit_mul, mul_lit, ic_add, ic_mul, ic_le, ic_lt, ic_eq, lit_le, le_lit, lit_lt, lt_lit, lit_eq, eq_lit, ic_m1, m1_ic, ic_lt0, ic_0le, b2_0, b2_1, b2_bl, sh_e, Nat.not_lt_zero, Nat.zero_le, Nat.reduceEqDiff, Nat.reduceAdd, Nat.reduceMul, Nat.reduceSub, Nat.reduceLT, Nat.reduceLeDiff, reduceIte, ne_eq, not_false_eq_true, not_true_eq_false, if_true, if_false, Nat.zero_add]
  skip
theorem x_wire_0 {N : Nat} {μ : sw_M} {F W T P : Nat} {K O : Nat → Int32} {nl nb : Nat} (hN : 5000 ≤ N) (hQ : QI μ F W T P K O nl nb) {w : Nat} (hw : w < W) : f_x_wire N μ (ic w) (ic 0) = some (.inl (μ 4 w, μ)) := by
  obtain ⟨hC, hX, hS, hD, hM, hL, hXL⟩ := qm_ctx hQ
  have hF' := hC.f8; have hW' := hC.w12; have hT' := hC.t6; have hP' := hC.p5
  have m21 := hQ.2.1.nF; have m22 := hQ.2.1.nW; have m23 := hQ.2.1.nT; have m24 := hQ.2.1.nP
  have z0 : (wr μ 63 0 0) 63 0 = 0 := rfl
  have gW : 0 ≤ ic w ∧ ic w ≤ ic W - 1 := wn_in (show w < W by omega) (by omega); have gw : 0 ≤ ic 0 ∧ ic 0 ≤ 6 := w2_in (n := 6) (by decide) (by decide)
  simp (disch := omega) only [f_x_wire, tb_l, g_needWire_1 (N := N) (μ := μ) (hX.nW hC) gW, g_needWhat_1 gw, at_e (N := N) (k := 4) (n := 12) (μ := μ) (show w < 12 by omega) (by decide), wb_e, ib_e, ibL_e, ob_e, nz4, inb_e, inb_lit, ic_n, n_lit, ic_1, lit_add, add_lit, lit_mul, mul_lit, ic_add, ic_mul, ic_le, ic_lt, ic_eq, lit_le, le_lit, lit_lt, lt_lit, lit_eq, eq_lit, ic_m1, m1_ic, ic_lt0, ic_0le, b2_0, b2_1, b2_bl, sh_e, Nat.not_lt_zero, Nat.zero_le, Nat.reduceEqDiff, Nat.reduceAdd, Nat.reduceMul, Nat.reduceSub, Nat.reduceLT, Nat.reduceLeDiff, reduceIte, ne_eq, not_false_eq_true, not_true_eq_false, if_true, if_false, Nat.zero_add]
  skip
theorem m_wire_0 {N : Nat} {μ : sw_M} {F W T P : Nat} {K O : Nat → Int32} {nl nb : Nat} (hN : 5000 ≤ N) (hQ : QI μ F W T P K O nl nb) {w : Nat} (hw : w < W) : f_m_wire N μ (ic w) (ic 0) = some (μ 4 w, qm μ) := by
  obtain ⟨hC, hX, hS, hD, hM, hL, hXL⟩ := qm_ctx hQ
  have hF' := hC.f8; have hW' := hC.w12; have hT' := hC.t6; have hP' := hC.p5
  have m21 := hQ.2.1.nF; have m22 := hQ.2.1.nW; have m23 := hQ.2.1.nT; have m24 := hQ.2.1.nP
  have z0 : (wr μ 63 0 0) 63 0 = 0 := rfl
  have gW : 0 ≤ ic w ∧ ic w ≤ ic W - 1 := wn_in (show w < W by omega) (by omega); have gw : 0 ≤ ic 0 ∧ ic 0 ≤ 6 := w2_in (n := 6) (by decide) (by decide)
  simp (disch := omega) only [f_m_wire, h_isWire_1 (N := N) (μ := wr μ 63 0 0) m22 z0 gW, wm_1 gw, may_1 (show ¬ (1 : Int32) = 0 by decide) z0, show ¬ (1 : Int32) = 0 by decide, e_q_take hN, Nat.add_zero, hM.w0 hw, wb_e, ib_e, ibL_e, ob_e, nz4, inb_e, inb_lit, ic_n, n_lit, ic_1, lit_add, add_lit, lit_mul, mul_lit, ic_add, ic_mul, ic_le, ic_lt, ic_eq, lit_le, le_lit, lit_lt, lt_lit, lit_eq, eq_lit, ic_m1, m1_ic, ic_lt0, ic_0le, b2_0, b2_1, b2_bl, sh_e, Nat.not_lt_zero, Nat.zero_le, Nat.reduceEqDiff, Nat.reduceAdd, Nat.reduceMul, Nat.reduceSub, Nat.reduceLT, Nat.reduceLeDiff, reduceIte, ne_eq, not_false_eq_true, not_true_eq_false, if_true, if_false, Nat.zero_add]
  skip
theorem x_wire_1 {N : Nat} {μ : sw_M} {F W T P : Nat} {K O : Nat → Int32} {nl nb : Nat} (hN : 5000 ≤ N) (hQ : QI μ F W T P K O nl nb) {w : Nat} (hw : w < W) : f_x_wire N μ (ic w) (ic 1) = some (.inl (μ 5 w, μ)) := by
  obtain ⟨hC, hX, hS, hD, hM, hL, hXL⟩ := qm_ctx hQ
  have hF' := hC.f8; have hW' := hC.w12; have hT' := hC.t6; have hP' := hC.p5
  have m21 := hQ.2.1.nF; have m22 := hQ.2.1.nW; have m23 := hQ.2.1.nT; have m24 := hQ.2.1.nP
  have z0 : (wr μ 63 0 0) 63 0 = 0 := rfl
  have gW : 0 ≤ ic w ∧ ic w ≤ ic W - 1 := wn_in (show w < W by omega) (by omega); have gw : 0 ≤ ic 1 ∧ ic 1 ≤ 6 := w2_in (n := 6) (by decide) (by decide)
  simp (disch := omega) only [f_x_wire, tb_l, g_needWire_1 (N := N) (μ := μ) (hX.nW hC) gW, g_needWhat_1 gw, at_e (N := N) (k := 5) (n := 12) (μ := μ) (show w < 12 by omega) (by decide), wb_e, ib_e, ibL_e, ob_e, nz4, inb_e, inb_lit, ic_n, n_lit, ic_1, lit_add, add_lit, lit_mul, mul_lit, ic_add, ic_mul, ic_le, ic_lt, ic_eq, lit_le, le_lit, lit_lt, lt_lit, lit_eq, eq_lit, ic_m1, m1_ic, ic_lt0, ic_0le, b2_0, b2_1, b2_bl, sh_e, Nat.not_lt_zero, Nat.zero_le, Nat.reduceEqDiff, Nat.reduceAdd, Nat.reduceMul, Nat.reduceSub, Nat.reduceLT, Nat.reduceLeDiff, reduceIte, ne_eq, not_false_eq_true, not_true_eq_false, if_true, if_false, Nat.zero_add]
  skip
theorem m_wire_1 {N : Nat} {μ : sw_M} {F W T P : Nat} {K O : Nat → Int32} {nl nb : Nat} (hN : 5000 ≤ N) (hQ : QI μ F W T P K O nl nb) {w : Nat} (hw : w < W) : f_m_wire N μ (ic w) (ic 1) = some (μ 5 w, qm μ) := by
  obtain ⟨hC, hX, hS, hD, hM, hL, hXL⟩ := qm_ctx hQ
  have hF' := hC.f8; have hW' := hC.w12; have hT' := hC.t6; have hP' := hC.p5
  have m21 := hQ.2.1.nF; have m22 := hQ.2.1.nW; have m23 := hQ.2.1.nT; have m24 := hQ.2.1.nP
  have z0 : (wr μ 63 0 0) 63 0 = 0 := rfl
  have gW : 0 ≤ ic w ∧ ic w ≤ ic W - 1 := wn_in (show w < W by omega) (by omega); have gw : 0 ≤ ic 1 ∧ ic 1 ≤ 6 := w2_in (n := 6) (by decide) (by decide)
  simp (disch := omega) only [f_m_wire, h_isWire_1 (N := N) (μ := wr μ 63 0 0) m22 z0 gW, wm_1 gw, may_1 (show ¬ (1 : Int32) = 0 by decide) z0, show ¬ (1 : Int32) = 0 by decide, e_q_take hN, hM.w1 hw, wb_e, ib_e, ibL_e, ob_e, nz4, inb_e, inb_lit, ic_n, n_lit, ic_1, lit_add, add_lit, lit_mul, mul_lit, ic_add, ic_mul, ic_le, ic_lt, ic_eq, lit_le, le_lit, lit_lt, lt_lit, lit_eq, eq_lit, ic_m1, m1_ic, ic_lt0, ic_0le, b2_0, b2_1, b2_bl, sh_e, Nat.not_lt_zero, Nat.zero_le, Nat.reduceEqDiff, Nat.reduceAdd, Nat.reduceMul, Nat.reduceSub, Nat.reduceLT, Nat.reduceLeDiff, reduceIte, ne_eq, not_false_eq_true, not_true_eq_false, if_true, if_false, Nat.zero_add]
  skip
theorem x_wire_2 {N : Nat} {μ : sw_M} {F W T P : Nat} {K O : Nat → Int32} {nl nb : Nat} (hN : 5000 ≤ N) (hQ : QI μ F W T P K O nl nb) {w : Nat} (hw : w < W) : f_x_wire N μ (ic w) (ic 2) = some (.inl (((qm μ) 81) w, μ)) := by
  obtain ⟨hC, hX, hS, hD, hM, hL, hXL⟩ := qm_ctx hQ
  have hF' := hC.f8; have hW' := hC.w12; have hT' := hC.t6; have hP' := hC.p5
  have m21 := hQ.2.1.nF; have m22 := hQ.2.1.nW; have m23 := hQ.2.1.nT; have m24 := hQ.2.1.nP
  have z0 : (wr μ 63 0 0) 63 0 = 0 := rfl
  have gW : 0 ≤ ic w ∧ ic w ≤ ic W - 1 := wn_in (show w < W by omega) (by omega); have gw : 0 ≤ ic 2 ∧ ic 2 ≤ 6 := w2_in (n := 6) (by decide) (by decide)
  simp (disch := omega) only [f_x_wire, tb_l, g_needWire_1 (N := N) (μ := μ) (hX.nW hC) gW, g_needWhat_1 gw, at_e (N := N) (k := 36) (n := 12) (μ := μ) (show w < 12 by omega) (by decide), hD.dl hw, wb_e, ib_e, ibL_e, ob_e, nz4, inb_e, inb_lit, ic_n, n_lit, ic_1, lit_add, add_lit, lit_mul, mul_lit, ic_add, ic_mul, ic_le, ic_lt, ic_eq, lit_le, le_lit, lit_lt, lt_lit, lit_eq, eq_lit, ic_m1, m1_ic, ic_lt0, ic_0le, b2_0, b2_1, b2_bl, sh_e, Nat.not_lt_zero, Nat.zero_le, Nat.reduceEqDiff, Nat.reduceAdd, Nat.reduceMul, Nat.reduceSub, Nat.reduceLT, Nat.reduceLeDiff, reduceIte, ne_eq, not_false_eq_true, not_true_eq_false, if_true, if_false, Nat.zero_add]
  skip
theorem m_wire_2 {N : Nat} {μ : sw_M} {F W T P : Nat} {K O : Nat → Int32} {nl nb : Nat} (hN : 5000 ≤ N) (hQ : QI μ F W T P K O nl nb) {w : Nat} (hw : w < W) : f_m_wire N μ (ic w) (ic 2) = some (((qm μ) 81) w, qm μ) := by
  obtain ⟨hC, hX, hS, hD, hM, hL, hXL⟩ := qm_ctx hQ
  have hF' := hC.f8; have hW' := hC.w12; have hT' := hC.t6; have hP' := hC.p5
  have m21 := hQ.2.1.nF; have m22 := hQ.2.1.nW; have m23 := hQ.2.1.nT; have m24 := hQ.2.1.nP
  have z0 : (wr μ 63 0 0) 63 0 = 0 := rfl
  have gW : 0 ≤ ic w ∧ ic w ≤ ic W - 1 := wn_in (show w < W by omega) (by omega); have gw : 0 ≤ ic 2 ∧ ic 2 ≤ 6 := w2_in (n := 6) (by decide) (by decide)
  simp (disch := omega) only [f_m_wire, h_isWire_1 (N := N) (μ := wr μ 63 0 0) m22 z0 gW, wm_1 gw, may_1 (show ¬ (1 : Int32) = 0 by decide) z0, show ¬ (1 : Int32) = 0 by decide, e_q_take hN, wb_e, ib_e, ibL_e, ob_e, nz4, inb_e, inb_lit, ic_n, n_lit, ic_1, lit_add, add_lit, lit_mul, mul_lit, ic_add, ic_mul, ic_le, ic_lt, ic_eq, lit_le, le_lit, lit_lt, lt_lit, lit_eq, eq_lit, ic_m1, m1_ic, ic_lt0, ic_0le, b2_0, b2_1, b2_bl, sh_e, Nat.not_lt_zero, Nat.zero_le, Nat.reduceEqDiff, Nat.reduceAdd, Nat.reduceMul, Nat.reduceSub, Nat.reduceLT, Nat.reduceLeDiff, reduceIte, ne_eq, not_false_eq_true, not_true_eq_false, if_true, if_false, Nat.zero_add]
  skip
theorem x_wire_3 {N : Nat} {μ : sw_M} {F W T P : Nat} {K O : Nat → Int32} {nl nb : Nat} (hN : 5000 ≤ N) (hQ : QI μ F W T P K O nl nb) {w : Nat} (hw : w < W) : f_x_wire N μ (ic w) (ic 3) = some (.inl (μ 6 w, μ)) := by
  obtain ⟨hC, hX, hS, hD, hM, hL, hXL⟩ := qm_ctx hQ
  have hF' := hC.f8; have hW' := hC.w12; have hT' := hC.t6; have hP' := hC.p5
  have m21 := hQ.2.1.nF; have m22 := hQ.2.1.nW; have m23 := hQ.2.1.nT; have m24 := hQ.2.1.nP
  have z0 : (wr μ 63 0 0) 63 0 = 0 := rfl
  have gW : 0 ≤ ic w ∧ ic w ≤ ic W - 1 := wn_in (show w < W by omega) (by omega); have gw : 0 ≤ ic 3 ∧ ic 3 ≤ 6 := w2_in (n := 6) (by decide) (by decide)
  simp (disch := omega) only [f_x_wire, tb_l, g_needWire_1 (N := N) (μ := μ) (hX.nW hC) gW, g_needWhat_1 gw, at_e (N := N) (k := 6) (n := 12) (μ := μ) (show w < 12 by omega) (by decide), wb_e, ib_e, ibL_e, ob_e, nz4, inb_e, inb_lit, ic_n, n_lit, ic_1, lit_add, add_lit, lit_mul, mul_lit, ic_add, ic_mul, ic_le, ic_lt, ic_eq, lit_le, le_lit, lit_lt, lt_lit, lit_eq, eq_lit, ic_m1, m1_ic, ic_lt0, ic_0le, b2_0, b2_1, b2_bl, sh_e, Nat.not_lt_zero, Nat.zero_le, Nat.reduceEqDiff, Nat.reduceAdd, Nat.reduceMul, Nat.reduceSub, Nat.reduceLT, Nat.reduceLeDiff, reduceIte, ne_eq, not_false_eq_true, not_true_eq_false, if_true, if_false, Nat.zero_add]
  skip
theorem m_wire_3 {N : Nat} {μ : sw_M} {F W T P : Nat} {K O : Nat → Int32} {nl nb : Nat} (hN : 5000 ≤ N) (hQ : QI μ F W T P K O nl nb) {w : Nat} (hw : w < W) : f_m_wire N μ (ic w) (ic 3) = some (μ 6 w, qm μ) := by
  obtain ⟨hC, hX, hS, hD, hM, hL, hXL⟩ := qm_ctx hQ
  have hF' := hC.f8; have hW' := hC.w12; have hT' := hC.t6; have hP' := hC.p5
  have m21 := hQ.2.1.nF; have m22 := hQ.2.1.nW; have m23 := hQ.2.1.nT; have m24 := hQ.2.1.nP
  have z0 : (wr μ 63 0 0) 63 0 = 0 := rfl
  have gW : 0 ≤ ic w ∧ ic w ≤ ic W - 1 := wn_in (show w < W by omega) (by omega); have gw : 0 ≤ ic 3 ∧ ic 3 ≤ 6 := w2_in (n := 6) (by decide) (by decide)
  simp (disch := omega) only [f_m_wire, h_isWire_1 (N := N) (μ := wr μ 63 0 0) m22 z0 gW, wm_1 gw, may_1 (show ¬ (1 : Int32) = 0 by decide) z0, show ¬ (1 : Int32) = 0 by decide, e_q_take hN, hM.w2 hw, wb_e, ib_e, ibL_e, ob_e, nz4, inb_e, inb_lit, ic_n, n_lit, ic_1, lit_add, add_lit, lit_mul, mul_lit, ic_add, ic_mul, ic_le, ic_lt, ic_eq, lit_le, le_lit, lit_lt, lt_lit, lit_eq, eq_lit, ic_m1, m1_ic, ic_lt0, ic_0le, b2_0, b2_1, b2_bl, sh_e, Nat.not_lt_zero, Nat.zero_le, Nat.reduceEqDiff, Nat.reduceAdd, Nat.reduceMul, Nat.reduceSub, Nat.reduceLT, Nat.reduceLeDiff, reduceIte, ne_eq, not_false_eq_true, not_true_eq_false, if_true, if_false, Nat.zero_add]
  skip
theorem x_wire_4 {N : Nat} {μ : sw_M} {F W T P : Nat} {K O : Nat → Int32} {nl nb : Nat} (hN : 5000 ≤ N) (hQ : QI μ F W T P K O nl nb) {w : Nat} (hw : w < W) : f_x_wire N μ (ic w) (ic 4) = some (.inl (b2 (lv ((qm μ) 81) w 0 0), μ)) := by
  obtain ⟨hC, hX, hS, hD, hM, hL, hXL⟩ := qm_ctx hQ
  have hF' := hC.f8; have hW' := hC.w12; have hT' := hC.t6; have hP' := hC.p5
  have m21 := hQ.2.1.nF; have m22 := hQ.2.1.nW; have m23 := hQ.2.1.nT; have m24 := hQ.2.1.nP
  have z0 : (wr μ 63 0 0) 63 0 = 0 := rfl
  have gW : 0 ≤ ic w ∧ ic w ≤ ic W - 1 := wn_in (show w < W by omega) (by omega); have gw : 0 ≤ ic 4 ∧ ic 4 ≤ 6 := w2_in (n := 6) (by decide) (by decide)
  simp (disch := omega) only [f_x_wire, tb_l, g_needWire_1 (N := N) (μ := μ) (hX.nW hC) gW, g_needWhat_1 gw, e_days_isLive hN hC hX hS hD 0 hw, wb_e, ib_e, ibL_e, ob_e, nz4, inb_e, inb_lit, ic_n, n_lit, ic_1, lit_add, add_lit, lit_mul, mul_lit, ic_add, ic_mul, ic_le, ic_lt, ic_eq, lit_le, le_lit, lit_lt, lt_lit, lit_eq, eq_lit, ic_m1, m1_ic, ic_lt0, ic_0le, b2_0, b2_1, b2_bl, sh_e, Nat.not_lt_zero, Nat.zero_le, Nat.reduceEqDiff, Nat.reduceAdd, Nat.reduceMul, Nat.reduceSub, Nat.reduceLT, Nat.reduceLeDiff, reduceIte, ne_eq, not_false_eq_true, not_true_eq_false, if_true, if_false, Nat.zero_add]
  unfold b2; split <;> simp_all
theorem m_wire_4 {N : Nat} {μ : sw_M} {F W T P : Nat} {K O : Nat → Int32} {nl nb : Nat} (hN : 5000 ≤ N) (hQ : QI μ F W T P K O nl nb) {w : Nat} (hw : w < W) : f_m_wire N μ (ic w) (ic 4) = some (b2 (lv ((qm μ) 81) w 0 0), qm μ) := by
  obtain ⟨hC, hX, hS, hD, hM, hL, hXL⟩ := qm_ctx hQ
  have hF' := hC.f8; have hW' := hC.w12; have hT' := hC.t6; have hP' := hC.p5
  have m21 := hQ.2.1.nF; have m22 := hQ.2.1.nW; have m23 := hQ.2.1.nT; have m24 := hQ.2.1.nP
  have z0 : (wr μ 63 0 0) 63 0 = 0 := rfl
  have gW : 0 ≤ ic w ∧ ic w ≤ ic W - 1 := wn_in (show w < W by omega) (by omega); have gw : 0 ≤ ic 4 ∧ ic 4 ≤ 6 := w2_in (n := 6) (by decide) (by decide)
  simp (disch := omega) only [f_m_wire, h_isWire_1 (N := N) (μ := wr μ 63 0 0) m22 z0 gW, wm_1 gw, may_1 (show ¬ (1 : Int32) = 0 by decide) z0, show ¬ (1 : Int32) = 0 by decide, e_q_take hN, e_m_isLive hN hC hM hS 0 0 hw, wb_e, ib_e, ibL_e, ob_e, nz4, inb_e, inb_lit, ic_n, n_lit, ic_1, lit_add, add_lit, lit_mul, mul_lit, ic_add, ic_mul, ic_le, ic_lt, ic_eq, lit_le, le_lit, lit_lt, lt_lit, lit_eq, eq_lit, ic_m1, m1_ic, ic_lt0, ic_0le, b2_0, b2_1, b2_bl, sh_e, Nat.not_lt_zero, Nat.zero_le, Nat.reduceEqDiff, Nat.reduceAdd, Nat.reduceMul, Nat.reduceSub, Nat.reduceLT, Nat.reduceLeDiff, reduceIte, ne_eq, not_false_eq_true, not_true_eq_false, if_true, if_false, Nat.zero_add]
  unfold b2; split <;> simp_all
theorem x_wire_5 {N : Nat} {μ : sw_M} {F W T P : Nat} {K O : Nat → Int32} {nl nb : Nat} (hN : 5000 ≤ N) (hQ : QI μ F W T P K O nl nb) {w : Nat} (hw : w < W) : f_x_wire N μ (ic w) (ic 5) = some (.inl (((qm μ) 81) (12 + w), μ)) := by
  obtain ⟨hC, hX, hS, hD, hM, hL, hXL⟩ := qm_ctx hQ
  have hF' := hC.f8; have hW' := hC.w12; have hT' := hC.t6; have hP' := hC.p5
  have m21 := hQ.2.1.nF; have m22 := hQ.2.1.nW; have m23 := hQ.2.1.nT; have m24 := hQ.2.1.nP
  have z0 : (wr μ 63 0 0) 63 0 = 0 := rfl
  have gW : 0 ≤ ic w ∧ ic w ≤ ic W - 1 := wn_in (show w < W by omega) (by omega); have gw : 0 ≤ ic 5 ∧ ic 5 ≤ 6 := w2_in (n := 6) (by decide) (by decide)
  simp (disch := omega) only [f_x_wire, tb_l, g_needWire_1 (N := N) (μ := μ) (hX.nW hC) gW, g_needWhat_1 gw, e_days_isCut hN hC hX hS hD hw, wb_e, ib_e, ibL_e, ob_e, nz4, inb_e, inb_lit, ic_n, n_lit, ic_1, lit_add, add_lit, lit_mul, mul_lit, ic_add, ic_mul, ic_le, ic_lt, ic_eq, lit_le, le_lit, lit_lt, lt_lit, lit_eq, eq_lit, ic_m1, m1_ic, ic_lt0, ic_0le, b2_0, b2_1, b2_bl, sh_e, Nat.not_lt_zero, Nat.zero_le, Nat.reduceEqDiff, Nat.reduceAdd, Nat.reduceMul, Nat.reduceSub, Nat.reduceLT, Nat.reduceLeDiff, reduceIte, ne_eq, not_false_eq_true, not_true_eq_false, if_true, if_false, Nat.zero_add]
  rcases (hS.2.2.1 w hw).2 with e | e <;> simp [e]
theorem m_wire_5 {N : Nat} {μ : sw_M} {F W T P : Nat} {K O : Nat → Int32} {nl nb : Nat} (hN : 5000 ≤ N) (hQ : QI μ F W T P K O nl nb) {w : Nat} (hw : w < W) : f_m_wire N μ (ic w) (ic 5) = some (((qm μ) 81) (12 + w), qm μ) := by
  obtain ⟨hC, hX, hS, hD, hM, hL, hXL⟩ := qm_ctx hQ
  have hF' := hC.f8; have hW' := hC.w12; have hT' := hC.t6; have hP' := hC.p5
  have m21 := hQ.2.1.nF; have m22 := hQ.2.1.nW; have m23 := hQ.2.1.nT; have m24 := hQ.2.1.nP
  have z0 : (wr μ 63 0 0) 63 0 = 0 := rfl
  have gW : 0 ≤ ic w ∧ ic w ≤ ic W - 1 := wn_in (show w < W by omega) (by omega); have gw : 0 ≤ ic 5 ∧ ic 5 ≤ 6 := w2_in (n := 6) (by decide) (by decide)
  simp (disch := omega) only [f_m_wire, h_isWire_1 (N := N) (μ := wr μ 63 0 0) m22 z0 gW, wm_1 gw, may_1 (show ¬ (1 : Int32) = 0 by decide) z0, show ¬ (1 : Int32) = 0 by decide, e_q_take hN, wb_e, ib_e, ibL_e, ob_e, nz4, inb_e, inb_lit, ic_n, n_lit, ic_1, lit_add, add_lit, lit_mul, mul_lit, ic_add, ic_mul, ic_le, ic_lt, ic_eq, lit_le, le_lit, lit_lt, lt_lit, lit_eq, eq_lit, ic_m1, m1_ic, ic_lt0, ic_0le, b2_0, b2_1, b2_bl, sh_e, Nat.not_lt_zero, Nat.zero_le, Nat.reduceEqDiff, Nat.reduceAdd, Nat.reduceMul, Nat.reduceSub, Nat.reduceLT, Nat.reduceLeDiff, reduceIte, ne_eq, not_false_eq_true, not_true_eq_false, if_true, if_false, Nat.zero_add]
  skip
theorem x_wire_6 {N : Nat} {μ : sw_M} {F W T P : Nat} {K O : Nat → Int32} {nl nb : Nat} (hN : 5000 ≤ N) (hQ : QI μ F W T P K O nl nb) {w : Nat} (hw : w < W) : f_x_wire N μ (ic w) (ic 6) = some (.inl (leftS ((qm μ) 81) w, μ)) := by
  obtain ⟨hC, hX, hS, hD, hM, hL, hXL⟩ := qm_ctx hQ
  have hF' := hC.f8; have hW' := hC.w12; have hT' := hC.t6; have hP' := hC.p5
  have m21 := hQ.2.1.nF; have m22 := hQ.2.1.nW; have m23 := hQ.2.1.nT; have m24 := hQ.2.1.nP
  have z0 : (wr μ 63 0 0) 63 0 = 0 := rfl
  have gW : 0 ≤ ic w ∧ ic w ≤ ic W - 1 := wn_in (show w < W by omega) (by omega); have gw : 0 ≤ ic 6 ∧ ic 6 ≤ 6 := w2_in (n := 6) (by decide) (by decide)
  simp (disch := omega) only [f_x_wire, tb_l, g_needWire_1 (N := N) (μ := μ) (hX.nW hC) gW, g_needWhat_1 gw, e_days_hoursLeft hN hC hX hS hD hw, wb_e, ib_e, ibL_e, ob_e, nz4, inb_e, inb_lit, ic_n, n_lit, ic_1, lit_add, add_lit, lit_mul, mul_lit, ic_add, ic_mul, ic_le, ic_lt, ic_eq, lit_le, le_lit, lit_lt, lt_lit, lit_eq, eq_lit, ic_m1, m1_ic, ic_lt0, ic_0le, b2_0, b2_1, b2_bl, sh_e, Nat.not_lt_zero, Nat.zero_le, Nat.reduceEqDiff, Nat.reduceAdd, Nat.reduceMul, Nat.reduceSub, Nat.reduceLT, Nat.reduceLeDiff, reduceIte, ne_eq, not_false_eq_true, not_true_eq_false, if_true, if_false, Nat.zero_add]
  skip
theorem m_wire_6 {N : Nat} {μ : sw_M} {F W T P : Nat} {K O : Nat → Int32} {nl nb : Nat} (hN : 5000 ≤ N) (hQ : QI μ F W T P K O nl nb) {w : Nat} (hw : w < W) : f_m_wire N μ (ic w) (ic 6) = some (leftS ((qm μ) 81) w, qm μ) := by
  obtain ⟨hC, hX, hS, hD, hM, hL, hXL⟩ := qm_ctx hQ
  have hF' := hC.f8; have hW' := hC.w12; have hT' := hC.t6; have hP' := hC.p5
  have m21 := hQ.2.1.nF; have m22 := hQ.2.1.nW; have m23 := hQ.2.1.nT; have m24 := hQ.2.1.nP
  have z0 : (wr μ 63 0 0) 63 0 = 0 := rfl
  have gW : 0 ≤ ic w ∧ ic w ≤ ic W - 1 := wn_in (show w < W by omega) (by omega); have gw : 0 ≤ ic 6 ∧ ic 6 ≤ 6 := w2_in (n := 6) (by decide) (by decide)
  simp (disch := omega) only [f_m_wire, h_isWire_1 (N := N) (μ := wr μ 63 0 0) m22 z0 gW, wm_1 gw, may_1 (show ¬ (1 : Int32) = 0 by decide) z0, show ¬ (1 : Int32) = 0 by decide, e_q_take hN, e_m_leftOf hN hC hM hS hw, wb_e, ib_e, ibL_e, ob_e, nz4, inb_e, inb_lit, ic_n, n_lit, ic_1, lit_add, add_lit, lit_mul, mul_lit, ic_add, ic_mul, ic_le, ic_lt, ic_eq, lit_le, le_lit, lit_lt, lt_lit, lit_eq, eq_lit, ic_m1, m1_ic, ic_lt0, ic_0le, b2_0, b2_1, b2_bl, sh_e, Nat.not_lt_zero, Nat.zero_le, Nat.reduceEqDiff, Nat.reduceAdd, Nat.reduceMul, Nat.reduceSub, Nat.reduceLT, Nat.reduceLeDiff, reduceIte, ne_eq, not_false_eq_true, not_true_eq_false, if_true, if_false, Nat.zero_add]
  skip
theorem x_person_0 {N : Nat} {μ : sw_M} {F W T P : Nat} {K O : Nat → Int32} {nl nb : Nat} (hN : 5000 ≤ N) (hQ : QI μ F W T P K O nl nb) {p : Nat} (hp : p < P) : f_x_person N μ (ic p) (ic 0) = some (.inl (μ 10 p, μ)) := by
  obtain ⟨hC, hX, hS, hD, hM, hL, hXL⟩ := qm_ctx hQ
  have hF' := hC.f8; have hW' := hC.w12; have hT' := hC.t6; have hP' := hC.p5
  have m21 := hQ.2.1.nF; have m22 := hQ.2.1.nW; have m23 := hQ.2.1.nT; have m24 := hQ.2.1.nP
  have z0 : (wr μ 63 0 0) 63 0 = 0 := rfl
  have gP : 0 ≤ ic p ∧ ic p ≤ ic P - 1 := wn_in (show p < P by omega) (by omega); have gw : 0 ≤ ic 0 ∧ ic 0 ≤ 4 := w2_in (n := 4) (by decide) (by decide)
  simp (disch := omega) only [f_x_person, tb_l, g_needPerson_1 (N := N) (μ := μ) (hX.nP hC) gP, g_needWhat_1 gw, at_e (N := N) (k := 10) (n := 5) (μ := μ) (show p < 5 by omega) (by decide), wb_e, ib_e, ibL_e, ob_e, nz4, inb_e, inb_lit, ic_n, n_lit, ic_1, lit_add, add_lit, lit_mul, mul_lit, ic_add, ic_mul, ic_le, ic_lt, ic_eq, lit_le, le_lit, lit_lt, lt_lit, lit_eq, eq_lit, ic_m1, m1_ic, ic_lt0, ic_0le, b2_0, b2_1, b2_bl, sh_e, Nat.not_lt_zero, Nat.zero_le, Nat.reduceEqDiff, Nat.reduceAdd, Nat.reduceMul, Nat.reduceSub, Nat.reduceLT, Nat.reduceLeDiff, reduceIte, ne_eq, not_false_eq_true, not_true_eq_false, if_true, if_false, Nat.zero_add]
  skip
theorem m_person_0 {N : Nat} {μ : sw_M} {F W T P : Nat} {K O : Nat → Int32} {nl nb : Nat} (hN : 5000 ≤ N) (hQ : QI μ F W T P K O nl nb) {p : Nat} (hp : p < P) : f_m_person N μ (ic p) (ic 0) = some (μ 10 p, qm μ) := by
  obtain ⟨hC, hX, hS, hD, hM, hL, hXL⟩ := qm_ctx hQ
  have hF' := hC.f8; have hW' := hC.w12; have hT' := hC.t6; have hP' := hC.p5
  have m21 := hQ.2.1.nF; have m22 := hQ.2.1.nW; have m23 := hQ.2.1.nT; have m24 := hQ.2.1.nP
  have z0 : (wr μ 63 0 0) 63 0 = 0 := rfl
  have gP : 0 ≤ ic p ∧ ic p ≤ ic P - 1 := wn_in (show p < P by omega) (by omega); have gw : 0 ≤ ic 0 ∧ ic 0 ≤ 4 := w2_in (n := 4) (by decide) (by decide)
  simp (disch := omega) only [f_m_person, h_isPerson_1 (N := N) (μ := wr μ 63 0 0) m24 z0 gP, wm_1 gw, may_1 (show ¬ (1 : Int32) = 0 by decide) z0, show ¬ (1 : Int32) = 0 by decide, e_q_take hN, hM.p1 hp, wb_e, ib_e, ibL_e, ob_e, nz4, inb_e, inb_lit, ic_n, n_lit, ic_1, lit_add, add_lit, lit_mul, mul_lit, ic_add, ic_mul, ic_le, ic_lt, ic_eq, lit_le, le_lit, lit_lt, lt_lit, lit_eq, eq_lit, ic_m1, m1_ic, ic_lt0, ic_0le, b2_0, b2_1, b2_bl, sh_e, Nat.not_lt_zero, Nat.zero_le, Nat.reduceEqDiff, Nat.reduceAdd, Nat.reduceMul, Nat.reduceSub, Nat.reduceLT, Nat.reduceLeDiff, reduceIte, ne_eq, not_false_eq_true, not_true_eq_false, if_true, if_false, Nat.zero_add]
  skip
theorem x_person_1 {N : Nat} {μ : sw_M} {F W T P : Nat} {K O : Nat → Int32} {nl nb : Nat} (hN : 5000 ≤ N) (hQ : QI μ F W T P K O nl nb) {p : Nat} (hp : p < P) : f_x_person N μ (ic p) (ic 1) = some (.inl (((qm μ) 81) (36 + p), μ)) := by
  obtain ⟨hC, hX, hS, hD, hM, hL, hXL⟩ := qm_ctx hQ
  have hF' := hC.f8; have hW' := hC.w12; have hT' := hC.t6; have hP' := hC.p5
  have m21 := hQ.2.1.nF; have m22 := hQ.2.1.nW; have m23 := hQ.2.1.nT; have m24 := hQ.2.1.nP
  have z0 : (wr μ 63 0 0) 63 0 = 0 := rfl
  have gP : 0 ≤ ic p ∧ ic p ≤ ic P - 1 := wn_in (show p < P by omega) (by omega); have gw : 0 ≤ ic 1 ∧ ic 1 ≤ 4 := w2_in (n := 4) (by decide) (by decide)
  simp (disch := omega) only [f_x_person, tb_l, g_needPerson_1 (N := N) (μ := μ) (hX.nP hC) gP, g_needWhat_1 gw, at_e (N := N) (k := 39) (n := 5) (μ := μ) (show p < 5 by omega) (by decide), hD.da hp, wb_e, ib_e, ibL_e, ob_e, nz4, inb_e, inb_lit, ic_n, n_lit, ic_1, lit_add, add_lit, lit_mul, mul_lit, ic_add, ic_mul, ic_le, ic_lt, ic_eq, lit_le, le_lit, lit_lt, lt_lit, lit_eq, eq_lit, ic_m1, m1_ic, ic_lt0, ic_0le, b2_0, b2_1, b2_bl, sh_e, Nat.not_lt_zero, Nat.zero_le, Nat.reduceEqDiff, Nat.reduceAdd, Nat.reduceMul, Nat.reduceSub, Nat.reduceLT, Nat.reduceLeDiff, reduceIte, ne_eq, not_false_eq_true, not_true_eq_false, if_true, if_false, Nat.zero_add]
  skip
theorem m_person_1 {N : Nat} {μ : sw_M} {F W T P : Nat} {K O : Nat → Int32} {nl nb : Nat} (hN : 5000 ≤ N) (hQ : QI μ F W T P K O nl nb) {p : Nat} (hp : p < P) : f_m_person N μ (ic p) (ic 1) = some (((qm μ) 81) (36 + p), qm μ) := by
  obtain ⟨hC, hX, hS, hD, hM, hL, hXL⟩ := qm_ctx hQ
  have hF' := hC.f8; have hW' := hC.w12; have hT' := hC.t6; have hP' := hC.p5
  have m21 := hQ.2.1.nF; have m22 := hQ.2.1.nW; have m23 := hQ.2.1.nT; have m24 := hQ.2.1.nP
  have z0 : (wr μ 63 0 0) 63 0 = 0 := rfl
  have gP : 0 ≤ ic p ∧ ic p ≤ ic P - 1 := wn_in (show p < P by omega) (by omega); have gw : 0 ≤ ic 1 ∧ ic 1 ≤ 4 := w2_in (n := 4) (by decide) (by decide)
  simp (disch := omega) only [f_m_person, h_isPerson_1 (N := N) (μ := wr μ 63 0 0) m24 z0 gP, wm_1 gw, may_1 (show ¬ (1 : Int32) = 0 by decide) z0, show ¬ (1 : Int32) = 0 by decide, e_q_take hN, f_m_person_73, wb_e, ib_e, ibL_e, ob_e, nz4, inb_e, inb_lit, ic_n, n_lit, ic_1, lit_add, add_lit, lit_mul, mul_lit, ic_add, ic_mul, ic_le, ic_lt, ic_eq, lit_le, le_lit, lit_lt, lt_lit, lit_eq, eq_lit, ic_m1, m1_ic, ic_lt0, ic_0le, b2_0, b2_1, b2_bl, sh_e, Nat.not_lt_zero, Nat.zero_le, Nat.reduceEqDiff, Nat.reduceAdd, Nat.reduceMul, Nat.reduceSub, Nat.reduceLT, Nat.reduceLeDiff, reduceIte, ne_eq, not_false_eq_true, not_true_eq_false, if_true, if_false, Nat.zero_add]
  skip
theorem x_person_2 {N : Nat} {μ : sw_M} {F W T P : Nat} {K O : Nat → Int32} {nl nb : Nat} (hN : 5000 ≤ N) (hQ : QI μ F W T P K O nl nb) {p : Nat} (hp : p < P) : f_x_person N μ (ic p) (ic 2) = some (.inl (((qm μ) 81) (41 + p), μ)) := by
  obtain ⟨hC, hX, hS, hD, hM, hL, hXL⟩ := qm_ctx hQ
  have hF' := hC.f8; have hW' := hC.w12; have hT' := hC.t6; have hP' := hC.p5
  have m21 := hQ.2.1.nF; have m22 := hQ.2.1.nW; have m23 := hQ.2.1.nT; have m24 := hQ.2.1.nP
  have z0 : (wr μ 63 0 0) 63 0 = 0 := rfl
  have gP : 0 ≤ ic p ∧ ic p ≤ ic P - 1 := wn_in (show p < P by omega) (by omega); have gw : 0 ≤ ic 2 ∧ ic 2 ≤ 4 := w2_in (n := 4) (by decide) (by decide)
  simp (disch := omega) only [f_x_person, tb_l, g_needPerson_1 (N := N) (μ := μ) (hX.nP hC) gP, g_needWhat_1 gw, at_e (N := N) (k := 40) (n := 5) (μ := μ) (show p < 5 by omega) (by decide), hD.dr hp, wb_e, ib_e, ibL_e, ob_e, nz4, inb_e, inb_lit, ic_n, n_lit, ic_1, lit_add, add_lit, lit_mul, mul_lit, ic_add, ic_mul, ic_le, ic_lt, ic_eq, lit_le, le_lit, lit_lt, lt_lit, lit_eq, eq_lit, ic_m1, m1_ic, ic_lt0, ic_0le, b2_0, b2_1, b2_bl, sh_e, Nat.not_lt_zero, Nat.zero_le, Nat.reduceEqDiff, Nat.reduceAdd, Nat.reduceMul, Nat.reduceSub, Nat.reduceLT, Nat.reduceLeDiff, reduceIte, ne_eq, not_false_eq_true, not_true_eq_false, if_true, if_false, Nat.zero_add]
  skip
theorem m_person_2 {N : Nat} {μ : sw_M} {F W T P : Nat} {K O : Nat → Int32} {nl nb : Nat} (hN : 5000 ≤ N) (hQ : QI μ F W T P K O nl nb) {p : Nat} (hp : p < P) : f_m_person N μ (ic p) (ic 2) = some (((qm μ) 81) (41 + p), qm μ) := by
  obtain ⟨hC, hX, hS, hD, hM, hL, hXL⟩ := qm_ctx hQ
  have hF' := hC.f8; have hW' := hC.w12; have hT' := hC.t6; have hP' := hC.p5
  have m21 := hQ.2.1.nF; have m22 := hQ.2.1.nW; have m23 := hQ.2.1.nT; have m24 := hQ.2.1.nP
  have z0 : (wr μ 63 0 0) 63 0 = 0 := rfl
  have gP : 0 ≤ ic p ∧ ic p ≤ ic P - 1 := wn_in (show p < P by omega) (by omega); have gw : 0 ≤ ic 2 ∧ ic 2 ≤ 4 := w2_in (n := 4) (by decide) (by decide)
  simp (disch := omega) only [f_m_person, h_isPerson_1 (N := N) (μ := wr μ 63 0 0) m24 z0 gP, wm_1 gw, may_1 (show ¬ (1 : Int32) = 0 by decide) z0, show ¬ (1 : Int32) = 0 by decide, e_q_take hN, f_m_person_73, wb_e, ib_e, ibL_e, ob_e, nz4, inb_e, inb_lit, ic_n, n_lit, ic_1, lit_add, add_lit, lit_mul, mul_lit, ic_add, ic_mul, ic_le, ic_lt, ic_eq, lit_le, le_lit, lit_lt, lt_lit, lit_eq, eq_lit, ic_m1, m1_ic, ic_lt0, ic_0le, b2_0, b2_1, b2_bl, sh_e, Nat.not_lt_zero, Nat.zero_le, Nat.reduceEqDiff, Nat.reduceAdd, Nat.reduceMul, Nat.reduceSub, Nat.reduceLT, Nat.reduceLeDiff, reduceIte, ne_eq, not_false_eq_true, not_true_eq_false, if_true, if_false, Nat.zero_add]
  skip
theorem x_person_3 {N : Nat} {μ : sw_M} {F W T P : Nat} {K O : Nat → Int32} {nl nb : Nat} (hN : 5000 ≤ N) (hQ : QI μ F W T P K O nl nb) {p : Nat} (hp : p < P) : f_x_person N μ (ic p) (ic 3) = some (.inl (loadS T μ ((qm μ) 81) (ic p), μ)) := by
  obtain ⟨hC, hX, hS, hD, hM, hL, hXL⟩ := qm_ctx hQ
  have hF' := hC.f8; have hW' := hC.w12; have hT' := hC.t6; have hP' := hC.p5
  have m21 := hQ.2.1.nF; have m22 := hQ.2.1.nW; have m23 := hQ.2.1.nT; have m24 := hQ.2.1.nP
  have z0 : (wr μ 63 0 0) 63 0 = 0 := rfl
  have gP : 0 ≤ ic p ∧ ic p ≤ ic P - 1 := wn_in (show p < P by omega) (by omega); have gw : 0 ≤ ic 3 ∧ ic 3 ≤ 4 := w2_in (n := 4) (by decide) (by decide)
  simp (disch := omega) only [f_x_person, tb_l, g_needPerson_1 (N := N) (μ := μ) (hX.nP hC) gP, g_needWhat_1 gw, e_days_loadOf hN hC hX hS hD (ic p), wb_e, ib_e, ibL_e, ob_e, nz4, inb_e, inb_lit, ic_n, n_lit, ic_1, lit_add, add_lit, lit_mul, mul_lit, ic_add, ic_mul, ic_le, ic_lt, ic_eq, lit_le, le_lit, lit_lt, lt_lit, lit_eq, eq_lit, ic_m1, m1_ic, ic_lt0, ic_0le, b2_0, b2_1, b2_bl, sh_e, Nat.not_lt_zero, Nat.zero_le, Nat.reduceEqDiff, Nat.reduceAdd, Nat.reduceMul, Nat.reduceSub, Nat.reduceLT, Nat.reduceLeDiff, reduceIte, ne_eq, not_false_eq_true, not_true_eq_false, if_true, if_false, Nat.zero_add]
  skip
theorem m_person_3 {N : Nat} {μ : sw_M} {F W T P : Nat} {K O : Nat → Int32} {nl nb : Nat} (hN : 5000 ≤ N) (hQ : QI μ F W T P K O nl nb) {p : Nat} (hp : p < P) : f_m_person N μ (ic p) (ic 3) = some (loadS T μ ((qm μ) 81) (ic p), qm μ) := by
  obtain ⟨hC, hX, hS, hD, hM, hL, hXL⟩ := qm_ctx hQ
  have hF' := hC.f8; have hW' := hC.w12; have hT' := hC.t6; have hP' := hC.p5
  have m21 := hQ.2.1.nF; have m22 := hQ.2.1.nW; have m23 := hQ.2.1.nT; have m24 := hQ.2.1.nP
  have z0 : (wr μ 63 0 0) 63 0 = 0 := rfl
  have gP : 0 ≤ ic p ∧ ic p ≤ ic P - 1 := wn_in (show p < P by omega) (by omega); have gw : 0 ≤ ic 3 ∧ ic 3 ≤ 4 := w2_in (n := 4) (by decide) (by decide)
  simp (disch := omega) only [f_m_person, h_isPerson_1 (N := N) (μ := wr μ 63 0 0) m24 z0 gP, wm_1 gw, may_1 (show ¬ (1 : Int32) = 0 by decide) z0, show ¬ (1 : Int32) = 0 by decide, e_q_take hN, e_m_loadOf hN hC hM hS (ic p), wb_e, ib_e, ibL_e, ob_e, nz4, inb_e, inb_lit, ic_n, n_lit, ic_1, lit_add, add_lit, lit_mul, mul_lit, ic_add, ic_mul, ic_le, ic_lt, ic_eq, lit_le, le_lit, lit_lt, lt_lit, lit_eq, eq_lit, ic_m1, m1_ic, ic_lt0, ic_0le, b2_0, b2_1, b2_bl, sh_e, Nat.not_lt_zero, Nat.zero_le, Nat.reduceEqDiff, Nat.reduceAdd, Nat.reduceMul, Nat.reduceSub, Nat.reduceLT, Nat.reduceLeDiff, reduceIte, ne_eq, not_false_eq_true, not_true_eq_false, if_true, if_false, Nat.zero_add]
  skip
theorem x_person_4 {N : Nat} {μ : sw_M} {F W T P : Nat} {K O : Nat → Int32} {nl nb : Nat} (hN : 5000 ≤ N) (hQ : QI μ F W T P K O nl nb) {p : Nat} (hp : p < P) : f_x_person N μ (ic p) (ic 4) = some (.inl (heldB T ((qm μ) 81) (ic p), μ)) := by
  obtain ⟨hC, hX, hS, hD, hM, hL, hXL⟩ := qm_ctx hQ
  have hF' := hC.f8; have hW' := hC.w12; have hT' := hC.t6; have hP' := hC.p5
  have m21 := hQ.2.1.nF; have m22 := hQ.2.1.nW; have m23 := hQ.2.1.nT; have m24 := hQ.2.1.nP
  have z0 : (wr μ 63 0 0) 63 0 = 0 := rfl
  have gP : 0 ≤ ic p ∧ ic p ≤ ic P - 1 := wn_in (show p < P by omega) (by omega); have gw : 0 ≤ ic 4 ∧ ic 4 ≤ 4 := w2_in (n := 4) (by decide) (by decide)
  simp (disch := omega) only [f_x_person, tb_l, g_needPerson_1 (N := N) (μ := μ) (hX.nP hC) gP, g_needWhat_1 gw, e_days_carriedBy hN hC hX hS hD (ic p), wb_e, ib_e, ibL_e, ob_e, nz4, inb_e, inb_lit, ic_n, n_lit, ic_1, lit_add, add_lit, lit_mul, mul_lit, ic_add, ic_mul, ic_le, ic_lt, ic_eq, lit_le, le_lit, lit_lt, lt_lit, lit_eq, eq_lit, ic_m1, m1_ic, ic_lt0, ic_0le, b2_0, b2_1, b2_bl, sh_e, Nat.not_lt_zero, Nat.zero_le, Nat.reduceEqDiff, Nat.reduceAdd, Nat.reduceMul, Nat.reduceSub, Nat.reduceLT, Nat.reduceLeDiff, reduceIte, ne_eq, not_false_eq_true, not_true_eq_false, if_true, if_false, Nat.zero_add]
  skip
theorem m_person_4 {N : Nat} {μ : sw_M} {F W T P : Nat} {K O : Nat → Int32} {nl nb : Nat} (hN : 5000 ≤ N) (hQ : QI μ F W T P K O nl nb) {p : Nat} (hp : p < P) : f_m_person N μ (ic p) (ic 4) = some (heldB T ((qm μ) 81) (ic p), qm μ) := by
  obtain ⟨hC, hX, hS, hD, hM, hL, hXL⟩ := qm_ctx hQ
  have hF' := hC.f8; have hW' := hC.w12; have hT' := hC.t6; have hP' := hC.p5
  have m21 := hQ.2.1.nF; have m22 := hQ.2.1.nW; have m23 := hQ.2.1.nT; have m24 := hQ.2.1.nP
  have z0 : (wr μ 63 0 0) 63 0 = 0 := rfl
  have gP : 0 ≤ ic p ∧ ic p ≤ ic P - 1 := wn_in (show p < P by omega) (by omega); have gw : 0 ≤ ic 4 ∧ ic 4 ≤ 4 := w2_in (n := 4) (by decide) (by decide)
  simp (disch := omega) only [f_m_person, h_isPerson_1 (N := N) (μ := wr μ 63 0 0) m24 z0 gP, wm_1 gw, may_1 (show ¬ (1 : Int32) = 0 by decide) z0, show ¬ (1 : Int32) = 0 by decide, e_q_take hN, e_m_heldBy hN hC hM hS (ic p), wb_e, ib_e, ibL_e, ob_e, nz4, inb_e, inb_lit, ic_n, n_lit, ic_1, lit_add, add_lit, lit_mul, mul_lit, ic_add, ic_mul, ic_le, ic_lt, ic_eq, lit_le, le_lit, lit_lt, lt_lit, lit_eq, eq_lit, ic_m1, m1_ic, ic_lt0, ic_0le, b2_0, b2_1, b2_bl, sh_e, Nat.not_lt_zero, Nat.zero_le, Nat.reduceEqDiff, Nat.reduceAdd, Nat.reduceMul, Nat.reduceSub, Nat.reduceLT, Nat.reduceLeDiff, reduceIte, ne_eq, not_false_eq_true, not_true_eq_false, if_true, if_false, Nat.zero_add]
  skip
