/-! ===== printed by wip/whole/gen67.py ===== -/
theorem e_m_loadOf {N : Nat} {μ c : sw_M} {F W T P : Nat} (hN : 5000 ≤ N) (hC : CW c F W T P) (hM : MR μ c F W T P) (hS : WS F W T P (μ 81)) (x : Int32) : f_m_loadOf N μ x = some (loadS T c (μ 81) x) := by
  unfold f_m_loadOf
  rw [e_m_heldBy hN hC hM hS x, ob_e, e_m_weightOf hN hC hM, ob_e, loadW hC.t6]
theorem e_m_tollBy {N : Nat} {μ c : sw_M} {F W T P : Nat} (hN : 5000 ≤ N) (hC : CW c F W T P) (hM : MR μ c F W T P) (hS : WS F W T P (μ 81)) {K O : Nat → Int32} {nl : Nat} (hL : ML μ K O nl) {p w : Nat} (hp : p < P) (hw : w < W) : ∃ μ', f_m_tollBy N μ (ic p) (ic w) = some (tolS W T c (μ 81) K O nl p w, μ') ∧ FrT μ μ' := by
  have hF' := hC.f8; have hW' := hC.w12; have hT' := hC.t6; have hP' := hC.p5
  have e1 := e_m_loadOf hN hC hM hS (ic p)
  have e2 := e_m_leftOf hN hC hM hS hw
  have e3 := e_m_wiresAt hN hC hM (μ 81 (36 + p))
  have e4 := hM.p1 hp
  obtain ⟨μ', h1, h2⟩ := e_m_tollOf hN hL (loadS T c (μ 81) (ic p)) (c 10 p) (μ 81 (41 + p)) (leftS (μ 81) w) (μ 81 48) (atN W c (μ 81 (36 + p))) (ic p)
  refine ⟨μ', ?_, h2⟩
  simp (disch := omega) only [f_m_tollBy, e1, e2, e3, e4, h1, wb_e, ib_e, ibL_e, ob_e, nz4, inb_e, inb_lit, ic_n, n_lit, ic_1, lit_add, add_lit, lit_mul, mul_lit, ic_add, ic_mul, ic_le, ic_lt, ic_eq, lit_le, le_lit, lit_lt, lt_lit, lit_eq, eq_lit, ic_m1, m1_ic, ic_lt0, ic_0le, b2_0, b2_1, b2_bl, sh_e, Nat.not_lt_zero, Nat.zero_le, Nat.reduceEqDiff, Nat.reduceAdd, Nat.reduceMul, Nat.reduceSub, Nat.reduceLT, Nat.reduceLeDiff, reduceIte, ne_eq, not_false_eq_true, not_true_eq_false, if_true, if_false, Nat.zero_add]
  rfl
theorem e_m_canCross {N : Nat} {μ c : sw_M} {F W T P : Nat} (hN : 5000 ≤ N) (hC : CW c F W T P) (hM : MR μ c F W T P) (hS : WS F W T P (μ 81)) {K O : Nat → Int32} {nl : Nat} (hL : ML μ K O nl) {p w : Nat} (hp : p < P) (hw : w < W) : ∃ μ', f_m_canCross N μ (ic p) (ic w) = some (b2 (canS W T c (μ 81) K O nl p w), μ') ∧ FrT μ μ' := by
  have hF' := hC.f8; have hW' := hC.w12; have hT' := hC.t6; have hP' := hC.p5
  have e1 := e_m_isLive hN hC hM hS 0 0 hw
  have e2 := e_m_isAt hN hC hM (μ 81 (36 + p)) hw
  obtain ⟨μ', h1, h2⟩ := e_m_tollBy hN hC hM hS hL hp hw
  by_cases h : opS c (μ 81) p w
  · refine ⟨μ', ?_, h2⟩
    unfold f_m_canCross
    rw [e1, ob_e, if_pos (by rw [b2_0]; exact h.1)]
    simp (disch := omega) only [wb_e, ib_e, ibL_e, ob_e, nz4, inb_e, inb_lit, ic_n, n_lit, ic_1, lit_add, add_lit, lit_mul, mul_lit, ic_add, ic_mul, ic_le, ic_lt, ic_eq, lit_le, le_lit, lit_lt, lt_lit, lit_eq, eq_lit, ic_m1, m1_ic, ic_lt0, ic_0le, b2_0, b2_1, b2_bl, sh_e, Nat.not_lt_zero, Nat.zero_le, Nat.reduceEqDiff, Nat.reduceAdd, Nat.reduceMul, Nat.reduceSub, Nat.reduceLT, Nat.reduceLeDiff, reduceIte, ne_eq, not_false_eq_true, not_true_eq_false, if_true, if_false, Nat.zero_add]
    rw [e2, ob_e, if_neg (by rw [b2_0]; exact fun q => q h.2), h1, ob_e]
    by_cases h6 : μ 81 (41 + p) + tolS W T c (μ 81) K O nl p w ≤ 60
    · rw [show b2 (canS W T c (μ 81) K O nl p w) = 1 from if_pos ⟨h, h6⟩, if_neg (Int32.not_lt.mpr h6)]
    · rw [show b2 (canS W T c (μ 81) K O nl p w) = 0 from if_neg (fun q => h6 q.2), if_pos (Int32.not_le.mp h6)]
  · refine ⟨μ, ?_, fun _ _ _ => rfl⟩
    have hc : ¬ canS W T c (μ 81) K O nl p w := fun q => h q.1
    rw [show b2 (canS W T c (μ 81) K O nl p w) = 0 from if_neg hc]
    unfold f_m_canCross
    rw [e1, ob_e]
    by_cases q : lv (μ 81) w 0 0
    · rw [if_neg (by rw [b2_0]; exact fun z => z q)]
    · rw [if_pos (by rw [b2_0]; exact q)]
      simp (disch := omega) only [wb_e, ib_e, ibL_e, ob_e, nz4, inb_e, inb_lit, ic_n, n_lit, ic_1, lit_add, add_lit, lit_mul, mul_lit, ic_add, ic_mul, ic_le, ic_lt, ic_eq, lit_le, le_lit, lit_lt, lt_lit, lit_eq, eq_lit, ic_m1, m1_ic, ic_lt0, ic_0le, b2_0, b2_1, b2_bl, sh_e, Nat.not_lt_zero, Nat.zero_le, Nat.reduceEqDiff, Nat.reduceAdd, Nat.reduceMul, Nat.reduceSub, Nat.reduceLT, Nat.reduceLeDiff, reduceIte, ne_eq, not_false_eq_true, not_true_eq_false, if_true, if_false, Nat.zero_add]
      rw [e2, ob_e, if_pos (by rw [b2_0]; exact fun z => h ⟨q, z⟩)]
theorem lp_m_crosses {N : Nat} {c : sw_M} {F W T P : Nat} (hC : CW c F W T P) {p : Nat} (hp : p < P) : ∀ (j k : Nat) (μ : sw_M) (n : Nat), k + j = T → j < n → MR μ c F W T P → f_m_crosses_80 N n μ (ic p) (ic k) = some (1, wrR μ 81 (fo (fun t R => if R (30 + t) = ic p then up R (24 + t) (R (36 + p)) else R) k j (μ 81)))
  | 0, k, μ, n, h, hn, hM => by
    have hF' := hC.f8; have hW' := hC.w12; have hT' := hC.t6; have hP' := hC.p5; have nT := hM.nT
    obtain ⟨n, rfl⟩ := fu_s hn
    simp (disch := omega) only [f_m_crosses_80, nT, wb_e, ib_e, ibL_e, ob_e, nz4, inb_e, inb_lit, ic_n, n_lit, ic_1, lit_add, add_lit, lit_mul, mul_lit, ic_add, ic_mul, ic_le, ic_lt, ic_eq, lit_le, le_lit, lit_lt, lt_lit, lit_eq, eq_lit, ic_m1, m1_ic, ic_lt0, ic_0le, b2_0, b2_1, b2_bl, sh_e, Nat.not_lt_zero, Nat.zero_le, Nat.reduceEqDiff, Nat.reduceAdd, Nat.reduceMul, Nat.reduceSub, Nat.reduceLT, Nat.reduceLeDiff, reduceIte, ne_eq, not_false_eq_true, not_true_eq_false, if_true, if_false, Nat.zero_add]
    rw [if_pos (by omega), fo_0, wrR_self]
  | j + 1, k, μ, n, h, hn, hM => by
    have hF' := hC.f8; have hW' := hC.w12; have hT' := hC.t6; have hP' := hC.p5; have nT := hM.nT
    obtain ⟨n, rfl⟩ := fu_s (show 0 < n by omega)
    have ih := fun m hm => lp_m_crosses (N := N) hC hp j (k + 1) m n (by omega) (by omega) hm
    simp (disch := omega) only [f_m_crosses_80, nT, wb_e, ib_e, ibL_e, ob_e, nz4, inb_e, inb_lit, ic_n, n_lit, ic_1, lit_add, add_lit, lit_mul, mul_lit, ic_add, ic_mul, ic_le, ic_lt, ic_eq, lit_le, le_lit, lit_lt, lt_lit, lit_eq, eq_lit, ic_m1, m1_ic, ic_lt0, ic_0le, b2_0, b2_1, b2_bl, sh_e, Nat.not_lt_zero, Nat.zero_le, Nat.reduceEqDiff, Nat.reduceAdd, Nat.reduceMul, Nat.reduceSub, Nat.reduceLT, Nat.reduceLeDiff, reduceIte, ne_eq, not_false_eq_true, not_true_eq_false, if_true, if_false, Nat.zero_add]
    rw [if_neg (by omega), fo_s]
    by_cases e : μ 81 (30 + k) = ic p
    · rw [if_pos e, if_pos e, ih _ (hM.fr (fun _ _ _ => by rw [wr_nr (by decide)]) (wr_nr (by decide)) (wr_nr (by decide)) (wr_nr (by decide))), wr_up, wrR_wrR, wrR_r]
    · rw [if_neg e, if_neg e, ih _ hM]
theorem s_m_crosses {N : Nat} {μ c : sw_M} {F W T P : Nat} (hN : 5000 ≤ N) (hC : CW c F W T P) (hM : MR μ c F W T P) (hS : WS F W T P (μ 81)) {K O : Nat → Int32} {nl : Nat} (hL : ML μ K O nl) {p w : Nat} (hp : p < P) (hw : w < W) : ∃ μ', f_m_crosses N μ (ic p) (ic w) = some (b2 (canS W T c (μ 81) K O nl p w), μ') ∧ FrS μ μ' ∧ μ' 81 = (if canS W T c (μ 81) K O nl p w then crS W T c (μ 81) K O nl p w else μ 81) := by
  have hF' := hC.f8; have hW' := hC.w12; have hT' := hC.t6; have hP' := hC.p5
  obtain ⟨μ1, h1, h2⟩ := e_m_canCross hN hC hM hS hL hp hw
  have q81 : μ1 81 = μ 81 := h2 81 (by decide) (by decide)
  by_cases hc : canS W T c (μ 81) K O nl p w
  · have b1 : b2 (canS W T c (μ 81) K O nl p w) = 1 := if_pos hc
    obtain ⟨μ2, h3, h4⟩ := e_m_tollBy hN hC (hM.fs h2.fs) (by rw [q81]; exact hS) (hL.fs h2.fs) hp hw
    have q82 : μ2 81 = μ 81 := (h4 81 (by decide) (by decide)).trans q81
    have hF : FrS μ μ2 := h2.fs.tr h4.fs
    have w0 : μ2 69 (3 * w) = c 4 w := (hM.fs hF).w0 hw
    have w1 : μ2 69 (3 * w + 1) = c 5 w := (hM.fs hF).w1 hw
    have hM2 : MR (wr (wr (wr μ2 81 (41 + p) (μ1 81 (41 + p) + tolS W T c (μ1 81) K O nl p w)) 81 (36 + p) (c 4 w + c 5 w - (wr μ2 81 (41 + p) (μ1 81 (41 + p) + tolS W T c (μ1 81) K O nl p w)) 81 (36 + p))) 81 47 ((wr (wr μ2 81 (41 + p) (μ1 81 (41 + p) + tolS W T c (μ1 81) K O nl p w)) 81 (36 + p) (c 4 w + c 5 w - (wr μ2 81 (41 + p) (μ1 81 (41 + p) + tolS W T c (μ1 81) K O nl p w)) 81 (36 + p))) 81 47 + 1)) c F W T P := hM.fs (((hF.wr _ _).wr _ _).wr _ _)
    have e9 := lp_m_crosses (N := N) hC hp T 0 _ N (by omega) (by omega) hM2
    refine ⟨_, by
      unfold f_m_crosses
      rw [h1, ob_e, if_neg (show ¬ b2 (canS W T c (μ 81) K O nl p w) = 0 by rw [b1]; decide)]
      simp (disch := omega) only [h3, wb_e, ib_e, ibL_e, ob_e, nz4, inb_e, inb_lit, ic_n, n_lit, ic_1, lit_add, add_lit, lit_mul, mul_lit, ic_add, ic_mul, ic_le, ic_lt, ic_eq, lit_le, le_lit, lit_lt, lt_lit, lit_eq, eq_lit, ic_m1, m1_ic, ic_lt0, ic_0le, b2_0, b2_1, b2_bl, sh_e, Nat.not_lt_zero, Nat.zero_le, Nat.reduceEqDiff, Nat.reduceAdd, Nat.reduceMul, Nat.reduceSub, Nat.reduceLT, Nat.reduceLeDiff, reduceIte, ne_eq, not_false_eq_true, not_true_eq_false, if_true, if_false, Nat.zero_add]
      have r69 : ∀ (v : Int32), (wr μ2 81 (41 + p) v) 69 = μ2 69 := fun v => wr_nr (by decide)
      rw [r69, w0, w1, b1]
      exact e9, ((((hF.wr _ _).wr _ _).wr _ _).wrR _), ?_⟩
    rw [wrR_r, if_pos hc]
    unfold crS crF
    congr 1
    rw [wr_up, wr_up, wr_up, wrR_wrR, wrR_wrR, wrR_r, wrR_r, wrR_r, q81, q82]
    rw [up_n (show 36 + p ≠ 41 + p by omega), up_n (show 47 ≠ 36 + p by omega), up_n (show 47 ≠ 41 + p by omega)]
    rfl
  · have b0 : b2 (canS W T c (μ 81) K O nl p w) = 0 := if_neg hc
    refine ⟨μ1, by unfold f_m_crosses; rw [h1, ob_e, if_pos b0, b0], h2.fs, ?_⟩
    rw [if_neg hc]; exact q81
theorem s_m_lifts {N : Nat} {μ c : sw_M} {F W T P : Nat} (hN : 5000 ≤ N) (hC : CW c F W T P) (hM : MR μ c F W T P) (hS : WS F W T P (μ 81)) {p t : Nat} (hp : p < P) (ht : t < T) : f_m_lifts N μ (ic p) (ic t) = some (b2 (lfC T c (μ 81) p t), if lfC T c (μ 81) p t then wr μ 81 (30 + t) (ic p) else μ) := by
  have hF' := hC.f8; have hW' := hC.w12; have hT' := hC.t6; have hP' := hC.p5
  have e1 := e_m_loadOf hN hC hM hS (ic p)
  have e2 := hM.t1 ht; have e3 := hM.p1 hp
  simp (disch := omega) only [f_m_lifts, e1, e2, e3, wb_e, ib_e, ibL_e, ob_e, nz4, inb_e, inb_lit, ic_n, n_lit, ic_1, lit_add, add_lit, lit_mul, mul_lit, ic_add, ic_mul, ic_le, ic_lt, ic_eq, lit_le, le_lit, lit_lt, lt_lit, lit_eq, eq_lit, ic_m1, m1_ic, ic_lt0, ic_0le, b2_0, b2_1, b2_bl, sh_e, Nat.not_lt_zero, Nat.zero_le, Nat.reduceEqDiff, Nat.reduceAdd, Nat.reduceMul, Nat.reduceSub, Nat.reduceLT, Nat.reduceLeDiff, reduceIte, ne_eq, not_false_eq_true, not_true_eq_false, if_true, if_false, Nat.zero_add]
  unfold b2 lfC
  by_cases q1 : μ 81 (30 + t) = -1
  · by_cases q2 : μ 81 (24 + t) = μ 81 (36 + p)
    · by_cases q3 : loadS T c (μ 81) (ic p) + c 8 t ≤ c 10 p
      · rw [if_pos q1, if_pos q2, if_pos q3, if_pos ⟨q1, q2, q3⟩, if_pos ⟨q1, q2, q3⟩]
      · rw [if_pos q1, if_pos q2, if_neg q3, if_neg (fun z => q3 z.2.2), if_neg (fun z => q3 z.2.2)]
    · rw [if_pos q1, if_neg q2, if_neg (fun z => q2 z.2.1), if_neg (fun z => q2 z.2.1)]
  · rw [if_neg q1, if_neg (fun z => q1 z.1), if_neg (fun z => q1 z.1)]
theorem s_m_moves {N : Nat} {μ c : sw_M} {F W T P : Nat} (hN : 5000 ≤ N) (hC : CW c F W T P) (hM : MR μ c F W T P) (hS : WS F W T P (μ 81)) {w : Nat} (hw : w < W) (m : Int32) : f_m_moves N μ (ic w) m = some (b2 (mvC (μ 81) w), if mvC (μ 81) w then wrR μ 81 (mvS (μ 81) w m) else μ) := by
  have hF' := hC.f8; have hW' := hC.w12; have hT' := hC.t6; have hP' := hC.p5
  have e1 := e_m_isLive hN hC hM hS 0 0 hw
  simp (disch := omega) only [f_m_moves, f_m_moves_78, e1, wb_e, ib_e, ibL_e, ob_e, nz4, inb_e, inb_lit, ic_n, n_lit, ic_1, lit_add, add_lit, lit_mul, mul_lit, ic_add, ic_mul, ic_le, ic_lt, ic_eq, lit_le, le_lit, lit_lt, lt_lit, lit_eq, eq_lit, ic_m1, m1_ic, ic_lt0, ic_0le, b2_0, b2_1, b2_bl, sh_e, Nat.not_lt_zero, Nat.zero_le, Nat.reduceEqDiff, Nat.reduceAdd, Nat.reduceMul, Nat.reduceSub, Nat.reduceLT, Nat.reduceLeDiff, reduceIte, ne_eq, not_false_eq_true, not_true_eq_false, if_true, if_false, Nat.zero_add]
  unfold mvS
  rw [← wr_up]
  unfold b2 mvC
  by_cases q1 : μ 81 (12 + w) = 1
  · rw [if_pos q1, if_neg (fun z => z.1 q1), if_neg (fun z => z.1 q1)]
  · by_cases q2 : lv (μ 81) w 0 0
    · rw [if_neg q1, if_neg (fun z => z q2), if_neg (fun z => z.2.1 q2), if_neg (fun z => z.2.1 q2)]
    · by_cases q3 : μ 81 w = 199
      · rw [if_neg q1, if_pos q2, if_pos q3, if_neg (fun z => z.2.2 q3), if_neg (fun z => z.2.2 q3)]
      · have q4 : ¬ μ 81 (12 + w) = 1 ∧ ¬ lv (μ 81) w 0 0 ∧ ¬ μ 81 w = 199 := ⟨q1, q2, q3⟩
        rw [if_neg q1, if_pos q2, if_neg q3, if_pos q4, if_pos q4]
        by_cases q5 : μ 81 w + m ≤ 199
        · rw [if_pos q5, if_pos q5]
        · rw [if_neg q5, if_neg q5]
theorem s_m_clips {N : Nat} {μ c : sw_M} {F W T P : Nat} (hN : 5000 ≤ N) (hC : CW c F W T P) (hM : MR μ c F W T P) (hS : WS F W T P (μ 81)) {w : Nat} (hw : w < W) : f_m_clips N μ (ic w) = some (b2 (ctC (μ 81) w), if ctC (μ 81) w then wrR μ 81 (ctS (μ 81) w) else μ) := by
  have hF' := hC.f8; have hW' := hC.w12; have hT' := hC.t6; have hP' := hC.p5
  simp (disch := omega) only [f_m_clips, wb_e, ib_e, ibL_e, ob_e, nz4, inb_e, inb_lit, ic_n, n_lit, ic_1, lit_add, add_lit, lit_mul, mul_lit, ic_add, ic_mul, ic_le, ic_lt, ic_eq, lit_le, le_lit, lit_lt, lt_lit, lit_eq, eq_lit, ic_m1, m1_ic, ic_lt0, ic_0le, b2_0, b2_1, b2_bl, sh_e, Nat.not_lt_zero, Nat.zero_le, Nat.reduceEqDiff, Nat.reduceAdd, Nat.reduceMul, Nat.reduceSub, Nat.reduceLT, Nat.reduceLeDiff, reduceIte, ne_eq, not_false_eq_true, not_true_eq_false, if_true, if_false, Nat.zero_add]
  unfold b2 ctC ctS
  by_cases q1 : μ 81 (12 + w) = 1
  · rw [if_pos q1, if_neg (fun z => z.1 q1), if_neg (fun z => z.1 q1)]
  · by_cases q2 : μ 81 46 = 0
    · rw [if_neg q1, if_pos q2, if_neg (fun z => z.2 q2), if_neg (fun z => z.2 q2)]
    · rw [if_neg q1, if_neg q2, if_pos ⟨q1, q2⟩, if_pos ⟨q1, q2⟩, wr_up, wr_up, wrR_wrR, wrR_r, up_n (show 46 ≠ 12 + w by omega)]
theorem lp_m_goesOn {N : Nat} {c : sw_M} {F W T P : Nat} (hC : CW c F W T P) : ∀ (j k : Nat) (μ : sw_M) (n : Nat), k + j = P → j < n → MR μ c F W T P → f_m_goesOn_2 N n μ (ic k) = some (wrR μ 81 (up (fo (fun p R => up R (41 + p) (if 5 ≤ R (41 + p) then R (41 + p) - 5 else 0)) k j (μ 81)) 48 (fo (fun p R => up R (41 + p) (if 5 ≤ R (41 + p) then R (41 + p) - 5 else 0)) k j (μ 81) 48 + 1)))
  | 0, k, μ, n, h, hn, hM => by
    have hF' := hC.f8; have hW' := hC.w12; have hT' := hC.t6; have hP' := hC.p5; have nP := hM.nP
    obtain ⟨n, rfl⟩ := fu_s hn
    simp (disch := omega) only [f_m_goesOn_2, nP, wb_e, ib_e, ibL_e, ob_e, nz4, inb_e, inb_lit, ic_n, n_lit, ic_1, lit_add, add_lit, lit_mul, mul_lit, ic_add, ic_mul, ic_le, ic_lt, ic_eq, lit_le, le_lit, lit_lt, lt_lit, lit_eq, eq_lit, ic_m1, m1_ic, ic_lt0, ic_0le, b2_0, b2_1, b2_bl, sh_e, Nat.not_lt_zero, Nat.zero_le, Nat.reduceEqDiff, Nat.reduceAdd, Nat.reduceMul, Nat.reduceSub, Nat.reduceLT, Nat.reduceLeDiff, reduceIte, ne_eq, not_false_eq_true, not_true_eq_false, if_true, if_false, Nat.zero_add]
    rw [if_pos (by omega), fo_0, wr_up]
  | j + 1, k, μ, n, h, hn, hM => by
    have hF' := hC.f8; have hW' := hC.w12; have hT' := hC.t6; have hP' := hC.p5; have nP := hM.nP
    obtain ⟨n, rfl⟩ := fu_s (show 0 < n by omega)
    have ih := fun v => lp_m_goesOn (N := N) hC j (k + 1) (wr μ 81 (41 + k) v) n (by omega) (by omega) (hM.fr (fun _ _ _ => by rw [wr_nr (by decide)]) (wr_nr (by decide)) (wr_nr (by decide)) (wr_nr (by decide)))
    simp (disch := omega) only [f_m_goesOn_2, f_m_goesOn_46, nP, ih, wb_e, ib_e, ibL_e, ob_e, nz4, inb_e, inb_lit, ic_n, n_lit, ic_1, lit_add, add_lit, lit_mul, mul_lit, ic_add, ic_mul, ic_le, ic_lt, ic_eq, lit_le, le_lit, lit_lt, lt_lit, lit_eq, eq_lit, ic_m1, m1_ic, ic_lt0, ic_0le, b2_0, b2_1, b2_bl, sh_e, Nat.not_lt_zero, Nat.zero_le, Nat.reduceEqDiff, Nat.reduceAdd, Nat.reduceMul, Nat.reduceSub, Nat.reduceLT, Nat.reduceLeDiff, reduceIte, ne_eq, not_false_eq_true, not_true_eq_false, if_true, if_false, Nat.zero_add]
    rw [if_neg (by omega), fo_s]
    by_cases e : 5 ≤ μ 81 (41 + k)
    · rw [if_pos e, if_pos e, wr_up, wrR_wrR, wrR_r]
    · rw [if_neg e, if_neg e, wr_up, wrR_wrR, wrR_r]
theorem s_m_goesOn {N : Nat} {μ c : sw_M} {F W T P : Nat} (hN : 5000 ≤ N) (hC : CW c F W T P) (hM : MR μ c F W T P) (hS : WS F W T P (μ 81)) : f_m_goesOn N μ = some (wrR μ 81 (hrS P (μ 81))) := by
  have hF' := hC.f8; have hW' := hC.w12; have hT' := hC.t6; have hP' := hC.p5
  exact lp_m_goesOn (N := N) hC P 0 μ N (by omega) (by omega) hM
theorem s_days_cut {N : Nat} {μ c : sw_M} {F W T P : Nat} (hN : 5000 ≤ N) (hC : CW c F W T P) (hX : XR μ c) {S : Nat → Int32} (hS : WS F W T P S) (hD : DR μ 35 W T P S) {w : Nat} (hw : w < W) : ∃ μ', f_days_cut N μ (ic w) = some (b2 (ctC S w), μ') ∧ FrD 35 μ μ' ∧ DR μ' 35 W T P (if ctC S w then ctS S w else S) := by
  have hF' := hC.f8; have hW' := hC.w12; have hT' := hC.t6; have hP' := hC.p5
  have e2 := e_days_isCut hN hC hX hS hD hw
  obtain ⟨y, hy, ey⟩ := hS.2.1
  have e6 : (0 < S 46) = ¬ S 46 = 0 := by
    rw [ey, lit_lt (by decide) (by omega), eq_lit (by decide) (by omega)]; exact propext (by omega)
  have e9 : f_days_cut N μ (ic w) = some (b2 (ctC S w), if ctC S w then wr (wr μ 35 4 (cutS W S ||| sh w)) 35 3 (S 46 - 1) else μ) := by
    unfold f_days_cut
    rw [e2, ob_e, hD.dp, hD.dc, sh_e, wb_e, wb_e, show (wr μ 35 4 (cutS W S ||| sh w)) 35 3 = S 46 from hD.dp]
    unfold b2 ctC
    by_cases q1 : S (12 + w) = 1
    · rw [if_neg (by rw [if_pos q1]; decide), if_neg (fun z => z.1 q1), if_neg (fun z => z.1 q1)]
    · rw [if_pos (by rw [if_neg q1])]
      by_cases q2 : S 46 = 0
      · rw [if_neg (by rw [e6]; exact fun z => z q2), if_neg (fun z => z.2 q2), if_neg (fun z => z.2 q2)]
      · rw [if_pos (by rw [e6]; exact q2), if_pos ⟨q1, q2⟩, if_pos ⟨q1, q2⟩]
  refine ⟨_, e9, ?_, ?_⟩
  · split
    · exact ((FrD.rf 35 μ).wr _ (by decide) (by decide) (by decide)).wr _ (by decide) (by decide) (by decide)
    · exact FrD.rf 35 μ
  · by_cases q3 : ctC S w
    · rw [if_pos q3, if_pos q3]
      refine ⟨⟨?_, ?_, ?_, ?_⟩, ?_, ?_, ?_, ?_, ?_⟩
      · unfold ctS; rw [up_n (by omega), up_n (by omega), ← hD.dh]; rfl
      · unfold ctS; rw [up_s]; rfl
      · unfold ctS; rw [up_n (by omega), up_n (by omega), ← hD.dx]; rfl
      · rw [cut_ct hW' hw]; rfl
      · intro v hv; unfold ctS; rw [up_n (by omega), up_n (by omega), ← hD.dl hv]; rfl
      · intro v hv; unfold ctS; rw [up_n (by omega), up_n (by omega), ← hD.db hv]; rfl
      · intro v hv; unfold ctS; rw [up_n (by omega), up_n (by omega), up_n (by omega), up_n (by omega)]; intro z; rw [← hD.dt hv z]; rfl
      · intro v hv; unfold ctS; rw [up_n (by omega), up_n (by omega), ← hD.da hv]; rfl
      · intro v hv; unfold ctS; rw [up_n (by omega), up_n (by omega), ← hD.dr hv]; rfl
    · rw [if_neg q3, if_neg q3]; exact hD
theorem s_days_setDown {N : Nat} {μ c : sw_M} {F W T P : Nat} (hN : 5000 ≤ N) (hC : CW c F W T P) (hX : XR μ c) {S : Nat → Int32} (hS : WS F W T P S) (hD : DR μ 35 W T P S) {p t : Nat} (hp : p < P) (ht : t < T) : ∃ μ', f_days_setDown N μ (ic p) (ic t) = some (b2 (S (30 + t) = ic p), μ') ∧ FrD 35 μ μ' ∧ DR μ' 35 W T P (if S (30 + t) = ic p then up S (30 + t) (-1) else S) := by
  have hF' := hC.f8; have hW' := hC.w12; have hT' := hC.t6; have hP' := hC.p5
  have e1 := at_e (N := N) (k := 38) (n := 6) (μ := μ) (show t < 6 by omega) (by decide)
  have e2 := put_e (N := N) (k := 38) (n := 6) (μ := μ) (show t < 6 by omega) (by decide) (-1)
  have e3 := at_e (N := N) (k := 39) (n := 5) (μ := wr μ 38 t (-1)) (show p < 5 by omega) (by decide)
  have a3 : (wr μ 38 t (-1)) 39 p = S (36 + p) := hD.da hp
  have e4 := put_e (N := N) (k := 37) (n := 6) (μ := wr μ 38 t (-1)) (show t < 6 by omega) (by decide) (S (36 + p))
  have a1 := hD.db ht
  have e9 : f_days_setDown N μ (ic p) (ic t) = some (b2 (S (30 + t) = ic p), if S (30 + t) = ic p then wr (wr μ 38 t (-1)) 37 t (S (36 + p)) else μ) := by
    unfold f_days_setDown b2
    rw [e1, ob_e, a1, e2, ob_e, e3, ob_e, a3, e4, ob_e]
    split <;> rfl
  refine ⟨_, e9, ?_, ?_⟩
  · split
    · exact ((FrD.rf 35 μ).wr _ (by decide) (by decide) (by decide)).wr _ (by decide) (by decide) (by decide)
    · exact FrD.rf 35 μ
  · by_cases q3 : S (30 + t) = ic p
    · rw [if_pos q3, if_pos q3]
      refine ⟨⟨?_, ?_, ?_, ?_⟩, ?_, ?_, ?_, ?_, ?_⟩
      · rw [up_n (by omega), ← hD.dh]; rfl
      · rw [up_n (by omega), ← hD.dp]; rfl
      · rw [up_n (by omega), ← hD.dx]; rfl
      · rw [cutS_cg (S := S) (fun v hv => up_n (by omega)), ← hD.dc]; rfl
      · intro v hv; rw [up_n (by omega), ← hD.dl hv]; rfl
      · intro v hv; rw [wr_nr (by decide), wr_ap, if_pos rfl, up_ap]
        by_cases z : v = t
        · rw [if_pos z, if_pos (by omega)]
        · rw [if_neg z, if_neg (by omega)]; exact hD.db hv
      · intro v hv z
        rw [up_ap] at z
        rw [up_n (by omega), wr_ap, if_pos rfl]
        by_cases z2 : v = t
        · subst z2
          rw [if_pos rfl]
          rcases (hS.2.2.2.1 v hv).2 with y | ⟨q, hq, y1, y2⟩
          · rw [y, m1_ic (by omega)] at q3; exact q3.elim
          · rw [y1, ic_eq (by omega) (by omega)] at q3
            rw [← q3]; exact y2.symm
        · rw [if_neg (by omega)] at z
          rw [if_neg z2, ← hD.dt hv z]; rfl
      · intro v hv; rw [up_n (by omega), ← hD.da hv]; rfl
      · intro v hv; rw [up_n (by omega), ← hD.dr hv]; rfl
    · rw [if_neg q3, if_neg q3]; exact hD
theorem s_days_hourStep {N : Nat} {μ c : sw_M} {F W T P : Nat} (hN : 5000 ≤ N) (hC : CW c F W T P) (hX : XR μ c) {S : Nat → Int32} (hS : WS F W T P S) (hD : DR μ 35 W T P S) : ∃ μ', f_days_hourStep N μ = some (b2 (S 48 < 400), μ') ∧ FrD 35 μ μ' ∧ DR μ' 35 W T P (if S 48 < 400 then hrS P S else S) := by
  obtain ⟨μ', h1, h2, h3⟩ := s_days_passHour hN hC hX hS hD
  unfold f_days_hourStep b2
  rw [hD.dh]
  by_cases h : S 48 < 400
  · exact ⟨μ', by rw [if_pos h, h1, ob_e, if_pos h], h2, by rw [if_pos h]; exact h3⟩
  · exact ⟨μ, by rw [if_neg h, if_neg h], FrD.rf 35 μ, by rw [if_neg h]; exact hD⟩
