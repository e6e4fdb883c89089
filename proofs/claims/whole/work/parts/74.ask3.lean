/-! ===== printed by wip/whole/gen74.py ===== -/
theorem atN_b {c : sw_M} {W : Nat} (hW : W ≤ 12) (x : Int32) : ∃ k : Nat, k ≤ 12 ∧ atN W c x = ic k := by
  have := fo_inv (g := fun w a => if c 4 w = x ∨ c 5 w = x then a + 1 else a) (fun i (a : Int32) => ∃ k : Nat, k ≤ i ∧ a = ic k) W 0 0 ⟨0, Nat.le_refl 0, rfl⟩ (by
    rintro i b - - ⟨k, hk, rfl⟩
    by_cases h : c 4 i = x ∨ c 5 i = x
    · rw [if_pos h]; exact ⟨k + 1, by omega, ic_1 k⟩
    · rw [if_neg h]; exact ⟨k, by omega, rfl⟩)
  obtain ⟨k, hk, e⟩ := this
  exact ⟨k, by omega, e⟩
theorem n1_lt {k : Nat} (hk : k < 2147483648) : (-1 : Int32) < ic k := by
  rw [Int32.lt_iff_toInt_lt, ic_toInt hk]; have : (-1 : Int32).toInt = -1 := by decide
  omega
/-! harp -/
def hpF (W : Nat) (c : sw_M) (f : Nat) (s : Int32 × Int32) : Int32 × Int32 := if atN W c (ic f) ≤ s.2 then s else (ic f, atN W c (ic f))
theorem hpF_1 {W : Nat} {c : sw_M} {k : Nat} {s : Int32 × Int32} (q : atN W c (ic k) ≤ s.2) : hpF W c k s = s := by unfold hpF; rw [if_pos q]
theorem hpF_0 {W : Nat} {c : sw_M} {k : Nat} {s : Int32 × Int32} (q : ¬ atN W c (ic k) ≤ s.2) : hpF W c k s = (ic k, atN W c (ic k)) := by unfold hpF; rw [if_neg q]
theorem lp_x_harp {N : Nat} {μ c : sw_M} {F W T P : Nat} (hN : 5000 ≤ N) (hC : CW c F W T P) (hX : XR μ c) (x1 : Int32) : ∀ (j k : Nat) (s : Int32 × Int32) (n : Nat), k + j = F → j < n → f_x_harp_13 N n μ x1 s.1 s.2 (ic k) = some (.inl (if x1 = 0 then (fo (hpF W c) k j s).1 else (fo (hpF W c) k j s).2, μ))
  | 0, k, s, n, h, hn => by
    have hF' := hC.f8; have nF := hX.nF hC
    obtain ⟨n, rfl⟩ := fu_s hn
    simp (disch := omega) only [f_x_harp_13, nF, wb_e, ib_e, ibL_e, ob_e, nz4, inb_e, inb_lit, ic_n, n_lit, ic_1, lit_add, add_lit, lit_mul, mul_lit, ic_add, ic_mul, ic_le, ic_lt, ic_eq, lit_le, le_lit, lit_lt, lt_lit, lit_eq, eq_lit, ic_m1, m1_ic, ic_lt0, ic_0le, b2_0, b2_1, b2_bl, sh_e, Nat.not_lt_zero, Nat.zero_le, Nat.reduceEqDiff, Nat.reduceAdd, Nat.reduceMul, Nat.reduceSub, Nat.reduceLT, Nat.reduceLeDiff, reduceIte, ne_eq, not_false_eq_true, not_true_eq_false, if_true, if_false, Nat.zero_add]
    rw [if_pos (by omega), fo_0]; split <;> rfl
  | j + 1, k, s, n, h, hn => by
    have hF' := hC.f8; have nF := hX.nF hC
    obtain ⟨n, rfl⟩ := fu_s (show 0 < n by omega)
    have ih := fun s => lp_x_harp hN hC hX x1 j (k + 1) s n (by omega) (by omega)
    have e1 := e_land_wiresAt hN hC hX (ic k)
    simp (disch := omega) only [f_x_harp_13, nF, e1, wb_e, ib_e, ibL_e, ob_e, nz4, inb_e, inb_lit, ic_n, n_lit, ic_1, lit_add, add_lit, lit_mul, mul_lit, ic_add, ic_mul, ic_le, ic_lt, ic_eq, lit_le, le_lit, lit_lt, lt_lit, lit_eq, eq_lit, ic_m1, m1_ic, ic_lt0, ic_0le, b2_0, b2_1, b2_bl, sh_e, Nat.not_lt_zero, Nat.zero_le, Nat.reduceEqDiff, Nat.reduceAdd, Nat.reduceMul, Nat.reduceSub, Nat.reduceLT, Nat.reduceLeDiff, reduceIte, ne_eq, not_false_eq_true, not_true_eq_false, if_true, if_false, Nat.zero_add]
    rw [if_neg (by omega), fo_s]
    by_cases q : atN W c (ic k) ≤ s.2
    · rw [if_pos q, hpF_1 q]; exact ih s
    · rw [if_neg q, hpF_0 q]; exact ih (ic k, atN W c (ic k))
theorem lp_m_harp {N : Nat} {μ c : sw_M} {F W T P : Nat} (hN : 5000 ≤ N) (hC : CW c F W T P) (hM : MR μ c F W T P) (x1 : Int32) : ∀ (j k : Nat) (s : Int32 × Int32) (n : Nat), k + j = F → j < n → (s = (-1, -1) ∨ (¬ s.1 = -1 ∧ s.2 = atN W c s.1)) → f_m_harp_26 N n μ x1 s.1 (ic k) = some (if x1 = 0 then (fo (hpF W c) k j s).1 else (fo (hpF W c) k j s).2, μ)
  | 0, k, s, n, h, hn, hs => by
    have hF' := hC.f8; have nF := hM.nF
    obtain ⟨n, rfl⟩ := fu_s hn
    have e1 := e_m_wiresAt hN hC hM s.1
    simp (disch := omega) only [f_m_harp_26, nF, e1, wb_e, ib_e, ibL_e, ob_e, nz4, inb_e, inb_lit, ic_n, n_lit, ic_1, lit_add, add_lit, lit_mul, mul_lit, ic_add, ic_mul, ic_le, ic_lt, ic_eq, lit_le, le_lit, lit_lt, lt_lit, lit_eq, eq_lit, ic_m1, m1_ic, ic_lt0, ic_0le, b2_0, b2_1, b2_bl, sh_e, Nat.not_lt_zero, Nat.zero_le, Nat.reduceEqDiff, Nat.reduceAdd, Nat.reduceMul, Nat.reduceSub, Nat.reduceLT, Nat.reduceLeDiff, reduceIte, ne_eq, not_false_eq_true, not_true_eq_false, if_true, if_false, Nat.zero_add]
    rw [if_pos (by omega), fo_0]
    rcases hs with rfl | ⟨h1, h2⟩
    · rw [if_pos rfl]; split <;> rfl
    · rw [if_neg h1, h2]; split <;> rfl
  | j + 1, k, s, n, h, hn, hs => by
    have hF' := hC.f8; have nF := hM.nF; have hW' := hC.w12
    obtain ⟨n, rfl⟩ := fu_s (show 0 < n by omega)
    have ih := fun s hs => lp_m_harp hN hC hM x1 j (k + 1) s n (by omega) (by omega) hs
    have e1 := e_m_wiresAt hN hC hM (ic k)
    have e2 := e_m_wiresAt hN hC hM s.1
    obtain ⟨z, hz, ez⟩ := atN_b (c := c) hW' (ic k)
    have hne : ¬ ic k = -1 := by rw [ic_m1 (by omega)]; exact id
    simp (disch := omega) only [f_m_harp_26, f_m_harp_52, nF, e1, e2, wb_e, ib_e, ibL_e, ob_e, nz4, inb_e, inb_lit, ic_n, n_lit, ic_1, lit_add, add_lit, lit_mul, mul_lit, ic_add, ic_mul, ic_le, ic_lt, ic_eq, lit_le, le_lit, lit_lt, lt_lit, lit_eq, eq_lit, ic_m1, m1_ic, ic_lt0, ic_0le, b2_0, b2_1, b2_bl, sh_e, Nat.not_lt_zero, Nat.zero_le, Nat.reduceEqDiff, Nat.reduceAdd, Nat.reduceMul, Nat.reduceSub, Nat.reduceLT, Nat.reduceLeDiff, reduceIte, ne_eq, not_false_eq_true, not_true_eq_false, if_true, if_false, Nat.zero_add]
    rw [if_neg (by omega), fo_s]
    rcases hs with rfl | ⟨h1, h2⟩
    · have q : ¬ atN W c (ic k) ≤ ((-1, -1) : Int32 × Int32).2 := by
        rw [ez]; have := n1_lt (k := z) (by omega); show ¬ ic z ≤ -1; grind
      rw [hpF_0 q, if_pos rfl]
      exact ih (ic k, atN W c (ic k)) (Or.inr ⟨hne, rfl⟩)
    · rw [if_neg h1, ← h2]
      by_cases q : atN W c (ic k) ≤ s.2
      · rw [if_pos q, hpF_1 q]; exact ih s (Or.inr ⟨h1, h2⟩)
      · rw [if_neg q, hpF_0 q]; exact ih (ic k, atN W c (ic k)) (Or.inr ⟨hne, rfl⟩)
theorem op_harp {N : Nat} {μ : sw_M} (hN : 5000 ≤ N) (hI : Inv μ) (a1 : Int32) : OpI (f_x_harp N μ a1) (fun μ1 => f_m_harp N μ1 a1) := by
  obtain ⟨F, W, T, P, K, O, nl, nb, n, m, hQ, hR⟩ := id hI
  have hC := hQ.1
  have hF' := hC.f8; have hW' := hC.w12; have hT' := hC.t6; have hP' := hC.p5
  have hX : XR μ μ := ⟨rfl, rfl, rfl, rfl, rfl, rfl, rfl, rfl⟩
  have x0 := hX.nF hC; have x1 := hX.nW hC; have x2 := hX.nT hC; have x3 := hX.nP hC
  have m21 := hQ.2.1.nF; have m22 := hQ.2.1.nW; have m23 := hQ.2.1.nT; have m24 := hQ.2.1.nP
  have z1 : ∀ i, (wr (xr μ i) 63 0 0) 63 0 = 0 := fun _ => rfl
  rcases wn_dec2 a1 (n := 1) (by decide) with ⟨k, hk, rfl, hz⟩ | hz
  · left
    have hz : 0 ≤ ic k ∧ ic k ≤ 1 := hz
    have e1 := lp_x_harp hN hC hX (ic k) F 0 (-1, -1) N (by omega) (by omega)
    have e2 := lp_m_harp (μ := wr μ 63 0 0) hN hC (hQ.2.1.fr (fun j h1 h2 => by rw [wr_ap, if_pos rfl, if_neg (by omega)]) rfl rfl rfl) (ic k) F 0 (-1, -1) N (by omega) (by omega) (Or.inl rfl)
    have z0 : (wr μ 63 0 0) 63 0 = 0 := rfl
    refine ⟨if ic k = 0 then (fo (hpF W μ) 0 F (-1, -1)).1 else (fo (hpF W μ) 0 F (-1, -1)).2, μ, wr μ 63 0 0, ?_, ?_, rfl, hI.sm ((SM.rf μ).wr63 0 0 (Or.inl rfl))⟩
    · unfold f_x_harp; rw [g_needWhat_1 hz, tb_l]; exact e1
    · show f_m_harp N μ (ic k) = _
      unfold f_m_harp; rw [wb_e, withinm_e, ob_e, b2_p (show 0 ≤ ic k ∧ ic k ≤ 1 from hz), may_1 (by decide) z0, ob_e, if_neg o1]; exact e2
  · right
    have hz : ¬ (0 ≤ a1 ∧ a1 ≤ 1) := hz
    refine ⟨xr μ 1, 0, mr (xr μ 1) 1 1, ?_, ?_, rfl, hI.rr (by decide) 1⟩
    · unfold f_x_harp; rw [g_needWhat_0 hz, tb_r]; rfl
    · show f_m_harp N (xr μ 1) a1 = _
      unfold f_m_harp; rw [wb_e, withinm_e, ob_e, b2_n hz, may_i (by decide) (z1 1), ob_e, if_pos rfl]; rfl
/-! freest -/
def frF (T : Nat) (c : sw_M) (S : Nat → Int32) (p : Nat) (s : Int32 × Int32) : Int32 × Int32 := if c 10 p - loadS T c S (ic p) ≤ s.2 then s else (ic p, c 10 p - loadS T c S (ic p))
theorem lp_x_freest {N : Nat} {μ c : sw_M} {F W T P : Nat} (hN : 5000 ≤ N) (hC : CW c F W T P) (hX : XR μ c) {S : Nat → Int32} (hS : WS F W T P S) (hD : DR μ 35 W T P S) (x1 : Int32) : ∀ (j k : Nat) (s : Int32 × Int32) (n : Nat), k + j = P → j < n → f_x_freest_13 N n μ x1 s.1 s.2 (ic k) = some (.inl (if x1 = 0 then (fo (frF T c S) k j s).1 else (fo (frF T c S) k j s).2, μ))
  | 0, k, s, n, h, hn => by
    have hP' := hC.p5; have nP := hX.nP hC
    obtain ⟨n, rfl⟩ := fu_s hn
    simp (disch := omega) only [f_x_freest_13, nP, wb_e, ib_e, ibL_e, ob_e, nz4, inb_e, inb_lit, ic_n, n_lit, ic_1, lit_add, add_lit, lit_mul, mul_lit, ic_add, ic_mul, ic_le, ic_lt, ic_eq, lit_le, le_lit, lit_lt, lt_lit, lit_eq, eq_lit, ic_m1, m1_ic, ic_lt0, ic_0le, b2_0, b2_1, b2_bl, sh_e, Nat.not_lt_zero, Nat.zero_le, Nat.reduceEqDiff, Nat.reduceAdd, Nat.reduceMul, Nat.reduceSub, Nat.reduceLT, Nat.reduceLeDiff, reduceIte, ne_eq, not_false_eq_true, not_true_eq_false, if_true, if_false, Nat.zero_add]
    rw [if_pos (by omega), fo_0]; split <;> rfl
  | j + 1, k, s, n, h, hn => by
    have hP' := hC.p5; have nP := hX.nP hC
    obtain ⟨n, rfl⟩ := fu_s (show 0 < n by omega)
    have ih := fun s => lp_x_freest hN hC hX hS hD x1 j (k + 1) s n (by omega) (by omega)
    have e1 := e_days_freeOf hN hC hX hS hD (p := k) (by omega)
    simp (disch := omega) only [f_x_freest_13, nP, e1, wb_e, ib_e, ibL_e, ob_e, nz4, inb_e, inb_lit, ic_n, n_lit, ic_1, lit_add, add_lit, lit_mul, mul_lit, ic_add, ic_mul, ic_le, ic_lt, ic_eq, lit_le, le_lit, lit_lt, lt_lit, lit_eq, eq_lit, ic_m1, m1_ic, ic_lt0, ic_0le, b2_0, b2_1, b2_bl, sh_e, Nat.not_lt_zero, Nat.zero_le, Nat.reduceEqDiff, Nat.reduceAdd, Nat.reduceMul, Nat.reduceSub, Nat.reduceLT, Nat.reduceLeDiff, reduceIte, ne_eq, not_false_eq_true, not_true_eq_false, if_true, if_false, Nat.zero_add]
    rw [if_neg (by omega), fo_s]
    unfold frF
    by_cases q : c 10 k - loadS T c S (ic k) ≤ s.2
    · rw [if_pos q, if_pos q]; exact ih s
    · rw [if_neg q, if_neg q]; exact ih (ic k, c 10 k - loadS T c S (ic k))
theorem lp_m_freest {N : Nat} {μ c : sw_M} {F W T P : Nat} (hN : 5000 ≤ N) (hC : CW c F W T P) (hM : MR μ c F W T P) (hS : WS F W T P (μ 81)) (x1 : Int32) : ∀ (j k : Nat) (s : Int32 × Int32) (n : Nat), k + j = P → j < n → f_m_freest_33 N n μ x1 s.1 s.2 (ic k) = some (if x1 = 0 then (fo (frF T c (μ 81)) k j s).1 else (fo (frF T c (μ 81)) k j s).2, μ)
  | 0, k, s, n, h, hn => by
    have hP' := hC.p5; have nP := hM.nP
    obtain ⟨n, rfl⟩ := fu_s hn
    simp (disch := omega) only [f_m_freest_33, nP, wb_e, ib_e, ibL_e, ob_e, nz4, inb_e, inb_lit, ic_n, n_lit, ic_1, lit_add, add_lit, lit_mul, mul_lit, ic_add, ic_mul, ic_le, ic_lt, ic_eq, lit_le, le_lit, lit_lt, lt_lit, lit_eq, eq_lit, ic_m1, m1_ic, ic_lt0, ic_0le, b2_0, b2_1, b2_bl, sh_e, Nat.not_lt_zero, Nat.zero_le, Nat.reduceEqDiff, Nat.reduceAdd, Nat.reduceMul, Nat.reduceSub, Nat.reduceLT, Nat.reduceLeDiff, reduceIte, ne_eq, not_false_eq_true, not_true_eq_false, if_true, if_false, Nat.zero_add]
    rw [if_pos (by omega), fo_0]; split <;> rfl
  | j + 1, k, s, n, h, hn => by
    have hP' := hC.p5; have nP := hM.nP
    obtain ⟨n, rfl⟩ := fu_s (show 0 < n by omega)
    have ih := fun s => lp_m_freest hN hC hM hS x1 j (k + 1) s n (by omega) (by omega)
    have e1 := e_m_loadOf hN hC hM hS (ic k)
    have e2 := hM.p1 (p := k) (by omega)
    simp (disch := omega) only [f_m_freest_33, nP, e1, e2, wb_e, ib_e, ibL_e, ob_e, nz4, inb_e, inb_lit, ic_n, n_lit, ic_1, lit_add, add_lit, lit_mul, mul_lit, ic_add, ic_mul, ic_le, ic_lt, ic_eq, lit_le, le_lit, lit_lt, lt_lit, lit_eq, eq_lit, ic_m1, m1_ic, ic_lt0, ic_0le, b2_0, b2_1, b2_bl, sh_e, Nat.not_lt_zero, Nat.zero_le, Nat.reduceEqDiff, Nat.reduceAdd, Nat.reduceMul, Nat.reduceSub, Nat.reduceLT, Nat.reduceLeDiff, reduceIte, ne_eq, not_false_eq_true, not_true_eq_false, if_true, if_false, Nat.zero_add]
    rw [if_neg (by omega), fo_s]
    unfold frF
    by_cases q : c 10 k - loadS T c (μ 81) (ic k) ≤ s.2
    · rw [if_neg (by grind), if_pos q]; exact ih s
    · rw [if_pos (by grind), if_neg q]; exact ih (ic k, c 10 k - loadS T c (μ 81) (ic k))
theorem op_freest {N : Nat} {μ : sw_M} (hN : 5000 ≤ N) (hI : Inv μ) (a1 : Int32) : OpI (f_x_freest N μ a1) (fun μ1 => f_m_freest N μ1 a1) := by
  obtain ⟨F, W, T, P, K, O, nl, nb, n, m, hQ, hR⟩ := id hI
  have hC := hQ.1
  have hF' := hC.f8; have hW' := hC.w12; have hT' := hC.t6; have hP' := hC.p5
  have hX : XR μ μ := ⟨rfl, rfl, rfl, rfl, rfl, rfl, rfl, rfl⟩
  have x0 := hX.nF hC; have x1 := hX.nW hC; have x2 := hX.nT hC; have x3 := hX.nP hC
  have m21 := hQ.2.1.nF; have m22 := hQ.2.1.nW; have m23 := hQ.2.1.nT; have m24 := hQ.2.1.nP
  have z1 : ∀ i, (wr (xr μ i) 63 0 0) 63 0 = 0 := fun _ => rfl
  rcases wn_dec2 a1 (n := 1) (by decide) with ⟨k, hk, rfl, hz⟩ | hz
  · left
    have hz : 0 ≤ ic k ∧ ic k ≤ 1 := hz
    obtain ⟨-, -, hS, hD, hM, -, -⟩ := qm_ctx hQ
    have e1 := lp_x_freest hN hC hX hS hD (ic k) P 0 (-1, -1) N (by omega) (by omega)
    have e2 := lp_m_freest hN hC hM hS (ic k) P 0 (-1, -1) N (by omega) (by omega)
    have z0 : (wr μ 63 0 0) 63 0 = 0 := rfl
    refine ⟨if ic k = 0 then (fo (frF T μ ((qm μ) 81)) 0 P (-1, -1)).1 else (fo (frF T μ ((qm μ) 81)) 0 P (-1, -1)).2, μ, qm μ, ?_, ?_, qm_0 μ, hI.sm (qm_sm μ)⟩
    · unfold f_x_freest; rw [g_needWhat_1 hz, tb_l]; exact e1
    · show f_m_freest N μ (ic k) = _
      unfold f_m_freest; rw [wb_e, withinm_e, ob_e, b2_p (show 0 ≤ ic k ∧ ic k ≤ 1 from hz), may_1 (by decide) z0, ob_e, if_neg o1, e_q_take hN, ob_e]; exact e2
  · right
    have hz : ¬ (0 ≤ a1 ∧ a1 ≤ 1) := hz
    refine ⟨xr μ 1, 0, mr (xr μ 1) 1 1, ?_, ?_, rfl, hI.rr (by decide) 1⟩
    · unfold f_x_freest; rw [g_needWhat_0 hz, tb_r]; rfl
    · show f_m_freest N (xr μ 1) a1 = _
      unfold f_m_freest; rw [wb_e, withinm_e, ob_e, b2_n hz, may_i (by decide) (z1 1), ob_e, if_pos rfl]; rfl
/-! next -/
def nxF (S : Nat → Int32) (w : Nat) (b : Int32) : Int32 := if ¬ S (12 + w) = 1 ∧ S 48 < S w ∧ (b = -1 ∨ S w < S b.toNatClampNeg) then ic w else b
def nxB (W : Nat) (b : Int32) : Prop := b = -1 ∨ ∃ i : Nat, i < W ∧ b = ic i
theorem nxF_b {S : Nat → Int32} {W w : Nat} {b : Int32} (hw : w < W) (hb : nxB W b) : nxB W (nxF S w b) := by
  unfold nxF; split
  · exact Or.inr ⟨w, hw, rfl⟩
  · exact hb
theorem fo_nxB {S : Nat → Int32} {W : Nat} : nxB W (fo (nxF S) 0 W (-1)) :=
  fo_inv (g := nxF S) (fun _ b => nxB W b) W 0 (-1) (Or.inl rfl) (fun i b _ h2 hb => nxF_b (by omega) hb)
theorem lp_nextWire {N : Nat} {μ c : sw_M} {F W T P : Nat} (hN : 5000 ≤ N) (hC : CW c F W T P) (hX : XR μ c) {S : Nat → Int32} (hS : WS F W T P S) (hD : DR μ 35 W T P S) : ∀ (j k : Nat) (b : Int32) (n : Nat), k + j = W → j < n → nxB W b → f_days_nextWire_4 N μ n b (ic k) = some (fo (nxF S) k j b)
  | 0, k, b, n, h, hn, hb => by
    have hW' := hC.w12; have nW := hX.nW hC
    obtain ⟨n, rfl⟩ := fu_s hn
    simp (disch := omega) only [f_days_nextWire_4, nW, wb_e, ib_e, ibL_e, ob_e, nz4, inb_e, inb_lit, ic_n, n_lit, ic_1, lit_add, add_lit, lit_mul, mul_lit, ic_add, ic_mul, ic_le, ic_lt, ic_eq, lit_le, le_lit, lit_lt, lt_lit, lit_eq, eq_lit, ic_m1, m1_ic, ic_lt0, ic_0le, b2_0, b2_1, b2_bl, sh_e, Nat.not_lt_zero, Nat.zero_le, Nat.reduceEqDiff, Nat.reduceAdd, Nat.reduceMul, Nat.reduceSub, Nat.reduceLT, Nat.reduceLeDiff, reduceIte, ne_eq, not_false_eq_true, not_true_eq_false, if_true, if_false, Nat.zero_add]
    rw [if_pos (by omega), fo_0]
  | j + 1, k, b, n, h, hn, hb => by
    have hW' := hC.w12; have nW := hX.nW hC
    obtain ⟨n, rfl⟩ := fu_s (show 0 < n by omega)
    have ih := fun b hb => lp_nextWire hN hC hX hS hD j (k + 1) b n (by omega) (by omega) hb
    have e1 := e_days_isCut hN hC hX hS hD (w := k) (by omega)
    have dl := hD.dl (w := k) (by omega); have dh := hD.dh
    have ihk := ih (ic k) (Or.inr ⟨k, by omega, rfl⟩)
    have ihb := ih b hb
    rw [fo_s]
    simp (disch := omega) only [f_days_nextWire_4, f_days_nextWire_40, f_days_nextWire_41, f_days_nextWire_68, nW, e1, dl, dh, ihk, ihb, wb_e, ib_e, ibL_e, ob_e, nz4, inb_e, inb_lit, ic_n, n_lit, ic_1, lit_add, add_lit, lit_mul, mul_lit, ic_add, ic_mul, ic_le, ic_lt, ic_eq, lit_le, le_lit, lit_lt, lt_lit, lit_eq, eq_lit, ic_m1, m1_ic, ic_lt0, ic_0le, b2_0, b2_1, b2_bl, sh_e, Nat.not_lt_zero, Nat.zero_le, Nat.reduceEqDiff, Nat.reduceAdd, Nat.reduceMul, Nat.reduceSub, Nat.reduceLT, Nat.reduceLeDiff, reduceIte, ne_eq, not_false_eq_true, not_true_eq_false, if_true, if_false, Nat.zero_add, show ¬ (1 : Int32) = 0 by decide]
    rw [if_neg (by omega)]
    unfold nxF
    rcases hb with rfl | ⟨i, hi, rfl⟩
    · rw [if_pos rfl]; grind
    · have dl2 := hD.dl hi
      have e3 := at_e (N := N) (k := 36) (n := 12) (μ := μ) (show i < 12 by omega) (by decide)
      have hne : ¬ ic i = -1 := by rw [ic_m1 (by omega)]; exact id
      rw [if_neg hne, e3, ob_e, dl2, ic_n (by omega)]
      grind
theorem lp_m_next {N : Nat} {μ c : sw_M} {F W T P : Nat} (hN : 5000 ≤ N) (hC : CW c F W T P) (hM : MR μ c F W T P) (hS : WS F W T P (μ 81)) (x1 : Int32) : ∀ (j k : Nat) (b : Int32) (n : Nat), k + j = W → j < n → nxB W b → f_m_next_30 N n μ x1 b (ic k) = some (if x1 = 0 ∨ fo (nxF (μ 81)) k j b = -1 then fo (nxF (μ 81)) k j b else (μ 81) (fo (nxF (μ 81)) k j b).toNatClampNeg - (μ 81) 48, μ)
  | 0, k, b, n, h, hn, hb => by
    have hW' := hC.w12; have nW := hM.nW
    obtain ⟨n, rfl⟩ := fu_s hn
    rcases hb with rfl | ⟨i, hi, rfl⟩
    · simp (disch := omega) only [f_m_next_30, nW, wb_e, ib_e, ibL_e, ob_e, nz4, inb_e, inb_lit, ic_n, n_lit, ic_1, lit_add, add_lit, lit_mul, mul_lit, ic_add, ic_mul, ic_le, ic_lt, ic_eq, lit_le, le_lit, lit_lt, lt_lit, lit_eq, eq_lit, ic_m1, m1_ic, ic_lt0, ic_0le, b2_0, b2_1, b2_bl, sh_e, Nat.not_lt_zero, Nat.zero_le, Nat.reduceEqDiff, Nat.reduceAdd, Nat.reduceMul, Nat.reduceSub, Nat.reduceLT, Nat.reduceLeDiff, reduceIte, ne_eq, not_false_eq_true, not_true_eq_false, if_true, if_false, Nat.zero_add]
      rw [if_pos (by omega), fo_0]; simp
    · have hne : ¬ ic i = -1 := by rw [ic_m1 (by omega)]; exact id
      simp (disch := omega) only [f_m_next_30, nW, hne, wb_e, ib_e, ibL_e, ob_e, nz4, inb_e, inb_lit, ic_n, n_lit, ic_1, lit_add, add_lit, lit_mul, mul_lit, ic_add, ic_mul, ic_le, ic_lt, ic_eq, lit_le, le_lit, lit_lt, lt_lit, lit_eq, eq_lit, ic_m1, m1_ic, ic_lt0, ic_0le, b2_0, b2_1, b2_bl, sh_e, Nat.not_lt_zero, Nat.zero_le, Nat.reduceEqDiff, Nat.reduceAdd, Nat.reduceMul, Nat.reduceSub, Nat.reduceLT, Nat.reduceLeDiff, reduceIte, ne_eq, not_false_eq_true, not_true_eq_false, if_true, if_false, Nat.zero_add]
      rw [if_pos (by omega), fo_0, ic_n (by omega)]; simp only [hne, or_false]
      split <;> rfl
  | j + 1, k, b, n, h, hn, hb => by
    have hW' := hC.w12; have nW := hM.nW
    obtain ⟨n, rfl⟩ := fu_s (show 0 < n by omega)
    have ih := fun b hb => lp_m_next hN hC hM hS x1 j (k + 1) b n (by omega) (by omega) hb
    have e1 := e_m_isLive hN hC hM hS 0 0 (w := k) (by omega)
    have e0 := hS.ct0 (w := k) (by omega)
    have ihk := ih (ic k) (Or.inr ⟨k, by omega, rfl⟩)
    have ihb := ih b hb
    rw [fo_s]
    have hst : f_m_next_30 N (n + 1) μ x1 b (ic k) = f_m_next_30 N n μ x1 (nxF (μ 81) k b) (ic (k + 1)) := by
      rcases hb with rfl | ⟨i, hi, rfl⟩
      · simp (disch := omega) only [f_m_next_30, f_m_next_84, nW, e1, e0, wb_e, ib_e, ibL_e, ob_e, nz4, inb_e, inb_lit, ic_n, n_lit, ic_1, lit_add, add_lit, lit_mul, mul_lit, ic_add, ic_mul, ic_le, ic_lt, ic_eq, lit_le, le_lit, lit_lt, lt_lit, lit_eq, eq_lit, ic_m1, m1_ic, ic_lt0, ic_0le, b2_0, b2_1, b2_bl, sh_e, Nat.not_lt_zero, Nat.zero_le, Nat.reduceEqDiff, Nat.reduceAdd, Nat.reduceMul, Nat.reduceSub, Nat.reduceLT, Nat.reduceLeDiff, reduceIte, ne_eq, not_false_eq_true, not_true_eq_false, if_true, if_false, Nat.zero_add]
        rw [if_neg (by omega)]
        unfold nxF lv
        simp only [Int32.add_zero, true_or, and_true]
        by_cases a : (μ 81) (12 + k) = 1
        · simp [a]
        · by_cases b : (μ 81) k ≤ (μ 81) 48
          · have : ¬ (μ 81) 48 < (μ 81) k := by grind
            simp [a, b, this]
          · have : (μ 81) 48 < (μ 81) k := by grind
            simp [a, b, this]
      · have hne : ¬ ic i = -1 := by rw [ic_m1 (by omega)]; exact id
        simp (disch := omega) only [f_m_next_30, f_m_next_84, nW, e1, e0, hne, wb_e, ib_e, ibL_e, ob_e, nz4, inb_e, inb_lit, ic_n, n_lit, ic_1, lit_add, add_lit, lit_mul, mul_lit, ic_add, ic_mul, ic_le, ic_lt, ic_eq, lit_le, le_lit, lit_lt, lt_lit, lit_eq, eq_lit, ic_m1, m1_ic, ic_lt0, ic_0le, b2_0, b2_1, b2_bl, sh_e, Nat.not_lt_zero, Nat.zero_le, Nat.reduceEqDiff, Nat.reduceAdd, Nat.reduceMul, Nat.reduceSub, Nat.reduceLT, Nat.reduceLeDiff, reduceIte, ne_eq, not_false_eq_true, not_true_eq_false, if_true, if_false, Nat.zero_add]
        rw [if_neg (by omega)]
        unfold nxF lv
        simp only [Int32.add_zero, hne, false_or, ic_n (show i < 2147483648 by omega)]
        by_cases a : (μ 81) (12 + k) = 1
        · simp [a]
        · by_cases b : (μ 81) k ≤ (μ 81) 48
          · have : ¬ (μ 81) 48 < (μ 81) k := by grind
            simp [a, b, this]
          · have h2 : (μ 81) 48 < (μ 81) k := by grind
            by_cases d : (μ 81) i ≤ (μ 81) k
            · have : ¬ (μ 81) k < (μ 81) i := by grind
              simp [a, b, h2, d, this]
            · have : (μ 81) k < (μ 81) i := by grind
              simp [a, b, h2, d, this]
    rw [hst]
    exact ih _ (nxF_b (by omega) hb)
theorem op_next {N : Nat} {μ : sw_M} (hN : 5000 ≤ N) (hI : Inv μ) (a1 : Int32) : OpI (f_x_next N μ a1) (fun μ1 => f_m_next N μ1 a1) := by
  obtain ⟨F, W, T, P, K, O, nl, nb, n, m, hQ, hR⟩ := id hI
  have hC := hQ.1
  have hF' := hC.f8; have hW' := hC.w12; have hT' := hC.t6; have hP' := hC.p5
  have hX : XR μ μ := ⟨rfl, rfl, rfl, rfl, rfl, rfl, rfl, rfl⟩
  have x0 := hX.nF hC; have x1 := hX.nW hC; have x2 := hX.nT hC; have x3 := hX.nP hC
  have m21 := hQ.2.1.nF; have m22 := hQ.2.1.nW; have m23 := hQ.2.1.nT; have m24 := hQ.2.1.nP
  have z1 : ∀ i, (wr (xr μ i) 63 0 0) 63 0 = 0 := fun _ => rfl
  rcases wn_dec2 a1 (n := 1) (by decide) with ⟨k, hk, rfl, hz⟩ | hz
  · left
    have hz : 0 ≤ ic k ∧ ic k ≤ 1 := hz
    obtain ⟨-, -, hS, hD, hM, -, -⟩ := qm_ctx hQ
    have e1 := lp_nextWire hN hC hX hS hD W 0 (-1) N (by omega) (by omega) (Or.inl rfl)
    have e2 := lp_m_next hN hC hM hS (ic k) W 0 (-1) N (by omega) (by omega) (Or.inl rfl)
    have hb := fo_nxB (S := (qm μ) 81) (W := W)
    have z0 : (wr μ 63 0 0) 63 0 = 0 := rfl
    refine ⟨if ic k = 0 ∨ fo (nxF ((qm μ) 81)) 0 W (-1) = -1 then fo (nxF ((qm μ) 81)) 0 W (-1) else ((qm μ) 81) (fo (nxF ((qm μ) 81)) 0 W (-1)).toNatClampNeg - ((qm μ) 81) 48, μ, qm μ, ?_, ?_, qm_0 μ, hI.sm (qm_sm μ)⟩
    rotate_left
    · show f_m_next N μ (ic k) = _
      unfold f_m_next; rw [wb_e, withinm_e, ob_e, b2_p (show 0 ≤ ic k ∧ ic k ≤ 1 from hz), may_1 (by decide) z0, ob_e, if_neg o1, e_q_take hN, ob_e]; exact e2
    · unfold f_x_next; rw [g_needWhat_1 hz, tb_l]
      have e3 : f_days_nextWire N μ = some (fo (nxF ((qm μ) 81)) 0 W (-1)) := e1
      rw [e3, ob_e]
      rcases hb with e | ⟨i, hi, e⟩
      · rw [e, if_pos rfl]; simp
      · have hne : ¬ ic i = -1 := by rw [ic_m1 (by omega)]; exact id
        rw [e, if_neg hne, at_e (show i < 12 by omega) (by decide), ob_e, hD.dl hi, hD.dh, ic_n (by omega)]
        simp only [hne, or_false]
        split <;> rfl
  · right
    have hz : ¬ (0 ≤ a1 ∧ a1 ≤ 1) := hz
    refine ⟨xr μ 1, 0, mr (xr μ 1) 1 1, ?_, ?_, rfl, hI.rr (by decide) 1⟩
    · unfold f_x_next; rw [g_needWhat_0 hz, tb_r]; rfl
    · show f_m_next N (xr μ 1) a1 = _
      unfold f_m_next; rw [wb_e, withinm_e, ob_e, b2_n hz, may_i (by decide) (z1 1), ob_e, if_pos rfl]; rfl
/-! gates -/
def gtP (c : sw_M) (S : Nat → Int32) (f x : Int32) (w : Nat) : Prop := (c 4 w = f ∨ c 5 w = f) ∧ (if lv S w 0 0 then (0 : Int32) else if S (12 + w) = 1 then 1 else 2) = x
theorem its0 (p q : Prop) [Decidable p] [Decidable q] : ((if p then (0 : Int32) else if q then 1 else 2) = ic 0) = p := by
  by_cases h1 : p <;> by_cases h2 : q <;> simp [h1, h2] <;> decide
theorem its1 (p q : Prop) [Decidable p] [Decidable q] : ((if p then (0 : Int32) else if q then 1 else 2) = ic 1) = (¬ p ∧ q) := by
  by_cases h1 : p <;> by_cases h2 : q <;> simp [h1, h2] <;> decide
theorem its2 (p q : Prop) [Decidable p] [Decidable q] : ((if p then (0 : Int32) else if q then 1 else 2) = ic 2) = (¬ p ∧ ¬ q) := by
  by_cases h1 : p <;> by_cases h2 : q <;> simp [h1, h2] <;> decide
theorem gates83 {N : Nat} {μ c : sw_M} {F W T P : Nat} (hN : 5000 ≤ N) (hC : CW c F W T P) (hM : MR μ c F W T P) (f x a s0 : Int32) (K : sw_M → Int32 → Int32 → Int32 → Int32 → Option (Int32 × sw_M)) {k : Nat} (hk : k < W) : f_m_gates_83 N K μ f x a (ic k) s0 = K μ f x (if (c 4 k = f ∨ c 5 k = f) ∧ s0 = x then a ||| sh k else a) (ic (k + 1)) := by
  have e2 := e_m_isAt hN hC hM f hk
  unfold f_m_gates_83 f_m_gates_109 f_m_gates_110
  rw [e2, ob_e]
  simp only [b2_0, ib_e, or_0, sh_e, ic_1]
  by_cases a3 : c 4 k = f ∨ c 5 k = f
  · rw [if_neg (fun z => z a3)]
    by_cases a4 : s0 = x
    · rw [if_pos a4, if_pos ⟨a3, a4⟩]
    · rw [if_neg a4, if_neg (fun z => a4 z.2)]
  · rw [if_pos a3, if_neg (fun z => a3 z.1)]
theorem lp_m_gates {N : Nat} {μ c : sw_M} {F W T P : Nat} (hN : 5000 ≤ N) (hC : CW c F W T P) (hM : MR μ c F W T P) (hS : WS F W T P (μ 81)) (f x : Int32) : ∀ (j k : Nat) (a : Int32) (n : Nat), k + j = W → j < n → f_m_gates_40 N n μ f x a (ic k) = some (fo (fun w a => if (c 4 w = f ∨ c 5 w = f) ∧ (if lv (μ 81) w 0 0 then (0 : Int32) else if (μ 81) (12 + w) = 1 then 1 else 2) = x then a ||| sh w else a) k j a, μ)
  | 0, k, a, n, h, hn => by
    have hW' := hC.w12; have nW := hM.nW
    obtain ⟨n, rfl⟩ := fu_s hn
    simp (disch := omega) only [f_m_gates_40, nW, wb_e, ib_e, ibL_e, ob_e, nz4, inb_e, inb_lit, ic_n, n_lit, ic_1, lit_add, add_lit, lit_mul, mul_lit, ic_add, ic_mul, ic_le, ic_lt, ic_eq, lit_le, le_lit, lit_lt, lt_lit, lit_eq, eq_lit, ic_m1, m1_ic, ic_lt0, ic_0le, b2_0, b2_1, b2_bl, sh_e, Nat.not_lt_zero, Nat.zero_le, Nat.reduceEqDiff, Nat.reduceAdd, Nat.reduceMul, Nat.reduceSub, Nat.reduceLT, Nat.reduceLeDiff, reduceIte, ne_eq, not_false_eq_true, not_true_eq_false, if_true, if_false, Nat.zero_add]
    rw [if_pos (by omega), fo_0]
  | j + 1, k, a, n, h, hn => by
    have hW' := hC.w12; have nW := hM.nW
    obtain ⟨n, rfl⟩ := fu_s (show 0 < n by omega)
    have ih := fun a => lp_m_gates hN hC hM hS f x j (k + 1) a n (by omega) (by omega)
    have e1 := e_m_isLive hN hC hM hS 0 0 (w := k) (by omega)
    have e2 := fun s0 => gates83 hN hC hM f x a s0 (f_m_gates_40 N n) (k := k) (by omega)
    rw [f_m_gates_40, nW, if_neg (by rw [ic_le (by omega) (by omega)]; omega), e1, ob_e, lit_add, inb_e (by omega) (by decide), ic_n (by omega), e2, e2, e2, ih, ih, ih, fo_s]
    simp only [b2_0]
    by_cases a1 : lv (μ 81) k 0 0
    · rw [if_neg (fun z => z a1), if_pos a1]
    · rw [if_pos a1, if_neg a1]
      by_cases a2 : (μ 81) (12 + k) = 1
      · rw [if_pos a2, if_pos a2]
      · rw [if_neg a2, if_neg a2]
theorem op_gates {N : Nat} {μ : sw_M} (hN : 5000 ≤ N) (hI : Inv μ) (a1 a2 : Int32) : OpB (f_x_gates N μ a1 a2) (fun μ1 => f_m_gates N μ1 a1 a2) := by
  obtain ⟨F, W, T, P, K, O, nl, nb, n, m, hQ, hR⟩ := id hI
  have hC := hQ.1
  have hF' := hC.f8; have hW' := hC.w12; have hT' := hC.t6; have hP' := hC.p5
  have hX : XR μ μ := ⟨rfl, rfl, rfl, rfl, rfl, rfl, rfl, rfl⟩
  have x0 := hX.nF hC; have x1 := hX.nW hC; have x2 := hX.nT hC; have x3 := hX.nP hC
  have m21 := hQ.2.1.nF; have m22 := hQ.2.1.nW; have m23 := hQ.2.1.nT; have m24 := hQ.2.1.nP
  have z1 : ∀ i, (wr (xr μ i) 63 0 0) 63 0 = 0 := fun _ => rfl
  rcases wn_dec a1 (n := F) (by omega) with ⟨f, hf, rfl, hg⟩ | hg
  · rcases wn_dec2 a2 (n := 2) (by decide) with ⟨k, hk, rfl, hz⟩ | hz
    · left
      have hz : 0 ≤ ic k ∧ ic k ≤ 2 := hz
      obtain ⟨-, -, hS, hD, hM, -, -⟩ := qm_ctx hQ
      have e1 := lp_m_gates hN hC hM hS (ic f) (ic k) W 0 0 N (by omega) (by omega)
      have e2 := e_land_wireBitsAt hN hC hX (ic f)
      have e3 := e_days_liveBits hN hC hX hS hD 0
      have z0 : (wr μ 63 0 0) 63 0 = 0 := rfl
      have hb := fun i => b_fo0 (fun w => (μ 4 w = ic f ∨ μ 5 w = ic f) ∧ (if lv ((qm μ) 81) w 0 0 then (0 : Int32) else if ((qm μ) 81) (12 + w) = 1 then 1 else 2) = ic k) (W := W) (by omega) i
      have b1 := fun i => b_fo0 (fun w => μ 4 w = ic f ∨ μ 5 w = ic f) (W := W) (by omega) i
      have b2' := fun i => b_fo0 (fun w => lv ((qm μ) 81) w 0 0) (W := W) (by omega) i
      have b3 := fun i => b_cutS (S := (qm μ) 81) hW' i
      refine ⟨fo (fun w a => if (μ 4 w = ic f ∨ μ 5 w = ic f) ∧ (if lv ((qm μ) 81) w 0 0 then (0 : Int32) else if ((qm μ) 81) (12 + w) = 1 then 1 else 2) = ic k then a ||| sh w else a) 0 W 0, μ, qm μ, ?_, ?_, qm_0 μ, hI.sm (qm_sm μ)⟩
      rotate_left
      · show f_m_gates N μ (ic f) (ic k) = _
        unfold f_m_gates; rw [wb_e, h_isField_1 (μ := wr μ 63 0 0) m21 rfl hg, ob_e, if_neg o1, withinm_e, ob_e, b2_p (show 0 ≤ ic k ∧ ic k ≤ 2 from hz), may_1 (by decide) z0, ob_e, if_neg o1, e_q_take hN, ob_e]; exact e1
      · unfold f_x_gates; rw [g_needField_1 x0 hg, tb_l, g_needWhat_1 hz, tb_l, e2, ob_e, e3, ob_e, hD.dc]
        unfold atB liveB
        have hk2 : k = 0 ∨ k = 1 ∨ k = 2 := by omega
        rcases hk2 with rfl | rfl | rfl
        · rw [if_pos (show ic 0 = 0 from rfl)]
          congr 3
          refine b_ext (fun i _ => ?_)
          rw [b_and, hb, b1, b2', Bool.eq_iff_iff]
          simp only [Bool.and_eq_true, decide_eq_true_eq, its0]
          exact ⟨fun ⟨⟨a, b⟩, _, d⟩ => ⟨a, b, d⟩, fun ⟨a, b, d⟩ => ⟨⟨a, b⟩, a, d⟩⟩
        · rw [if_neg (show ¬ ic 1 = 0 by decide), if_pos (show ic 1 = 1 from rfl)]
          congr 3
          refine b_ext (fun i _ => ?_)
          rw [b_and, hb, b1, b3, Bool.eq_iff_iff]
          simp only [Bool.and_eq_true, decide_eq_true_eq, its1]
          exact ⟨fun ⟨⟨a, b⟩, _, d⟩ => ⟨a, b, fun z => z.1 d, d⟩, fun ⟨a, b, _, d⟩ => ⟨⟨a, b⟩, a, d⟩⟩
        · rw [if_neg (show ¬ ic 2 = 0 by decide), if_neg (show ¬ ic 2 = 1 by decide)]
          congr 3
          refine b_ext (fun i hi => ?_)
          rw [b_and, b_and, b_xor, b_xor, b_m1 i hi, hb, b1, b2', b3, Bool.eq_iff_iff]
          simp only [Bool.and_eq_true, decide_eq_true_eq, its2, Bool.xor_true, Bool.not_eq_true', decide_eq_false_iff_not]
          exact ⟨fun ⟨⟨⟨a, b⟩, d⟩, e⟩ => ⟨a, b, fun z => d ⟨a, z⟩, fun z => e ⟨a, z⟩⟩, fun ⟨a, b, d, e⟩ => ⟨⟨⟨a, b⟩, fun z => d z.2⟩, fun z => e z.2⟩⟩
    · right; right
      have hz : ¬ (0 ≤ a2 ∧ a2 ≤ 2) := hz
      refine ⟨xr μ 1, 0, mr (xr μ 1) 1 2, ?_, ?_, rfl, hI.rr (by decide) 2⟩
      · unfold f_x_gates; rw [g_needField_1 x0 hg, tb_l, g_needWhat_0 hz, tb_r]; rfl
      · show f_m_gates N (xr μ 1) (ic f) a2 = _
        unfold f_m_gates; rw [wb_e, h_isField_1 (μ := wr (xr μ 1) 63 0 0) m21 (z1 1) hg, ob_e, if_neg o1, withinm_e, ob_e, b2_n hz, may_i (by decide) (z1 1), ob_e, if_pos rfl]; rfl
  · right; left
    refine ⟨xr μ 0, 0, mr (xr μ 0) 0 1, ?_, ?_, rfl, hI.rr (by decide) 1⟩
    · unfold f_x_gates; rw [g_needField_0 x0 hg, tb_r]; rfl
    · show f_m_gates N (xr μ 0) a1 a2 = _
      unfold f_m_gates; rw [wb_e, h_isField_0 (μ := wr (xr μ 0) 63 0 0) m21 (z1 0) hg, ob_e, if_pos rfl]; rfl
