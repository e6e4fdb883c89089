/-! ===== stuck, moved, fault, status, count ===== -/
section
variable {N : Nat} {μ c : sw_M} {F W T P : Nat} {S K O : Nat → Int32} {nl : Nat}
theorem lp_canAny (hN : 5000 ≤ N) (hC : CW c F W T P) (hX : XR μ c) (hS : WS F W T P S) (hD : DR μ 35 W T P S) (hL : XL μ K O nl) {p : Nat} (hp : p < P) : ∀ (j k : Nat) (μ1 : sw_M) (n : Nat), k + j = W → j < n → FrL μ μ1 → ∃ r μ2, f_days_canCrossAny_2 N n μ1 (ic p) (ic k) = some (r, μ2) ∧ FrL μ μ2 ∧ (r = 0 ↔ ∀ w, k ≤ w → w < W → ¬ canS W T c S K O nl p w)
  | 0, k, μ1, n, h, hn, hf => by
    have hW' := hC.w12
    have nW := (hX.fd (hf.fd 35) (by decide)).nW hC
    obtain ⟨n, rfl⟩ := fu_s hn
    refine ⟨0, μ1, ?_, hf, ?_⟩
    · simp (disch := omega) only [f_days_canCrossAny_2, nW, wb_e, ib_e, ibL_e, ob_e, nz4, inb_e, inb_lit, ic_n, n_lit, ic_1, lit_add, add_lit, lit_mul, mul_lit, ic_add, ic_mul, ic_le, ic_lt, ic_eq, lit_le, le_lit, lit_lt, lt_lit, lit_eq, eq_lit, ic_m1, m1_ic, ic_lt0, ic_0le, b2_0, b2_1, b2_bl, sh_e, Nat.not_lt_zero, Nat.zero_le, Nat.reduceEqDiff, Nat.reduceAdd, Nat.reduceMul, Nat.reduceSub, Nat.reduceLT, Nat.reduceLeDiff, reduceIte, ne_eq, not_false_eq_true, not_true_eq_false, if_true, if_false, Nat.zero_add]
      rw [if_pos (by omega)]
    · exact ⟨fun _ w h1 h2 => by omega, fun _ => rfl⟩
  | j + 1, k, μ1, n, h, hn, hf => by
    have hW' := hC.w12
    have hX1 := hX.fd (hf.fd 35) (by decide)
    have nW := hX1.nW hC
    obtain ⟨n, rfl⟩ := fu_s (show 0 < n by omega)
    obtain ⟨μ2, e1, f1⟩ := e_days_canCross hN hC hX1 hS (hD.fl hf (by decide)) (hL.fl hf) hp (w := k) (by omega)
    have hst : f_days_canCrossAny_2 N (n + 1) μ1 (ic p) (ic k) = if canS W T c S K O nl p k then some (1, μ2) else f_days_canCrossAny_2 N n μ2 (ic p) (ic (k + 1)) := by
      simp (disch := omega) only [f_days_canCrossAny_2, nW, e1, wb_e, ib_e, ibL_e, ob_e, nz4, inb_e, inb_lit, ic_n, n_lit, ic_1, lit_add, add_lit, lit_mul, mul_lit, ic_add, ic_mul, ic_le, ic_lt, ic_eq, lit_le, le_lit, lit_lt, lt_lit, lit_eq, eq_lit, ic_m1, m1_ic, ic_lt0, ic_0le, b2_0, b2_1, b2_bl, sh_e, Nat.not_lt_zero, Nat.zero_le, Nat.reduceEqDiff, Nat.reduceAdd, Nat.reduceMul, Nat.reduceSub, Nat.reduceLT, Nat.reduceLeDiff, reduceIte, ne_eq, not_false_eq_true, not_true_eq_false, if_true, if_false, Nat.zero_add]
      rw [if_neg (by omega)]
      by_cases q : canS W T c S K O nl p k
      · rw [if_neg (fun z => z q), if_pos q]
      · rw [if_pos q, if_neg q]
    by_cases q : canS W T c S K O nl p k
    · refine ⟨1, μ2, by rw [hst, if_pos q], hf.tr f1, ?_⟩
      exact ⟨fun z => absurd z (by decide), fun z => absurd q (z k (Nat.le_refl k) (by omega))⟩
    · obtain ⟨r, μ3, e2, f2, hr⟩ := lp_canAny hN hC hX hS hD hL hp j (k + 1) μ2 n (by omega) (by omega) (hf.tr f1)
      refine ⟨r, μ3, by rw [hst, if_neg q, e2], f2, ?_⟩
      rw [hr]
      refine ⟨fun z w h1 h2 => ?_, fun z w h1 h2 => z w (by omega) h2⟩
      by_cases e : w = k
      · subst e; exact q
      · exact z w (by omega) h2
theorem lp_x_stuck (hN : 5000 ≤ N) (hC : CW c F W T P) (hX : XR μ c) (hS : WS F W T P S) (hD : DR μ 35 W T P S) (hL : XL μ K O nl) : ∀ (j k : Nat) (a : Int32) (μ1 : sw_M) (n : Nat), k + j = P → j < n → FrL μ μ1 → ∃ v μ2, f_x_stuck_4 N n μ1 a (ic k) = some (v, μ2) ∧ FrL μ μ2 ∧ ∀ i, bt v i = true ↔ (bt a i = true ∨ (k ≤ i ∧ i < P ∧ ∀ w, w < W → ¬ canS W T c S K O nl i w))
  | 0, k, a, μ1, n, h, hn, hf => by
    have hP' := hC.p5
    have nP := (hX.fd (hf.fd 35) (by decide)).nP hC
    obtain ⟨n, rfl⟩ := fu_s hn
    refine ⟨a, μ1, ?_, hf, ?_⟩
    · simp (disch := omega) only [f_x_stuck_4, nP, wb_e, ib_e, ibL_e, ob_e, nz4, inb_e, inb_lit, ic_n, n_lit, ic_1, lit_add, add_lit, lit_mul, mul_lit, ic_add, ic_mul, ic_le, ic_lt, ic_eq, lit_le, le_lit, lit_lt, lt_lit, lit_eq, eq_lit, ic_m1, m1_ic, ic_lt0, ic_0le, b2_0, b2_1, b2_bl, sh_e, Nat.not_lt_zero, Nat.zero_le, Nat.reduceEqDiff, Nat.reduceAdd, Nat.reduceMul, Nat.reduceSub, Nat.reduceLT, Nat.reduceLeDiff, reduceIte, ne_eq, not_false_eq_true, not_true_eq_false, if_true, if_false, Nat.zero_add]
      rw [if_pos (by omega)]
    · intro i; exact ⟨Or.inl, fun z => z.elim id (fun ⟨h1, h2, _⟩ => by omega)⟩
  | j + 1, k, a, μ1, n, h, hn, hf => by
    have hP' := hC.p5; have hW' := hC.w12
    have hX1 := hX.fd (hf.fd 35) (by decide)
    have nP := hX1.nP hC
    obtain ⟨n, rfl⟩ := fu_s (show 0 < n by omega)
    obtain ⟨r, μ2, e1, f1, hr⟩ := lp_canAny hN hC hX hS hD hL (p := k) (by omega) W 0 μ1 N (by omega) (by omega) hf
    have e1' : f_days_canCrossAny N μ1 (ic k) = some (r, μ2) := e1
    obtain ⟨v, μ3, e2, f2, hv⟩ := lp_x_stuck hN hC hX hS hD hL j (k + 1) (if r = 0 then a ||| sh k else a) μ2 n (by omega) (by omega) f1
    refine ⟨v, μ3, ?_, f2, ?_⟩
    · rw [← e2]
      simp (disch := omega) only [f_x_stuck_4, nP, e1', wb_e, ib_e, ibL_e, ob_e, nz4, inb_e, inb_lit, ic_n, n_lit, ic_1, lit_add, add_lit, lit_mul, mul_lit, ic_add, ic_mul, ic_le, ic_lt, ic_eq, lit_le, le_lit, lit_lt, lt_lit, lit_eq, eq_lit, ic_m1, m1_ic, ic_lt0, ic_0le, b2_0, b2_1, b2_bl, sh_e, Nat.not_lt_zero, Nat.zero_le, Nat.reduceEqDiff, Nat.reduceAdd, Nat.reduceMul, Nat.reduceSub, Nat.reduceLT, Nat.reduceLeDiff, reduceIte, ne_eq, not_false_eq_true, not_true_eq_false, if_true, if_false, Nat.zero_add]
      rw [if_neg (by omega)]
      by_cases q : r = 0
      · rw [if_pos q, if_pos q]
      · rw [if_neg q, if_neg q]
    · intro i
      rw [hv]
      have hr2 : r = 0 ↔ ∀ w, w < W → ¬ canS W T c S K O nl k w := by rw [hr]; exact ⟨fun z w h => z w (Nat.zero_le w) h, fun z w _ h => z w h⟩
      by_cases q : r = 0
      · rw [if_pos q, b_or, b_sh' (by omega)]
        have q2 := hr2.mp q
        by_cases e : i = k
        · subst e
          exact ⟨fun _ => Or.inr ⟨Nat.le_refl i, by omega, q2⟩, fun _ => Or.inl (by simp)⟩
        · have : (k + 1 ≤ i) ↔ k ≤ i := by omega
          simp [e, this]
      · rw [if_neg q]
        have q2 : ¬ ∀ w, w < W → ¬ canS W T c S K O nl k w := fun z => q (hr2.mpr z)
        by_cases e : i = k
        · subst e
          exact ⟨fun z => z.elim Or.inl (fun ⟨h1, _⟩ => by omega), fun z => z.elim Or.inl (fun ⟨_, _, h3⟩ => absurd h3 q2)⟩
        · have : (k + 1 ≤ i) ↔ k ≤ i := by omega
          rw [this]
theorem lp_m_stuck26 (hN : 5000 ≤ N) (hC : CW c F W T P) (hM : MR μ c F W T P) (hS : WS F W T P (μ 81)) (hL : ML μ K O nl) {p : Nat} (hp : p < P) (a : Int32) (k13 : sw_M → Int32 → Int32 → Option (Int32 × sw_M)) : ∀ (j k : Nat) (x3 : Int32) (μ1 : sw_M) (n : Nat), k + j = W → j < n → FrT μ μ1 → (x3 = 0 ∨ x3 = 1) → ∃ r μ2, f_m_stuck_26 N k13 n μ1 a (ic p) x3 (ic k) = k13 μ2 (a ||| r) (ic (p + 1)) ∧ FrT μ μ2 ∧ ((r = sh p ∧ x3 = 1 ∧ ∀ w, k ≤ w → w < W → ¬ canS W T c (μ 81) K O nl p w) ∨ (r = 0 ∧ ¬ (x3 = 1 ∧ ∀ w, k ≤ w → w < W → ¬ canS W T c (μ 81) K O nl p w)))
  | 0, k, x3, μ1, n, h, hn, hf, hx => by
    have hW' := hC.w12; have hP' := hC.p5
    have nW := (hM.fs hf.fs).nW
    obtain ⟨n, rfl⟩ := fu_s hn
    have hst : f_m_stuck_26 N k13 (n + 1) μ1 a (ic p) x3 (ic k) = k13 μ1 (a ||| (if x3 = 0 then 0 else sh p)) (ic (p + 1)) := by
      simp (disch := omega) only [f_m_stuck_26, f_m_stuck_73, nW, wb_e, ib_e, ibL_e, ob_e, nz4, inb_e, inb_lit, ic_n, n_lit, ic_1, lit_add, add_lit, lit_mul, mul_lit, ic_add, ic_mul, ic_le, ic_lt, ic_eq, lit_le, le_lit, lit_lt, lt_lit, lit_eq, eq_lit, ic_m1, m1_ic, ic_lt0, ic_0le, b2_0, b2_1, b2_bl, sh_e, Nat.not_lt_zero, Nat.zero_le, Nat.reduceEqDiff, Nat.reduceAdd, Nat.reduceMul, Nat.reduceSub, Nat.reduceLT, Nat.reduceLeDiff, reduceIte, ne_eq, not_false_eq_true, not_true_eq_false, if_true, if_false, Nat.zero_add]
      rw [if_pos (by omega)]
      split <;> rfl
    rcases hx with rfl | rfl
    · exact ⟨0, μ1, hst, hf, Or.inr ⟨rfl, fun z => absurd z.1 (by decide)⟩⟩
    · exact ⟨sh p, μ1, hst, hf, Or.inl ⟨rfl, rfl, fun w h1 h2 => by omega⟩⟩
  | j + 1, k, x3, μ1, n, h, hn, hf, hx => by
    have hW' := hC.w12; have hP' := hC.p5
    have nW := (hM.fs hf.fs).nW
    have r81 := hf 81 (by decide) (by decide)
    obtain ⟨n, rfl⟩ := fu_s (show 0 < n by omega)
    rcases hx with rfl | rfl
    · obtain ⟨r, μ2, e2, f2, hr⟩ := lp_m_stuck26 hN hC hM hS hL hp a k13 j (k + 1) 0 μ1 n (by omega) (by omega) hf (Or.inl rfl)
      refine ⟨r, μ2, ?_, f2, ?_⟩
      · rw [← e2]
        simp (disch := omega) only [f_m_stuck_26, f_m_stuck_53, f_m_stuck_54, nW, wb_e, ib_e, ibL_e, ob_e, nz4, inb_e, inb_lit, ic_n, n_lit, ic_1, lit_add, add_lit, lit_mul, mul_lit, ic_add, ic_mul, ic_le, ic_lt, ic_eq, lit_le, le_lit, lit_lt, lt_lit, lit_eq, eq_lit, ic_m1, m1_ic, ic_lt0, ic_0le, b2_0, b2_1, b2_bl, sh_e, Nat.not_lt_zero, Nat.zero_le, Nat.reduceEqDiff, Nat.reduceAdd, Nat.reduceMul, Nat.reduceSub, Nat.reduceLT, Nat.reduceLeDiff, reduceIte, ne_eq, not_false_eq_true, not_true_eq_false, if_true, if_false, Nat.zero_add]
        rw [if_neg (by omega)]
      · rcases hr with ⟨_, h2, _⟩ | ⟨h1, _⟩
        · exact absurd h2 (by decide)
        · exact Or.inr ⟨h1, fun z => absurd z.1 (by decide)⟩
    · obtain ⟨μ2, e1, f1⟩ := e_m_canCross hN hC (hM.fs hf.fs) (by rw [r81]; exact hS) (hL.fs hf.fs) hp (w := k) (by omega)
      rw [r81] at e1
      by_cases q : canS W T c (μ 81) K O nl p k
      · obtain ⟨r, μ3, e2, f2, hr⟩ := lp_m_stuck26 hN hC hM hS hL hp a k13 j (k + 1) 0 μ2 n (by omega) (by omega) (fun x h1 h2 => (f1 x h1 h2).trans (hf x h1 h2)) (Or.inl rfl)
        refine ⟨r, μ3, ?_, f2, ?_⟩
        · rw [← e2]
          simp (disch := omega) only [f_m_stuck_26, f_m_stuck_53, f_m_stuck_54, nW, e1, wb_e, ib_e, ibL_e, ob_e, nz4, inb_e, inb_lit, ic_n, n_lit, ic_1, lit_add, add_lit, lit_mul, mul_lit, ic_add, ic_mul, ic_le, ic_lt, ic_eq, lit_le, le_lit, lit_lt, lt_lit, lit_eq, eq_lit, ic_m1, m1_ic, ic_lt0, ic_0le, b2_0, b2_1, b2_bl, sh_e, Nat.not_lt_zero, Nat.zero_le, Nat.reduceEqDiff, Nat.reduceAdd, Nat.reduceMul, Nat.reduceSub, Nat.reduceLT, Nat.reduceLeDiff, reduceIte, ne_eq, not_false_eq_true, not_true_eq_false, if_true, if_false, Nat.zero_add, show ¬ (1 : Int32) = 0 by decide]
          rw [if_neg (by omega), if_neg (fun z => z q)]
        · rcases hr with ⟨_, h2, _⟩ | ⟨h1, _⟩
          · exact absurd h2 (by decide)
          · exact Or.inr ⟨h1, fun z => z.2 k (Nat.le_refl k) (by omega) q⟩
      · obtain ⟨r, μ3, e2, f2, hr⟩ := lp_m_stuck26 hN hC hM hS hL hp a k13 j (k + 1) 1 μ2 n (by omega) (by omega) (fun x h1 h2 => (f1 x h1 h2).trans (hf x h1 h2)) (Or.inr rfl)
        have hall : (∀ w, k + 1 ≤ w → w < W → ¬ canS W T c (μ 81) K O nl p w) ↔ (∀ w, k ≤ w → w < W → ¬ canS W T c (μ 81) K O nl p w) := by
          refine ⟨fun z w h1 h2 => ?_, fun z w h1 h2 => z w (by omega) h2⟩
          by_cases e : w = k
          · subst e; exact q
          · exact z w (by omega) h2
        refine ⟨r, μ3, ?_, f2, ?_⟩
        · rw [← e2]
          simp (disch := omega) only [f_m_stuck_26, f_m_stuck_53, f_m_stuck_54, nW, e1, wb_e, ib_e, ibL_e, ob_e, nz4, inb_e, inb_lit, ic_n, n_lit, ic_1, lit_add, add_lit, lit_mul, mul_lit, ic_add, ic_mul, ic_le, ic_lt, ic_eq, lit_le, le_lit, lit_lt, lt_lit, lit_eq, eq_lit, ic_m1, m1_ic, ic_lt0, ic_0le, b2_0, b2_1, b2_bl, sh_e, Nat.not_lt_zero, Nat.zero_le, Nat.reduceEqDiff, Nat.reduceAdd, Nat.reduceMul, Nat.reduceSub, Nat.reduceLT, Nat.reduceLeDiff, reduceIte, ne_eq, not_false_eq_true, not_true_eq_false, if_true, if_false, Nat.zero_add, show ¬ (1 : Int32) = 0 by decide]
          rw [if_neg (by omega), if_pos q]
        · rw [hall] at hr; exact hr
theorem lp_m_stuck (hN : 5000 ≤ N) (hC : CW c F W T P) (hM : MR μ c F W T P) (hS : WS F W T P (μ 81)) (hL : ML μ K O nl) : ∀ (j k : Nat) (a : Int32) (μ1 : sw_M) (n : Nat), k + j = P → j < n → FrT μ μ1 → ∃ v μ2, f_m_stuck_13 N n μ1 a (ic k) = some (v, μ2) ∧ FrT μ μ2 ∧ ∀ i, bt v i = true ↔ (bt a i = true ∨ (k ≤ i ∧ i < P ∧ ∀ w, w < W → ¬ canS W T c (μ 81) K O nl i w))
  | 0, k, a, μ1, n, h, hn, hf => by
    have hP' := hC.p5
    have nP := (hM.fs hf.fs).nP
    obtain ⟨n, rfl⟩ := fu_s hn
    refine ⟨a, μ1, ?_, hf, ?_⟩
    · simp (disch := omega) only [f_m_stuck_13, nP, wb_e, ib_e, ibL_e, ob_e, nz4, inb_e, inb_lit, ic_n, n_lit, ic_1, lit_add, add_lit, lit_mul, mul_lit, ic_add, ic_mul, ic_le, ic_lt, ic_eq, lit_le, le_lit, lit_lt, lt_lit, lit_eq, eq_lit, ic_m1, m1_ic, ic_lt0, ic_0le, b2_0, b2_1, b2_bl, sh_e, Nat.not_lt_zero, Nat.zero_le, Nat.reduceEqDiff, Nat.reduceAdd, Nat.reduceMul, Nat.reduceSub, Nat.reduceLT, Nat.reduceLeDiff, reduceIte, ne_eq, not_false_eq_true, not_true_eq_false, if_true, if_false, Nat.zero_add]
      rw [if_pos (by omega)]
    · intro i; exact ⟨Or.inl, fun z => z.elim id (fun ⟨h1, h2, _⟩ => by omega)⟩
  | j + 1, k, a, μ1, n, h, hn, hf => by
    have hP' := hC.p5; have hW' := hC.w12
    have nP := (hM.fs hf.fs).nP
    obtain ⟨n, rfl⟩ := fu_s (show 0 < n by omega)
    obtain ⟨r, μ2, e1, f1, hr⟩ := lp_m_stuck26 hN hC hM hS hL (p := k) (by omega) a (f_m_stuck_13 N n) W 0 1 μ1 N (by omega) (by omega) hf (Or.inr rfl)
    obtain ⟨v, μ3, e2, f2, hv⟩ := lp_m_stuck hN hC hM hS hL j (k + 1) (a ||| r) μ2 n (by omega) (by omega) f1
    refine ⟨v, μ3, ?_, f2, ?_⟩
    · rw [← e2, ← e1]
      simp (disch := omega) only [f_m_stuck_13, nP, wb_e, ib_e, ibL_e, ob_e, nz4, inb_e, inb_lit, ic_n, n_lit, ic_1, lit_add, add_lit, lit_mul, mul_lit, ic_add, ic_mul, ic_le, ic_lt, ic_eq, lit_le, le_lit, lit_lt, lt_lit, lit_eq, eq_lit, ic_m1, m1_ic, ic_lt0, ic_0le, b2_0, b2_1, b2_bl, sh_e, Nat.not_lt_zero, Nat.zero_le, Nat.reduceEqDiff, Nat.reduceAdd, Nat.reduceMul, Nat.reduceSub, Nat.reduceLT, Nat.reduceLeDiff, reduceIte, ne_eq, not_false_eq_true, not_true_eq_false, if_true, if_false, Nat.zero_add]
      rw [if_neg (by omega)]; rfl
    · intro i
      rw [hv]
      rcases hr with ⟨rfl, -, q2⟩ | ⟨rfl, q2⟩
      · rw [b_or, b_sh' (by omega)]
        by_cases e : i = k
        · subst e
          exact ⟨fun _ => Or.inr ⟨Nat.le_refl i, by omega, fun w hw => q2 w (Nat.zero_le w) hw⟩, fun _ => Or.inl (by simp)⟩
        · have : (k + 1 ≤ i) ↔ k ≤ i := by omega
          simp [e, this]
      · rw [or_0]
        by_cases e : i = k
        · subst e
          exact ⟨fun z => z.elim Or.inl (fun ⟨h1, _⟩ => by omega), fun z => z.elim Or.inl (fun ⟨_, _, h3⟩ => absurd ⟨rfl, fun w _ h => h3 w h⟩ q2)⟩
        · have : (k + 1 ≤ i) ↔ k ≤ i := by omega
          rw [this]
theorem lp_m_moved (hC : CW c F W T P) (hM : MR μ c F W T P) : ∀ (j k : Nat) (a : Int32) (n : Nat), k + j = W → j < n → f_m_moved_9 N n μ a (ic k) = some (fo (fun w a => if ¬ (μ 80) w = c 6 w then a ||| sh w else a) k j a, μ)
  | 0, k, a, n, h, hn => by
    have hW' := hC.w12; have nW := hM.nW
    obtain ⟨n, rfl⟩ := fu_s hn
    simp (disch := omega) only [f_m_moved_9, nW, wb_e, ib_e, ibL_e, ob_e, nz4, inb_e, inb_lit, ic_n, n_lit, ic_1, lit_add, add_lit, lit_mul, mul_lit, ic_add, ic_mul, ic_le, ic_lt, ic_eq, lit_le, le_lit, lit_lt, lt_lit, lit_eq, eq_lit, ic_m1, m1_ic, ic_lt0, ic_0le, b2_0, b2_1, b2_bl, sh_e, Nat.not_lt_zero, Nat.zero_le, Nat.reduceEqDiff, Nat.reduceAdd, Nat.reduceMul, Nat.reduceSub, Nat.reduceLT, Nat.reduceLeDiff, reduceIte, ne_eq, not_false_eq_true, not_true_eq_false, if_true, if_false, Nat.zero_add]
    rw [if_pos (by omega), fo_0]
  | j + 1, k, a, n, h, hn => by
    have hW' := hC.w12; have nW := hM.nW
    obtain ⟨n, rfl⟩ := fu_s (show 0 < n by omega)
    have ih := fun a => lp_m_moved hC hM j (k + 1) a n (by omega) (by omega)
    have e2 := hM.w2 (w := k) (by omega)
    simp (disch := omega) only [f_m_moved_9, f_m_moved_46, nW, e2, ih, or_0, wb_e, ib_e, ibL_e, ob_e, nz4, inb_e, inb_lit, ic_n, n_lit, ic_1, lit_add, add_lit, lit_mul, mul_lit, ic_add, ic_mul, ic_le, ic_lt, ic_eq, lit_le, le_lit, lit_lt, lt_lit, lit_eq, eq_lit, ic_m1, m1_ic, ic_lt0, ic_0le, b2_0, b2_1, b2_bl, sh_e, Nat.not_lt_zero, Nat.zero_le, Nat.reduceEqDiff, Nat.reduceAdd, Nat.reduceMul, Nat.reduceSub, Nat.reduceLT, Nat.reduceLeDiff, reduceIte, ne_eq, not_false_eq_true, not_true_eq_false, if_true, if_false, Nat.zero_add]
    rw [if_neg (by omega), fo_s]
    by_cases q : (μ 80) k = c 6 k
    · rw [if_pos q, if_neg (fun z => z q)]
    · rw [if_neg q, if_pos q]
end
theorem op_stuck {N : Nat} {μ : sw_M} (hN : 5000 ≤ N) (hI : Inv μ) : ∃ v μ1 μ2, f_x_stuck N μ = some (v, μ1) ∧ f_m_stuck N μ1 = some (v, μ2) ∧ Inv μ2 := by
  obtain ⟨F, W, T, P, K, O, nl, nb, n, m, hQ, hR⟩ := id hI
  obtain ⟨hC, hX, hS, hD, -, -, hXL⟩ := qm_ctx hQ
  have hP' := hC.p5
  obtain ⟨v, μ1, e1, f1, hv⟩ := lp_x_stuck hN hC hX hS hD hXL P 0 0 μ N (by omega) (by omega) (FrL.rf μ)
  obtain ⟨hS', hM', hL'⟩ := qm_ctx2 hQ f1.sx
  obtain ⟨v2, μ2, e2, f2, hv2⟩ := lp_m_stuck hN hC hM' hS' hL' P 0 0 (qm μ1) N (by omega) (by omega) (fun _ _ _ => rfl)
  have : v2 = v := by
    refine b_ext (fun i _ => ?_)
    rw [Bool.eq_iff_iff, hv, hv2, qm_81 f1.sx]
  subst this
  refine ⟨v2, μ1, μ2, e1, ?_, (hI.sx f1.sx).sm ((qm_sm μ1).tr (FrT.sm f2))⟩
  unfold f_m_stuck; rw [wb_e, e_q_take hN, ob_e]; exact e2
theorem op_moved {N : Nat} {μ : sw_M} (hN : 5000 ≤ N) (hI : Inv μ) : ∃ v μ2, f_x_moved N μ = some v ∧ f_m_moved N μ = some (v, μ2) ∧ Inv μ2 := by
  obtain ⟨F, W, T, P, K, O, nl, nb, n, m, hQ, hR⟩ := id hI
  obtain ⟨hC, hM, hS, hD, -⟩ := id hQ
  have hX : XR μ μ := ⟨rfl, rfl, rfl, rfl, rfl, rfl, rfl, rfl⟩
  have hW' := hC.w12
  have e1 := e_days_movedBits hN hC hX hS.1 hD
  have e2 := lp_m_moved (N := N) (μ := wr μ 63 0 0) hC (hM.fr (fun j h1 h2 => by rw [wr_ap, if_pos rfl, if_neg (by omega)]) rfl rfl rfl) W 0 0 N (by omega) (by omega)
  refine ⟨movB W μ (μ 80), wr μ 63 0 0, ?_, ?_, hI.sm ((SM.rf μ).wr63 0 0 (Or.inl rfl))⟩
  rotate_left
  · unfold f_m_moved; rw [wb_e]; exact e2
  · unfold f_x_moved; rw [e1, ob_e]
theorem op_fault {N : Nat} {μ : sw_M} (hI : Inv μ) : ∃ v μ2, f_x_fault N μ = some v ∧ f_m_fault N μ = some (v, μ2) ∧ Inv μ2 := by
  obtain ⟨F, W, T, P, K, O, nl, nb, n, m, hQ, ⟨h, -, -, -, -, h8⟩, hR⟩ := id hI
  refine ⟨μ 1 8, wr μ 63 0 0, rfl, ?_, hI.sm ((SM.rf μ).wr63 0 0 (Or.inl rfl))⟩
  rw [h8]; rfl
theorem op_status {N : Nat} {μ : sw_M} (hI : Inv μ) (a1 : Int32) : ∃ v μ2, f_x_status N μ a1 = some v ∧ f_m_status N μ a1 = some (v, μ2) ∧ Inv μ2 := by
  obtain ⟨F, W, T, P, K, O, nl, nb, n, m, hQ, -, -, -, -, h6, h7⟩ := id hI
  have hI2 : Inv (wr μ 63 0 0) := hI.sm ((SM.rf μ).wr63 0 0 (Or.inl rfl))
  rcases wn_dec2 a1 (n := 1) (by decide) with ⟨k, hk, rfl, hz⟩ | hz
  · have hz : 0 ≤ ic k ∧ ic k ≤ 1 := hz
    have hk2 : k = 0 ∨ k = 1 := by omega
    rcases hk2 with rfl | rfl
    · refine ⟨μ 0 13, wr μ 63 0 0, rfl, ?_, hI2⟩
      unfold f_m_status; rw [wb_e, withinm_e, ob_e, b2_p hz, if_neg (by decide), h6]; rfl
    · refine ⟨μ 0 14, wr μ 63 0 0, rfl, ?_, hI2⟩
      unfold f_m_status; rw [wb_e, withinm_e, ob_e, b2_p hz, if_neg (by decide), h7]; rfl
  · have hz : ¬ (0 ≤ a1 ∧ a1 ≤ 1) := hz
    refine ⟨-1, wr μ 63 0 0, ?_, ?_, hI2⟩
    · unfold f_x_status
      rw [if_neg (fun e => hz (by subst e; decide)), if_neg (fun e => hz (by subst e; decide))]
    · unfold f_m_status; rw [wb_e, withinm_e, ob_e, b2_n hz, if_pos rfl]
theorem op_count {N : Nat} {μ : sw_M} (hI : Inv μ) (a1 : Int32) : ∃ v μ2, f_x_count N μ a1 = some v ∧ f_m_count N μ a1 = some (v, μ2) ∧ Inv μ2 := by
  obtain ⟨F, W, T, P, K, O, nl, nb, n, m, hQ, ⟨h, -, h3, h4, -, -⟩, ⟨-, h5, h6, -⟩, ⟨-, h7, h8, -⟩, hR⟩ := id hI
  have hI2 : Inv (wr μ 63 0 0) := hI.sm ((SM.rf μ).wr63 0 0 (Or.inl rfl))
  have e0 : (wr μ 63 0 0) 63 50 = ic m := h8
  have e1 : (wr μ 63 0 0) 63 2 = ic h := h4
  have e2 : (wr μ 63 0 0) 63 36 = ic n := h6
  unfold f_x_count f_m_count
  rw [wb_e, e0, e1, e2, h3, h5, h7]
  by_cases q0 : a1 = 0
  · rw [if_pos q0, if_pos q0]; exact ⟨_, _, rfl, rfl, hI2⟩
  · rw [if_neg q0, if_neg q0]
    by_cases q1 : a1 = 1
    · rw [if_pos q1, if_pos q1]; exact ⟨_, _, rfl, rfl, hI2⟩
    · rw [if_neg q1, if_neg q1]
      by_cases q2 : a1 = 2
      · rw [if_pos q2, if_pos q2]; exact ⟨_, _, rfl, rfl, hI2⟩
      · rw [if_neg q2, if_neg q2]; exact ⟨_, _, rfl, rfl, hI2⟩
