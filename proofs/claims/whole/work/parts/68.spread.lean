/-! ===== one hour of wandering ===== -/
theorem orL {a : Int32} {x y : Nat} (hx : x < 32) (hy : y < 32) (h : bt a x = true) : a ||| sh y = a ||| (sh x ||| sh y) := by
  refine b_ext (fun i hi => ?_)
  simp only [b_or, b_sh' hx, b_sh' hy]
  by_cases e : i = x
  · subst e; rw [h]; rfl
  · simp [e]
theorem orR {a : Int32} {x y : Nat} (hx : x < 32) (hy : y < 32) (h : bt a y = true) : a ||| sh x = a ||| (sh x ||| sh y) := by
  refine b_ext (fun i hi => ?_)
  simp only [b_or, b_sh' hx, b_sh' hy]
  by_cases e : i = y
  · subst e; rw [h]; simp
  · simp [e]
theorem orB {a : Int32} {x y : Nat} : a ||| sh y ||| sh x = a ||| (sh x ||| sh y) := by
  rw [Int32.or_assoc, Int32.or_comm (sh y)]
theorem an0 (s : Int32) {x y : Nat} (hx : x < 32) (hy : y < 32) : (s &&& (sh x ||| sh y) = 0) = ¬ (bt s x = true ∨ bt s y = true) := by
  refine propext ⟨fun h => ?_, fun h => ?_⟩
  · have h1 : bt (s &&& (sh x ||| sh y)) x = false := by rw [h, b_0]
    have h2 : bt (s &&& (sh x ||| sh y)) y = false := by rw [h, b_0]
    rw [b_and, b_or, b_sh' hx, b_sh' hy] at h1 h2
    simp at h1 h2
    simp [h1, h2]
  · refine b_ext (fun i hi => ?_)
    rw [b_and, b_or, b_sh' hx, b_sh' hy, b_0]
    by_cases e : i = x
    · subst e; simp at h; simp [h.1]
    · by_cases e2 : i = y
      · subst e2; simp at h; simp [h.2]
      · simp [e, e2]
theorem sub_or {s a b : Int32} (h : ∀ i, bt s i = true → bt a i = true) : ∀ i, bt s i = true → bt (a ||| b) i = true := fun i hi => by rw [b_or, h i hi]; rfl
theorem lp_ways_spread {N : Nat} {μ c : sw_M} {F W T P : Nat} (hN : 5000 ≤ N) (hC : CW c F W T P) (hX : XR μ c) {S : Nat → Int32} (hS : WS F W T P S) (hD : DR μ 35 W T P S) (set h g : Int32) : ∀ (j k : Nat) (a : Int32) (n : Nat), k + j = W → j < n → (∀ i, bt set i = true → bt a i = true) → f_ways_spread_6 N μ n set (S 48 + h) g a (ic k) = some (fo (fun w a => if lv S w h g then a else if bt set (c 4 w).toNatClampNeg = true ∨ bt set (c 5 w).toNatClampNeg = true then a ||| (sh (c 4 w).toNatClampNeg ||| sh (c 5 w).toNatClampNeg) else a) k j a)
  | 0, k, a, n, q, hn, ha => by
    have hW' := hC.w12; have nW := hX.nW hC
    obtain ⟨n, rfl⟩ := fu_s hn
    simp (disch := omega) only [f_ways_spread_6, nW, wb_e, ib_e, ibL_e, ob_e, nz4, inb_e, inb_lit, ic_n, n_lit, ic_1, lit_add, add_lit, lit_mul, mul_lit, ic_add, ic_mul, ic_le, ic_lt, ic_eq, lit_le, le_lit, lit_lt, lt_lit, lit_eq, eq_lit, ic_m1, m1_ic, ic_lt0, ic_0le, b2_0, b2_1, b2_bl, sh_e, Nat.not_lt_zero, Nat.zero_le, Nat.reduceEqDiff, Nat.reduceAdd, Nat.reduceMul, Nat.reduceSub, Nat.reduceLT, Nat.reduceLeDiff, reduceIte, ne_eq, not_false_eq_true, not_true_eq_false, if_true, if_false, Nat.zero_add]
    rw [if_pos (by omega), fo_0]
  | j + 1, k, a, n, q, hn, ha => by
    have hW' := hC.w12; have nW := hX.nW hC; have hF' := hC.f8
    obtain ⟨n, rfl⟩ := fu_s (show 0 < n by omega)
    have ih := fun a ha => lp_ways_spread hN hC hX hS hD set h g j (k + 1) a n (by omega) (by omega) ha
    obtain ⟨x, y, hh, hx, hy, -, -, cx, cy, -⟩ := hC.2.2.1 k (by omega)
    have e1 := e_days_isCut hN hC hX hS hD (show k < W by omega); have e2 := hD.dl (show k < W by omega)
    have e3 := has_e (N := N) (μ := μ) set (show x < 32 by omega); have e4 := has_e (N := N) (μ := μ) set (show y < 32 by omega)
    have r4 := hX.r4; have r5 := hX.r5
    rw [fo_s, cx, cy, ic_n (by omega), ic_n (by omega)]
    simp (disch := omega) only [f_ways_spread_6, f_ways_spread_46, f_ways_spread_81, f_ways_spread_119, nW, r4, r5, e1, e2, cx, cy, e3, e4, or_0, wb_e, ib_e, ibL_e, ob_e, nz4, inb_e, inb_lit, ic_n, n_lit, ic_1, lit_add, add_lit, lit_mul, mul_lit, ic_add, ic_mul, ic_le, ic_lt, ic_eq, lit_le, le_lit, lit_lt, lt_lit, lit_eq, eq_lit, ic_m1, m1_ic, ic_lt0, ic_0le, b2_0, b2_1, b2_bl, sh_e, Nat.not_lt_zero, Nat.zero_le, Nat.reduceEqDiff, Nat.reduceAdd, Nat.reduceMul, Nat.reduceSub, Nat.reduceLT, Nat.reduceLeDiff, reduceIte, ne_eq, not_false_eq_true, not_true_eq_false, if_true, if_false, Nat.zero_add]
    rw [if_neg (by omega)]
    by_cases hl : lv S k h g
    · rw [if_pos hl, if_pos hl.1, if_pos hl.2, ih a ha]
    · rw [if_neg hl]
      have hE : ∀ (R E : Option Int32), (if ¬ S (12 + k) = 1 then if S k + g ≤ S 48 + h then R else E else E) = E := by
        intro R E
        by_cases z : S (12 + k) = 1
        · rw [if_neg (fun y => y z)]
        · rw [if_pos z, if_neg (fun y => hl ⟨z, y⟩)]
      rw [hE]
      by_cases bx : bt set x = true
      · rw [if_neg (fun z => z bx), if_pos (Or.inl bx)]
        by_cases bY : bt set y = true
        · rw [if_neg (fun z => z bY), orB, ih _ (sub_or ha)]
        · rw [if_pos bY, orL (by omega) (by omega) (ha x bx), ih _ (sub_or ha)]
      · rw [if_pos bx]
        by_cases bY : bt set y = true
        · rw [if_neg (fun z => z bY), if_pos (Or.inr bY), orR (by omega) (by omega) (ha y bY), ih _ (sub_or ha)]
        · rw [if_pos bY, if_neg (fun z => z.elim bx bY), ih _ ha]
theorem e_ways_spread {N : Nat} {μ c : sw_M} {F W T P : Nat} (hN : 5000 ≤ N) (hC : CW c F W T P) (hX : XR μ c) {S : Nat → Int32} (hS : WS F W T P S) (hD : DR μ 35 W T P S) (set h g : Int32) : f_ways_spread N μ set (S 48 + h) g = some (spr W c S set h g) := by
  have hW' := hC.w12
  exact lp_ways_spread hN hC hX hS hD set h g W 0 set N (by omega) (by omega) (fun _ h => h)
theorem lp_m_onFrom {N : Nat} {μ c : sw_M} {F W T P : Nat} (hN : 5000 ≤ N) (hC : CW c F W T P) (hM : MR μ c F W T P) (hS : WS F W T P (μ 81)) (set h g : Int32) : ∀ (j k : Nat) (a : Int32) (n : Nat), k + j = W → j < n → f_m_onFrom_6 N μ n set h g a (ic k) = some (fo (fun w a => if lv (μ 81) w h g then a else if bt set (c 4 w).toNatClampNeg = true ∨ bt set (c 5 w).toNatClampNeg = true then a ||| (sh (c 4 w).toNatClampNeg ||| sh (c 5 w).toNatClampNeg) else a) k j a)
  | 0, k, a, n, q, hn => by
    have hW' := hC.w12; have nW := hM.nW
    obtain ⟨n, rfl⟩ := fu_s hn
    simp (disch := omega) only [f_m_onFrom_6, nW, wb_e, ib_e, ibL_e, ob_e, nz4, inb_e, inb_lit, ic_n, n_lit, ic_1, lit_add, add_lit, lit_mul, mul_lit, ic_add, ic_mul, ic_le, ic_lt, ic_eq, lit_le, le_lit, lit_lt, lt_lit, lit_eq, eq_lit, ic_m1, m1_ic, ic_lt0, ic_0le, b2_0, b2_1, b2_bl, sh_e, Nat.not_lt_zero, Nat.zero_le, Nat.reduceEqDiff, Nat.reduceAdd, Nat.reduceMul, Nat.reduceSub, Nat.reduceLT, Nat.reduceLeDiff, reduceIte, ne_eq, not_false_eq_true, not_true_eq_false, if_true, if_false, Nat.zero_add]
    rw [if_pos (by omega), fo_0]
  | j + 1, k, a, n, q, hn => by
    have hW' := hC.w12; have nW := hM.nW; have hF' := hC.f8
    obtain ⟨n, rfl⟩ := fu_s (show 0 < n by omega)
    have ih := fun a => lp_m_onFrom hN hC hM hS set h g j (k + 1) a n (by omega) (by omega)
    obtain ⟨x, y, hh, hx, hy, -, -, cx, cy, -⟩ := hC.2.2.1 k (by omega)
    have e1 := e_m_isLive hN hC hM hS h g (show k < W by omega)
    have w0 := hM.w0 (show k < W by omega); have w1 := hM.w1 (show k < W by omega)
    have e3 := an0 set (show x < 32 by omega) (show y < 32 by omega)
    rw [fo_s, cx, cy, ic_n (by omega), ic_n (by omega)]
    simp (disch := omega) only [f_m_onFrom_6, f_m_onFrom_71, nW, e1, w0, w1, cx, cy, e3, or_0, ih, wb_e, ib_e, ibL_e, ob_e, nz4, inb_e, inb_lit, ic_n, n_lit, ic_1, lit_add, add_lit, lit_mul, mul_lit, ic_add, ic_mul, ic_le, ic_lt, ic_eq, lit_le, le_lit, lit_lt, lt_lit, lit_eq, eq_lit, ic_m1, m1_ic, ic_lt0, ic_0le, b2_0, b2_1, b2_bl, sh_e, Nat.not_lt_zero, Nat.zero_le, Nat.reduceEqDiff, Nat.reduceAdd, Nat.reduceMul, Nat.reduceSub, Nat.reduceLT, Nat.reduceLeDiff, reduceIte, ne_eq, not_false_eq_true, not_true_eq_false, if_true, if_false, Nat.zero_add]
    rw [if_neg (by omega)]
    by_cases hl : lv (μ 81) k h g
    · rw [if_pos hl, if_neg (fun z => z hl)]
    · rw [if_neg hl, if_pos hl]
      by_cases b : bt set x = true ∨ bt set y = true
      · rw [if_pos b, if_neg (fun z => z b)]
      · rw [if_neg b, if_pos b]
theorem e_m_onFrom {N : Nat} {μ c : sw_M} {F W T P : Nat} (hN : 5000 ≤ N) (hC : CW c F W T P) (hM : MR μ c F W T P) (hS : WS F W T P (μ 81)) (set h g : Int32) : f_m_onFrom N μ set h g = some (spr W c (μ 81) set h g) := by
  have hW' := hC.w12
  exact lp_m_onFrom hN hC hM hS set h g W 0 set N (by omega) (by omega)
