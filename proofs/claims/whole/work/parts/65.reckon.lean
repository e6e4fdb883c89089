/-! ===== the class's reckoning ===== -/
def FrL (μ μ' : sw_M) : Prop := (∀ a, a ≠ 19 → a ≠ 22 → a ≠ 23 → μ' a = μ a) ∧ ∀ j, j ≠ 5 → μ' 19 j = μ 19 j
theorem FrL.rf (μ : sw_M) : FrL μ μ := ⟨fun _ _ _ _ => rfl, fun _ _ => rfl⟩
theorem FrL.tr {a b c : sw_M} (h : FrL a b) (h2 : FrL b c) : FrL a c := ⟨fun x h3 h4 h5 => (h2.1 x h3 h4 h5).trans (h.1 x h3 h4 h5), fun j hj => (h2.2 j hj).trans (h.2 j hj)⟩
/-- the law as the class has it -/
def XL (μ : sw_M) (K O : Nat → Int32) (n : Nat) : Prop := WL K O n ∧ μ 19 4 = ic n ∧ ∀ i, i < n → μ 20 i = cx (K i) ∧ μ 21 i = O i
theorem push_e {N : Nat} {μ : sw_M} {d : Nat} (h : μ 19 5 = ic d) (hd : d < 150) (v : Int32) : f_law_push N μ v = some (wr (wr μ 23 d v) 19 5 (ic (d + 1))) := by
  have e : (Int32.ofNat 150 : Int32) = ic 150 := rfl
  have e2 : (wr μ 23 d v) 19 5 = ic d := h
  simp (disch := omega) only [f_law_push, h, e, e2, wb_e, ib_e, ibL_e, ob_e, nz4, inb_e, inb_lit, ic_n, n_lit, ic_1, lit_add, add_lit, lit_mul, mul_lit, ic_add, ic_mul, ic_le, ic_lt, ic_eq, lit_le, le_lit, lit_lt, lt_lit, lit_eq, eq_lit, ic_m1, m1_ic, ic_lt0, ic_0le, b2_0, b2_1, b2_bl, sh_e, Nat.not_lt_zero, Nat.zero_le, Nat.reduceEqDiff, Nat.reduceAdd, Nat.reduceMul, Nat.reduceSub, Nat.reduceLT, Nat.reduceLeDiff, reduceIte, ne_eq, not_false_eq_true, not_true_eq_false, if_true, if_false, Nat.zero_add]
  rw [if_neg (by omega)]
theorem pop_e {N : Nat} {μ : sw_M} {d : Nat} (h : μ 19 5 = ic (d + 1)) (hd : d < 150) : f_law_pop N μ = some (μ 23 d, wr μ 19 5 (ic d)) := by
  have e2 : (wr μ 19 5 (ic d)) 19 5 = ic d := rfl
  have e3 : (wr μ 19 5 (ic d)) 23 = μ 23 := rfl
  have p2 : ic (d + 1) - 1 = ic d := ic_s1 d
  simp (disch := omega) only [f_law_pop, h, p2, e2, e3, wb_e, ib_e, ibL_e, ob_e, nz4, inb_e, inb_lit, ic_n, n_lit, ic_1, lit_add, add_lit, lit_mul, mul_lit, ic_add, ic_mul, ic_le, ic_lt, ic_eq, lit_le, le_lit, lit_lt, lt_lit, lit_eq, eq_lit, ic_m1, m1_ic, ic_lt0, ic_0le, b2_0, b2_1, b2_bl, sh_e, Nat.not_lt_zero, Nat.zero_le, Nat.reduceEqDiff, Nat.reduceAdd, Nat.reduceMul, Nat.reduceSub, Nat.reduceLT, Nat.reduceLeDiff, reduceIte, ne_eq, not_false_eq_true, not_true_eq_false, if_true, if_false, Nat.zero_add]
  rw [if_pos (by omega)]
theorem cx_2 {q : Nat} (h : 2 ≤ q) (h2 : q ≤ 8) : ¬ cx (ic q) = 1 ∧ ¬ cx (ic q) = 2 := by
  rcases q_cases h h2 with rfl | rfl | rfl | rfl | rfl | rfl | rfl <;> decide
theorem lp_law_reckon {N : Nat} {K O V : Nat → Int32} {len : Nat} (hL : WL K O len) : ∀ (j k : Nat) (s : (Nat → Int32) × Nat) (μ : sw_M) (n : Nat), k + j = len → j < n → s.2 = dep K k → (∀ i, i < s.2 → μ 23 i = s.1 i) → μ 19 4 = ic len → μ 19 5 = ic s.2 → (∀ i, i < len → μ 20 i = cx (K i) ∧ μ 21 i = O i) → (∀ i, i < 7 → μ 22 i = V i) →
    ∃ μ', f_law_reckon_7 N n μ (ic k) = some (clampI ((fo (es K O V) k j s).1 0) 0 40, μ') ∧ FrL μ μ' := by
  intro j
  induction j with
  | zero =>
    intro k s μ n h hn hd hs hl ht hc hv
    obtain ⟨n, rfl⟩ := fu_s hn
    have h150 := hL.1
    have hd1 : s.2 = 0 + 1 := by rw [hd, show k = len by omega]; exact hL.2.1
    have hp := pop_e (N := N) (μ := μ) (d := 0) (by rw [ht, hd1]) (by decide)
    refine ⟨wr μ 19 5 (ic 0), ?_, ?_⟩
    · simp (disch := omega) only [f_law_reckon_7, hl, hp, clamp_e, wb_e, ib_e, ibL_e, ob_e, nz4, inb_e, inb_lit, ic_n, n_lit, ic_1, lit_add, add_lit, lit_mul, mul_lit, ic_add, ic_mul, ic_le, ic_lt, ic_eq, lit_le, le_lit, lit_lt, lt_lit, lit_eq, eq_lit, ic_m1, m1_ic, ic_lt0, ic_0le, b2_0, b2_1, b2_bl, sh_e, Nat.not_lt_zero, Nat.zero_le, Nat.reduceEqDiff, Nat.reduceAdd, Nat.reduceMul, Nat.reduceSub, Nat.reduceLT, Nat.reduceLeDiff, reduceIte, ne_eq, not_false_eq_true, not_true_eq_false, if_true, if_false, Nat.zero_add]
      rw [if_pos (by omega), hs 0 (by omega), fo_0]
    · exact ⟨fun a h1 h2 h3 => wr_nr h1, fun j hj => by rw [wr_ap, if_pos rfl, if_neg hj]⟩
  | succ j ih =>
    intro k s μ n h hn hd hs hl ht hc hv
    obtain ⟨n, rfl⟩ := fu_s (show 0 < n by omega)
    have h150 := hL.1
    have hdk := dep_le K k
    obtain ⟨hK, hO⟩ := hc k (by omega)
    rw [fo_s]
    have key : ∀ (μ1 : sw_M) (i : Nat) (v : Int32), FrL μ μ1 → μ1 22 = μ 22 → (∀ x, x < i → μ1 23 x = s.1 x) → μ1 19 5 = ic i → i < 150 → i + 1 = dep K (k + 1) → es K O V k s = (up s.1 i v, i + 1) → ∃ μ', (Option.bind (f_law_push N μ1 v) fun r => f_law_reckon_7 N n r (ic (k + 1))) = some (clampI ((fo (es K O V) (k + 1) j (es K O V k s)).1 0) 0 40, μ') ∧ FrL μ μ' := by
      intro μ1 i v hf h22 hx h5 hi ht he
      rw [push_e h5 hi, ob_e, he]
      have f20 := hf.1 20 (by decide) (by decide) (by decide)
      have f21 := hf.1 21 (by decide) (by decide) (by decide)
      obtain ⟨μ', h1, h2⟩ := ih (k + 1) (up s.1 i v, i + 1) (wr (wr μ1 23 i v) 19 5 (ic (i + 1))) n (by omega) (by omega) ht (fun x hx' => by
        show (wr (wr μ1 23 i v) 19 5 (ic (i + 1))) 23 x = up s.1 i v x
        have hx2 : x < i + 1 := hx'
        rw [wr_nr (by decide), wr_up, wrR_r, up_ap, up_ap]
        by_cases q : x = i
        · rw [if_pos q, if_pos q]
        · rw [if_neg q, if_neg q]; exact hx x (by omega)) (by
          rw [wr_ap, if_pos rfl, if_neg (by decide), wr_nr (by decide), hf.2 4 (by decide)]; exact hl) rfl (fun x hx' => by
          rw [wr_nr (by decide), wr_nr (by decide), wr_nr (by decide), wr_nr (by decide), f20, f21]; exact hc x hx') (fun x hx' => by
          rw [wr_nr (by decide), wr_nr (by decide), h22]; exact hv x hx')
      refine ⟨μ', h1, hf.tr (FrL.tr ?_ h2)⟩
      exact ⟨fun a q1 q2 q3 => by rw [wr_nr q1, wr_nr q3], fun j hj => by rw [wr_ap, if_pos rfl, if_neg hj, wr_nr (by decide)]⟩
    rcases hL.2.2 k (by omega) with e | ⟨e, i, hi, e2⟩ | ⟨q, hq1, hq2, e, hd2⟩
    · obtain ⟨g, h1, h2⟩ := key μ s.2 (O k) (FrL.rf μ) rfl hs ht (by omega) (by rw [dep, if_pos (Or.inl e), hd]) (by unfold es; rw [if_pos e])
      refine ⟨g, ?_, h2⟩
      rw [← h1]
      simp (disch := omega) only [f_law_reckon_7, hl, hK, hO, e, wb_e, ib_e, ibL_e, ob_e, nz4, inb_e, inb_lit, ic_n, n_lit, ic_1, lit_add, add_lit, lit_mul, mul_lit, ic_add, ic_mul, ic_le, ic_lt, ic_eq, lit_le, le_lit, lit_lt, lt_lit, lit_eq, eq_lit, ic_m1, m1_ic, ic_lt0, ic_0le, b2_0, b2_1, b2_bl, sh_e, Nat.not_lt_zero, Nat.zero_le, Nat.reduceEqDiff, Nat.reduceAdd, Nat.reduceMul, Nat.reduceSub, Nat.reduceLT, Nat.reduceLeDiff, reduceIte, ne_eq, not_false_eq_true, not_true_eq_false, if_true, if_false, Nat.zero_add]
      rw [if_neg (by omega)]
      simp only [show cx 0 = 1 by decide, if_true]
    · obtain ⟨g, h1, h2⟩ := key μ s.2 (V i) (FrL.rf μ) rfl hs ht (by omega) (by rw [dep, if_pos (Or.inr e), hd]) (by unfold es; rw [if_neg (by rw [e]; decide), if_pos e, e2, ic_n (by omega)])
      refine ⟨g, ?_, h2⟩
      rw [← h1]
      have ea := at_e (N := N) (k := 22) (n := 7) (μ := μ) hi (by decide)
      simp (disch := omega) only [f_law_reckon_7, hl, hK, hO, e, e2, ea, hv i hi, wb_e, ib_e, ibL_e, ob_e, nz4, inb_e, inb_lit, ic_n, n_lit, ic_1, lit_add, add_lit, lit_mul, mul_lit, ic_add, ic_mul, ic_le, ic_lt, ic_eq, lit_le, le_lit, lit_lt, lt_lit, lit_eq, eq_lit, ic_m1, m1_ic, ic_lt0, ic_0le, b2_0, b2_1, b2_bl, sh_e, Nat.not_lt_zero, Nat.zero_le, Nat.reduceEqDiff, Nat.reduceAdd, Nat.reduceMul, Nat.reduceSub, Nat.reduceLT, Nat.reduceLeDiff, reduceIte, ne_eq, not_false_eq_true, not_true_eq_false, if_true, if_false, Nat.zero_add]
      rw [if_neg (by omega)]
      simp only [show ¬ cx 1 = 1 by decide, show cx 1 = 2 by decide, if_true, if_false]
      simp only [show ¬ (2 : Int32) = 1 by decide, if_true, if_false]
    · obtain ⟨d, hd3⟩ : ∃ d, s.2 = d + 2 := ⟨s.2 - 2, by omega⟩
      have n0 : ¬ K k = 0 := by rw [e, eq_lit (by omega) (by omega)]; omega
      have n1 : ¬ K k = 1 := by rw [e, eq_lit (by omega) (by omega)]; omega
      have c2 := cx_2 hq1 hq2
      have p1 := pop_e (N := N) (μ := μ) (d := d + 1) (by rw [ht, hd3]) (by omega)
      have p2 := pop_e (N := N) (μ := wr μ 19 5 (ic (d + 1))) (d := d) rfl (by omega)
      obtain ⟨g, h1, h2⟩ := key (wr (wr μ 19 5 (ic (d + 1))) 19 5 (ic d)) d (opI (K k) (s.1 d) (s.1 (d + 1))) ⟨fun a q1 q2 q3 => by rw [wr_nr q1, wr_nr q1], fun j hj => by rw [wr_ap, if_pos rfl, if_neg hj, wr_ap, if_pos rfl, if_neg hj]⟩ rfl (fun x hx => hs x (by omega)) rfl (by omega) (by rw [dep, if_neg (fun x => x.elim n0 n1), ← hd, hd3]; omega) (by unfold es; rw [if_neg n0, if_neg n1, hd3]; rfl)
      refine ⟨g, ?_, h2⟩
      rw [← h1]
      have ej := fun (m : sw_M) a b => join_e (N := N) (μ := m) hq1 hq2 a b
      have s1 : μ 23 (d + 1) = s.1 (d + 1) := hs (d + 1) (by omega)
      have s2 : (wr μ 19 5 (ic (d + 1))) 23 d = s.1 d := hs d (by omega)
      simp (disch := omega) only [f_law_reckon_7, hl, hK, hO, e, c2.1, c2.2, p1, p2, s1, s2, ej, wb_e, ib_e, ibL_e, ob_e, nz4, inb_e, inb_lit, ic_n, n_lit, ic_1, lit_add, add_lit, lit_mul, mul_lit, ic_add, ic_mul, ic_le, ic_lt, ic_eq, lit_le, le_lit, lit_lt, lt_lit, lit_eq, eq_lit, ic_m1, m1_ic, ic_lt0, ic_0le, b2_0, b2_1, b2_bl, sh_e, Nat.not_lt_zero, Nat.zero_le, Nat.reduceEqDiff, Nat.reduceAdd, Nat.reduceMul, Nat.reduceSub, Nat.reduceLT, Nat.reduceLeDiff, reduceIte, ne_eq, not_false_eq_true, not_true_eq_false, if_true, if_false, Nat.zero_add]
      rw [if_neg (by omega)]
theorem e_law_toll {N : Nat} {μ : sw_M} {K O : Nat → Int32} {n : Nat} (hN : 5000 ≤ N) (hL : XL μ K O n) (a1 a2 a3 a4 a5 a6 a7 : Int32) : ∃ μ1 μ', f_law_setValues N μ a1 a2 a3 a4 a5 a6 a7 = some μ1 ∧ f_law_reckon N μ1 = some (tollV K O n (vf a1 a2 a3 a4 a5 a6 a7), μ') ∧ FrL μ μ' := by
  simp (disch := omega) only [f_law_setValues, wb_e, ib_e, ibL_e, ob_e, nz4, inb_e, inb_lit, ic_n, n_lit, ic_1, lit_add, add_lit, lit_mul, mul_lit, ic_add, ic_mul, ic_le, ic_lt, ic_eq, lit_le, le_lit, lit_lt, lt_lit, lit_eq, eq_lit, ic_m1, m1_ic, ic_lt0, ic_0le, b2_0, b2_1, b2_bl, sh_e, Nat.not_lt_zero, Nat.zero_le, Nat.reduceEqDiff, Nat.reduceAdd, Nat.reduceMul, Nat.reduceSub, Nat.reduceLT, Nat.reduceLeDiff, reduceIte, ne_eq, not_false_eq_true, not_true_eq_false, if_true, if_false, Nat.zero_add]
  generalize hm : wr (wr (wr (wr (wr (wr (wr μ 22 0 a1) 22 1 a2) 22 2 a3) 22 3 a4) 22 4 a5) 22 5 a6) 22 6 a7 = m
  have hf : ∀ a, a ≠ 22 → m a = μ a := fun a ha => by subst hm; simp only [wr_nr ha]
  have hv : ∀ i, i < 7 → m 22 i = vf a1 a2 a3 a4 a5 a6 a7 i := by
    intro i hi
    subst hm
    have : i = 0 ∨ i = 1 ∨ i = 2 ∨ i = 3 ∨ i = 4 ∨ i = 5 ∨ i = 6 := by omega
    rcases this with rfl | rfl | rfl | rfl | rfl | rfl | rfl <;> rfl
  obtain ⟨hW, h4, hc⟩ := hL
  have h150 := hW.1
  obtain ⟨μ', h1, h2⟩ := lp_law_reckon (N := N) (V := vf a1 a2 a3 a4 a5 a6 a7) hW n 0 (fun _ => 0, 0) (wr m 19 5 0) N (by omega) (by omega) rfl (fun i hi => absurd hi (Nat.not_lt_zero i)) (by rw [wr_ap, if_pos rfl, if_neg (by decide), hf 19 (by decide)]; exact h4) rfl (fun i hi => by rw [wr_nr (by decide), wr_nr (by decide), hf 20 (by decide), hf 21 (by decide)]; exact hc i hi) (fun i hi => by rw [wr_nr (by decide)]; exact hv i hi)
  refine ⟨m, μ', rfl, h1, FrL.tr ?_ h2⟩
  exact ⟨fun a q1 q2 q3 => by rw [wr_nr q1, hf a q2], fun j hj => by rw [wr_ap, if_pos rfl, if_neg hj, hf 19 (by decide)]⟩
theorem tollV_b (K O V : Nat → Int32) (n : Nat) : ∃ h : Nat, h ≤ 40 ∧ tollV K O n V = ic h := by
  unfold tollV clampI
  by_cases h1 : (0 : Int32) ≤ valS K O V n
  · by_cases h2 : valS K O V n ≤ 40
    · rw [if_pos h1, if_pos h2]
      exact ic_bd h1 h2 (by decide)
    · rw [if_pos h1, if_neg h2]; exact ⟨40, by decide, rfl⟩
  · rw [if_neg h1]; exact ⟨0, by decide, rfl⟩
