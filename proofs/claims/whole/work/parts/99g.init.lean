/-! ===== printed by wip/whole/gen99g.py: a new object of both sides ===== -/
theorem lp_ycopies {N k0 n0 k1 n1 m : Nat} (hk : k0 ≠ k1) (h0 : m ≤ n0) (h1 : m ≤ n1) (hn0 : n0 < 100000) (hn1 : n1 < 100000) : ∀ (j k : Nat) (μ : sw_M) (n : Nat), k + j = m → j < n → f_m_copies_ly31_3 N k0 n0 k1 n1 n μ (ic m) (ic k) = some (wrR μ k1 (fun i => if k ≤ i ∧ i < m then μ k0 i else μ k1 i))
  | 0, k, μ, n, h, hn => by
    obtain ⟨n, rfl⟩ := fu_s hn
    simp (disch := omega) only [f_m_copies_ly31_3, wb_e, ib_e, ibL_e, ob_e, nz4, inb_e, inb_lit, ic_n, n_lit, ic_1, lit_add, add_lit, lit_mul, mul_lit, ic_add, ic_mul, ic_le, ic_lt, ic_eq, lit_le, le_lit, lit_lt, lt_lit, lit_eq, eq_lit, ic_m1, m1_ic, ic_lt0, ic_0le, b2_0, b2_1, b2_bl, sh_e, Nat.not_lt_zero, Nat.zero_le, Nat.reduceEqDiff, Nat.reduceAdd, Nat.reduceMul, Nat.reduceSub, Nat.reduceLT, Nat.reduceLeDiff, reduceIte, ne_eq, not_false_eq_true, not_true_eq_false, if_true, if_false, Nat.zero_add]
    rw [if_pos (by omega), show (fun i => if k ≤ i ∧ i < m then μ k0 i else μ k1 i) = μ k1 by funext i; rw [if_neg (by omega)], wrR_self]
  | j + 1, k, μ, n, h, hn => by
    obtain ⟨n, rfl⟩ := fu_s (show 0 < n by omega)
    have ih := lp_ycopies (N := N) hk h0 h1 hn0 hn1 j (k + 1) (wr μ k1 k (μ k0 k)) n (by omega) (by omega)
    simp (disch := omega) only [f_m_copies_ly31_3, ih, wb_e, ib_e, ibL_e, ob_e, nz4, inb_e, inb_lit, ic_n, n_lit, ic_1, lit_add, add_lit, lit_mul, mul_lit, ic_add, ic_mul, ic_le, ic_lt, ic_eq, lit_le, le_lit, lit_lt, lt_lit, lit_eq, eq_lit, ic_m1, m1_ic, ic_lt0, ic_0le, b2_0, b2_1, b2_bl, sh_e, Nat.not_lt_zero, Nat.zero_le, Nat.reduceEqDiff, Nat.reduceAdd, Nat.reduceMul, Nat.reduceSub, Nat.reduceLT, Nat.reduceLeDiff, reduceIte, ne_eq, not_false_eq_true, not_true_eq_false, if_true, if_false, Nat.zero_add]
    rw [if_neg (by omega), wr_up, wrR_wrR, wrR_r, wrR_nr hk]
    congr 2
    funext i
    by_cases e : i = k
    · subst e; rw [if_neg (by omega), up_s, if_pos (by omega)]
    · rw [up_n e]
      by_cases e3 : k ≤ i ∧ i < m
      · rw [if_pos e3, if_pos (by omega)]
      · rw [if_neg e3, if_neg (by omega)]
theorem e_ycopies {N k0 n0 k1 n1 m : Nat} (hN : 5000 ≤ N) (hk : k0 ≠ k1) (h0 : m ≤ n0) (h1 : m ≤ n1) (hn0 : n0 < 100000) (hn1 : n1 < 100000) (hm : m ≤ 1000) (μ : sw_M) : f_m_copies_ly31 N k0 n0 k1 n1 μ (ic m) = some (wrR μ k1 (fun i => if i < m then μ k0 i else μ k1 i)) := by
  have := lp_ycopies (N := N) hk h0 h1 hn0 hn1 m 0 μ N (by omega) (by omega)
  simp only [Nat.zero_le, true_and] at this
  exact this
theorem lp_ysets_234 {N : Nat} {P : Nat} (hbd : P ≤ 5) : ∀ (j k : Nat) (ν : sw_M) (n : Nat), k + j = P → j < n → ν 63 24 = ic P → ∃ g : Nat → Int32, f_m_sets_ly31_234 N n ν (ic k) = Option.some (wr (wrR ν 80 g) 80 46 (ν 63 20)) ∧ ∀ i, g i = if 36 + k ≤ i ∧ i < 36 + P then ν 71 (2 * (i - 36)) else ν 80 i
  | 0, k, ν, n, hk, hn, h63 => by
    obtain ⟨n, rfl⟩ := fu_s hn
    refine ⟨ν 80, ?_, fun i => by rw [if_neg (by omega)]⟩
    rw [wrR_self, f_m_sets_ly31_234, h63, if_pos (by rw [ic_le (by omega) (by omega)]; omega)]; rfl
  | j + 1, k, ν, n, hk, hn, h63 => by
    obtain ⟨n, rfl⟩ := fu_s (show 0 < n by omega)
    obtain ⟨g, h1, h2⟩ := lp_ysets_234 hbd j (k + 1) (wr ν 80 (36 + k) (ν 71 (2 * (k)))) n (by omega) (by omega) h63
    rw [wrR_wr] at h1
    have h2' : ∀ i, g i = if 36 + (k + 1) ≤ i ∧ i < 36 + P then ν 71 (2 * (i - 36)) else (if i = (36 + k) then ν 71 (2 * (k)) else ν 80 i) := h2
    refine ⟨g, ?_, fun i => ?_⟩
    · refine Eq.trans ?_ h1
      rw [f_m_sets_ly31_234, h63, if_neg (by rw [ic_le (by omega) (by omega)]; omega), lit_mul, inb_e (by omega) (by decide), show (36 : Int32) + ic k = ic (36 + k) from ic_add 36 k, inb_e (by omega) (by decide), ic_n (by omega), ic_n (by omega), wb_e, ic_1]
    · rw [h2']
      by_cases e : i = (36 + k)
      · subst e
        rw [if_neg (by omega), if_pos rfl, if_pos (by omega)]; rw [show (36 + k) - 36 = k by omega]
      · rw [if_neg e]
        by_cases e2 : 36 + k ≤ i ∧ i < 36 + P
        · rw [if_pos (by omega), if_pos e2]
        · rw [if_neg (by omega), if_neg e2]
theorem lp_ysets_210 {N : Nat}  : ∀ (j k : Nat) (ν : sw_M) (n : Nat), k + j = 6 → j < n → ∃ g : Nat → Int32, f_m_sets_ly31_210 N n ν (ic k) = f_m_sets_ly31_234 N N (wrR ν 80 g) 0 ∧ ∀ i, g i = if 30 + k ≤ i ∧ i < 30 + 6 then -1 else ν 80 i
  | 0, k, ν, n, hk, hn => by
    obtain ⟨n, rfl⟩ := fu_s hn
    refine ⟨ν 80, ?_, fun i => by rw [if_neg (by omega)]⟩
    rw [wrR_self, f_m_sets_ly31_210, if_pos (by rw [lit_le (by decide) (by omega)]; show 6 ≤ k; omega)]
  | j + 1, k, ν, n, hk, hn => by
    obtain ⟨n, rfl⟩ := fu_s (show 0 < n by omega)
    obtain ⟨g, h1, h2⟩ := lp_ysets_210 j (k + 1) (wr ν 80 (30 + k) (-1)) n (by omega) (by omega)
    rw [wrR_wr] at h1
    have h2' : ∀ i, g i = if 30 + (k + 1) ≤ i ∧ i < 30 + 6 then -1 else (if i = (30 + k) then -1 else ν 80 i) := h2
    refine ⟨g, ?_, fun i => ?_⟩
    · refine Eq.trans ?_ h1
      rw [f_m_sets_ly31_210, if_neg (by rw [lit_le (by decide) (by omega)]; show ¬ 6 ≤ k; omega), show (30 : Int32) + ic k = ic (30 + k) from ic_add 30 k, inb_e (by omega) (by decide), ic_n (by omega), wb_e, ic_1]
    · rw [h2']
      by_cases e : i = (30 + k)
      · subst e
        rw [if_neg (by omega), if_pos rfl, if_pos (by omega)]
      · rw [if_neg e]
        by_cases e2 : 30 + k ≤ i ∧ i < 30 + 6
        · rw [if_pos (by omega), if_pos e2]
        · rw [if_neg (by omega), if_neg e2]
theorem lp_ysets_177 {N : Nat} {T : Nat} (hbd : T ≤ 6) : ∀ (j k : Nat) (ν : sw_M) (n : Nat), k + j = T → j < n → ν 63 23 = ic T → ∃ g : Nat → Int32, f_m_sets_ly31_177 N n ν (ic k) = f_m_sets_ly31_210 N N (wrR ν 80 g) 0 ∧ ∀ i, g i = if 24 + k ≤ i ∧ i < 24 + T then ν 70 (2 * (i - 24)) else ν 80 i
  | 0, k, ν, n, hk, hn, h63 => by
    obtain ⟨n, rfl⟩ := fu_s hn
    refine ⟨ν 80, ?_, fun i => by rw [if_neg (by omega)]⟩
    rw [wrR_self, f_m_sets_ly31_177, h63, if_pos (by rw [ic_le (by omega) (by omega)]; omega)]
  | j + 1, k, ν, n, hk, hn, h63 => by
    obtain ⟨n, rfl⟩ := fu_s (show 0 < n by omega)
    obtain ⟨g, h1, h2⟩ := lp_ysets_177 hbd j (k + 1) (wr ν 80 (24 + k) (ν 70 (2 * (k)))) n (by omega) (by omega) h63
    rw [wrR_wr] at h1
    have h2' : ∀ i, g i = if 24 + (k + 1) ≤ i ∧ i < 24 + T then ν 70 (2 * (i - 24)) else (if i = (24 + k) then ν 70 (2 * (k)) else ν 80 i) := h2
    refine ⟨g, ?_, fun i => ?_⟩
    · refine Eq.trans ?_ h1
      rw [f_m_sets_ly31_177, h63, if_neg (by rw [ic_le (by omega) (by omega)]; omega), lit_mul, inb_e (by omega) (by decide), show (24 : Int32) + ic k = ic (24 + k) from ic_add 24 k, inb_e (by omega) (by decide), ic_n (by omega), ic_n (by omega), wb_e, ic_1]
    · rw [h2']
      by_cases e : i = (24 + k)
      · subst e
        rw [if_neg (by omega), if_pos rfl, if_pos (by omega)]; rw [show (24 + k) - 24 = k by omega]
      · rw [if_neg e]
        by_cases e2 : 24 + k ≤ i ∧ i < 24 + T
        · rw [if_pos (by omega), if_pos e2]
        · rw [if_neg (by omega), if_neg e2]
theorem lp_ysets_143 {N : Nat} {W : Nat} (hbd : W ≤ 12) : ∀ (j k : Nat) (ν : sw_M) (n : Nat), k + j = W → j < n → ν 63 22 = ic W → ∃ g : Nat → Int32, f_m_sets_ly31_143 N n ν (ic k) = f_m_sets_ly31_177 N N (wrR ν 80 g) 0 ∧ ∀ i, g i = if 0 + k ≤ i ∧ i < 0 + W then ν 69 (3 * (i - 0) + 2) else ν 80 i
  | 0, k, ν, n, hk, hn, h63 => by
    obtain ⟨n, rfl⟩ := fu_s hn
    refine ⟨ν 80, ?_, fun i => by rw [if_neg (by omega)]⟩
    rw [wrR_self, f_m_sets_ly31_143, h63, if_pos (by rw [ic_le (by omega) (by omega)]; omega)]
  | j + 1, k, ν, n, hk, hn, h63 => by
    obtain ⟨n, rfl⟩ := fu_s (show 0 < n by omega)
    obtain ⟨g, h1, h2⟩ := lp_ysets_143 hbd j (k + 1) (wr ν 80 (0 + k) (ν 69 (3 * (k) + 2))) n (by omega) (by omega) h63
    rw [wrR_wr] at h1
    have h2' : ∀ i, g i = if 0 + (k + 1) ≤ i ∧ i < 0 + W then ν 69 (3 * (i - 0) + 2) else (if i = (0 + k) then ν 69 (3 * (k) + 2) else ν 80 i) := h2
    refine ⟨g, ?_, fun i => ?_⟩
    · refine Eq.trans ?_ h1
      rw [f_m_sets_ly31_143, h63, if_neg (by rw [ic_le (by omega) (by omega)]; omega), lit_mul, add_lit, inb_e (by omega) (by decide), show (0 : Int32) + ic k = ic (0 + k) from ic_add 0 k, inb_e (by omega) (by decide), ic_n (by omega), ic_n (by omega), wb_e, ic_1]
    · rw [h2']
      by_cases e : i = (0 + k)
      · subst e
        rw [if_neg (by omega), if_pos rfl, if_pos (by omega)]; rw [show (0 + k) - 0 = k by omega]
      · rw [if_neg e]
        by_cases e2 : 0 + k ≤ i ∧ i < 0 + W
        · rw [if_pos (by omega), if_pos e2]
        · rw [if_neg (by omega), if_neg e2]
theorem lp_ysets_122 {N : Nat}  : ∀ (j k : Nat) (ν : sw_M) (n : Nat), k + j = 49 → j < n → ∃ g : Nat → Int32, f_m_sets_ly31_122 N n ν (ic k) = f_m_sets_ly31_143 N N (wrR ν 80 g) 0 ∧ ∀ i, g i = if 0 + k ≤ i ∧ i < 0 + 49 then 0 else ν 80 i
  | 0, k, ν, n, hk, hn => by
    obtain ⟨n, rfl⟩ := fu_s hn
    refine ⟨ν 80, ?_, fun i => by rw [if_neg (by omega)]⟩
    rw [wrR_self, f_m_sets_ly31_122, if_pos (by rw [lit_le (by decide) (by omega)]; show 49 ≤ k; omega)]
  | j + 1, k, ν, n, hk, hn => by
    obtain ⟨n, rfl⟩ := fu_s (show 0 < n by omega)
    obtain ⟨g, h1, h2⟩ := lp_ysets_122 j (k + 1) (wr ν 80 k (0)) n (by omega) (by omega)
    rw [wrR_wr] at h1
    have h2' : ∀ i, g i = if 0 + (k + 1) ≤ i ∧ i < 0 + 49 then 0 else (if i = k then 0 else ν 80 i) := h2
    refine ⟨g, ?_, fun i => ?_⟩
    · refine Eq.trans ?_ h1
      rw [f_m_sets_ly31_122, if_neg (by rw [lit_le (by decide) (by omega)]; show ¬ 49 ≤ k; omega), inb_e (by omega) (by decide), ic_n (by omega), wb_e, ic_1]
    · rw [h2']
      by_cases e : i = k
      · subst e
        rw [if_neg (by omega), if_pos rfl, if_pos (by omega)]
      · rw [if_neg e]
        by_cases e2 : 0 + k ≤ i ∧ i < 0 + 49
        · rw [if_pos (by omega), if_pos e2]
        · rw [if_neg (by omega), if_neg e2]
theorem lp_ysets_101 {N : Nat}  : ∀ (j k : Nat) (ν : sw_M) (n : Nat), k + j = 41 → j < n → ∃ g : Nat → Int32, f_m_sets_ly31_101 N n ν (ic k) = f_m_sets_ly31_122 N N (wrR ν 84 g) 0 ∧ ∀ i, g i = if 0 + k ≤ i ∧ i < 0 + 41 then -1 else ν 84 i
  | 0, k, ν, n, hk, hn => by
    obtain ⟨n, rfl⟩ := fu_s hn
    refine ⟨ν 84, ?_, fun i => by rw [if_neg (by omega)]⟩
    rw [wrR_self, f_m_sets_ly31_101, if_pos (by rw [lit_lt (by decide) (by omega)]; show 40 < k; omega)]
  | j + 1, k, ν, n, hk, hn => by
    obtain ⟨n, rfl⟩ := fu_s (show 0 < n by omega)
    obtain ⟨g, h1, h2⟩ := lp_ysets_101 j (k + 1) (wr ν 84 k (-1)) n (by omega) (by omega)
    rw [wrR_wr] at h1
    have h2' : ∀ i, g i = if 0 + (k + 1) ≤ i ∧ i < 0 + 41 then -1 else (if i = k then -1 else ν 84 i) := h2
    refine ⟨g, ?_, fun i => ?_⟩
    · refine Eq.trans ?_ h1
      rw [f_m_sets_ly31_101, if_neg (by rw [lit_lt (by decide) (by omega)]; show ¬ 40 < k; omega), inb_e (by omega) (by decide), ic_n (by omega), wb_e, ic_1]
    · rw [h2']
      by_cases e : i = k
      · subst e
        rw [if_neg (by omega), if_pos rfl, if_pos (by omega)]
      · rw [if_neg e]
        by_cases e2 : 0 + k ≤ i ∧ i < 0 + 41
        · rw [if_pos (by omega), if_pos e2]
        · rw [if_neg (by omega), if_neg e2]
theorem e_ysets {N : Nat} {ν : sw_M} {W T P : Nat} (hN : 5000 ≤ N) (h17 : ν 63 17 = ic W) (h18 : ν 63 18 = ic T) (h19 : ν 63 19 = ic P) (hW : W ≤ 12) (hT : T ≤ 6) (hP : P ≤ 5) : ∃ ν', f_m_sets_ly31 N ν = some ν' ∧ (∀ a, a ≠ 63 → a ≠ 69 → a ≠ 70 → a ≠ 71 → a ≠ 80 → a ≠ 84 → ν' a = ν a) ∧ (∀ j, (j < 21 ∨ 24 < j) → j ≠ 31 → j ≠ 36 → j ≠ 37 → j ≠ 46 → j ≠ 50 → ν' 63 j = ν 63 j) ∧
    (ν' 63 21 = ν 63 16 ∧ ν' 63 22 = ic W ∧ ν' 63 23 = ic T ∧ ν' 63 24 = ic P) ∧ (ν' 63 31 = 0 ∧ ν' 63 36 = 0 ∧ ν' 63 37 = 0 ∧ ν' 63 46 = 0 ∧ ν' 63 50 = 0) ∧
    ((∀ i, i < 36 → ν' 69 i = ν 66 i) ∧ (∀ i, i < 12 → ν' 70 i = ν 67 i) ∧ (∀ i, i < 10 → ν' 71 i = ν 68 i)) ∧ (∀ k, k ≤ 40 → ν' 84 k = -1) ∧
    ((∀ w, w < W → ν' 80 w = ν 66 (3 * w + 2)) ∧ (∀ w, w < 12 → ν' 80 (12 + w) = 0) ∧ (∀ t, t < T → ν' 80 (24 + t) = ν 67 (2 * t)) ∧ (∀ t, t < 6 → ν' 80 (30 + t) = -1) ∧ (∀ p, p < P → ν' 80 (36 + p) = ν 68 (2 * p)) ∧ (∀ p, p < 5 → ν' 80 (41 + p) = 0) ∧ ν' 80 46 = ν 63 20 ∧ ν' 80 47 = 0 ∧ ν' 80 48 = 0) := by
  obtain ⟨m4, hm4⟩ : ∃ x : sw_M, x = wr (wr (wr (wr ν 63 21 (ν 63 16)) 63 22 (ν 63 17)) 63 23 (ν 63 18)) 63 24 (ν 63 19) := ⟨_, rfl⟩
  have c1 : f_m_copies_ly31 N 66 36 69 36 m4 36 = some (wrR m4 69 (fun i => if i < 36 then m4 66 i else m4 69 i)) := e_ycopies (m := 36) hN (by decide) (by decide) (by decide) (by decide) (by decide) (by decide) m4
  obtain ⟨m5, hm5⟩ : ∃ x : sw_M, x = wrR m4 69 (fun i => if i < 36 then m4 66 i else m4 69 i) := ⟨_, rfl⟩
  rw [← hm5] at c1
  have c2 : f_m_copies_ly31 N 67 12 70 12 m5 12 = some (wrR m5 70 (fun i => if i < 12 then m5 67 i else m5 70 i)) := e_ycopies (m := 12) hN (by decide) (by decide) (by decide) (by decide) (by decide) (by decide) m5
  obtain ⟨m6, hm6⟩ : ∃ x : sw_M, x = wrR m5 70 (fun i => if i < 12 then m5 67 i else m5 70 i) := ⟨_, rfl⟩
  rw [← hm6] at c2
  have c3 : f_m_copies_ly31 N 68 10 71 10 m6 10 = some (wrR m6 71 (fun i => if i < 10 then m6 68 i else m6 71 i)) := e_ycopies (m := 10) hN (by decide) (by decide) (by decide) (by decide) (by decide) (by decide) m6
  obtain ⟨m7, hm7⟩ : ∃ x : sw_M, x = wrR m6 71 (fun i => if i < 10 then m6 68 i else m6 71 i) := ⟨_, rfl⟩
  rw [← hm7] at c3
  obtain ⟨A, hA⟩ : ∃ x : sw_M, x = wr (wr (wr (wr (wr m7 63 31 0) 63 46 0) 63 36 0) 63 50 0) 63 37 0 := ⟨_, rfl⟩
  have e0 : f_m_sets_ly31 N ν = f_m_sets_ly31_101 N N A (ic 0) := by
    unfold f_m_sets_ly31
    simp only [wb_e]
    rw [show wr (wr (wr (wr ν 63 21 (ν 63 16)) 63 22 ((wr ν 63 21 (ν 63 16)) 63 17)) 63 23 ((wr (wr ν 63 21 (ν 63 16)) 63 22 ((wr ν 63 21 (ν 63 16)) 63 17)) 63 18)) 63 24 ((wr (wr (wr ν 63 21 (ν 63 16)) 63 22 ((wr ν 63 21 (ν 63 16)) 63 17)) 63 23 ((wr (wr ν 63 21 (ν 63 16)) 63 22 ((wr ν 63 21 (ν 63 16)) 63 17)) 63 18)) 63 19) = m4 by rw [hm4]; rfl, c1, ob_e, c2, ob_e, c3, ob_e, ← hA]; rfl
  have A22 : A 63 22 = ic W := by rw [hA, hm7, hm6, hm5, hm4]; exact h17
  have A23 : A 63 23 = ic T := by rw [hA, hm7, hm6, hm5, hm4]; exact h18
  have A24 : A 63 24 = ic P := by rw [hA, hm7, hm6, hm5, hm4]; exact h19
  have A69 : ∀ i, i < 36 → A 69 i = ν 66 i := fun i hi => by rw [hA, hm7, hm6, hm5, hm4]; show (if i < 36 then _ else _) = _; rw [if_pos hi]; rfl
  have A70 : ∀ i, i < 12 → A 70 i = ν 67 i := fun i hi => by rw [hA, hm7, hm6, hm5, hm4]; show (if i < 12 then _ else _) = _; rw [if_pos hi]; rfl
  have A71 : ∀ i, i < 10 → A 71 i = ν 68 i := fun i hi => by rw [hA, hm7, hm6, hm5, hm4]; show (if i < 10 then _ else _) = _; rw [if_pos hi]; rfl
  have Afr : ∀ a, a ≠ 63 → a ≠ 69 → a ≠ 70 → a ≠ 71 → A a = ν a := fun a q1 q2 q3 q4 => by
    rw [hA, wr_nr q1, wr_nr q1, wr_nr q1, wr_nr q1, wr_nr q1, hm7, wrR_nr q4, hm6, wrR_nr q3, hm5, wrR_nr q2, hm4, wr_nr q1, wr_nr q1, wr_nr q1, wr_nr q1]
  have A63 : ∀ j, (j < 21 ∨ 24 < j) → j ≠ 31 → j ≠ 36 → j ≠ 37 → j ≠ 46 → j ≠ 50 → A 63 j = ν 63 j := fun j q1 q2 q3 q4 q5 q6 => by
    rw [hA, wr_ap, if_pos rfl, if_neg q4, wr_ap, if_pos rfl, if_neg q6, wr_ap, if_pos rfl, if_neg q3, wr_ap, if_pos rfl, if_neg q5, wr_ap, if_pos rfl, if_neg q2, hm7, wrR_nr (by decide), hm6, wrR_nr (by decide), hm5, wrR_nr (by decide), hm4, wr_ap, if_pos rfl, if_neg (by omega), wr_ap, if_pos rfl, if_neg (by omega), wr_ap, if_pos rfl, if_neg (by omega), wr_ap, if_pos rfl, if_neg (by omega)]
  have A21 : A 63 21 = ν 63 16 := by rw [hA, hm7, hm6, hm5, hm4]; rfl
  have Az : A 63 31 = 0 ∧ A 63 36 = 0 ∧ A 63 37 = 0 ∧ A 63 46 = 0 ∧ A 63 50 = 0 := by rw [hA]; exact ⟨rfl, rfl, rfl, rfl, rfl⟩
  have A20 : A 63 20 = ν 63 20 := A63 20 (by decide) (by decide) (by decide) (by decide) (by decide) (by decide)
  obtain ⟨g1, x1, y1⟩ := lp_ysets_101 (N := N) 41 0 A N (by omega) (by omega)
  obtain ⟨g2, x2, y2⟩ := lp_ysets_122 (N := N) 49 0 (wrR A 84 g1) N (by omega) (by omega)
  obtain ⟨g3, x3, y3⟩ := lp_ysets_143 (N := N) hW W 0 (wrR (wrR A 84 g1) 80 g2) N (by omega) (by omega) A22
  rw [wrR_wrR] at x3
  obtain ⟨g4, x4, y4⟩ := lp_ysets_177 (N := N) hT T 0 (wrR (wrR A 84 g1) 80 g3) N (by omega) (by omega) A23
  rw [wrR_wrR] at x4
  obtain ⟨g5, x5, y5⟩ := lp_ysets_210 (N := N) 6 0 (wrR (wrR A 84 g1) 80 g4) N (by omega) (by omega)
  rw [wrR_wrR] at x5
  obtain ⟨g6, x6, y6⟩ := lp_ysets_234 (N := N) hP P 0 (wrR (wrR A 84 g1) 80 g5) N (by omega) (by omega) A24
  rw [wrR_wrR] at x6
  have y6' : ∀ i, g6 i = if 36 + 0 ≤ i ∧ i < 36 + P then A 71 (2 * (i - 36)) else g5 i := y6
  have y5' : ∀ i, g5 i = if 30 + 0 ≤ i ∧ i < 30 + 6 then -1 else g4 i := y5
  have y4' : ∀ i, g4 i = if 24 + 0 ≤ i ∧ i < 24 + T then A 70 (2 * (i - 24)) else g3 i := y4
  have y3' : ∀ i, g3 i = if 0 + 0 ≤ i ∧ i < 0 + W then A 69 (3 * (i - 0) + 2) else g2 i := y3
  refine ⟨wr (wrR (wrR A 84 g1) 80 g6) 80 46 (A 63 20), ?_, fun a q1 q2 q3 q4 q5 q6 => ?_, fun j q1 q2 q3 q4 q5 q6 => ?_, ⟨A21, A22, A23, A24⟩, Az, ⟨A69, A70, A71⟩, fun k hk => ?_, ?_⟩
  · exact e0.trans (x1.trans (x2.trans (x3.trans (x4.trans (x5.trans x6)))))
  · rw [wr_nr q5, wrR_nr q5, wrR_nr q6, Afr a q1 q2 q3 q4]
  · rw [wr_nr (by decide), wrR_nr (by decide), wrR_nr (by decide)]; exact A63 j q1 q2 q3 q4 q5 q6
  · rw [wr_nr (by decide), wrR_nr (by decide), wrR_r, y1, if_pos (by omega)]
  · have e : ∀ i, (wr (wrR (wrR A 84 g1) 80 g6) 80 46 (A 63 20)) 80 i = if i = 46 then A 63 20 else g6 i := fun i => rfl
    have z : ∀ i, i < 49 → (W ≤ i ∧ i < 24 ∨ 41 ≤ i) → g6 i = 0 := fun i hi h => by
      rw [y6', if_neg (by omega), y5', if_neg (by omega), y4', if_neg (by omega), y3', if_neg (by omega), y2, if_pos (by omega)]
    refine ⟨fun w h => ?_, fun w h => ?_, fun t h => ?_, fun t h => ?_, fun p h => ?_, fun p h => ?_, ?_, ?_, ?_⟩
    · rw [e, if_neg (by omega), y6', if_neg (by omega), y5', if_neg (by omega), y4', if_neg (by omega), y3', if_pos (by omega), A69 _ (by omega), Nat.sub_zero]
    · rw [e, if_neg (by omega)]; exact z _ (by omega) (by omega)
    · rw [e, if_neg (by omega), y6', if_neg (by omega), y5', if_neg (by omega), y4', if_pos (by omega), A70 _ (by omega), show 24 + t - 24 = t by omega]
    · rw [e, if_neg (by omega), y6', if_neg (by omega), y5', if_pos (by omega)]
    · rw [e, if_neg (by omega), y6', if_pos (by omega), A71 _ (by omega), show 36 + p - 36 = p by omega]
    · rw [e, if_neg (by omega)]; exact z _ (by omega) (by omega)
    · rw [e, if_pos rfl, A20]
    · rw [e, if_neg (by omega)]; exact z _ (by omega) (by omega)
    · rw [e, if_neg (by omega)]; exact z _ (by omega) (by omega)
theorem lp_ydays_102 {N : Nat}  : ∀ (j k : Nat) (ν : sw_M) (n : Nat), k + j = 5 → j < n → ∃ g : Nat → Int32, f_days_begin_ly16_102 N n ν (ic k) = Option.some (wrR ν 40 g) ∧ ∀ i, g i = if 0 + k ≤ i ∧ i < 0 + 5 then 0 else ν 40 i
  | 0, k, ν, n, hk, hn => by
    obtain ⟨n, rfl⟩ := fu_s hn
    refine ⟨ν 40, ?_, fun i => by rw [if_neg (by omega)]⟩
    rw [wrR_self, f_days_begin_ly16_102, if_pos (by rw [lit_le (by decide) (by omega)]; show 5 ≤ k; omega)]
  | j + 1, k, ν, n, hk, hn => by
    obtain ⟨n, rfl⟩ := fu_s (show 0 < n by omega)
    obtain ⟨g, h1, h2⟩ := lp_ydays_102 j (k + 1) (wr ν 40 k (0)) n (by omega) (by omega)
    rw [wrR_wr] at h1
    have h2' : ∀ i, g i = if 0 + (k + 1) ≤ i ∧ i < 0 + 5 then 0 else (if i = k then 0 else ν 40 i) := h2
    refine ⟨g, ?_, fun i => ?_⟩
    · refine Eq.trans ?_ h1
      rw [f_days_begin_ly16_102, if_neg (by rw [lit_le (by decide) (by omega)]; show ¬ 5 ≤ k; omega), inb_e (by omega) (by decide), ic_n (by omega), wb_e, ic_1]
    · rw [h2']
      by_cases e : i = k
      · subst e
        rw [if_neg (by omega), if_pos rfl, if_pos (by omega)]
      · rw [if_neg e]
        by_cases e2 : 0 + k ≤ i ∧ i < 0 + 5
        · rw [if_pos (by omega), if_pos e2]
        · rw [if_neg (by omega), if_neg e2]
theorem lp_ydays_81 {N : Nat}  : ∀ (j k : Nat) (ν : sw_M) (n : Nat), k + j = 6 → j < n → ∃ g : Nat → Int32, f_days_begin_ly16_81 N n ν (ic k) = f_days_begin_ly16_102 N N (wrR ν 38 g) 0 ∧ ∀ i, g i = if 0 + k ≤ i ∧ i < 0 + 6 then -1 else ν 38 i
  | 0, k, ν, n, hk, hn => by
    obtain ⟨n, rfl⟩ := fu_s hn
    refine ⟨ν 38, ?_, fun i => by rw [if_neg (by omega)]⟩
    rw [wrR_self, f_days_begin_ly16_81, if_pos (by rw [lit_le (by decide) (by omega)]; show 6 ≤ k; omega)]
  | j + 1, k, ν, n, hk, hn => by
    obtain ⟨n, rfl⟩ := fu_s (show 0 < n by omega)
    obtain ⟨g, h1, h2⟩ := lp_ydays_81 j (k + 1) (wr ν 38 k (-1)) n (by omega) (by omega)
    rw [wrR_wr] at h1
    have h2' : ∀ i, g i = if 0 + (k + 1) ≤ i ∧ i < 0 + 6 then -1 else (if i = k then -1 else ν 38 i) := h2
    refine ⟨g, ?_, fun i => ?_⟩
    · refine Eq.trans ?_ h1
      rw [f_days_begin_ly16_81, if_neg (by rw [lit_le (by decide) (by omega)]; show ¬ 6 ≤ k; omega), inb_e (by omega) (by decide), ic_n (by omega), wb_e, ic_1]
    · rw [h2']
      by_cases e : i = k
      · subst e
        rw [if_neg (by omega), if_pos rfl, if_pos (by omega)]
      · rw [if_neg e]
        by_cases e2 : 0 + k ≤ i ∧ i < 0 + 6
        · rw [if_pos (by omega), if_pos e2]
        · rw [if_neg (by omega), if_neg e2]
theorem e_ydays {N : Nat} (hN : 5000 ≤ N) (μ : sw_M) : ∃ μ', f_days_begin_ly16 N μ = some μ' ∧ (∀ a, (a < 35 ∨ 40 < a) → μ' a = μ a) ∧ (μ' 35 2 = 0 ∧ μ' 35 3 = μ 3 4 ∧ μ' 35 4 = 0 ∧ μ' 35 5 = 0) ∧ (∀ i, i < 12 → μ' 36 i = μ 6 i) ∧ (∀ i, i < 6 → μ' 37 i = μ 7 i) ∧ (∀ i, i < 6 → μ' 38 i = -1) ∧ (∀ i, i < 5 → μ' 39 i = μ 9 i) ∧ (∀ i, i < 5 → μ' 40 i = 0) := by
  obtain ⟨A, hA⟩ : ∃ x : sw_M, x = wr (wr (wr (wr μ 35 2 0) 35 3 (μ 3 4)) 35 4 0) 35 5 0 := ⟨_, rfl⟩
  obtain ⟨C, hC⟩ : ∃ x : sw_M, x = wrR (wrR (wrR A 36 (va_cpy (A 6) (A 36) 0 0 12)) 37 (va_cpy (A 7) (A 37) 0 0 6)) 39 (va_cpy (A 9) (A 39) 0 0 5) := ⟨_, rfl⟩
  have Afr : ∀ a, a ≠ 35 → A a = μ a := fun a q => by rw [hA, wr_nr q, wr_nr q, wr_nr q, wr_nr q]
  obtain ⟨g1, x1, y1⟩ := lp_ydays_81 (N := N) 6 0 C N (by omega) (by omega)
  obtain ⟨g2, x2, y2⟩ := lp_ydays_102 (N := N) 5 0 (wrR C 38 g1) N (by omega) (by omega)
  refine ⟨wrR (wrR C 38 g1) 40 g2, ?_, fun a h => ?_, ?_, fun i hi => ?_, fun i hi => ?_, fun i hi => ?_, fun i hi => ?_, fun i hi => ?_⟩
  · refine Eq.trans ?_ (x1.trans x2)
    unfold f_days_begin_ly16
    simp only [wb_e]
    rw [show cpc (0 : Int32) 0 12 12 12 = fun k => k by funext k; rfl, show cpc (0 : Int32) 0 6 6 6 = fun k => k by funext k; rfl, show cpc (0 : Int32) 0 5 5 5 = fun k => k by funext k; rfl, hC, hA]; rfl
  · rw [wrR_nr (by omega), wrR_nr (by omega), hC, wrR_nr (by omega), wrR_nr (by omega), wrR_nr (by omega), Afr a (by omega)]
  · rw [wrR_nr (by decide), wrR_nr (by decide), hC, wrR_nr (by decide), wrR_nr (by decide), wrR_nr (by decide), hA]; exact ⟨rfl, rfl, rfl, rfl⟩
  · rw [wrR_nr (by decide), wrR_nr (by decide), hC, wrR_nr (by decide), wrR_nr (by decide), wrR_r, vc0 _ _ hi, Afr 6 (by decide)]
  · rw [wrR_nr (by decide), wrR_nr (by decide), hC, wrR_nr (by decide), wrR_r, vc0 _ _ hi, Afr 7 (by decide)]
  · rw [wrR_nr (by decide), wrR_r, y1, if_pos (by omega)]
  · rw [wrR_nr (by decide), wrR_nr (by decide), hC, wrR_r, vc0 _ _ hi, Afr 9 (by decide)]
  · rw [wrR_r, y2, if_pos (by omega)]

theorem lp_ydream_102 {N : Nat}  : ∀ (j k : Nat) (ν : sw_M) (n : Nat), k + j = 5 → j < n → ∃ g : Nat → Int32, f_dream_begin_ly27_102 N n ν (ic k) = Option.some (wrR ν 62 g) ∧ ∀ i, g i = if 0 + k ≤ i ∧ i < 0 + 5 then 0 else ν 62 i
  | 0, k, ν, n, hk, hn => by
    obtain ⟨n, rfl⟩ := fu_s hn
    refine ⟨ν 62, ?_, fun i => by rw [if_neg (by omega)]⟩
    rw [wrR_self, f_dream_begin_ly27_102, if_pos (by rw [lit_le (by decide) (by omega)]; show 5 ≤ k; omega)]
  | j + 1, k, ν, n, hk, hn => by
    obtain ⟨n, rfl⟩ := fu_s (show 0 < n by omega)
    obtain ⟨g, h1, h2⟩ := lp_ydream_102 j (k + 1) (wr ν 62 k (0)) n (by omega) (by omega)
    rw [wrR_wr] at h1
    have h2' : ∀ i, g i = if 0 + (k + 1) ≤ i ∧ i < 0 + 5 then 0 else (if i = k then 0 else ν 62 i) := h2
    refine ⟨g, ?_, fun i => ?_⟩
    · refine Eq.trans ?_ h1
      rw [f_dream_begin_ly27_102, if_neg (by rw [lit_le (by decide) (by omega)]; show ¬ 5 ≤ k; omega), inb_e (by omega) (by decide), ic_n (by omega), wb_e, ic_1]
    · rw [h2']
      by_cases e : i = k
      · subst e
        rw [if_neg (by omega), if_pos rfl, if_pos (by omega)]
      · rw [if_neg e]
        by_cases e2 : 0 + k ≤ i ∧ i < 0 + 5
        · rw [if_pos (by omega), if_pos e2]
        · rw [if_neg (by omega), if_neg e2]
theorem lp_ydream_81 {N : Nat}  : ∀ (j k : Nat) (ν : sw_M) (n : Nat), k + j = 6 → j < n → ∃ g : Nat → Int32, f_dream_begin_ly27_81 N n ν (ic k) = f_dream_begin_ly27_102 N N (wrR ν 60 g) 0 ∧ ∀ i, g i = if 0 + k ≤ i ∧ i < 0 + 6 then -1 else ν 60 i
  | 0, k, ν, n, hk, hn => by
    obtain ⟨n, rfl⟩ := fu_s hn
    refine ⟨ν 60, ?_, fun i => by rw [if_neg (by omega)]⟩
    rw [wrR_self, f_dream_begin_ly27_81, if_pos (by rw [lit_le (by decide) (by omega)]; show 6 ≤ k; omega)]
  | j + 1, k, ν, n, hk, hn => by
    obtain ⟨n, rfl⟩ := fu_s (show 0 < n by omega)
    obtain ⟨g, h1, h2⟩ := lp_ydream_81 j (k + 1) (wr ν 60 k (-1)) n (by omega) (by omega)
    rw [wrR_wr] at h1
    have h2' : ∀ i, g i = if 0 + (k + 1) ≤ i ∧ i < 0 + 6 then -1 else (if i = k then -1 else ν 60 i) := h2
    refine ⟨g, ?_, fun i => ?_⟩
    · refine Eq.trans ?_ h1
      rw [f_dream_begin_ly27_81, if_neg (by rw [lit_le (by decide) (by omega)]; show ¬ 6 ≤ k; omega), inb_e (by omega) (by decide), ic_n (by omega), wb_e, ic_1]
    · rw [h2']
      by_cases e : i = k
      · subst e
        rw [if_neg (by omega), if_pos rfl, if_pos (by omega)]
      · rw [if_neg e]
        by_cases e2 : 0 + k ≤ i ∧ i < 0 + 6
        · rw [if_pos (by omega), if_pos e2]
        · rw [if_neg (by omega), if_neg e2]
theorem e_ydream {N : Nat} (hN : 5000 ≤ N) (μ : sw_M) : ∃ μ', f_dream_begin_ly27 N μ = some μ' ∧ (∀ a, (a < 57 ∨ 62 < a) → μ' a = μ a) ∧ (μ' 57 2 = 0 ∧ μ' 57 3 = μ 3 4 ∧ μ' 57 4 = 0 ∧ μ' 57 5 = 0) ∧ (∀ i, i < 12 → μ' 58 i = μ 6 i) ∧ (∀ i, i < 6 → μ' 59 i = μ 7 i) ∧ (∀ i, i < 6 → μ' 60 i = -1) ∧ (∀ i, i < 5 → μ' 61 i = μ 9 i) ∧ (∀ i, i < 5 → μ' 62 i = 0) := by
  obtain ⟨A, hA⟩ : ∃ x : sw_M, x = wr (wr (wr (wr μ 57 2 0) 57 3 (μ 3 4)) 57 4 0) 57 5 0 := ⟨_, rfl⟩
  obtain ⟨C, hC⟩ : ∃ x : sw_M, x = wrR (wrR (wrR A 58 (va_cpy (A 6) (A 58) 0 0 12)) 59 (va_cpy (A 7) (A 59) 0 0 6)) 61 (va_cpy (A 9) (A 61) 0 0 5) := ⟨_, rfl⟩
  have Afr : ∀ a, a ≠ 57 → A a = μ a := fun a q => by rw [hA, wr_nr q, wr_nr q, wr_nr q, wr_nr q]
  obtain ⟨g1, x1, y1⟩ := lp_ydream_81 (N := N) 6 0 C N (by omega) (by omega)
  obtain ⟨g2, x2, y2⟩ := lp_ydream_102 (N := N) 5 0 (wrR C 60 g1) N (by omega) (by omega)
  refine ⟨wrR (wrR C 60 g1) 62 g2, ?_, fun a h => ?_, ?_, fun i hi => ?_, fun i hi => ?_, fun i hi => ?_, fun i hi => ?_, fun i hi => ?_⟩
  · refine Eq.trans ?_ (x1.trans x2)
    unfold f_dream_begin_ly27
    simp only [wb_e]
    rw [show cpc (0 : Int32) 0 12 12 12 = fun k => k by funext k; rfl, show cpc (0 : Int32) 0 6 6 6 = fun k => k by funext k; rfl, show cpc (0 : Int32) 0 5 5 5 = fun k => k by funext k; rfl, hC, hA]; rfl
  · rw [wrR_nr (by omega), wrR_nr (by omega), hC, wrR_nr (by omega), wrR_nr (by omega), wrR_nr (by omega), Afr a (by omega)]
  · rw [wrR_nr (by decide), wrR_nr (by decide), hC, wrR_nr (by decide), wrR_nr (by decide), wrR_nr (by decide), hA]; exact ⟨rfl, rfl, rfl, rfl⟩
  · rw [wrR_nr (by decide), wrR_nr (by decide), hC, wrR_nr (by decide), wrR_nr (by decide), wrR_r, vc0 _ _ hi, Afr 6 (by decide)]
  · rw [wrR_nr (by decide), wrR_nr (by decide), hC, wrR_nr (by decide), wrR_r, vc0 _ _ hi, Afr 7 (by decide)]
  · rw [wrR_nr (by decide), wrR_r, y1, if_pos (by omega)]
  · rw [wrR_nr (by decide), wrR_nr (by decide), hC, wrR_r, vc0 _ _ hi, Afr 9 (by decide)]
  · rw [wrR_r, y2, if_pos (by omega)]

theorem yladd {N : Nat} {μ : sw_M} {d : Nat} (h : μ 19 4 = ic d) (hd : d < 150) (x y : Int32) : f_law_add_ly8 N μ x y = some (1, wr (wr (wr μ 20 d x) 21 d y) 19 4 (ic (d + 1))) := by
  have e1 : (wr μ 20 d x) 19 4 = ic d := h
  have e2 : (wr (wr μ 20 d x) 21 d y) 19 4 = ic d := h
  unfold f_law_add_ly8
  rw [h, put_e (by omega) (by decide), ob_e, e1, put_e (by omega) (by decide), ob_e, e2, ic_1, if_neg (by rw [lit_lt (by decide) (by omega)]; show ¬ 150 < d + 1; omega), wb_e]
theorem e_ylaw {N : Nat} (μ : sw_M) : ∃ μ', f_law_clear_ly8 N μ = some μ' ∧ (∀ a, a ≠ 19 → a ≠ 20 → a ≠ 21 → μ' a = μ a) ∧ (∀ j, j ≠ 4 → μ' 19 j = μ 19 j) ∧ μ' 19 4 = ic 5 ∧ ∀ i, i < 5 → μ' 20 i = cx (K0 i) ∧ μ' 21 i = O0 i := by
  obtain ⟨A1, h1⟩ : ∃ x : sw_M, x = wr μ 19 4 0 := ⟨_, rfl⟩
  obtain ⟨A2, h2⟩ : ∃ x : sw_M, x = wr (wr (wr A1 20 0 1) 21 0 1) 19 4 (ic 1) := ⟨_, rfl⟩
  obtain ⟨A3, h3⟩ : ∃ x : sw_M, x = wr (wr (wr A2 20 1 2) 21 1 0) 19 4 (ic 2) := ⟨_, rfl⟩
  obtain ⟨A4, h4⟩ : ∃ x : sw_M, x = wr (wr (wr A3 20 2 1) 21 2 4) 19 4 (ic 3) := ⟨_, rfl⟩
  obtain ⟨A5, h5⟩ : ∃ x : sw_M, x = wr (wr (wr A4 20 3 47) 21 3 0) 19 4 (ic 4) := ⟨_, rfl⟩
  obtain ⟨A6, h6⟩ : ∃ x : sw_M, x = wr (wr (wr A5 20 4 43) 21 4 0) 19 4 (ic 5) := ⟨_, rfl⟩
  have a1 : f_law_add_ly8 N A1 1 1 = some (1, A2) := by rw [h2]; exact yladd (d := 0) (by rw [h1]; rfl) (by decide) 1 1
  have a2 : f_law_add_ly8 N A2 2 0 = some (1, A3) := by rw [h3]; exact yladd (d := 1) (by rw [h2]; rfl) (by decide) 2 0
  have a3 : f_law_add_ly8 N A3 1 4 = some (1, A4) := by rw [h4]; exact yladd (d := 2) (by rw [h3]; rfl) (by decide) 1 4
  have a4 : f_law_add_ly8 N A4 47 0 = some (1, A5) := by rw [h5]; exact yladd (d := 3) (by rw [h4]; rfl) (by decide) 47 0
  have a5 : f_law_add_ly8 N A5 43 0 = some (1, A6) := by rw [h6]; exact yladd (d := 4) (by rw [h5]; rfl) (by decide) 43 0
  refine ⟨A6, ?_, fun a q1 q2 q3 => ?_, fun j hj => ?_, by rw [h6]; rfl, fun i hi => ?_⟩
  · unfold f_law_clear_ly8
    rw [wb_e, ← h1, a1, ob_e]
    simp only
    rw [a2, ob_e]
    simp only
    rw [a3, ob_e]
    simp only
    rw [a4, ob_e]
    simp only
    rw [a5, ob_e]
  · rw [h6, wr_nr q1, wr_nr q3, wr_nr q2, h5, wr_nr q1, wr_nr q3, wr_nr q2, h4, wr_nr q1, wr_nr q3, wr_nr q2, h3, wr_nr q1, wr_nr q3, wr_nr q2, h2, wr_nr q1, wr_nr q3, wr_nr q2, h1, wr_nr q1]
  · have k : ∀ (m : sw_M) (x : Int32), (wr m 19 4 x) 19 j = m 19 j := fun m x => by rw [wr_ap, if_pos rfl, if_neg hj]
    rw [h6, k, wr_nr (by decide), wr_nr (by decide), h5, k, wr_nr (by decide), wr_nr (by decide), h4, k, wr_nr (by decide), wr_nr (by decide), h3, k, wr_nr (by decide), wr_nr (by decide), h2, k, wr_nr (by decide), wr_nr (by decide), h1, k]
  · have : i = 0 ∨ i = 1 ∨ i = 2 ∨ i = 3 ∨ i = 4 := by omega
    rw [h6, h5, h4, h3, h2, h1]; rcases this with rfl | rfl | rfl | rfl | rfl <;> exact ⟨rfl, rfl⟩
theorem ylradd {N : Nat} {μ : sw_M} {d : Nat} (h : μ 24 4 = ic d) (hd : d < 150) (x y : Int32) : f_lawR_add_ly10 N μ x y = some (1, wr (wr (wr μ 25 d x) 26 d y) 24 4 (ic (d + 1))) := by
  have e1 : (wr μ 25 d x) 24 4 = ic d := h
  have e2 : (wr (wr μ 25 d x) 26 d y) 24 4 = ic d := h
  unfold f_lawR_add_ly10
  rw [h, put_e (by omega) (by decide), ob_e, e1, put_e (by omega) (by decide), ob_e, e2, ic_1, if_neg (by rw [lit_lt (by decide) (by omega)]; show ¬ 150 < d + 1; omega), wb_e]
theorem e_ylawR {N : Nat} (μ : sw_M) : ∃ μ', f_lawR_clear_ly10 N μ = some μ' ∧ (∀ a, a ≠ 24 → a ≠ 25 → a ≠ 26 → μ' a = μ a) ∧ (∀ j, j ≠ 4 → μ' 24 j = μ 24 j) ∧ μ' 24 4 = ic 5 ∧ ∀ i, i < 5 → μ' 25 i = cx (K0 i) ∧ μ' 26 i = O0 i := by
  obtain ⟨A1, h1⟩ : ∃ x : sw_M, x = wr μ 24 4 0 := ⟨_, rfl⟩
  obtain ⟨A2, h2⟩ : ∃ x : sw_M, x = wr (wr (wr A1 25 0 1) 26 0 1) 24 4 (ic 1) := ⟨_, rfl⟩
  obtain ⟨A3, h3⟩ : ∃ x : sw_M, x = wr (wr (wr A2 25 1 2) 26 1 0) 24 4 (ic 2) := ⟨_, rfl⟩
  obtain ⟨A4, h4⟩ : ∃ x : sw_M, x = wr (wr (wr A3 25 2 1) 26 2 4) 24 4 (ic 3) := ⟨_, rfl⟩
  obtain ⟨A5, h5⟩ : ∃ x : sw_M, x = wr (wr (wr A4 25 3 47) 26 3 0) 24 4 (ic 4) := ⟨_, rfl⟩
  obtain ⟨A6, h6⟩ : ∃ x : sw_M, x = wr (wr (wr A5 25 4 43) 26 4 0) 24 4 (ic 5) := ⟨_, rfl⟩
  have a1 : f_lawR_add_ly10 N A1 1 1 = some (1, A2) := by rw [h2]; exact ylradd (d := 0) (by rw [h1]; rfl) (by decide) 1 1
  have a2 : f_lawR_add_ly10 N A2 2 0 = some (1, A3) := by rw [h3]; exact ylradd (d := 1) (by rw [h2]; rfl) (by decide) 2 0
  have a3 : f_lawR_add_ly10 N A3 1 4 = some (1, A4) := by rw [h4]; exact ylradd (d := 2) (by rw [h3]; rfl) (by decide) 1 4
  have a4 : f_lawR_add_ly10 N A4 47 0 = some (1, A5) := by rw [h5]; exact ylradd (d := 3) (by rw [h4]; rfl) (by decide) 47 0
  have a5 : f_lawR_add_ly10 N A5 43 0 = some (1, A6) := by rw [h6]; exact ylradd (d := 4) (by rw [h5]; rfl) (by decide) 43 0
  refine ⟨A6, ?_, fun a q1 q2 q3 => ?_, fun j hj => ?_, by rw [h6]; rfl, fun i hi => ?_⟩
  · unfold f_lawR_clear_ly10
    rw [wb_e, ← h1, a1, ob_e]
    simp only
    rw [a2, ob_e]
    simp only
    rw [a3, ob_e]
    simp only
    rw [a4, ob_e]
    simp only
    rw [a5, ob_e]
  · rw [h6, wr_nr q1, wr_nr q3, wr_nr q2, h5, wr_nr q1, wr_nr q3, wr_nr q2, h4, wr_nr q1, wr_nr q3, wr_nr q2, h3, wr_nr q1, wr_nr q3, wr_nr q2, h2, wr_nr q1, wr_nr q3, wr_nr q2, h1, wr_nr q1]
  · have k : ∀ (m : sw_M) (x : Int32), (wr m 24 4 x) 24 j = m 24 j := fun m x => by rw [wr_ap, if_pos rfl, if_neg hj]
    rw [h6, k, wr_nr (by decide), wr_nr (by decide), h5, k, wr_nr (by decide), wr_nr (by decide), h4, k, wr_nr (by decide), wr_nr (by decide), h3, k, wr_nr (by decide), wr_nr (by decide), h2, k, wr_nr (by decide), wr_nr (by decide), h1, k]
  · have : i = 0 ∨ i = 1 ∨ i = 2 ∨ i = 3 ∨ i = 4 := by omega
    rw [h6, h5, h4, h3, h2, h1]; rcases this with rfl | rfl | rfl | rfl | rfl <;> exact ⟨rfl, rfl⟩
section
variable {N : Nat}
theorem i_tape (μ : sw_M) : ∃ μ', f_tape_init N μ = some μ' ∧ (∀ a, (a < 1 ∨ 2 < a) → μ' a = μ a) ∧ (∀ j, j ≠ 4 → j ≠ 8 → μ' 1 j = μ 1 j) ∧ μ' 1 8 = -1 :=
  ⟨wr (wr (wrR μ 2 (fun _ => 0)) 1 4 256) 1 8 (-1), rfl, fun a h => by rw [wr_nr (by omega), wr_nr (by omega), wrR_nr (by omega)], fun j h1 h2 => by rw [wr_ap, if_pos rfl, if_neg h2, wr_ap, if_pos rfl, if_neg h1, wrR_nr (by decide)], rfl⟩
theorem i_land (μ : sw_M) : ∃ μ', f_land_init N μ = some μ' ∧ (∀ a, (a < 3 ∨ 10 < a) → μ' a = μ a) ∧ (∀ j, j ≠ 4 → μ' 3 j = μ 3 j) ∧ μ' 3 4 = 2 :=
  ⟨_, rfl, fun a h => by rw [wrR_nr (by omega), wrR_nr (by omega), wrR_nr (by omega), wrR_nr (by omega), wrR_nr (by omega), wrR_nr (by omega), wrR_nr (by omega), wr_nr (by omega)], fun j h => by rw [wrR_nr (by decide), wrR_nr (by decide), wrR_nr (by decide), wrR_nr (by decide), wrR_nr (by decide), wrR_nr (by decide), wrR_nr (by decide), wr_ap, if_pos rfl, if_neg h], rfl⟩
theorem i_landR (μ : sw_M) : ∃ μ', f_landR_init N μ = some μ' ∧ (∀ a, (a < 11 ∨ 18 < a) → μ' a = μ a) :=
  ⟨_, rfl, fun a h => by rw [wrR_nr (by omega), wrR_nr (by omega), wrR_nr (by omega), wrR_nr (by omega), wrR_nr (by omega), wrR_nr (by omega), wrR_nr (by omega), wr_nr (by omega)]⟩
theorem i_law (μ : sw_M) : ∃ μ', f_law_init N μ = some μ' ∧ (∀ a, (a < 19 ∨ 23 < a) → μ' a = μ a) ∧ μ' 19 4 = ic 5 ∧ ∀ i, i < 5 → μ' 20 i = cx (K0 i) ∧ μ' 21 i = O0 i := by
  obtain ⟨μ', h1, h2, h3, h4, h5⟩ := e_ylaw (N := N) (wrR (wrR (wrR (wrR μ 20 (fun _ => 0)) 21 (fun _ => 0)) 22 (fun _ => 0)) 23 (fun _ => 0))
  refine ⟨μ', ?_, fun a h => ?_, h4, h5⟩
  · unfold f_law_init
    rw [wb_e, wb_e, wb_e, wb_e, h1, ob_e]
  · rw [h2 a (by omega) (by omega) (by omega), wrR_nr (by omega), wrR_nr (by omega), wrR_nr (by omega), wrR_nr (by omega)]
theorem i_lawR (μ : sw_M) : ∃ μ', f_lawR_init N μ = some μ' ∧ (∀ a, (a < 24 ∨ 28 < a) → μ' a = μ a) := by
  obtain ⟨μ', h1, h2, -⟩ := e_ylawR (N := N) (wrR (wrR (wrR (wrR μ 25 (fun _ => 0)) 26 (fun _ => 0)) 27 (fun _ => 0)) 28 (fun _ => 0))
  refine ⟨μ', ?_, fun a h => ?_⟩
  · unfold f_lawR_init
    rw [wb_e, wb_e, wb_e, wb_e, h1, ob_e]
  · rw [h2 a (by omega) (by omega) (by omega), wrR_nr (by omega), wrR_nr (by omega), wrR_nr (by omega), wrR_nr (by omega)]
theorem i_book (μ : sw_M) : ∃ μ', f_book_init N μ = some μ' ∧ (∀ a, (a < 30 ∨ 31 < a) → μ' a = μ a) := ⟨_, rfl, fun a h => by rw [wrR_nr (by omega), wrR_nr (by omega)]⟩
theorem i_bookR (μ : sw_M) : ∃ μ', f_bookR_init N μ = some μ' ∧ (∀ a, (a < 33 ∨ 34 < a) → μ' a = μ a) := ⟨_, rfl, fun a h => by rw [wrR_nr (by omega), wrR_nr (by omega)]⟩
theorem i_days (hN : 5000 ≤ N) (μ : sw_M) : ∃ μ', f_days_init N μ = some μ' ∧ (∀ a, (a < 35 ∨ 40 < a) → μ' a = μ a) ∧ μ' 35 2 = 0 ∧ μ' 35 3 = μ 3 4 ∧ μ' 35 4 = 0 ∧ μ' 35 5 = 0 := by
  obtain ⟨μ', h1, h2, ⟨h3, h4, h5, h6⟩, -⟩ := e_ydays hN (wrR (wrR (wrR (wrR (wrR μ 36 (fun _ => 0)) 37 (fun _ => 0)) 38 (fun _ => 0)) 39 (fun _ => 0)) 40 (fun _ => 0))
  refine ⟨μ', ?_, fun a h => ?_, h3, ?_, h5, h6⟩
  · unfold f_days_init
    rw [wb_e, wb_e, wb_e, wb_e, wb_e, h1, ob_e]
  · rw [h2 a h, wrR_nr (by omega), wrR_nr (by omega), wrR_nr (by omega), wrR_nr (by omega), wrR_nr (by omega)]
  · rw [h4, wrR_nr (by decide), wrR_nr (by decide), wrR_nr (by decide), wrR_nr (by decide), wrR_nr (by decide)]
theorem i_work (μ : sw_M) : ∃ μ', f_work_init N μ = some μ' ∧ (∀ a, (a < 42 ∨ 44 < a) → μ' a = μ a) := ⟨_, rfl, fun a h => by rw [wrR_nr (by omega), wrR_nr (by omega), wrR_nr (by omega)]⟩
theorem i_shelf (μ : sw_M) : ∃ μ', f_shelf_init N μ = some μ' ∧ (∀ a, (a < 46 ∨ 48 < a) → μ' a = μ a) := ⟨_, rfl, fun a h => by rw [wrR_nr (by omega), wrR_nr (by omega), wrR_nr (by omega)]⟩
theorem i_ways (μ : sw_M) : ∃ μ', f_ways_init N μ = some μ' ∧ (∀ a, (a < 50 ∨ 50 < a) → μ' a = μ a) := ⟨_, rfl, fun a h => by rw [wrR_nr (by omega)]⟩
theorem i_guess (μ : sw_M) : ∃ μ', f_guess_init N μ = some μ' ∧ (∀ a, (a < 52 ∨ 54 < a) → μ' a = μ a) := ⟨_, rfl, fun a h => by rw [wrR_nr (by omega), wrR_nr (by omega), wrR_nr (by omega)]⟩
theorem i_autm (hN : 5000 ≤ N) (μ : sw_M) : ∃ μ', f_autm_init N μ = some μ' ∧ (∀ a, (a < 56 ∨ 62 < a) → μ' a = μ a) := by
  obtain ⟨μ', h1, h2, -⟩ := e_ydream hN (wrR (wrR (wrR (wrR (wrR (wrR (wrR μ 56 (fun _ => 0)) 57 (fun _ => 0)) 58 (fun _ => 0)) 59 (fun _ => 0)) 60 (fun _ => 0)) 61 (fun _ => 0)) 62 (fun _ => 0))
  refine ⟨μ', ?_, fun a h => ?_⟩
  · unfold f_autm_init f_dream_init
    rw [wb_e, wb_e, wb_e, wb_e, wb_e, wb_e, wb_e, h1, ob_e, ob_e]
  · rw [h2 a (by omega), wrR_nr (by omega), wrR_nr (by omega), wrR_nr (by omega), wrR_nr (by omega), wrR_nr (by omega), wrR_nr (by omega), wrR_nr (by omega)]
end
theorem init_x {N : Nat} (hN : 5000 ≤ N) : ∃ r, f_x_init N (wrR (fun _ _ => 0) 0 (fun _ => 0)) = some r ∧ (∀ j, r 0 j = 0) ∧ (r 1 3 = 0 ∧ r 1 8 = -1) ∧ ((∀ j, j ≠ 4 → r 3 j = 0)) ∧ (r 19 4 = ic 5 ∧ ∀ i, i < 5 → r 20 i = cx (K0 i) ∧ r 21 i = O0 i) ∧ (∀ j, r 29 j = 0) ∧ (r 35 2 = 0 ∧ r 35 3 = 2 ∧ r 35 4 = 0 ∧ r 35 5 = 0) ∧ (∀ j, r 41 j = 0) ∧ (∀ j, r 45 j = 0) := by
  obtain ⟨m0, hm0⟩ : ∃ x : sw_M, x = wrR (fun _ _ => 0) 0 (fun _ => 0) := ⟨_, rfl⟩
  obtain ⟨m1, hm1⟩ : ∃ x : sw_M, x = wrR m0 1 (fun _ => 0) := ⟨_, rfl⟩
  obtain ⟨m2, e2, f2, p1, p2⟩ := i_tape (N := N) m1
  obtain ⟨m3, hm3⟩ : ∃ x : sw_M, x = wrR m2 3 (fun _ => 0) := ⟨_, rfl⟩
  obtain ⟨m4, e4, f4, q1, q2⟩ := i_land (N := N) m3
  obtain ⟨m5, hm5⟩ : ∃ x : sw_M, x = wrR m4 11 (fun _ => 0) := ⟨_, rfl⟩
  obtain ⟨m6, e6, f6⟩ := i_landR (N := N) m5
  obtain ⟨m7, hm7⟩ : ∃ x : sw_M, x = wrR m6 19 (fun _ => 0) := ⟨_, rfl⟩
  obtain ⟨m8, e8, f8, l1, l2⟩ := i_law (N := N) m7
  obtain ⟨m9, hm9⟩ : ∃ x : sw_M, x = wrR m8 24 (fun _ => 0) := ⟨_, rfl⟩
  obtain ⟨m10, e10, f10⟩ := i_lawR (N := N) m9
  obtain ⟨m11, hm11⟩ : ∃ x : sw_M, x = wrR m10 29 (fun _ => 0) := ⟨_, rfl⟩
  obtain ⟨m12, e12, f12⟩ := i_book (N := N) m11
  obtain ⟨m13, hm13⟩ : ∃ x : sw_M, x = wrR m12 32 (fun _ => 0) := ⟨_, rfl⟩
  obtain ⟨m14, e14, f14⟩ := i_bookR (N := N) m13
  obtain ⟨m15, hm15⟩ : ∃ x : sw_M, x = wrR m14 35 (fun _ => 0) := ⟨_, rfl⟩
  obtain ⟨m16, e16, f16, d1, d2, d3, d4⟩ := i_days (N := N) hN m15
  obtain ⟨m17, hm17⟩ : ∃ x : sw_M, x = wrR m16 41 (fun _ => 0) := ⟨_, rfl⟩
  obtain ⟨m18, e18, f18⟩ := i_work (N := N) m17
  obtain ⟨m19, hm19⟩ : ∃ x : sw_M, x = wrR m18 45 (fun _ => 0) := ⟨_, rfl⟩
  obtain ⟨m20, e20, f20⟩ := i_shelf (N := N) m19
  obtain ⟨m21, hm21⟩ : ∃ x : sw_M, x = wrR m20 49 (fun _ => 0) := ⟨_, rfl⟩
  obtain ⟨m22, e22, f22⟩ := i_ways (N := N) m21
  obtain ⟨m23, hm23⟩ : ∃ x : sw_M, x = wrR m22 51 (fun _ => 0) := ⟨_, rfl⟩
  obtain ⟨m24, e24, f24⟩ := i_guess (N := N) m23
  obtain ⟨m25, hm25⟩ : ∃ x : sw_M, x = wrR m24 55 (fun _ => 0) := ⟨_, rfl⟩
  obtain ⟨m26, e26, f26⟩ := i_autm (N := N) hN m25
  refine ⟨m26, ?_, fun j => ?_, ⟨?_, ?_⟩, fun j hj => ?_, ⟨?_, fun i hi => ?_⟩, fun j => ?_, ⟨?_, ?_, ?_, ?_⟩, fun j => ?_, fun j => ?_⟩
  · unfold f_x_init
    rw [← hm0, wb_e, ← hm1, e2, ob_e, wb_e, ← hm3, e4, ob_e, wb_e, ← hm5, e6, ob_e, wb_e, ← hm7, e8, ob_e, wb_e, ← hm9, e10, ob_e, wb_e, ← hm11, e12, ob_e, wb_e, ← hm13, e14, ob_e, wb_e, ← hm15, e16, ob_e, wb_e, ← hm17, e18, ob_e, wb_e, ← hm19, e20, ob_e, wb_e, ← hm21, e22, ob_e, wb_e, ← hm23, e24, ob_e, wb_e, ← hm25, e26, ob_e]
  · rw [f26 0 (by decide), hm25, wrR_nr (by decide), f24 0 (by decide), hm23, wrR_nr (by decide), f22 0 (by decide), hm21, wrR_nr (by decide), f20 0 (by decide), hm19, wrR_nr (by decide), f18 0 (by decide), hm17, wrR_nr (by decide), f16 0 (by decide), hm15, wrR_nr (by decide), f14 0 (by decide), hm13, wrR_nr (by decide), f12 0 (by decide), hm11, wrR_nr (by decide), f10 0 (by decide), hm9, wrR_nr (by decide), f8 0 (by decide), hm7, wrR_nr (by decide), f6 0 (by decide), hm5, wrR_nr (by decide), f4 0 (by decide), hm3, wrR_nr (by decide), f2 0 (by decide), hm1, wrR_nr (by decide), hm0, wrR_r]
  · rw [f26 1 (by decide), hm25, wrR_nr (by decide), f24 1 (by decide), hm23, wrR_nr (by decide), f22 1 (by decide), hm21, wrR_nr (by decide), f20 1 (by decide), hm19, wrR_nr (by decide), f18 1 (by decide), hm17, wrR_nr (by decide), f16 1 (by decide), hm15, wrR_nr (by decide), f14 1 (by decide), hm13, wrR_nr (by decide), f12 1 (by decide), hm11, wrR_nr (by decide), f10 1 (by decide), hm9, wrR_nr (by decide), f8 1 (by decide), hm7, wrR_nr (by decide), f6 1 (by decide), hm5, wrR_nr (by decide), f4 1 (by decide), hm3, wrR_nr (by decide), p1 3 (by decide) (by decide), hm1, wrR_r]
  · rw [f26 1 (by decide), hm25, wrR_nr (by decide), f24 1 (by decide), hm23, wrR_nr (by decide), f22 1 (by decide), hm21, wrR_nr (by decide), f20 1 (by decide), hm19, wrR_nr (by decide), f18 1 (by decide), hm17, wrR_nr (by decide), f16 1 (by decide), hm15, wrR_nr (by decide), f14 1 (by decide), hm13, wrR_nr (by decide), f12 1 (by decide), hm11, wrR_nr (by decide), f10 1 (by decide), hm9, wrR_nr (by decide), f8 1 (by decide), hm7, wrR_nr (by decide), f6 1 (by decide), hm5, wrR_nr (by decide), f4 1 (by decide), hm3, wrR_nr (by decide), p2]
  · rw [f26 3 (by decide), hm25, wrR_nr (by decide), f24 3 (by decide), hm23, wrR_nr (by decide), f22 3 (by decide), hm21, wrR_nr (by decide), f20 3 (by decide), hm19, wrR_nr (by decide), f18 3 (by decide), hm17, wrR_nr (by decide), f16 3 (by decide), hm15, wrR_nr (by decide), f14 3 (by decide), hm13, wrR_nr (by decide), f12 3 (by decide), hm11, wrR_nr (by decide), f10 3 (by decide), hm9, wrR_nr (by decide), f8 3 (by decide), hm7, wrR_nr (by decide), f6 3 (by decide), hm5, wrR_nr (by decide), q1 j hj, hm3, wrR_r]
  · rw [f26 19 (by decide), hm25, wrR_nr (by decide), f24 19 (by decide), hm23, wrR_nr (by decide), f22 19 (by decide), hm21, wrR_nr (by decide), f20 19 (by decide), hm19, wrR_nr (by decide), f18 19 (by decide), hm17, wrR_nr (by decide), f16 19 (by decide), hm15, wrR_nr (by decide), f14 19 (by decide), hm13, wrR_nr (by decide), f12 19 (by decide), hm11, wrR_nr (by decide), f10 19 (by decide), hm9, wrR_nr (by decide), l1]
  · rw [f26 20 (by decide), hm25, wrR_nr (by decide), f24 20 (by decide), hm23, wrR_nr (by decide), f22 20 (by decide), hm21, wrR_nr (by decide), f20 20 (by decide), hm19, wrR_nr (by decide), f18 20 (by decide), hm17, wrR_nr (by decide), f16 20 (by decide), hm15, wrR_nr (by decide), f14 20 (by decide), hm13, wrR_nr (by decide), f12 20 (by decide), hm11, wrR_nr (by decide), f10 20 (by decide), hm9, wrR_nr (by decide), f26 21 (by decide), hm25, wrR_nr (by decide), f24 21 (by decide), hm23, wrR_nr (by decide), f22 21 (by decide), hm21, wrR_nr (by decide), f20 21 (by decide), hm19, wrR_nr (by decide), f18 21 (by decide), hm17, wrR_nr (by decide), f16 21 (by decide), hm15, wrR_nr (by decide), f14 21 (by decide), hm13, wrR_nr (by decide), f12 21 (by decide), hm11, wrR_nr (by decide), f10 21 (by decide), hm9, wrR_nr (by decide)]; exact l2 i hi
  · rw [f26 29 (by decide), hm25, wrR_nr (by decide), f24 29 (by decide), hm23, wrR_nr (by decide), f22 29 (by decide), hm21, wrR_nr (by decide), f20 29 (by decide), hm19, wrR_nr (by decide), f18 29 (by decide), hm17, wrR_nr (by decide), f16 29 (by decide), hm15, wrR_nr (by decide), f14 29 (by decide), hm13, wrR_nr (by decide), f12 29 (by decide), hm11, wrR_r]
  · rw [f26 35 (by decide), hm25, wrR_nr (by decide), f24 35 (by decide), hm23, wrR_nr (by decide), f22 35 (by decide), hm21, wrR_nr (by decide), f20 35 (by decide), hm19, wrR_nr (by decide), f18 35 (by decide), hm17, wrR_nr (by decide), d1]
  · rw [f26 35 (by decide), hm25, wrR_nr (by decide), f24 35 (by decide), hm23, wrR_nr (by decide), f22 35 (by decide), hm21, wrR_nr (by decide), f20 35 (by decide), hm19, wrR_nr (by decide), f18 35 (by decide), hm17, wrR_nr (by decide), d2, hm15, wrR_nr (by decide), f14 3 (by decide), hm13, wrR_nr (by decide), f12 3 (by decide), hm11, wrR_nr (by decide), f10 3 (by decide), hm9, wrR_nr (by decide), f8 3 (by decide), hm7, wrR_nr (by decide), f6 3 (by decide), hm5, wrR_nr (by decide), q2]
  · rw [f26 35 (by decide), hm25, wrR_nr (by decide), f24 35 (by decide), hm23, wrR_nr (by decide), f22 35 (by decide), hm21, wrR_nr (by decide), f20 35 (by decide), hm19, wrR_nr (by decide), f18 35 (by decide), hm17, wrR_nr (by decide), d3]
  · rw [f26 35 (by decide), hm25, wrR_nr (by decide), f24 35 (by decide), hm23, wrR_nr (by decide), f22 35 (by decide), hm21, wrR_nr (by decide), f20 35 (by decide), hm19, wrR_nr (by decide), f18 35 (by decide), hm17, wrR_nr (by decide), d4]
  · rw [f26 41 (by decide), hm25, wrR_nr (by decide), f24 41 (by decide), hm23, wrR_nr (by decide), f22 41 (by decide), hm21, wrR_nr (by decide), f20 41 (by decide), hm19, wrR_nr (by decide), f18 41 (by decide), hm17, wrR_r]
  · rw [f26 45 (by decide), hm25, wrR_nr (by decide), f24 45 (by decide), hm23, wrR_nr (by decide), f22 45 (by decide), hm21, wrR_nr (by decide), f20 45 (by decide), hm19, wrR_r]
theorem init_m {N : Nat} (hN : 5000 ≤ N) (r : sw_M) : ∃ r2, f_m_init N (wrR r 63 (fun _ => 0)) = some r2 ∧ (∀ a, a < 63 → r2 a = r a) ∧ (∀ j, r2 64 j = 0) ∧ (r2 63 2 = 0 ∧ r2 63 8 = -1) ∧ (r2 63 21 = 0 ∧ r2 63 22 = 0 ∧ r2 63 23 = 0 ∧ r2 63 24 = 0) ∧ (r2 63 31 = 0 ∧ r2 63 36 = 0 ∧ r2 63 37 = 0 ∧ r2 63 46 = 0 ∧ r2 63 50 = 0) ∧ (∀ k, k ≤ 40 → r2 84 k = -1) ∧ (r2 80 46 = 2 ∧ r2 80 47 = 0 ∧ r2 80 48 = 0) := by
  obtain ⟨A, hA⟩ : ∃ x : sw_M, x = wrR (wrR (wrR (wrR (wrR (wrR (wrR (wrR (wrR (wrR (wrR (wrR (wrR (wrR (wrR (wrR (wrR (wrR (wrR (wrR (wrR (wrR (wr (wrR (wrR r 63 (fun _ => 0)) 64 (fun _ => 0)) 63 8 (-1)) 65 (fun _ => 0)) 66 (fun _ => 0)) 67 (fun _ => 0)) 68 (fun _ => 0)) 69 (fun _ => 0)) 70 (fun _ => 0)) 71 (fun _ => 0)) 72 (fun _ => 0)) 73 (fun _ => 0)) 74 (fun _ => 0)) 75 (fun _ => 0)) 76 (fun _ => 0)) 77 (fun _ => 0)) 78 (fun _ => 0)) 79 (fun _ => 0)) 80 (fun _ => 0)) 81 (fun _ => 0)) 82 (fun _ => 0)) 83 (fun _ => 0)) 84 (fun _ => 0)) 85 (fun _ => 0)) 86 (fun _ => 0) := ⟨_, rfl⟩
  obtain ⟨C, hC⟩ : ∃ x : sw_M, x = wr (wr (wr (wr (wr A 63 16 0) 63 17 0) 63 18 0) 63 19 0) 63 20 2 := ⟨_, rfl⟩
  have fA : ∀ a, a < 63 → A a = r a := fun a h => by rw [hA, wrR_nr (by omega), wrR_nr (by omega), wrR_nr (by omega), wrR_nr (by omega), wrR_nr (by omega), wrR_nr (by omega), wrR_nr (by omega), wrR_nr (by omega), wrR_nr (by omega), wrR_nr (by omega), wrR_nr (by omega), wrR_nr (by omega), wrR_nr (by omega), wrR_nr (by omega), wrR_nr (by omega), wrR_nr (by omega), wrR_nr (by omega), wrR_nr (by omega), wrR_nr (by omega), wrR_nr (by omega), wrR_nr (by omega), wrR_nr (by omega), wr_nr (by omega), wrR_nr (by omega), wrR_nr (by omega)]
  have A64 : ∀ j, A 64 j = 0 := fun j => by rw [hA, wrR_nr (by decide), wrR_nr (by decide), wrR_nr (by decide), wrR_nr (by decide), wrR_nr (by decide), wrR_nr (by decide), wrR_nr (by decide), wrR_nr (by decide), wrR_nr (by decide), wrR_nr (by decide), wrR_nr (by decide), wrR_nr (by decide), wrR_nr (by decide), wrR_nr (by decide), wrR_nr (by decide), wrR_nr (by decide), wrR_nr (by decide), wrR_nr (by decide), wrR_nr (by decide), wrR_nr (by decide), wrR_nr (by decide), wrR_nr (by decide), wr_nr (by decide), wrR_r]
  have A63 : ∀ j, A 63 j = if j = 8 then -1 else 0 := fun j => by rw [hA, wrR_nr (by decide), wrR_nr (by decide), wrR_nr (by decide), wrR_nr (by decide), wrR_nr (by decide), wrR_nr (by decide), wrR_nr (by decide), wrR_nr (by decide), wrR_nr (by decide), wrR_nr (by decide), wrR_nr (by decide), wrR_nr (by decide), wrR_nr (by decide), wrR_nr (by decide), wrR_nr (by decide), wrR_nr (by decide), wrR_nr (by decide), wrR_nr (by decide), wrR_nr (by decide), wrR_nr (by decide), wrR_nr (by decide), wrR_nr (by decide), wr_ap, if_pos rfl, wrR_nr (by decide), wrR_r]
  have C63 : ∀ j, (j < 16 ∨ 20 < j) → C 63 j = if j = 8 then -1 else 0 := fun j h => by rw [hC, wr_ap, if_pos rfl, if_neg (by omega), wr_ap, if_pos rfl, if_neg (by omega), wr_ap, if_pos rfl, if_neg (by omega), wr_ap, if_pos rfl, if_neg (by omega), wr_ap, if_pos rfl, if_neg (by omega), A63]
  have fC : ∀ a, a ≠ 63 → C a = A a := fun a h => by rw [hC, wr_nr h, wr_nr h, wr_nr h, wr_nr h, wr_nr h]
  have e17 : C 63 17 = ic 0 := by rw [hC]; rfl
  have e18 : C 63 18 = ic 0 := by rw [hC]; rfl
  have e19 : C 63 19 = ic 0 := by rw [hC]; rfl
  have e16 : C 63 16 = 0 := by rw [hC]; rfl
  have e20 : C 63 20 = 2 := by rw [hC]; rfl
  obtain ⟨r2, s1, s2, s3, ⟨s4, s5, s6, s7⟩, s8, -, s9, -, -, -, -, -, -, t1, t2, t3⟩ := e_ysets hN e17 e18 e19 (by decide) (by decide) (by decide)
  refine ⟨r2, ?_, fun a h => ?_, fun j => ?_, ⟨?_, ?_⟩, ⟨s4.trans e16, s5, s6, s7⟩, s8, s9, t1.trans e20, t2, t3⟩
  · unfold f_m_init f_m_clears_ly31
    rw [wb_e, wb_e, wb_e, wb_e, wb_e, wb_e, wb_e, wb_e, wb_e, wb_e, wb_e, wb_e, wb_e, wb_e, wb_e, wb_e, wb_e, wb_e, wb_e, wb_e, wb_e, wb_e, wb_e, wb_e, ← hA, wb_e, wb_e, wb_e, wb_e, wb_e, ← hC, ob_e, s1, ob_e]
  · rw [s2 a (by omega) (by omega) (by omega) (by omega) (by omega) (by omega), fC a (by omega), fA a h]
  · rw [s2 64 (by decide) (by decide) (by decide) (by decide) (by decide) (by decide), fC 64 (by decide), A64]
  · rw [s3 2 (by decide) (by decide) (by decide) (by decide) (by decide) (by decide), C63 2 (by decide), if_neg (by decide)]
  · rw [s3 8 (by decide) (by decide) (by decide) (by decide) (by decide) (by decide), C63 8 (by decide), if_pos rfl]
theorem init_inv {N : Nat} (hN : 5000 ≤ N) : ∃ r1 r2 : sw_M, f_x_init N (wrR (fun _ _ => 0) 0 (fun _ => 0)) = some r1 ∧ f_m_init N (wrR r1 63 (fun _ => 0)) = some r2 ∧ Inv r2 := by
  obtain ⟨r, x1, x2, ⟨x3, x4⟩, x5, ⟨x6, x7⟩, x8, ⟨x9, x10, x11, x12⟩, x13, x14⟩ := init_x hN
  obtain ⟨r2, y1, y2, y3, ⟨y4, y5⟩, ⟨y6, y7, y8, y9⟩, ⟨y10, y11, y12, y13, y14⟩, y15, ⟨y16, y17, y18⟩⟩ := init_m hN r
  refine ⟨r, r2, x1, y1, 0, 0, 0, 0, K0, O0, 5, 0, 0, 0, ⟨⟨⟨?_, ?_, ?_, ?_⟩, ⟨by decide, by decide, by decide, by decide⟩, fun _ h => absurd h (Nat.not_lt_zero _), fun _ h => absurd h (Nat.not_lt_zero _), fun _ h => absurd h (Nat.not_lt_zero _)⟩, ⟨⟨y6, y7, y8, y9⟩, fun _ h => absurd h (Nat.not_lt_zero _), fun _ h => absurd h (Nat.not_lt_zero _), fun _ h => absurd h (Nat.not_lt_zero _)⟩, ⟨⟨⟨0, by decide, y18⟩, ⟨2, by decide, y16⟩, fun _ h => absurd h (Nat.not_lt_zero _), fun _ h => absurd h (Nat.not_lt_zero _), fun _ h => absurd h (Nat.not_lt_zero _)⟩, 0, by decide, y18⟩, ⟨⟨?_, ?_, ?_, ?_⟩, fun _ h => absurd h (Nat.not_lt_zero _), fun _ h => absurd h (Nat.not_lt_zero _), fun _ h => absurd h (Nat.not_lt_zero _), fun _ h => absurd h (Nat.not_lt_zero _), fun _ h => absurd h (Nat.not_lt_zero _)⟩, ⟨wl0, ?_, fun i hi => ?_⟩, ⟨wl0, Or.inr ⟨y10, rfl, rfl, rfl⟩⟩, ⟨by decide, ?_, y13, fun _ h => absurd h (Nat.not_lt_zero _), fun k hk => Or.inl (y15 k hk)⟩⟩, TP.nil ?_ y4 ?_, ⟨by decide, ?_, y11, fun _ h => absurd h (Nat.not_lt_zero _)⟩, ⟨by decide, ?_, y14, fun _ h => absurd h (Nat.not_lt_zero _)⟩, ?_, ?_, ?_⟩
  · rw [y2 3 (by decide)]; exact x5 0 (by decide)
  · rw [y2 3 (by decide)]; exact x5 1 (by decide)
  · rw [y2 3 (by decide)]; exact x5 2 (by decide)
  · rw [y2 3 (by decide)]; exact x5 3 (by decide)
  · rw [y2 35 (by decide), x9, y18]
  · rw [y2 35 (by decide), x10, y16]
  · rw [y2 35 (by decide), x12, y17]
  · rw [y2 35 (by decide), x11]; rfl
  · rw [y2 19 (by decide)]; exact x6
  · rw [y2 20 (by decide), y2 21 (by decide)]; exact x7 i hi
  · rw [y2 29 (by decide)]; exact x8 0
  · rw [y2 1 (by decide)]; exact x3
  · rw [y2 1 (by decide), x4, y5]
  · rw [y2 45 (by decide)]; exact x14 4
  · rw [y2 45 (by decide)]; exact x14 5
  · rw [y2 41 (by decide), x13, y12]
  · rw [y2 0 (by decide), x2, y3]
  · rw [y2 0 (by decide), x2, y3]
