/-! ===== printed by wip/whole/gen87.py: a country that is taken ===== -/
theorem wrR_wr (μ : sw_M) (k j : Nat) (v : Int32) (g : Nat → Int32) : wrR (wr μ k j v) k g = wrR μ k g := by rw [wr_up, wrR_wrR]
theorem lp_f_m_sets_234 {N : Nat} {P : Nat} (hbd : P ≤ 5) : ∀ (j k : Nat) (ν : sw_M) (n : Nat), k + j = P → j < n → ν 63 24 = ic P → ∃ g : Nat → Int32, f_m_sets_234 N n ν (ic k) = Option.some (wr (wrR ν 80 g) 80 46 (ν 63 20)) ∧ ∀ i, g i = if 36 + k ≤ i ∧ i < 36 + P then ν 71 (2 * (i - 36)) else ν 80 i
  | 0, k, ν, n, hk, hn, h63 => by
    obtain ⟨n, rfl⟩ := fu_s hn
    refine ⟨ν 80, ?_, fun i => by rw [if_neg (by omega)]⟩
    rw [wrR_self, f_m_sets_234, h63, if_pos (by rw [ic_le (by omega) (by omega)]; omega)]; rfl
  | j + 1, k, ν, n, hk, hn, h63 => by
    obtain ⟨n, rfl⟩ := fu_s (show 0 < n by omega)
    obtain ⟨g, h1, h2⟩ := lp_f_m_sets_234 hbd j (k + 1) (wr ν 80 (36 + k) (ν 71 (2 * (k)))) n (by omega) (by omega) h63
    rw [wrR_wr] at h1
    have h2' : ∀ i, g i = if 36 + (k + 1) ≤ i ∧ i < 36 + P then ν 71 (2 * (i - 36)) else (if i = (36 + k) then ν 71 (2 * (k)) else ν 80 i) := h2
    refine ⟨g, ?_, fun i => ?_⟩
    · refine Eq.trans ?_ h1
      rw [f_m_sets_234, h63, if_neg (by rw [ic_le (by omega) (by omega)]; omega), lit_mul, inb_e (by omega) (by decide), show (36 : Int32) + ic k = ic (36 + k) from ic_add 36 k, inb_e (by omega) (by decide), ic_n (by omega), ic_n (by omega), wb_e, ic_1]
    · rw [h2']
      by_cases e : i = (36 + k)
      · subst e
        rw [if_neg (by omega), if_pos rfl, if_pos (by omega)]; rw [show (36 + k) - 36 = k by omega]
      · rw [if_neg e]
        by_cases e2 : 36 + k ≤ i ∧ i < 36 + P
        · rw [if_pos (by omega), if_pos e2]
        · rw [if_neg (by omega), if_neg e2]
theorem lp_f_m_sets_210 {N : Nat}  : ∀ (j k : Nat) (ν : sw_M) (n : Nat), k + j = 6 → j < n → ∃ g : Nat → Int32, f_m_sets_210 N n ν (ic k) = f_m_sets_234 N N (wrR ν 80 g) 0 ∧ ∀ i, g i = if 30 + k ≤ i ∧ i < 30 + 6 then -1 else ν 80 i
  | 0, k, ν, n, hk, hn => by
    obtain ⟨n, rfl⟩ := fu_s hn
    refine ⟨ν 80, ?_, fun i => by rw [if_neg (by omega)]⟩
    rw [wrR_self, f_m_sets_210, if_pos (by rw [lit_le (by decide) (by omega)]; show 6 ≤ k; omega)]
  | j + 1, k, ν, n, hk, hn => by
    obtain ⟨n, rfl⟩ := fu_s (show 0 < n by omega)
    obtain ⟨g, h1, h2⟩ := lp_f_m_sets_210 j (k + 1) (wr ν 80 (30 + k) (-1)) n (by omega) (by omega)
    rw [wrR_wr] at h1
    have h2' : ∀ i, g i = if 30 + (k + 1) ≤ i ∧ i < 30 + 6 then -1 else (if i = (30 + k) then -1 else ν 80 i) := h2
    refine ⟨g, ?_, fun i => ?_⟩
    · refine Eq.trans ?_ h1
      rw [f_m_sets_210, if_neg (by rw [lit_le (by decide) (by omega)]; show ¬ 6 ≤ k; omega), show (30 : Int32) + ic k = ic (30 + k) from ic_add 30 k, inb_e (by omega) (by decide), ic_n (by omega), wb_e, ic_1]
    · rw [h2']
      by_cases e : i = (30 + k)
      · subst e
        rw [if_neg (by omega), if_pos rfl, if_pos (by omega)]
      · rw [if_neg e]
        by_cases e2 : 30 + k ≤ i ∧ i < 30 + 6
        · rw [if_pos (by omega), if_pos e2]
        · rw [if_neg (by omega), if_neg e2]
theorem lp_f_m_sets_177 {N : Nat} {T : Nat} (hbd : T ≤ 6) : ∀ (j k : Nat) (ν : sw_M) (n : Nat), k + j = T → j < n → ν 63 23 = ic T → ∃ g : Nat → Int32, f_m_sets_177 N n ν (ic k) = f_m_sets_210 N N (wrR ν 80 g) 0 ∧ ∀ i, g i = if 24 + k ≤ i ∧ i < 24 + T then ν 70 (2 * (i - 24)) else ν 80 i
  | 0, k, ν, n, hk, hn, h63 => by
    obtain ⟨n, rfl⟩ := fu_s hn
    refine ⟨ν 80, ?_, fun i => by rw [if_neg (by omega)]⟩
    rw [wrR_self, f_m_sets_177, h63, if_pos (by rw [ic_le (by omega) (by omega)]; omega)]
  | j + 1, k, ν, n, hk, hn, h63 => by
    obtain ⟨n, rfl⟩ := fu_s (show 0 < n by omega)
    obtain ⟨g, h1, h2⟩ := lp_f_m_sets_177 hbd j (k + 1) (wr ν 80 (24 + k) (ν 70 (2 * (k)))) n (by omega) (by omega) h63
    rw [wrR_wr] at h1
    have h2' : ∀ i, g i = if 24 + (k + 1) ≤ i ∧ i < 24 + T then ν 70 (2 * (i - 24)) else (if i = (24 + k) then ν 70 (2 * (k)) else ν 80 i) := h2
    refine ⟨g, ?_, fun i => ?_⟩
    · refine Eq.trans ?_ h1
      rw [f_m_sets_177, h63, if_neg (by rw [ic_le (by omega) (by omega)]; omega), lit_mul, inb_e (by omega) (by decide), show (24 : Int32) + ic k = ic (24 + k) from ic_add 24 k, inb_e (by omega) (by decide), ic_n (by omega), ic_n (by omega), wb_e, ic_1]
    · rw [h2']
      by_cases e : i = (24 + k)
      · subst e
        rw [if_neg (by omega), if_pos rfl, if_pos (by omega)]; rw [show (24 + k) - 24 = k by omega]
      · rw [if_neg e]
        by_cases e2 : 24 + k ≤ i ∧ i < 24 + T
        · rw [if_pos (by omega), if_pos e2]
        · rw [if_neg (by omega), if_neg e2]
theorem lp_f_m_sets_143 {N : Nat} {W : Nat} (hbd : W ≤ 12) : ∀ (j k : Nat) (ν : sw_M) (n : Nat), k + j = W → j < n → ν 63 22 = ic W → ∃ g : Nat → Int32, f_m_sets_143 N n ν (ic k) = f_m_sets_177 N N (wrR ν 80 g) 0 ∧ ∀ i, g i = if 0 + k ≤ i ∧ i < 0 + W then ν 69 (3 * (i - 0) + 2) else ν 80 i
  | 0, k, ν, n, hk, hn, h63 => by
    obtain ⟨n, rfl⟩ := fu_s hn
    refine ⟨ν 80, ?_, fun i => by rw [if_neg (by omega)]⟩
    rw [wrR_self, f_m_sets_143, h63, if_pos (by rw [ic_le (by omega) (by omega)]; omega)]
  | j + 1, k, ν, n, hk, hn, h63 => by
    obtain ⟨n, rfl⟩ := fu_s (show 0 < n by omega)
    obtain ⟨g, h1, h2⟩ := lp_f_m_sets_143 hbd j (k + 1) (wr ν 80 (0 + k) (ν 69 (3 * (k) + 2))) n (by omega) (by omega) h63
    rw [wrR_wr] at h1
    have h2' : ∀ i, g i = if 0 + (k + 1) ≤ i ∧ i < 0 + W then ν 69 (3 * (i - 0) + 2) else (if i = (0 + k) then ν 69 (3 * (k) + 2) else ν 80 i) := h2
    refine ⟨g, ?_, fun i => ?_⟩
    · refine Eq.trans ?_ h1
      rw [f_m_sets_143, h63, if_neg (by rw [ic_le (by omega) (by omega)]; omega), lit_mul, add_lit, inb_e (by omega) (by decide), show (0 : Int32) + ic k = ic (0 + k) from ic_add 0 k, inb_e (by omega) (by decide), ic_n (by omega), ic_n (by omega), wb_e, ic_1]
    · rw [h2']
      by_cases e : i = (0 + k)
      · subst e
        rw [if_neg (by omega), if_pos rfl, if_pos (by omega)]; rw [show (0 + k) - 0 = k by omega]
      · rw [if_neg e]
        by_cases e2 : 0 + k ≤ i ∧ i < 0 + W
        · rw [if_pos (by omega), if_pos e2]
        · rw [if_neg (by omega), if_neg e2]
theorem lp_f_m_sets_122 {N : Nat}  : ∀ (j k : Nat) (ν : sw_M) (n : Nat), k + j = 49 → j < n → ∃ g : Nat → Int32, f_m_sets_122 N n ν (ic k) = f_m_sets_143 N N (wrR ν 80 g) 0 ∧ ∀ i, g i = if 0 + k ≤ i ∧ i < 0 + 49 then 0 else ν 80 i
  | 0, k, ν, n, hk, hn => by
    obtain ⟨n, rfl⟩ := fu_s hn
    refine ⟨ν 80, ?_, fun i => by rw [if_neg (by omega)]⟩
    rw [wrR_self, f_m_sets_122, if_pos (by rw [lit_le (by decide) (by omega)]; show 49 ≤ k; omega)]
  | j + 1, k, ν, n, hk, hn => by
    obtain ⟨n, rfl⟩ := fu_s (show 0 < n by omega)
    obtain ⟨g, h1, h2⟩ := lp_f_m_sets_122 j (k + 1) (wr ν 80 k (0)) n (by omega) (by omega)
    rw [wrR_wr] at h1
    have h2' : ∀ i, g i = if 0 + (k + 1) ≤ i ∧ i < 0 + 49 then 0 else (if i = k then 0 else ν 80 i) := h2
    refine ⟨g, ?_, fun i => ?_⟩
    · refine Eq.trans ?_ h1
      rw [f_m_sets_122, if_neg (by rw [lit_le (by decide) (by omega)]; show ¬ 49 ≤ k; omega), inb_e (by omega) (by decide), ic_n (by omega), wb_e, ic_1]
    · rw [h2']
      by_cases e : i = k
      · subst e
        rw [if_neg (by omega), if_pos rfl, if_pos (by omega)]
      · rw [if_neg e]
        by_cases e2 : 0 + k ≤ i ∧ i < 0 + 49
        · rw [if_pos (by omega), if_pos e2]
        · rw [if_neg (by omega), if_neg e2]
theorem lp_f_m_sets_101 {N : Nat}  : ∀ (j k : Nat) (ν : sw_M) (n : Nat), k + j = 41 → j < n → ∃ g : Nat → Int32, f_m_sets_101 N n ν (ic k) = f_m_sets_122 N N (wrR ν 84 g) 0 ∧ ∀ i, g i = if 0 + k ≤ i ∧ i < 0 + 41 then -1 else ν 84 i
  | 0, k, ν, n, hk, hn => by
    obtain ⟨n, rfl⟩ := fu_s hn
    refine ⟨ν 84, ?_, fun i => by rw [if_neg (by omega)]⟩
    rw [wrR_self, f_m_sets_101, if_pos (by rw [lit_lt (by decide) (by omega)]; show 40 < k; omega)]
  | j + 1, k, ν, n, hk, hn => by
    obtain ⟨n, rfl⟩ := fu_s (show 0 < n by omega)
    obtain ⟨g, h1, h2⟩ := lp_f_m_sets_101 j (k + 1) (wr ν 84 k (-1)) n (by omega) (by omega)
    rw [wrR_wr] at h1
    have h2' : ∀ i, g i = if 0 + (k + 1) ≤ i ∧ i < 0 + 41 then -1 else (if i = k then -1 else ν 84 i) := h2
    refine ⟨g, ?_, fun i => ?_⟩
    · refine Eq.trans ?_ h1
      rw [f_m_sets_101, if_neg (by rw [lit_lt (by decide) (by omega)]; show ¬ 40 < k; omega), inb_e (by omega) (by decide), ic_n (by omega), wb_e, ic_1]
    · rw [h2']
      by_cases e : i = k
      · subst e
        rw [if_neg (by omega), if_pos rfl, if_pos (by omega)]
      · rw [if_neg e]
        by_cases e2 : 0 + k ≤ i ∧ i < 0 + 41
        · rw [if_pos (by omega), if_pos e2]
        · rw [if_neg (by omega), if_neg e2]
theorem lp_f_days_begin_102 {N : Nat}  : ∀ (j k : Nat) (ν : sw_M) (n : Nat), k + j = 5 → j < n → ∃ g : Nat → Int32, f_days_begin_102 N n ν (ic k) = Option.some (wrR ν 40 g) ∧ ∀ i, g i = if 0 + k ≤ i ∧ i < 0 + 5 then 0 else ν 40 i
  | 0, k, ν, n, hk, hn => by
    obtain ⟨n, rfl⟩ := fu_s hn
    refine ⟨ν 40, ?_, fun i => by rw [if_neg (by omega)]⟩
    rw [wrR_self, f_days_begin_102, if_pos (by rw [lit_le (by decide) (by omega)]; show 5 ≤ k; omega)]
  | j + 1, k, ν, n, hk, hn => by
    obtain ⟨n, rfl⟩ := fu_s (show 0 < n by omega)
    obtain ⟨g, h1, h2⟩ := lp_f_days_begin_102 j (k + 1) (wr ν 40 k (0)) n (by omega) (by omega)
    rw [wrR_wr] at h1
    have h2' : ∀ i, g i = if 0 + (k + 1) ≤ i ∧ i < 0 + 5 then 0 else (if i = k then 0 else ν 40 i) := h2
    refine ⟨g, ?_, fun i => ?_⟩
    · refine Eq.trans ?_ h1
      rw [f_days_begin_102, if_neg (by rw [lit_le (by decide) (by omega)]; show ¬ 5 ≤ k; omega), inb_e (by omega) (by decide), ic_n (by omega), wb_e, ic_1]
    · rw [h2']
      by_cases e : i = k
      · subst e
        rw [if_neg (by omega), if_pos rfl, if_pos (by omega)]
      · rw [if_neg e]
        by_cases e2 : 0 + k ≤ i ∧ i < 0 + 5
        · rw [if_pos (by omega), if_pos e2]
        · rw [if_neg (by omega), if_neg e2]
theorem lp_f_days_begin_81 {N : Nat}  : ∀ (j k : Nat) (ν : sw_M) (n : Nat), k + j = 6 → j < n → ∃ g : Nat → Int32, f_days_begin_81 N n ν (ic k) = f_days_begin_102 N N (wrR ν 38 g) 0 ∧ ∀ i, g i = if 0 + k ≤ i ∧ i < 0 + 6 then -1 else ν 38 i
  | 0, k, ν, n, hk, hn => by
    obtain ⟨n, rfl⟩ := fu_s hn
    refine ⟨ν 38, ?_, fun i => by rw [if_neg (by omega)]⟩
    rw [wrR_self, f_days_begin_81, if_pos (by rw [lit_le (by decide) (by omega)]; show 6 ≤ k; omega)]
  | j + 1, k, ν, n, hk, hn => by
    obtain ⟨n, rfl⟩ := fu_s (show 0 < n by omega)
    obtain ⟨g, h1, h2⟩ := lp_f_days_begin_81 j (k + 1) (wr ν 38 k (-1)) n (by omega) (by omega)
    rw [wrR_wr] at h1
    have h2' : ∀ i, g i = if 0 + (k + 1) ≤ i ∧ i < 0 + 6 then -1 else (if i = k then -1 else ν 38 i) := h2
    refine ⟨g, ?_, fun i => ?_⟩
    · refine Eq.trans ?_ h1
      rw [f_days_begin_81, if_neg (by rw [lit_le (by decide) (by omega)]; show ¬ 6 ≤ k; omega), inb_e (by omega) (by decide), ic_n (by omega), wb_e, ic_1]
    · rw [h2']
      by_cases e : i = k
      · subst e
        rw [if_neg (by omega), if_pos rfl, if_pos (by omega)]
      · rw [if_neg e]
        by_cases e2 : 0 + k ≤ i ∧ i < 0 + 6
        · rw [if_pos (by omega), if_pos e2]
        · rw [if_neg (by omega), if_neg e2]
theorem e_sets {N : Nat} {ν : sw_M} {W T P : Nat} (hN : 5000 ≤ N) (h17 : ν 63 17 = ic W) (h18 : ν 63 18 = ic T) (h19 : ν 63 19 = ic P) (hW : W ≤ 12) (hT : T ≤ 6) (hP : P ≤ 5) : ∃ ν', f_m_sets N ν = some ν' ∧ (∀ a, a ≠ 63 → a ≠ 69 → a ≠ 70 → a ≠ 71 → a ≠ 80 → a ≠ 84 → ν' a = ν a) ∧ (∀ j, (j < 21 ∨ 24 < j) → j ≠ 31 → j ≠ 36 → j ≠ 37 → j ≠ 46 → j ≠ 50 → ν' 63 j = ν 63 j) ∧
    (ν' 63 21 = ν 63 16 ∧ ν' 63 22 = ic W ∧ ν' 63 23 = ic T ∧ ν' 63 24 = ic P) ∧ (ν' 63 31 = 0 ∧ ν' 63 36 = 0 ∧ ν' 63 37 = 0 ∧ ν' 63 46 = 0 ∧ ν' 63 50 = 0) ∧
    ((∀ i, i < 36 → ν' 69 i = ν 66 i) ∧ (∀ i, i < 12 → ν' 70 i = ν 67 i) ∧ (∀ i, i < 10 → ν' 71 i = ν 68 i)) ∧ (∀ k, k ≤ 40 → ν' 84 k = -1) ∧
    ((∀ w, w < W → ν' 80 w = ν 66 (3 * w + 2)) ∧ (∀ w, w < 12 → ν' 80 (12 + w) = 0) ∧ (∀ t, t < T → ν' 80 (24 + t) = ν 67 (2 * t)) ∧ (∀ t, t < 6 → ν' 80 (30 + t) = -1) ∧ (∀ p, p < P → ν' 80 (36 + p) = ν 68 (2 * p)) ∧ (∀ p, p < 5 → ν' 80 (41 + p) = 0) ∧ ν' 80 46 = ν 63 20 ∧ ν' 80 47 = 0 ∧ ν' 80 48 = 0) := by
  obtain ⟨m4, hm4⟩ : ∃ x : sw_M, x = wr (wr (wr (wr ν 63 21 (ν 63 16)) 63 22 (ν 63 17)) 63 23 (ν 63 18)) 63 24 (ν 63 19) := ⟨_, rfl⟩
  have c1 : f_m_copies N 66 36 69 36 m4 36 = some (wrR m4 69 (fun i => if i < 36 then m4 66 i else m4 69 i)) := e_m_copies (m := 36) hN (by decide) (by decide) (by decide) (by decide) (by decide) (by decide) m4
  obtain ⟨m5, hm5⟩ : ∃ x : sw_M, x = wrR m4 69 (fun i => if i < 36 then m4 66 i else m4 69 i) := ⟨_, rfl⟩
  rw [← hm5] at c1
  have c2 : f_m_copies N 67 12 70 12 m5 12 = some (wrR m5 70 (fun i => if i < 12 then m5 67 i else m5 70 i)) := e_m_copies (m := 12) hN (by decide) (by decide) (by decide) (by decide) (by decide) (by decide) m5
  obtain ⟨m6, hm6⟩ : ∃ x : sw_M, x = wrR m5 70 (fun i => if i < 12 then m5 67 i else m5 70 i) := ⟨_, rfl⟩
  rw [← hm6] at c2
  have c3 : f_m_copies N 68 10 71 10 m6 10 = some (wrR m6 71 (fun i => if i < 10 then m6 68 i else m6 71 i)) := e_m_copies (m := 10) hN (by decide) (by decide) (by decide) (by decide) (by decide) (by decide) m6
  obtain ⟨m7, hm7⟩ : ∃ x : sw_M, x = wrR m6 71 (fun i => if i < 10 then m6 68 i else m6 71 i) := ⟨_, rfl⟩
  rw [← hm7] at c3
  obtain ⟨A, hA⟩ : ∃ x : sw_M, x = wr (wr (wr (wr (wr m7 63 31 0) 63 46 0) 63 36 0) 63 50 0) 63 37 0 := ⟨_, rfl⟩
  have e0 : f_m_sets N ν = f_m_sets_101 N N A (ic 0) := by
    unfold f_m_sets
    simp only [wb_e]
    rw [show wr (wr (wr (wr ν 63 21 (ν 63 16)) 63 22 ((wr ν 63 21 (ν 63 16)) 63 17)) 63 23 ((wr (wr ν 63 21 (ν 63 16)) 63 22 ((wr ν 63 21 (ν 63 16)) 63 17)) 63 18)) 63 24 ((wr (wr (wr ν 63 21 (ν 63 16)) 63 22 ((wr ν 63 21 (ν 63 16)) 63 17)) 63 23 ((wr (wr ν 63 21 (ν 63 16)) 63 22 ((wr ν 63 21 (ν 63 16)) 63 17)) 63 18)) 63 19) = m4 by rw [hm4]; rfl, c1, ob_e, c2, ob_e, c3, ob_e, ← hA]; rfl
  have A22 : A 63 22 = ic W := by rw [hA, hm7, hm6, hm5, hm4]; exact h17
  have A23 : A 63 23 = ic T := by rw [hA, hm7, hm6, hm5, hm4]; exact h18
  have A24 : A 63 24 = ic P := by rw [hA, hm7, hm6, hm5, hm4]; exact h19
  have A69 : ∀ i, i < 36 → A 69 i = ν 66 i := fun i hi => by rw [hA, hm7, hm6, hm5, hm4]; show (if i < 36 then _ else _) = _; rw [if_pos hi]; rfl
  have A70 : ∀ i, i < 12 → A 70 i = ν 67 i := fun i hi => by rw [hA, hm7, hm6, hm5, hm4]; show (if i < 12 then _ else _) = _; rw [if_pos hi]; rfl
  have A71 : ∀ i, i < 10 → A 71 i = ν 68 i := fun i hi => by rw [hA, hm7, hm6, hm5, hm4]; show (if i < 10 then _ else _) = _; rw [if_pos hi]; rfl
  have Afr : ∀ a, a ≠ 63 → a ≠ 69 → a ≠ 70 → a ≠ 71 → A a = ν a := fun a q1 q2 q3 q4 => by
    rw [hA, wr_nr q1, wr_nr q1, wr_nr q1, wr_nr q1, wr_nr q1, hm7, wrR_nr q4, hm6, wrR_nr q3, hm5, wrR_nr q2, hm4, wr_nr q1, wr_nr q1, wr_nr q1, wr_nr q1]
  have A63 : ∀ j, (j < 21 ∨ 24 < j) → j ≠ 31 → j ≠ 36 → j ≠ 37 → j ≠ 46 → j ≠ 50 → A 63 j = ν 63 j := fun j q1 q2 q3 q4 q5 q6 => by
    rw [hA, wr_ap, if_pos rfl, if_neg q4, wr_ap, if_pos rfl, if_neg q6, wr_ap, if_pos rfl, if_neg q3, wr_ap, if_pos rfl, if_neg q5, wr_ap, if_pos rfl, if_neg q2, hm7, wrR_nr (by decide), hm6, wrR_nr (by decide), hm5, wrR_nr (by decide), hm4, wr_ap, if_pos rfl, if_neg (by omega), wr_ap, if_pos rfl, if_neg (by omega), wr_ap, if_pos rfl, if_neg (by omega), wr_ap, if_pos rfl, if_neg (by omega)]
  have A21 : A 63 21 = ν 63 16 := by rw [hA, hm7, hm6, hm5, hm4]; rfl
  have Az : A 63 31 = 0 ∧ A 63 36 = 0 ∧ A 63 37 = 0 ∧ A 63 46 = 0 ∧ A 63 50 = 0 := by rw [hA]; exact ⟨rfl, rfl, rfl, rfl, rfl⟩
  have A20 : A 63 20 = ν 63 20 := A63 20 (by decide) (by decide) (by decide) (by decide) (by decide) (by decide)
  obtain ⟨g1, x1, y1⟩ := lp_f_m_sets_101 (N := N) 41 0 A N (by omega) (by omega)
  obtain ⟨g2, x2, y2⟩ := lp_f_m_sets_122 (N := N) 49 0 (wrR A 84 g1) N (by omega) (by omega)
  obtain ⟨g3, x3, y3⟩ := lp_f_m_sets_143 (N := N) hW W 0 (wrR (wrR A 84 g1) 80 g2) N (by omega) (by omega) A22
  rw [wrR_wrR] at x3
  obtain ⟨g4, x4, y4⟩ := lp_f_m_sets_177 (N := N) hT T 0 (wrR (wrR A 84 g1) 80 g3) N (by omega) (by omega) A23
  rw [wrR_wrR] at x4
  obtain ⟨g5, x5, y5⟩ := lp_f_m_sets_210 (N := N) 6 0 (wrR (wrR A 84 g1) 80 g4) N (by omega) (by omega)
  rw [wrR_wrR] at x5
  obtain ⟨g6, x6, y6⟩ := lp_f_m_sets_234 (N := N) hP P 0 (wrR (wrR A 84 g1) 80 g5) N (by omega) (by omega) A24
  rw [wrR_wrR] at x6
  have y6' : ∀ i, g6 i = if 36 + 0 ≤ i ∧ i < 36 + P then A 71 (2 * (i - 36)) else g5 i := y6
  have y5' : ∀ i, g5 i = if 30 + 0 ≤ i ∧ i < 30 + 6 then -1 else g4 i := y5
  have y4' : ∀ i, g4 i = if 24 + 0 ≤ i ∧ i < 24 + T then A 70 (2 * (i - 24)) else g3 i := y4
  have y3' : ∀ i, g3 i = if 0 + 0 ≤ i ∧ i < 0 + W then A 69 (3 * (i - 0) + 2) else g2 i := y3
  refine ⟨wr (wrR (wrR A 84 g1) 80 g6) 80 46 (A 63 20), ?_, fun a q1 q2 q3 q4 q5 q6 => ?_, fun j q1 q2 q3 q4 q5 q6 => ?_, ⟨A21, A22, A23, A24⟩, Az, ⟨A69, A70, A71⟩, fun k hk => ?_, ?_⟩
  · exact e0.trans (x1.trans (x2.trans (x3.trans (x4.trans (x5.trans x6)))))
  · rw [wr_nr q5, wrR_nr q5, wrR_nr q6, Afr a q1 q2 q3 q4]
  · rw [wr_nr (by decide), wrR_nr (by decide), wrR_nr (by decide)]; exact A63 j q1 q2 q3 q4 q5 q6
  · rw [wr_nr (by decide), wrR_nr (by decide), wrR_r, y1, if_pos (by omega)]
  · have e : ∀ i, (wr (wrR (wrR A 84 g1) 80 g6) 80 46 (A 63 20)) 80 i = if i = 46 then A 63 20 else g6 i := fun i => rfl
    have z : ∀ i, i < 49 → (W ≤ i ∧ i < 24 ∨ 41 ≤ i) → g6 i = 0 := fun i hi h => by
      rw [y6', if_neg (by omega), y5', if_neg (by omega), y4', if_neg (by omega), y3', if_neg (by omega), y2, if_pos (by omega)]
    refine ⟨fun w h => ?_, fun w h => ?_, fun t h => ?_, fun t h => ?_, fun p h => ?_, fun p h => ?_, ?_, ?_, ?_⟩
    · rw [e, if_neg (by omega), y6', if_neg (by omega), y5', if_neg (by omega), y4', if_neg (by omega), y3', if_pos (by omega), A69 _ (by omega), Nat.sub_zero]
    · rw [e, if_neg (by omega)]; exact z _ (by omega) (by omega)
    · rw [e, if_neg (by omega), y6', if_neg (by omega), y5', if_neg (by omega), y4', if_pos (by omega), A70 _ (by omega), show 24 + t - 24 = t by omega]
    · rw [e, if_neg (by omega), y6', if_neg (by omega), y5', if_pos (by omega)]
    · rw [e, if_neg (by omega), y6', if_pos (by omega), A71 _ (by omega), show 36 + p - 36 = p by omega]
    · rw [e, if_neg (by omega)]; exact z _ (by omega) (by omega)
    · rw [e, if_pos rfl, A20]
    · rw [e, if_neg (by omega)]; exact z _ (by omega) (by omega)
    · rw [e, if_neg (by omega)]; exact z _ (by omega) (by omega)
theorem vc0 (f g : Nat → Int32) {n i : Nat} (h : i < n) : va_cpy f g 0 0 n i = f i := by unfold va_cpy; rw [if_pos (by omega)]; congr 1; omega
theorem e_lcopy {N : Nat} (μ : sw_M) : ∃ μ', f_land_copy N μ = some μ' ∧ (∀ a, (a < 3 ∨ 10 < a) → μ' a = μ a) ∧ (∀ j, j ≤ 4 → μ' 3 j = μ 11 j) ∧ (∀ i, i < 12 → μ' 4 i = μ 12 i) ∧ (∀ i, i < 12 → μ' 5 i = μ 13 i) ∧ (∀ i, i < 12 → μ' 6 i = μ 14 i) ∧ (∀ i, i < 6 → μ' 7 i = μ 15 i) ∧ (∀ i, i < 6 → μ' 8 i = μ 16 i) ∧ (∀ i, i < 5 → μ' 9 i = μ 17 i) ∧ (∀ i, i < 5 → μ' 10 i = μ 18 i) := by
  obtain ⟨A, hA⟩ : ∃ x : sw_M, x = wr (wr (wr (wr (wr μ 3 0 (μ 11 0)) 3 1 (μ 11 1)) 3 2 (μ 11 2)) 3 3 (μ 11 3)) 3 4 (μ 11 4) := ⟨_, rfl⟩
  have Afr : ∀ a, a ≠ 3 → A a = μ a := fun a q => by rw [hA, wr_nr q, wr_nr q, wr_nr q, wr_nr q, wr_nr q]
  refine ⟨wrR (wrR (wrR (wrR (wrR (wrR (wrR A 4 (va_cpy (A 12) (A 4) 0 0 12)) 5 (va_cpy (A 13) (A 5) 0 0 12)) 6 (va_cpy (A 14) (A 6) 0 0 12)) 7 (va_cpy (A 15) (A 7) 0 0 6)) 8 (va_cpy (A 16) (A 8) 0 0 6)) 9 (va_cpy (A 17) (A 9) 0 0 5)) 10 (va_cpy (A 18) (A 10) 0 0 5), ?_, fun a h => ?_, fun j hj => ?_, fun i hi => ?_, fun i hi => ?_, fun i hi => ?_, fun i hi => ?_, fun i hi => ?_, fun i hi => ?_, fun i hi => ?_⟩
  · unfold f_land_copy
    simp only [wb_e]
    rw [show cpc (0 : Int32) 0 12 12 12 = fun k => k by funext k; rfl, show cpc (0 : Int32) 0 6 6 6 = fun k => k by funext k; rfl, show cpc (0 : Int32) 0 5 5 5 = fun k => k by funext k; rfl, hA]; rfl
  · rw [wrR_nr (by omega), wrR_nr (by omega), wrR_nr (by omega), wrR_nr (by omega), wrR_nr (by omega), wrR_nr (by omega), wrR_nr (by omega), Afr a (by omega)]
  · have : j = 0 ∨ j = 1 ∨ j = 2 ∨ j = 3 ∨ j = 4 := by omega
    rw [hA]; rcases this with rfl | rfl | rfl | rfl | rfl <;> rfl
  · show va_cpy (A 12) (A 4) 0 0 12 i = _; rw [vc0 _ _ hi, Afr 12 (by decide)]
  · show va_cpy (A 13) (A 5) 0 0 12 i = _; rw [vc0 _ _ hi, Afr 13 (by decide)]
  · show va_cpy (A 14) (A 6) 0 0 12 i = _; rw [vc0 _ _ hi, Afr 14 (by decide)]
  · show va_cpy (A 15) (A 7) 0 0 6 i = _; rw [vc0 _ _ hi, Afr 15 (by decide)]
  · show va_cpy (A 16) (A 8) 0 0 6 i = _; rw [vc0 _ _ hi, Afr 16 (by decide)]
  · show va_cpy (A 17) (A 9) 0 0 5 i = _; rw [vc0 _ _ hi, Afr 17 (by decide)]
  · show va_cpy (A 18) (A 10) 0 0 5 i = _; rw [vc0 _ _ hi, Afr 18 (by decide)]
theorem ladd_e {N : Nat} {μ : sw_M} {d : Nat} (h : μ 19 4 = ic d) (hd : d < 150) (x y : Int32) : f_law_add N μ x y = some (1, wr (wr (wr μ 20 d x) 21 d y) 19 4 (ic (d + 1))) := by
  have e1 : (wr μ 20 d x) 19 4 = ic d := h
  have e2 : (wr (wr μ 20 d x) 21 d y) 19 4 = ic d := h
  unfold f_law_add
  rw [h, put_e (by omega) (by decide), ob_e, e1, put_e (by omega) (by decide), ob_e, e2, ic_1, if_neg (by rw [lit_lt (by decide) (by omega)]; show ¬ 150 < d + 1; omega), wb_e]
theorem e_lclear {N : Nat} (μ : sw_M) : ∃ μ', f_law_clear N μ = some μ' ∧ (∀ a, a ≠ 19 → a ≠ 20 → a ≠ 21 → μ' a = μ a) ∧ (∀ j, j ≠ 4 → μ' 19 j = μ 19 j) ∧ μ' 19 4 = ic 5 ∧ ∀ i, i < 5 → μ' 20 i = cx (K0 i) ∧ μ' 21 i = O0 i := by
  obtain ⟨A1, h1⟩ : ∃ x : sw_M, x = wr μ 19 4 0 := ⟨_, rfl⟩
  obtain ⟨A2, h2⟩ : ∃ x : sw_M, x = wr (wr (wr A1 20 0 1) 21 0 1) 19 4 (ic 1) := ⟨_, rfl⟩
  obtain ⟨A3, h3⟩ : ∃ x : sw_M, x = wr (wr (wr A2 20 1 2) 21 1 0) 19 4 (ic 2) := ⟨_, rfl⟩
  obtain ⟨A4, h4⟩ : ∃ x : sw_M, x = wr (wr (wr A3 20 2 1) 21 2 4) 19 4 (ic 3) := ⟨_, rfl⟩
  obtain ⟨A5, h5⟩ : ∃ x : sw_M, x = wr (wr (wr A4 20 3 47) 21 3 0) 19 4 (ic 4) := ⟨_, rfl⟩
  obtain ⟨A6, h6⟩ : ∃ x : sw_M, x = wr (wr (wr A5 20 4 43) 21 4 0) 19 4 (ic 5) := ⟨_, rfl⟩
  have a1 : f_law_add N A1 1 1 = some (1, A2) := by rw [h2]; exact ladd_e (d := 0) (by rw [h1]; rfl) (by decide) 1 1
  have a2 : f_law_add N A2 2 0 = some (1, A3) := by rw [h3]; exact ladd_e (d := 1) (by rw [h2]; rfl) (by decide) 2 0
  have a3 : f_law_add N A3 1 4 = some (1, A4) := by rw [h4]; exact ladd_e (d := 2) (by rw [h3]; rfl) (by decide) 1 4
  have a4 : f_law_add N A4 47 0 = some (1, A5) := by rw [h5]; exact ladd_e (d := 3) (by rw [h4]; rfl) (by decide) 47 0
  have a5 : f_law_add N A5 43 0 = some (1, A6) := by rw [h6]; exact ladd_e (d := 4) (by rw [h5]; rfl) (by decide) 43 0
  refine ⟨A6, ?_, fun a q1 q2 q3 => ?_, fun j hj => ?_, by rw [h6]; rfl, fun i hi => ?_⟩
  · unfold f_law_clear
    rw [wb_e, ← h1, a1, ob_e]
    simp only
    rw [a2, ob_e]
    simp only
    rw [a3, ob_e]
    simp only
    rw [a4, ob_e]
    simp only
    rw [a5, ob_e]
  · rw [h6, wr_nr q1, wr_nr q3, wr_nr q2, h5, wr_nr q1, wr_nr q3, wr_nr q2, h4, wr_nr q1, wr_nr q3, wr_nr q2, h3, wr_nr q1, wr_nr q3, wr_nr q2, h2, wr_nr q1, wr_nr q3, wr_nr q2, h1, wr_nr q1]
  · have k : ∀ (m : sw_M) (x : Int32), (wr m 19 4 x) 19 j = m 19 j := fun m x => by rw [wr_ap, if_pos rfl, if_neg hj]
    rw [h6, k, wr_nr (by decide), wr_nr (by decide), h5, k, wr_nr (by decide), wr_nr (by decide), h4, k, wr_nr (by decide), wr_nr (by decide), h3, k, wr_nr (by decide), wr_nr (by decide), h2, k, wr_nr (by decide), wr_nr (by decide), h1, k]
  · have : i = 0 ∨ i = 1 ∨ i = 2 ∨ i = 3 ∨ i = 4 := by omega
    rw [h6, h5, h4, h3, h2, h1]; rcases this with rfl | rfl | rfl | rfl | rfl <;> exact ⟨rfl, rfl⟩
theorem e_dbegin {N : Nat} (hN : 5000 ≤ N) (μ : sw_M) : ∃ μ', f_days_begin N μ = some μ' ∧ (∀ a, (a < 35 ∨ 40 < a) → μ' a = μ a) ∧ (μ' 35 2 = 0 ∧ μ' 35 3 = μ 3 4 ∧ μ' 35 4 = 0 ∧ μ' 35 5 = 0) ∧ (∀ i, i < 12 → μ' 36 i = μ 6 i) ∧ (∀ i, i < 6 → μ' 37 i = μ 7 i) ∧ (∀ i, i < 6 → μ' 38 i = -1) ∧ (∀ i, i < 5 → μ' 39 i = μ 9 i) ∧ (∀ i, i < 5 → μ' 40 i = 0) := by
  obtain ⟨A, hA⟩ : ∃ x : sw_M, x = wr (wr (wr (wr μ 35 2 0) 35 3 (μ 3 4)) 35 4 0) 35 5 0 := ⟨_, rfl⟩
  obtain ⟨C, hC⟩ : ∃ x : sw_M, x = wrR (wrR (wrR A 36 (va_cpy (A 6) (A 36) 0 0 12)) 37 (va_cpy (A 7) (A 37) 0 0 6)) 39 (va_cpy (A 9) (A 39) 0 0 5) := ⟨_, rfl⟩
  have Afr : ∀ a, a ≠ 35 → A a = μ a := fun a q => by rw [hA, wr_nr q, wr_nr q, wr_nr q, wr_nr q]
  obtain ⟨g1, x1, y1⟩ := lp_f_days_begin_81 (N := N) 6 0 C N (by omega) (by omega)
  obtain ⟨g2, x2, y2⟩ := lp_f_days_begin_102 (N := N) 5 0 (wrR C 38 g1) N (by omega) (by omega)
  refine ⟨wrR (wrR C 38 g1) 40 g2, ?_, fun a h => ?_, ?_, fun i hi => ?_, fun i hi => ?_, fun i hi => ?_, fun i hi => ?_, fun i hi => ?_⟩
  · refine Eq.trans ?_ (x1.trans x2)
    unfold f_days_begin
    simp only [wb_e]
    rw [show cpc (0 : Int32) 0 12 12 12 = fun k => k by funext k; rfl, show cpc (0 : Int32) 0 6 6 6 = fun k => k by funext k; rfl, show cpc (0 : Int32) 0 5 5 5 = fun k => k by funext k; rfl, hC, hA]; rfl
  · rw [wrR_nr (by omega), wrR_nr (by omega), hC, wrR_nr (by omega), wrR_nr (by omega), wrR_nr (by omega), Afr a (by omega)]
  · rw [wrR_nr (by decide), wrR_nr (by decide), hC, wrR_nr (by decide), wrR_nr (by decide), wrR_nr (by decide), hA]; exact ⟨rfl, rfl, rfl, rfl⟩
  · rw [wrR_nr (by decide), wrR_nr (by decide), hC, wrR_nr (by decide), wrR_nr (by decide), wrR_r, vc0 _ _ hi, Afr 6 (by decide)]
  · rw [wrR_nr (by decide), wrR_nr (by decide), hC, wrR_nr (by decide), wrR_r, vc0 _ _ hi, Afr 7 (by decide)]
  · rw [wrR_nr (by decide), wrR_r, y1, if_pos (by omega)]
  · rw [wrR_nr (by decide), wrR_nr (by decide), hC, wrR_r, vc0 _ _ hi, Afr 9 (by decide)]
  · rw [wrR_r, y2, if_pos (by omega)]
