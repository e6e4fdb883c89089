/-! ===== feed ===== -/
theorem wr_id' {μ : sw_M} {k j : Nat} {v : Int32} (h : μ k j = v) : wr μ k j v = μ := by
  funext a b; rw [wr_ap]; split
  · next e => subst e; split
              · next e => subst e; exact h.symm
              · rfl
  · rfl
def by8 (x : Int32) (r : Nat) : Int32 := (x >>> (ic (24 - 8 * r) &&& 31)) &&& 255
theorem by8_b (x : Int32) (r : Nat) : ∃ v : Nat, v < 256 ∧ by8 x r = ic v := by
  obtain ⟨j, hj, e⟩ := pk_andE (x >>> (ic (24 - 8 * r) &&& 31)) (m := 255) 8 (by decide)
  exact ⟨j, hj, e⟩
theorem by8_u (x : Int32) {r : Nat} (hr : r < 4) : (x.toUInt32 >>> ((ic (24 - 8 * r)).toUInt32 &&& Int32.toUInt32 31)).toInt32 &&& 255 = by8 x r := by
  unfold by8
  refine b_ext (fun i hi => ?_)
  rw [b_and, b_and, b_ush (24 - 8 * r) (by omega) x i, b_sshr (24 - 8 * r) (by omega) x hi]
  by_cases q : 24 - 8 * r + i < 32
  · rw [if_pos q]
  · have h3 : ∀ i, i < 32 → 8 ≤ i → bt 255 i = false := by decide +kernel
    rw [h3 i hi (by omega), Bool.and_false, Bool.and_false]
theorem add_s {N n k r : Nat} {μ : sw_M} {x : Int32} (h : μ 1 3 = ic k) (hk : k < 600) (hr : r < 4) : f_tape_add_3 N (n + 1) μ x (ic (24 - 8 * r)) = f_tape_add_3 N n (wr (wrR μ 2 (up (μ 2) k (by8 x r))) 1 3 (ic (k + 1))) x (ic (24 - 8 * r) + -8) := by
  have e : (wrR μ 2 (up (μ 2) k (by8 x r))) 1 3 = ic k := h
  rw [f_tape_add_3, if_neg (by rw [ic_lt0 (by omega)]; exact id), h, if_neg (by rw [show Int32.ofNat 600 = ic 600 from rfl, ic_le (by omega) (by omega)]; omega), inb_e (by omega) (by decide), ic_n (by omega), by8_u x hr, wb_e, wr_up μ 2, e, wb_e, ic_1]
theorem m8 (a : Nat) : ic (a + 8) + -8 = ic a := by
  rw [show ic (a + 8) = ic a + ic 8 from (ic_add a 8).symm]; show ic a + 8 + -8 = ic a
  rw [Int32.add_assoc]; exact Int32.add_zero _
theorem add_e {N h : Nat} {μ : sw_M} (hN : 5000 ≤ N) (x : Int32) (hh : μ 1 3 = ic h) (h6 : h + 4 ≤ 600) : ∃ g, f_tape_add N μ x = some (wr (wrR μ 2 g) 1 3 (ic (h + 4))) ∧ (∀ i, i < h → g i = μ 2 i) ∧ ∀ r, r < 4 → g (h + r) = by8 x r := by
  obtain ⟨m, rfl⟩ : ∃ m, N = m + 5 := ⟨N - 5, by omega⟩
  obtain ⟨G, hG⟩ : ∃ G : Nat → Int32, G = up (up (up (up (μ 2) h (by8 x 0)) (h + 1) (by8 x 1)) (h + 2) (by8 x 2)) (h + 3) (by8 x 3) := ⟨_, rfl⟩
  have ww : ∀ (g g' : Nat → Int32) (a b : Int32), wr (wrR (wr (wrR μ 2 g) 1 3 a) 2 g') 1 3 b = wr (wrR μ 2 g') 1 3 b := by
    intro g g' a b
    funext u v
    simp only [wr_ap, wrR_ap]
    by_cases e1 : u = 1
    · by_cases e2 : v = 3 <;> simp [e1, e2]
    · by_cases e2 : u = 2 <;> simp [e1, e2]
  refine ⟨G, ?_, fun i hi => ?_, fun r hr => ?_⟩
  · unfold f_tape_add
    have s0 := add_s (N := m + 5) (n := m + 4) (r := 0) (x := x) hh (by omega) (by decide)
    have s0' : f_tape_add_3 (m + 5) (m + 5) μ x 24 = _ := s0
    rw [s0', show ic (24 - 8 * 0) + -8 = ic (24 - 8 * 1) from m8 16]
    rw [add_s (N := m + 5) (n := m + 3) (k := h + 1) (r := 1) (x := x) rfl (by omega) (by decide), show ic (24 - 8 * 1) + -8 = ic (24 - 8 * 2) from m8 8, ww]
    rw [add_s (N := m + 5) (n := m + 2) (k := h + 1 + 1) (r := 2) (x := x) rfl (by omega) (by decide), show ic (24 - 8 * 2) + -8 = ic (24 - 8 * 3) from m8 0, ww]
    rw [add_s (N := m + 5) (n := m + 1) (k := h + 1 + 1 + 1) (r := 3) (x := x) rfl (by omega) (by decide), ww]
    rw [f_tape_add_3, if_pos (by decide), hG]
    rfl
  · rw [hG, up_n (by omega), up_n (by omega), up_n (by omega), up_n (by omega)]
  · have : r = 0 ∨ r = 1 ∨ r = 2 ∨ r = 3 := by omega
    rcases this with rfl | rfl | rfl | rfl
    · rw [hG, up_n (by omega), up_n (by omega), up_n (by omega), Nat.add_zero, up_s]
    · rw [hG, up_n (by omega), up_n (by omega), up_s]
    · rw [hG, up_n (by omega), up_s]
    · rw [hG, up_s]
def sel5 (a b c d e : Int32) (j : Nat) : Int32 := if j < 4 then a else if j < 8 then b else if j < 12 then c else if j < 16 then d else e
theorem x_feed {N h : Nat} {μ : sw_M} (hN : 5000 ≤ N) (a b c d e : Int32) (hh : μ 1 3 = ic h) (h6 : h + 20 ≤ 600) : ∃ g, f_x_feed N μ a b c d e = some (ic (h + 20), wr (wrR μ 2 g) 1 3 (ic (h + 20))) ∧ (∀ i, i < h → g i = μ 2 i) ∧ ∀ j, j < 20 → g (h + j) = by8 (sel5 a b c d e j) (j % 4) := by
  have ww : ∀ (g g' : Nat → Int32) (u v : Int32), wr (wrR (wr (wrR μ 2 g) 1 3 u) 2 g') 1 3 v = wr (wrR μ 2 g') 1 3 v := by
    intro g g' a b
    funext u v
    simp only [wr_ap, wrR_ap]
    by_cases e1 : u = 1
    · by_cases e2 : v = 3 <;> simp [e1, e2]
    · by_cases e2 : u = 2 <;> simp [e1, e2]
  have r2 : ∀ (g : Nat → Int32) (u : Int32), (wr (wrR μ 2 g) 1 3 u) 2 = g := fun g u => by rw [wr_nr (by decide), wrR_r]
  obtain ⟨g1, a1, a2, a3⟩ := add_e hN a hh (by omega)
  obtain ⟨g2, b1, b2, b3⟩ := add_e (μ := wr (wrR μ 2 g1) 1 3 (ic (h + 4))) (h := h + 4) hN b rfl (by omega)
  rw [ww] at b1; rw [r2] at b2
  obtain ⟨g3, c1, c2, c3⟩ := add_e (μ := wr (wrR μ 2 g2) 1 3 (ic (h + 4 + 4))) (h := h + 4 + 4) hN c rfl (by omega)
  rw [ww] at c1; rw [r2] at c2
  obtain ⟨g4, d1, d2, d3⟩ := add_e (μ := wr (wrR μ 2 g3) 1 3 (ic (h + 4 + 4 + 4))) (h := h + 4 + 4 + 4) hN d rfl (by omega)
  rw [ww] at d1; rw [r2] at d2
  obtain ⟨g5, e1, e2, e3⟩ := add_e (μ := wr (wrR μ 2 g4) 1 3 (ic (h + 4 + 4 + 4 + 4))) (h := h + 4 + 4 + 4 + 4) hN e rfl (by omega)
  rw [ww] at e1; rw [r2] at e2
  refine ⟨g5, ?_, fun i hi => ?_, fun j hj => ?_⟩
  · unfold f_x_feed f_tape_hasRoom
    rw [hh, add_lit, if_neg (by rw [lit_lt (by decide) (by omega)]; omega), ob_e, if_neg o1, a1, ob_e, b1, ob_e, c1, ob_e, d1, ob_e, e1, ob_e]
    rfl
  · rw [e2 i (by omega), d2 i (by omega), c2 i (by omega), b2 i (by omega), a2 i hi]
  · unfold sel5
    by_cases q1 : j < 4
    · rw [if_pos q1, e2 _ (by omega), d2 _ (by omega), c2 _ (by omega), b2 _ (by omega), a3 j q1, show j % 4 = j by omega]
    · rw [if_neg q1]
      by_cases q2 : j < 8
      · have := b3 (j - 4) (by omega)
        rw [if_pos q2, e2 _ (by omega), d2 _ (by omega), c2 _ (by omega), show h + j = h + 4 + (j - 4) by omega, this, show j % 4 = j - 4 by omega]
      · rw [if_neg q2]
        by_cases q3 : j < 12
        · have := c3 (j - 8) (by omega)
          rw [if_pos q3, e2 _ (by omega), d2 _ (by omega), show h + j = h + 4 + 4 + (j - 8) by omega, this, show j % 4 = j - 8 by omega]
        · rw [if_neg q3]
          by_cases q4 : j < 16
          · have := d3 (j - 12) (by omega)
            rw [if_pos q4, e2 _ (by omega), show h + j = h + 4 + 4 + 4 + (j - 12) by omega, this, show j % 4 = j - 12 by omega]
          · have := e3 (j - 16) (by omega)
            rw [if_neg q4, show h + j = h + 4 + 4 + 4 + 4 + (j - 16) by omega, this, show j % 4 = j - 16 by omega]
theorem lp_m_feed {N h : Nat} (a b c d e : Int32) (h6 : h + 20 ≤ 600) : ∀ (j k : Nat) (ν : sw_M) (n : Nat), k + j = 20 → j < n → ν 63 2 = ic (h + k) → ∃ g, f_m_feed_23 N n ν a b c d e (ic k) = some (ic (h + 20), wr (wrR ν 65 g) 63 2 (ic (h + 20))) ∧ (∀ i, i < h + k → g i = ν 65 i) ∧ ∀ i, k ≤ i → i < 20 → g (h + i) = by8 (sel5 a b c d e i) (i % 4)
  | 0, k, ν, n, hk, hn, hh => by
    obtain ⟨n, rfl⟩ := fu_s hn
    have hk2 : k = 20 := by omega
    subst hk2
    refine ⟨ν 65, ?_, fun i _ => rfl, fun i h1 h2 => by omega⟩
    rw [f_m_feed_23, if_pos (by decide), wrR_self, hh, wr_id' hh]
  | j + 1, k, ν, n, hk, hn, hh => by
    obtain ⟨n, rfl⟩ := fu_s (show 0 < n by omega)
    obtain ⟨g, g1, g2, g3⟩ := lp_m_feed (N := N) a b c d e h6 j (k + 1) (wr (wrR ν 65 (up (ν 65) (h + k) (by8 (sel5 a b c d e k) (k % 4)))) 63 2 (ic (h + k + 1))) n (by omega) (by omega) rfl
    have ww : ∀ (u v : Nat → Int32) (x y : Int32), wr (wrR (wr (wrR ν 65 u) 63 2 x) 65 v) 63 2 y = wr (wrR ν 65 v) 63 2 y := by
      intro u v x y
      funext p q
      simp only [wr_ap, wrR_ap]
      by_cases e1 : p = 63
      · by_cases e2 : q = 2 <;> simp [e1, e2]
      · by_cases e2 : p = 65 <;> simp [e1, e2]
    rw [ww] at g1
    have r65 : (wr (wrR ν 65 (up (ν 65) (h + k) (by8 (sel5 a b c d e k) (k % 4)))) 63 2 (ic (h + k + 1))) 65 = up (ν 65) (h + k) (by8 (sel5 a b c d e k) (k % 4)) := by rw [wr_nr (by decide), wrR_r]
    rw [r65] at g2
    have e76 : ∀ s0 : Int32, f_m_feed_76 N (f_m_feed_23 N n) ν a b c d e (ic k) s0 = f_m_feed_23 N n (wr (wrR ν 65 (up (ν 65) (h + k) (by8 s0 (k % 4)))) 63 2 (ic (h + k + 1))) a b c d e (ic (k + 1)) := by
      intro s0
      have er : ic k - ic k / 4 * 4 = ic (k % 4) := pk_rem (a := k) (d := 4) (by omega) (by decide) (by decide)
      have e24 : (24 : Int32) - ic (8 * (k % 4)) = ic (24 - 8 * (k % 4)) := ic_sub (a := 24) (by omega)
      have t : ∀ g : Nat → Int32, (wrR ν 65 g) 63 2 = ic (h + k) := fun g => hh
      unfold f_m_feed_76
      rw [nz4, hh, inb_e (by omega) (by decide), ic_n (by omega), er, lit_mul, e24, wb_e, wr_up ν 65, t, wb_e, ic_1, ic_1]
      rfl
    refine ⟨g, ?_, fun i hi => ?_, fun i h1 h2 => ?_⟩
    · rw [← g1, f_m_feed_23, if_neg (by rw [lit_le (by decide) (by omega)]; omega)]
      simp only [e76]
      unfold sel5
      by_cases q1 : k < 4
      · rw [if_neg (by rw [lit_le (by decide) (by omega)]; omega), if_pos q1]
      · rw [if_pos (by rw [lit_le (by decide) (by omega)]; omega), if_neg q1]
        by_cases q2 : k < 8
        · rw [if_neg (by rw [lit_le (by decide) (by omega)]; omega), if_pos q2]
        · rw [if_pos (by rw [lit_le (by decide) (by omega)]; omega), if_neg q2]
          by_cases q3 : k < 12
          · rw [if_neg (by rw [lit_le (by decide) (by omega)]; omega), if_pos q3]
          · rw [if_pos (by rw [lit_le (by decide) (by omega)]; omega), if_neg q3]
            by_cases q4 : k < 16
            · rw [if_neg (by rw [lit_le (by decide) (by omega)]; omega), if_pos q4]
            · rw [if_pos (by rw [lit_le (by decide) (by omega)]; omega), if_neg q4]
    · rw [g2 i (by omega), up_n (by omega)]
    · by_cases e : i = k
      · subst e; rw [g2 _ (by omega), up_s]
      · exact g3 i (by omega) h2
theorem op_feed {N : Nat} {μ : sw_M} (hN : 5000 ≤ N) (hI : Inv μ) (a b c d e : Int32) : ∃ v μ1 μ2, f_x_feed N μ a b c d e = some (v, μ1) ∧ f_m_feed N μ1 a b c d e = some (v, μ2) ∧ Inv μ2 := by
  obtain ⟨F, W, T, P, K, O, nl, nb, n, m, hQ, ⟨h, h6, t3, t2, tb, t8⟩, hs, hm, hrf, h13, h14⟩ := id hI
  by_cases q : h + 20 ≤ 600
  · obtain ⟨g, e1, e2, e3⟩ := x_feed hN a b c d e t3 q
    have s2 : (wr (wr (wrR μ 2 g) 1 3 (ic (h + 20))) 63 0 0) 63 2 = ic (h + 0) := t2
    obtain ⟨g', f1, f2, f3⟩ := lp_m_feed (N := N) a b c d e q 20 0 (wr (wr (wrR μ 2 g) 1 3 (ic (h + 20))) 63 0 0) N (by omega) (by omega) s2
    refine ⟨ic (h + 20), wr (wrR μ 2 g) 1 3 (ic (h + 20)), wr (wrR (wr (wr (wrR μ 2 g) 1 3 (ic (h + 20))) 63 0 0) 65 g') 63 2 (ic (h + 20)), e1, ?_, ?_⟩
    · unfold f_m_feed
      have s2' : (wr (wr (wrR μ 2 g) 1 3 (ic (h + 20))) 63 0 0) 63 2 = ic h := t2
      rw [wb_e, s2', add_lit, if_pos (by rw [le_lit (by decide) (by omega)]; exact q)]
      exact f1
    · refine ⟨F, W, T, P, K, O, nl, nb, n, m, hQ, ⟨h + 20, q, rfl, rfl, fun i hi => ?_, t8⟩, hs, hm, hrf, h13, h14⟩
      show g i = g' i ∧ ∃ v : Nat, v < 256 ∧ g' i = ic v
      by_cases z : i < h
      · rw [e2 i z, f2 i (by omega)]
        exact tb i z
      · have h1 := e3 (i - h) (by omega)
        have h2 := f3 (i - h) (by omega) (by omega)
        rw [show h + (i - h) = i by omega] at h1 h2
        rw [h1, h2]
        exact ⟨rfl, by8_b _ _⟩
  · refine ⟨-1, μ, wr μ 63 0 0, ?_, ?_, hI.sm ((SM.rf μ).wr63 0 0 (Or.inl rfl))⟩
    · unfold f_x_feed f_tape_hasRoom
      rw [t3, add_lit, if_pos (by rw [lit_lt (by decide) (by omega)]; omega), ob_e, if_pos rfl]
    · unfold f_m_feed
      have s2' : (wr μ 63 0 0) 63 2 = ic h := t2
      rw [wb_e, s2', add_lit, if_neg (by rw [le_lit (by decide) (by omega)]; exact q)]
