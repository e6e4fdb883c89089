/-! ===== the run: a plain step, with its counts ===== -/
theorem run_plain {N : Nat} {c μ ν : sw_M} {F W T P : Nat} {K O : Nat → Int32} {nl n g i b x u u2 : Nat} (qs qa : sw_M → Int32 → Int32 → Int32 → Option sw_M) (q : sw_M → Int32 → Int32 → Option sw_M) (hN : 5000 ≤ N) (hC : CW c F W T P) (hS : RS c μ ν F W T P K O nl n) (hR : RC μ ν F W T P g) (hg : g < 200) (hi : i < b) (hb : b ≤ n) (hn : n ≤ 40) (h6 : ¬ μ 42 i = 6) :
    ∃ μ' ν', f_work_runSteps_3 N qs qa (u + 1) μ (ic b) (ic x) (ic i) = f_work_runSteps_3 N qs qa u μ' (ic b) (ic x) (ic (i + 1)) ∧ f_m_goesSteps_2 N q (u2 + 1) ν (ic (3 * b)) (ic (3 * i)) = f_m_goesSteps_2 N q u2 ν' (ic (3 * b)) (ic (3 * (i + 1))) ∧ XU μ μ' ∧ MU ν ν' ∧ RC μ' ν' F W T P (g + 1) := by
  obtain ⟨r1, r2, r3, r4, r5, r6, r7⟩ := hR
  have hS' := hS
  obtain ⟨s1, s2, s3, s4, s5, s6⟩ := hS
  obtain ⟨k, a, g1, g2, g3, g4, g5⟩ := s5.2.2 i (by omega)
  rcases g5 with ⟨z, -⟩ | ⟨bb, g5, g7, hSA⟩
  · exact absurd (by rw [g1, z]; rfl) h6
  obtain ⟨μ1, hμ1⟩ : ∃ y : sw_M, y = wr μ 41 6 (ic (g + 1)) := ⟨_, rfl⟩
  obtain ⟨ν1, hν1⟩ : ∃ y : sw_M, y = wr ν 63 38 (ic (g + 1)) := ⟨_, rfl⟩
  have xu1 : XU μ μ1 := by rw [hμ1]; exact (XU.rf μ).w 6 _ (by decide)
  have mu1 : MU ν ν1 := by rw [hν1]; exact (MU.rf ν).w 38 _ (by decide)
  obtain ⟨t1, t2, t3, t4, t5, t6⟩ := hS'.fr xu1 mu1
  have hS1 : OKS F W T P (ν1 81) := by rw [hν1]; exact r1
  have hD1 : DR μ1 35 W T P (ν1 81) := by rw [hν1, hμ1]; exact r2
  have k42 : μ1 42 i = ic k := by rw [hμ1]; exact g1
  have hk6 : ¬ ic k = 6 := by rw [← g1]; exact h6
  obtain ⟨r, μ2, ν2, d1, d2, d3, d4, d5, d6⟩ := run_step hN hC t1 t2 hS1 hD1 t3 t4 (i := i) (by omega) k42 (show μ1 43 i = ic a by rw [hμ1]; exact g2) (show μ1 44 i = ic bb by rw [hμ1]; exact g5) hSA
  have e79 : ∀ j, j < 3 * n → ν1 79 j = ν 78 j := fun j hj => by rw [hν1, wr_nr (by decide)]; exact s6 j hj
  have m41 : ∀ j, μ2 41 j = μ1 41 j := fun j => by rw [d3.1 41 (by decide) (by decide) (by decide) (by decide)]
  have m63 : ∀ j, ν2 63 j = ν1 63 j := fun j => by rw [d4 63 (by decide) (by decide) (by decide)]
  have hX : f_work_runSteps_3 N qs qa (u + 1) μ (ic b) (ic x) (ic i) = if r = 0 then f_work_runSteps_3 N qs qa u (wr μ2 41 8 (μ2 41 8 + 1)) (ic b) (ic x) (ic (i + 1)) else f_work_runSteps_3 N qs qa u (wr μ2 41 7 (μ2 41 7 + 1)) (ic b) (ic x) (ic (i + 1)) := by
    rw [f_work_runSteps_3, if_neg (show ¬ ic b ≤ ic i by rw [ic_le (by omega) (by omega)]; omega), r3, if_neg (show ¬ (200 : Int32) ≤ ic g by rw [lit_le (by decide) (by omega)]; show ¬ 200 ≤ g; omega), wb_e, ic_1 g, ← hμ1, ic_1 i, ib_e, at_e (by omega) (by decide), ob_e, k42, if_neg hk6, d1, ob_e]
    rfl
  have hM : f_m_goesSteps_2 N q (u2 + 1) ν (ic (3 * b)) (ic (3 * i)) = if r = 0 then f_m_goesSteps_2 N q u2 (wr ν2 63 40 (ν2 63 40 + 1)) (ic (3 * b)) (ic (3 * (i + 1))) else f_m_goesSteps_2 N q u2 (wr ν2 63 39 (ν2 63 39 + 1)) (ic (3 * b)) (ic (3 * (i + 1))) := by
    rw [f_m_goesSteps_2, if_neg (show ¬ ic (3 * b) ≤ ic (3 * i) by rw [ic_le (by omega) (by omega)]; omega), r4, if_neg (show ¬ (200 : Int32) ≤ ic g by rw [lit_le (by decide) (by omega)]; show ¬ 200 ≤ g; omega), wb_e, ic_1, ← hν1, inb_e (by omega) (by decide), ic_n (by omega), e79 _ (by omega), g3, if_neg hk6, inb_e (by omega) (by decide), add_lit, add_lit, add_lit, inb_e (by omega) (by decide), inb_e (by omega) (by decide), ic_n (by omega), ic_n (by omega), e79 _ (by omega), e79 _ (by omega), g4, g7, d2, ob_e, show 3 * (i + 1) = 3 * i + 3 by omega]
    rfl
  have c6 : μ2 41 6 = ic (g + 1) := by rw [m41, hμ1]; rfl
  have c38 : ν2 63 38 = ic (g + 1) := by rw [m63, hν1]; rfl
  have c7 : μ2 41 7 = ν2 63 39 := by rw [m41, m63, hμ1, hν1]; exact r6
  have c8 : μ2 41 8 = ν2 63 40 := by rw [m41, m63, hμ1, hν1]; exact r7
  by_cases z : r = 0
  · rw [if_pos z] at hX hM
    exact ⟨_, _, hX, hM, (xu1.tr d3.xu).w 8 _ (by decide), (mu1.tr d4.mu).w 40 _ (by decide), d5, d6, c6, c38, by omega, c7, by show μ2 41 8 + 1 = ν2 63 40 + 1; rw [c8]⟩
  · rw [if_neg z] at hX hM
    exact ⟨_, _, hX, hM, (xu1.tr d3.xu).w 7 _ (by decide), (mu1.tr d4.mu).w 39 _ (by decide), d5, d6, c6, c38, by omega, by show μ2 41 7 + 1 = ν2 63 39 + 1; rw [c7], c8⟩
