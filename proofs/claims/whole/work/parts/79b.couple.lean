/-! ===== lean ===== -/
theorem ng_99 : ∀ b, b < 100 → ¬ (0 : Int32) < -(ic b) := by decide +kernel
theorem rs_00 {N : Nat} {μ : sw_M} (v w : Int32) : f_sx_rests N μ v w 0 0 = if v < 0 then some 0 else some 1 := by
  show (if v < 0 then some (0 : Int32) else if v < 0 then some 0 else some 1) = _
  by_cases h : v < 0
  · rw [if_pos h, if_pos h]
  · rw [if_neg h, if_neg h]
theorem rs_01 {N : Nat} {μ : sw_M} (v w : Int32) : f_sx_rests N μ v w 0 1 = if -w < 0 then some 0 else if 0 < v then some 0 else some 1 := rfl
theorem rs_10 {N : Nat} {μ : sw_M} (v w : Int32) : f_sx_rests N μ v w 1 0 = if 0 < v then some 0 else if -w < 0 then some 0 else some 1 := rfl
theorem rs_11 {N : Nat} {μ : sw_M} (v w : Int32) : f_sx_rests N μ v w 1 1 = if 0 < -w then some 0 else some 1 := by
  show (if 0 < -w then some (0 : Int32) else if 0 < -w then some 0 else some 1) = _
  by_cases h : 0 < -w
  · rw [if_pos h, if_pos h]
  · rw [if_neg h, if_neg h]
def lnV (a b k : Nat) : Int32 := if k = 0 then (if ¬ (-(ic b) < 0) ∧ ¬ (0 < ic a) then 4 else 2) else if k = 1 then 0 else ic a + ic a
section
variable {N : Nat} {μ : sw_M}
theorem xl_s (n : Nat) (v w x3 x4 x5 x6 x7 y1 y2 : Int32) (h : ¬ 4 ≤ x7) (h1 : x7 >>> ((1 : Int32) &&& 31) = y1) (h2 : x7 &&& 1 = y2) : f_x_lean_47 N (n + 1) μ v w x3 x4 x5 x6 x7 = Option.bind (f_sx_rests N μ v w y1 y2) (fun r3 => if r3 = 0 then f_x_lean_47 N n μ v w x3 x4 x5 x6 (x7 + 1) else if x4 = 0 then Option.bind (f_sx_gain N μ v w y1 y2) (fun r7 => Option.bind (f_sx_gain N μ v w y2 y1) (fun r9 => f_x_lean_47 N n μ v w x3 (x4 + 1) (10 * y1 + y2) (r7 + r9) (x7 + 1))) else f_x_lean_47 N n μ v w x3 (x4 + 1) x5 x6 (x7 + 1)) := by
  subst h1 h2
  rw [f_x_lean_47, if_neg h]; rfl
theorem x_lean (hN : 5000 ≤ N) {a b k : Nat} (ha : a ≤ 99) (hb : b ≤ 99) (hk : k ≤ 2) : f_x_lean_47 N N μ (ic a) (ic b) (ic k) 0 (-1) 0 0 = some (.inl (lnV a b k, μ)) := by
  obtain ⟨m, rfl⟩ : ∃ m, N = m + 5 := ⟨N - 5, by omega⟩
  have h0 : ¬ ic a < 0 := by rw [ic_lt0 (by omega)]; exact id
  have h3 := ng_99 b (by omega)
  have fin : ∀ x4 x6 : Int32, f_x_lean_47 (m + 5) (m + 1) μ (ic a) (ic b) (ic k) x4 0 x6 4 = some (.inl (if k = 0 then x4 else if k = 1 then 0 else x6, μ)) := by
    intro x4 x6
    rw [f_x_lean_47, if_pos (by decide)]
    have hk2 : k = 0 ∨ k = 1 ∨ k = 2 := by omega
    rcases hk2 with rfl | rfl | rfl <;> rfl
  rw [xl_s (m + 4) _ _ _ _ _ _ 0 0 0 (by decide) (by decide) (by decide), rs_00, if_neg h0, ob_e, if_neg (by decide), if_pos rfl]
  show f_x_lean_47 (m + 5) (m + 4) μ (ic a) (ic b) (ic k) 1 0 (ic a + ic a) 1 = _
  rw [xl_s (m + 3) _ _ _ _ _ _ 1 0 1 (by decide) (by decide) (by decide), rs_01]
  have step : ∀ x4 : Int32, ¬ x4 = 0 → f_x_lean_47 (m + 5) (m + 2) μ (ic a) (ic b) (ic k) x4 0 (ic a + ic a) 3 = some (.inl (if k = 0 then x4 + 1 else if k = 1 then 0 else ic a + ic a, μ)) := by
    intro x4 hx
    rw [xl_s (m + 1) _ _ _ _ _ _ 3 1 1 (by decide) (by decide) (by decide), rs_11, if_neg h3, ob_e, if_neg (by decide), if_neg hx]
    exact fin _ _
  unfold lnV
  by_cases q1 : -(ic b) < 0
  · rw [if_pos q1, ob_e, if_pos rfl]
    show f_x_lean_47 (m + 5) (m + 3) μ (ic a) (ic b) (ic k) 1 0 (ic a + ic a) 2 = _
    rw [xl_s (m + 2) _ _ _ _ _ _ 2 1 0 (by decide) (by decide) (by decide), rs_10, if_pos q1]
    have e : (if 0 < ic a then some (0 : Int32) else some 0) = some 0 := by split <;> rfl
    rw [e, ob_e, if_pos rfl]
    show f_x_lean_47 (m + 5) (m + 2) μ (ic a) (ic b) (ic k) 1 0 (ic a + ic a) 3 = _
    rw [step 1 (by decide)]
    simp [q1]
  · by_cases q2 : 0 < ic a
    · rw [if_neg q1, if_pos q2, ob_e, if_pos rfl]
      show f_x_lean_47 (m + 5) (m + 3) μ (ic a) (ic b) (ic k) 1 0 (ic a + ic a) 2 = _
      rw [xl_s (m + 2) _ _ _ _ _ _ 2 1 0 (by decide) (by decide) (by decide), rs_10, if_pos q2, ob_e, if_pos rfl]
      show f_x_lean_47 (m + 5) (m + 2) μ (ic a) (ic b) (ic k) 1 0 (ic a + ic a) 3 = _
      rw [step 1 (by decide), if_neg (show ¬ (¬ (-(ic b) < 0) ∧ ¬ (0 < ic a)) from fun z => z.2 q2)]; rfl
    · rw [if_neg q1, if_neg q2, ob_e, if_neg (by decide), if_neg (by decide)]
      show f_x_lean_47 (m + 5) (m + 3) μ (ic a) (ic b) (ic k) 2 0 (ic a + ic a) 2 = _
      rw [xl_s (m + 2) _ _ _ _ _ _ 2 1 0 (by decide) (by decide) (by decide), rs_10, if_neg q2, if_neg q1, ob_e, if_neg (by decide), if_neg (by decide)]
      show f_x_lean_47 (m + 5) (m + 2) μ (ic a) (ic b) (ic k) 3 0 (ic a + ic a) 3 = _
      rw [step 3 (by decide), if_pos (show (¬ (-(ic b) < 0) ∧ ¬ (0 < ic a)) from ⟨q1, q2⟩)]; rfl
theorem ml_s (n : Nat) (v w x3 x4 x5 x6 y1 y2 : Int32) (h : ¬ 4 ≤ x6) (h1 : x6 / 2 = y1) (h2 : x6 - x6 / 2 * 2 = y2) : f_m_lean_59 N (n + 1) μ v w x3 x4 x5 x6 = Option.bind (f_sm_hasBy N μ ((1 : Int32) - y1) y2 v w) (fun r13 => Option.bind (f_sm_hasBy N μ y1 y2 v w) (fun r15 => if r15 < r13 then f_m_lean_59 N n μ v w x3 x4 x5 (x6 + 1) else Option.bind (f_sm_hasBy N μ ((1 : Int32) - y2) y1 v w) (fun r17 => Option.bind (f_sm_hasBy N μ y2 y1 v w) (fun r19 => if r17 ≤ r19 then (if x5 = -1 then f_m_lean_59 N n μ v w x3 (x4 + 1) (10 * y1 + y2) (x6 + 1) else f_m_lean_59 N n μ v w x3 (x4 + 1) x5 (x6 + 1)) else f_m_lean_59 N n μ v w x3 x4 x5 (x6 + 1))))) := by
  subst h1 h2
  rw [f_m_lean_59, if_neg h]; rfl
theorem hb_00 (v w : Int32) : f_sm_hasBy N μ 0 0 v w = some v := rfl
theorem hb_01 (v w : Int32) : f_sm_hasBy N μ 0 1 v w = some (-w) := rfl
theorem hb_1 (v w y : Int32) : f_sm_hasBy N μ 1 y v w = some 0 := rfl
theorem m_lean (hN : 5000 ≤ N) {a b k : Nat} (ha : a ≤ 99) (hb : b ≤ 99) (hk : k ≤ 2) : f_m_lean_59 N N μ (ic a) (ic b) (ic k) 0 (-1) 0 = some (lnV a b k, μ) := by
  obtain ⟨m, rfl⟩ : ∃ m, N = m + 5 := ⟨N - 5, by omega⟩
  have h0 : ¬ ic a < 0 := by rw [ic_lt0 (by omega)]; exact id
  have h0' : 0 ≤ ic a := by rw [ic_0le (by omega)]; trivial
  have h3 := ng_99 b (by omega)
  have h3' : -(ic b) ≤ 0 := by grind
  have z10 : (1 : Int32) - 0 = 1 := rfl
  have z11 : (1 : Int32) - 1 = 0 := rfl
  have fin : ∀ x4 : Int32, f_m_lean_59 (m + 5) (m + 1) μ (ic a) (ic b) (ic k) x4 0 4 = some (if k = 0 then x4 else if k = 1 then 0 else ic a + ic a, μ) := by
    intro x4
    rw [f_m_lean_59, if_pos (by decide)]
    have hk2 : k = 0 ∨ k = 1 ∨ k = 2 := by omega
    rcases hk2 with rfl | rfl | rfl <;> rfl
  rw [ml_s (m + 4) _ _ _ _ _ 0 0 0 (by decide) (by decide) (by decide)]
  simp only [z10, z11, hb_1, hb_00, hb_01, ob_e]
  rw [if_neg h0, if_pos h0', if_pos trivial]
  show f_m_lean_59 (m + 5) (m + 4) μ (ic a) (ic b) (ic k) 1 0 1 = _
  rw [ml_s (m + 3) _ _ _ _ _ 1 0 1 (by decide) (by decide) (by decide)]
  simp only [z10, z11, hb_1, hb_00, hb_01, ob_e]
  have step : ∀ x4 : Int32, f_m_lean_59 (m + 5) (m + 2) μ (ic a) (ic b) (ic k) x4 0 3 = some (if k = 0 then x4 + 1 else if k = 1 then 0 else ic a + ic a, μ) := by
    intro x4
    rw [ml_s (m + 1) _ _ _ _ _ 3 1 1 (by decide) (by decide) (by decide)]
    simp only [z10, z11, hb_1, hb_00, hb_01, ob_e]
    rw [if_neg h3, if_pos h3', if_neg (by decide)]
    exact fin _
  have s2 : ∀ x4 : Int32, f_m_lean_59 (m + 5) (m + 3) μ (ic a) (ic b) (ic k) x4 0 2 = if 0 < ic a then f_m_lean_59 (m + 5) (m + 2) μ (ic a) (ic b) (ic k) x4 0 3 else if 0 ≤ -(ic b) then f_m_lean_59 (m + 5) (m + 2) μ (ic a) (ic b) (ic k) (x4 + 1) 0 3 else f_m_lean_59 (m + 5) (m + 2) μ (ic a) (ic b) (ic k) x4 0 3 := by
    intro x4
    rw [ml_s (m + 2) _ _ _ _ _ 2 1 0 (by decide) (by decide) (by decide)]
    simp only [z10, z11, hb_1, hb_00, hb_01, ob_e]
    rfl
  have e1 : ∀ x4 : Int32, f_m_lean_59 (m + 5) (m + 3) μ (ic a) (ic b) (ic k) x4 0 (1 + 1) = _ := s2
  unfold lnV
  by_cases q1 : -(ic b) < 0
  · have q1' : ¬ 0 ≤ -(ic b) := by grind
    rw [if_pos q1, e1, if_neg q1', step]
    rw [show (if 0 < ic a then some (if k = 0 then (1 : Int32) + 1 else if k = 1 then 0 else ic a + ic a, μ) else some (if k = 0 then 1 + 1 else if k = 1 then 0 else ic a + ic a, μ)) = some (if k = 0 then (1 : Int32) + 1 else if k = 1 then 0 else ic a + ic a, μ) by split <;> rfl]
    rw [if_neg (show ¬ (¬ (-(ic b) < 0) ∧ ¬ (0 < ic a)) from fun z => z.1 q1)]; rfl
  · have q1' : 0 ≤ -(ic b) := by grind
    by_cases q2 : 0 < ic a
    · have q2' : ¬ ic a ≤ 0 := by grind
      rw [if_neg q1, if_neg q2', e1, if_pos q2, step, if_neg (show ¬ (¬ (-(ic b) < 0) ∧ ¬ (0 < ic a)) from fun z => z.2 q2)]; rfl
    · have q2' : ic a ≤ 0 := by grind
      rw [if_neg q1, if_pos q2', if_neg (by decide), e1, if_neg q2, if_pos q1', step, if_pos (show (¬ (-(ic b) < 0) ∧ ¬ (0 < ic a)) from ⟨q1, q2⟩)]; rfl
end
theorem op_lean {N : Nat} {μ : sw_M} (hN : 5000 ≤ N) (hI : Inv μ) (a1 a2 a3 : Int32) : OpI (f_x_lean N μ a1 a2 a3) (fun μ1 => f_m_lean N μ1 a1 a2 a3) := by
  have z1 : ∀ i, (wr (xr μ i) 63 0 0) 63 0 = 0 := fun _ => rfl
  rcases wn_dec2 a1 (n := 99) (by decide) with ⟨a, ha, rfl, h1⟩ | h1
  · have h1 : 0 ≤ ic a ∧ ic a ≤ 99 := h1
    rcases wn_dec2 a2 (n := 99) (by decide) with ⟨b, hb, rfl, h2⟩ | h2
    · have h2 : 0 ≤ ic b ∧ ic b ≤ 99 := h2
      rcases wn_dec2 a3 (n := 2) (by decide) with ⟨k, hk, rfl, h3⟩ | h3
      · have h3 : 0 ≤ ic k ∧ ic k ≤ 2 := h3
        left
        have z0 : (wr μ 63 0 0) 63 0 = 0 := rfl
        refine ⟨lnV a b k, μ, wr μ 63 0 0, ?_, ?_, rfl, hI.sm ((SM.rf μ).wr63 0 0 (Or.inl rfl))⟩
        · unfold f_x_lean f_x_lean_26
          rw [within_e, ob_e, b2_p h1, if_neg o1, within_e, ob_e, b2_p h2, if_neg o1, nd_1 (by decide), tb_l, g_needWhat_1 h3, tb_l]
          exact x_lean hN ha hb hk
        · show f_m_lean N μ (ic a) (ic b) (ic k) = _
          unfold f_m_lean f_m_lean_40
          rw [wb_e, withinm_e, ob_e, b2_p h1, if_neg o1, withinm_e, ob_e, b2_p h2, if_neg o1, withinm_e, ob_e, b2_p h3, if_neg o1, may_1 (by decide) z0, ob_e, if_neg o1]
          exact m_lean hN ha hb hk
      · right
        have h3 : ¬ (0 ≤ a3 ∧ a3 ≤ 2) := h3
        refine ⟨xr μ 1, 0, mr (xr μ 1) 1 1, ?_, ?_, rfl, hI.rr (by decide) 1⟩
        · unfold f_x_lean f_x_lean_26; rw [within_e, ob_e, b2_p h1, if_neg o1, within_e, ob_e, b2_p h2, if_neg o1, nd_1 (by decide), tb_l, g_needWhat_0 h3, tb_r]; rfl
        · show f_m_lean N (xr μ 1) (ic a) (ic b) a3 = _
          unfold f_m_lean f_m_lean_39 f_m_lean_40; rw [wb_e, withinm_e, ob_e, b2_p h1, if_neg o1, withinm_e, ob_e, b2_p h2, if_neg o1, withinm_e, ob_e, b2_n h3, if_pos rfl, may_i (by decide) (z1 1), ob_e, if_pos rfl]; rfl
    · right
      have h2 : ¬ (0 ≤ a2 ∧ a2 ≤ 99) := h2
      refine ⟨xr μ 1, 0, mr (xr μ 1) 1 1, ?_, ?_, rfl, hI.rr (by decide) 1⟩
      · unfold f_x_lean f_x_lean_25 f_x_lean_26; rw [within_e, ob_e, b2_p h1, if_neg o1, within_e, ob_e, b2_n h2, if_pos rfl, nd_0, tb_r]; rfl
      · show f_m_lean N (xr μ 1) (ic a) a2 a3 = _
        unfold f_m_lean f_m_lean_39 f_m_lean_40; rw [wb_e, withinm_e, ob_e, b2_p h1, if_neg o1, withinm_e, ob_e, b2_n h2, if_pos rfl, may_i (by decide) (z1 1), ob_e, if_pos rfl]; rfl
  · right
    have h1 : ¬ (0 ≤ a1 ∧ a1 ≤ 99) := h1
    refine ⟨xr μ 1, 0, mr (xr μ 1) 1 1, ?_, ?_, rfl, hI.rr (by decide) 1⟩
    · unfold f_x_lean f_x_lean_25 f_x_lean_26; rw [within_e, ob_e, b2_n h1, if_pos rfl, nd_0, tb_r]; rfl
    · show f_m_lean N (xr μ 1) a1 a2 a3 = _
      unfold f_m_lean f_m_lean_39 f_m_lean_40; rw [wb_e, withinm_e, ob_e, b2_n h1, if_pos rfl, may_i (by decide) (z1 1), ob_e, if_pos rfl]; rfl
