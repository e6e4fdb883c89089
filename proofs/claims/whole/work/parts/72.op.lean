/-! ===== printed by wip/whole/gen72.py ===== -/
theorem o1 : ¬ (1 : Int32) = 0 := by decide
def xr (μ : sw_M) (i : Nat) : sw_M := wr μ 0 (13 + i) (μ 0 (13 + i) + 1)
def mr (μ : sw_M) (i : Nat) (x : Int32) : sw_M := wr (wr (wr μ 63 0 0) 63 0 x) 64 i (μ 64 i + 1)
theorem Inv.rr {μ : sw_M} (h : Inv μ) {i : Nat} (hi : i < 2) (x : Int32) : Inv (mr (xr μ i) i x) := h.rf hi (x := x) rfl
theorem QI.sx {μ μ' : sw_M} {F W T P : Nat} {K O : Nat → Int32} {nl nb : Nat} (h : QI μ F W T P K O nl nb) (f : SX μ μ') : QI μ' F W T P K O nl nb := by
  have r3 := f.1 3 (by decide) (by decide) (by decide) (by decide); have r4 := f.1 4 (by decide) (by decide) (by decide) (by decide)
  have r5 := f.1 5 (by decide) (by decide) (by decide) (by decide); have r6 := f.1 6 (by decide) (by decide) (by decide) (by decide)
  have r7 := f.1 7 (by decide) (by decide) (by decide) (by decide); have r8 := f.1 8 (by decide) (by decide) (by decide) (by decide)
  have r9 := f.1 9 (by decide) (by decide) (by decide) (by decide); have r10 := f.1 10 (by decide) (by decide) (by decide) (by decide)
  have r20 := f.1 20 (by decide) (by decide) (by decide) (by decide); have r21 := f.1 21 (by decide) (by decide) (by decide) (by decide)
  have r29 := f.1 29 (by decide) (by decide) (by decide) (by decide); have r30 := f.1 30 (by decide) (by decide) (by decide) (by decide); have r31 := f.1 31 (by decide) (by decide) (by decide) (by decide)
  have r35 := f.1 35 (by decide) (by decide) (by decide) (by decide); have r36 := f.1 36 (by decide) (by decide) (by decide) (by decide); have r37 := f.1 37 (by decide) (by decide) (by decide) (by decide)
  have r38 := f.1 38 (by decide) (by decide) (by decide) (by decide); have r39 := f.1 39 (by decide) (by decide) (by decide) (by decide); have r40 := f.1 40 (by decide) (by decide) (by decide) (by decide)
  have r63 := f.1 63 (by decide) (by decide) (by decide) (by decide); have r69 := f.1 69 (by decide) (by decide) (by decide) (by decide); have r70 := f.1 70 (by decide) (by decide) (by decide) (by decide)
  have r71 := f.1 71 (by decide) (by decide) (by decide) (by decide); have r74 := f.1 74 (by decide) (by decide) (by decide) (by decide); have r75 := f.1 75 (by decide) (by decide) (by decide) (by decide)
  have r80 := f.1 80 (by decide) (by decide) (by decide) (by decide); have r84 := f.1 84 (by decide) (by decide) (by decide) (by decide); have q19 := f.2 4 (by decide)
  unfold QI BK CW MR DR XL ML at h ⊢
  simp only [r3, r4, r5, r6, r7, r8, r9, r10, r20, r21, r29, r30, r31, r35, r36, r37, r38, r39, r40, r63, r69, r70, r71, r74, r75, r80, r84, q19]
  exact h
theorem qm_81 {μ μ' : sw_M} (f : SX μ μ') : (qm μ') 81 = (qm μ) 81 := by
  rw [qm_S, qm_S]; funext i; unfold tkS
  show (if i < 49 then μ' 80 i else μ' 81 i) = (if i < 49 then μ 80 i else μ 81 i)
  rw [f.1 80 (by decide) (by decide) (by decide) (by decide), f.1 81 (by decide) (by decide) (by decide) (by decide)]
/-- the reference's side of a question when the class has scribbled -/
theorem qm_ctx2 {μ μ' : sw_M} {F W T P : Nat} {K O : Nat → Int32} {nl nb : Nat} (h : QI μ F W T P K O nl nb) (f : SX μ μ') : WS F W T P ((qm μ') 81) ∧ MR (qm μ') μ F W T P ∧ ML (qm μ') K O nl := by
  obtain ⟨hC, -, hS, -, hM, hL, -⟩ := qm_ctx h
  have r63 : ∀ j, j ≠ 0 → (qm μ') 63 j = (qm μ) 63 j := fun j hj => by
    show (wr μ' 63 0 0) 63 j = (wr μ 63 0 0) 63 j
    rw [wr_ap, if_pos rfl, if_neg hj, wr_ap, if_pos rfl, if_neg hj, f.1 63 (by decide) (by decide) (by decide) (by decide)]
  have rr : ∀ a, 64 ≤ a → a ≠ 81 → (qm μ') a = (qm μ) a := fun a h1 h2 => by
    show (wrR (wr μ' 63 0 0) 81 _) a = (wrR (wr μ 63 0 0) 81 _) a
    rw [wrR_nr h2, wrR_nr h2, wr_nr (by omega), wr_nr (by omega), f.1 a (by omega) (by omega) (by omega) (by omega)]
  refine ⟨by rw [qm_81 f]; exact hS, hM.fr (fun j h1 h2 => r63 j (by omega)) (rr 69 (by decide) (by decide)) (rr 70 (by decide) (by decide)) (rr 71 (by decide) (by decide)), ?_⟩
  unfold ML; rw [r63 31 (by decide), rr 74 (by decide) (by decide), rr 75 (by decide) (by decide)]; exact hL
theorem x_told_10 {N : Nat} {μ : sw_M} : f_x_told N μ (ic 10) = some (.inl (μ 41 8, μ)) := by
  have gw : 0 ≤ ic 10 ∧ ic 10 ≤ 11 := w2_in (n := 11) (by decide) (by decide)
  unfold f_x_told; rw [g_needWhat_1 gw, tb_l]; rfl
theorem m_told_10 {N : Nat} {μ : sw_M} (hN : 5000 ≤ N) : f_m_told N μ (ic 10) = some (μ 63 37, qm μ) := by
  have gw : 0 ≤ ic 10 ∧ ic 10 ≤ 11 := w2_in (n := 11) (by decide) (by decide)
  have z0 : (wr μ 63 0 0) 63 0 = 0 := rfl
  unfold f_m_told; rw [wb_e, withinm_e, ob_e, b2_p gw, may_1 (by decide) z0, ob_e, if_neg o1, e_q_take hN]; rfl
theorem op_told {N : Nat} {μ : sw_M} (hN : 5000 ≤ N) (hI : Inv μ) (a1 : Int32) : OpI (f_x_told N μ a1) (fun μ1 => f_m_told N μ1 a1) := by
  obtain ⟨F, W, T, P, K, O, nl, nb, n, m, hQ, hR⟩ := id hI
  have hC := hQ.1
  have hF' := hC.f8; have hW' := hC.w12; have hT' := hC.t6; have hP' := hC.p5
  have hX : XR μ μ := ⟨rfl, rfl, rfl, rfl, rfl, rfl, rfl, rfl⟩
  have x0 := hX.nF hC; have x1 := hX.nW hC; have x2 := hX.nT hC; have x3 := hX.nP hC
  have m21 := hQ.2.1.nF; have m22 := hQ.2.1.nW; have m23 := hQ.2.1.nT; have m24 := hQ.2.1.nP
  have z1 : ∀ i, (wr (xr μ i) 63 0 0) 63 0 = 0 := fun _ => rfl
  rcases wn_dec2 a1 (n := 11) (by decide) with ⟨k, hk, rfl, hz⟩ | hz
  · left
    have hz : 0 ≤ ic k ∧ ic k ≤ 11 := hz
    have hk2 : k = 0 ∨ k = 1 ∨ k = 2 ∨ k = 3 ∨ k = 4 ∨ k = 5 ∨ k = 6 ∨ k = 7 ∨ k = 8 ∨ k = 9 ∨ k = 11 ∨ k = 10 := by omega
    rcases hk2 with rfl | rfl | rfl | rfl | rfl | rfl | rfl | rfl | rfl | rfl | rfl | rfl
    · exact ⟨_, _, _, x_told_0 hN hQ, m_told_0 hN hQ, qm_0 μ, hI.sm (qm_sm μ)⟩
    · exact ⟨_, _, _, x_told_1 hN hQ, m_told_1 hN hQ, qm_0 μ, hI.sm (qm_sm μ)⟩
    · exact ⟨_, _, _, x_told_2 hN hQ, m_told_2 hN hQ, qm_0 μ, hI.sm (qm_sm μ)⟩
    · exact ⟨_, _, _, x_told_3 hN hQ, m_told_3 hN hQ, qm_0 μ, hI.sm (qm_sm μ)⟩
    · exact ⟨_, _, _, x_told_4 hN hQ, m_told_4 hN hQ, qm_0 μ, hI.sm (qm_sm μ)⟩
    · exact ⟨_, _, _, x_told_5 hN hQ, m_told_5 hN hQ, qm_0 μ, hI.sm (qm_sm μ)⟩
    · exact ⟨_, _, _, x_told_6 hN hQ, m_told_6 hN hQ, qm_0 μ, hI.sm (qm_sm μ)⟩
    · exact ⟨_, _, _, x_told_7 hN hQ, m_told_7 hN hQ, qm_0 μ, hI.sm (qm_sm μ)⟩
    · exact ⟨_, _, _, x_told_8 hN hQ, m_told_8 hN hQ, qm_0 μ, hI.sm (qm_sm μ)⟩
    · exact ⟨_, _, _, x_told_9 hN hQ, m_told_9 hN hQ, qm_0 μ, hI.sm (qm_sm μ)⟩
    · exact ⟨_, _, _, x_told_11 hN hQ, m_told_11 hN hQ, qm_0 μ, hI.sm (qm_sm μ)⟩
    · exact ⟨_, _, _, x_told_10, by have := m_told_10 (μ := μ) hN; rw [← hR.2.2.2.1] at this; exact this, qm_0 μ, hI.sm (qm_sm μ)⟩
  · right
    have hz : ¬ (0 ≤ a1 ∧ a1 ≤ 11) := hz
    refine ⟨xr μ 1, 0, mr (xr μ 1) 1 1, ?_, ?_, rfl, hI.rr (by decide) 1⟩
    · unfold f_x_told; rw [g_needWhat_0 hz, tb_r]; rfl
    · show f_m_told N (xr μ 1) a1 = _
      unfold f_m_told; rw [wb_e, withinm_e, ob_e, b2_n hz, may_i (by decide) (z1 1), ob_e, if_pos rfl]; rfl
theorem op_field {N : Nat} {μ : sw_M} (hN : 5000 ≤ N) (hI : Inv μ) (a1 a2 : Int32) : OpB (f_x_field N μ a1 a2) (fun μ1 => f_m_field N μ1 a1 a2) := by
  obtain ⟨F, W, T, P, K, O, nl, nb, n, m, hQ, hR⟩ := id hI
  have hC := hQ.1
  have hF' := hC.f8; have hW' := hC.w12; have hT' := hC.t6; have hP' := hC.p5
  have hX : XR μ μ := ⟨rfl, rfl, rfl, rfl, rfl, rfl, rfl, rfl⟩
  have x0 := hX.nF hC; have x1 := hX.nW hC; have x2 := hX.nT hC; have x3 := hX.nP hC
  have m21 := hQ.2.1.nF; have m22 := hQ.2.1.nW; have m23 := hQ.2.1.nT; have m24 := hQ.2.1.nP
  have z1 : ∀ i, (wr (xr μ i) 63 0 0) 63 0 = 0 := fun _ => rfl
  rcases wn_dec a1 (n := F) (by omega) with ⟨f, hf, rfl, hg⟩ | hg
  · rcases wn_dec2 a2 (n := 3) (by decide) with ⟨k, hk, rfl, hz⟩ | hz
    · left
      have hz : 0 ≤ ic k ∧ ic k ≤ 3 := hz
      have hk2 : k = 0 ∨ k = 1 ∨ k = 2 ∨ k = 3 := by omega
      rcases hk2 with rfl | rfl | rfl | rfl
      · exact ⟨_, _, _, x_field_0 hN hQ hf, m_field_0 hN hQ hf, qm_0 μ, hI.sm (qm_sm μ)⟩
      · exact ⟨_, _, _, x_field_1 hN hQ hf, m_field_1 hN hQ hf, qm_0 μ, hI.sm (qm_sm μ)⟩
      · exact ⟨_, _, _, x_field_2 hN hQ hf, m_field_2 hN hQ hf, qm_0 μ, hI.sm (qm_sm μ)⟩
      · exact ⟨_, _, _, x_field_3 hN hQ hf, m_field_3 hN hQ hf, qm_0 μ, hI.sm (qm_sm μ)⟩
    · right; right
      have hz : ¬ (0 ≤ a2 ∧ a2 ≤ 3) := hz
      refine ⟨xr μ 1, 0, mr (xr μ 1) 1 2, ?_, ?_, rfl, hI.rr (by decide) 2⟩
      · unfold f_x_field; rw [g_needField_1 x0 hg, tb_l, g_needWhat_0 hz, tb_r]; rfl
      · show f_m_field N (xr μ 1) (ic f) a2 = _
        unfold f_m_field; rw [wb_e, h_isField_1 (μ := wr (xr μ 1) 63 0 0) m21 (z1 1) hg, ob_e, if_neg o1, withinm_e, ob_e, b2_n hz, may_i (by decide) (z1 1), ob_e, if_pos rfl]; rfl
  · right; left
    refine ⟨xr μ 0, 0, mr (xr μ 0) 0 1, ?_, ?_, rfl, hI.rr (by decide) 1⟩
    · unfold f_x_field; rw [g_needField_0 x0 hg, tb_r]; rfl
    · show f_m_field N (xr μ 0) a1 a2 = _
      unfold f_m_field; rw [wb_e, h_isField_0 (μ := wr (xr μ 0) 63 0 0) m21 (z1 0) hg, ob_e, if_pos rfl]; rfl
theorem op_wire {N : Nat} {μ : sw_M} (hN : 5000 ≤ N) (hI : Inv μ) (a1 a2 : Int32) : OpB (f_x_wire N μ a1 a2) (fun μ1 => f_m_wire N μ1 a1 a2) := by
  obtain ⟨F, W, T, P, K, O, nl, nb, n, m, hQ, hR⟩ := id hI
  have hC := hQ.1
  have hF' := hC.f8; have hW' := hC.w12; have hT' := hC.t6; have hP' := hC.p5
  have hX : XR μ μ := ⟨rfl, rfl, rfl, rfl, rfl, rfl, rfl, rfl⟩
  have x0 := hX.nF hC; have x1 := hX.nW hC; have x2 := hX.nT hC; have x3 := hX.nP hC
  have m21 := hQ.2.1.nF; have m22 := hQ.2.1.nW; have m23 := hQ.2.1.nT; have m24 := hQ.2.1.nP
  have z1 : ∀ i, (wr (xr μ i) 63 0 0) 63 0 = 0 := fun _ => rfl
  rcases wn_dec a1 (n := W) (by omega) with ⟨w, hw, rfl, hg⟩ | hg
  · rcases wn_dec2 a2 (n := 6) (by decide) with ⟨k, hk, rfl, hz⟩ | hz
    · left
      have hz : 0 ≤ ic k ∧ ic k ≤ 6 := hz
      have hk2 : k = 0 ∨ k = 1 ∨ k = 2 ∨ k = 3 ∨ k = 4 ∨ k = 5 ∨ k = 6 := by omega
      rcases hk2 with rfl | rfl | rfl | rfl | rfl | rfl | rfl
      · exact ⟨_, _, _, x_wire_0 hN hQ hw, m_wire_0 hN hQ hw, qm_0 μ, hI.sm (qm_sm μ)⟩
      · exact ⟨_, _, _, x_wire_1 hN hQ hw, m_wire_1 hN hQ hw, qm_0 μ, hI.sm (qm_sm μ)⟩
      · exact ⟨_, _, _, x_wire_2 hN hQ hw, m_wire_2 hN hQ hw, qm_0 μ, hI.sm (qm_sm μ)⟩
      · exact ⟨_, _, _, x_wire_3 hN hQ hw, m_wire_3 hN hQ hw, qm_0 μ, hI.sm (qm_sm μ)⟩
      · exact ⟨_, _, _, x_wire_4 hN hQ hw, m_wire_4 hN hQ hw, qm_0 μ, hI.sm (qm_sm μ)⟩
      · exact ⟨_, _, _, x_wire_5 hN hQ hw, m_wire_5 hN hQ hw, qm_0 μ, hI.sm (qm_sm μ)⟩
      · exact ⟨_, _, _, x_wire_6 hN hQ hw, m_wire_6 hN hQ hw, qm_0 μ, hI.sm (qm_sm μ)⟩
    · right; right
      have hz : ¬ (0 ≤ a2 ∧ a2 ≤ 6) := hz
      refine ⟨xr μ 1, 0, mr (xr μ 1) 1 2, ?_, ?_, rfl, hI.rr (by decide) 2⟩
      · unfold f_x_wire; rw [g_needWire_1 x1 hg, tb_l, g_needWhat_0 hz, tb_r]; rfl
      · show f_m_wire N (xr μ 1) (ic w) a2 = _
        unfold f_m_wire; rw [wb_e, h_isWire_1 (μ := wr (xr μ 1) 63 0 0) m22 (z1 1) hg, ob_e, if_neg o1, withinm_e, ob_e, b2_n hz, may_i (by decide) (z1 1), ob_e, if_pos rfl]; rfl
  · right; left
    refine ⟨xr μ 0, 0, mr (xr μ 0) 0 1, ?_, ?_, rfl, hI.rr (by decide) 1⟩
    · unfold f_x_wire; rw [g_needWire_0 x1 hg, tb_r]; rfl
    · show f_m_wire N (xr μ 0) a1 a2 = _
      unfold f_m_wire; rw [wb_e, h_isWire_0 (μ := wr (xr μ 0) 63 0 0) m22 (z1 0) hg, ob_e, if_pos rfl]; rfl
theorem op_person {N : Nat} {μ : sw_M} (hN : 5000 ≤ N) (hI : Inv μ) (a1 a2 : Int32) : OpB (f_x_person N μ a1 a2) (fun μ1 => f_m_person N μ1 a1 a2) := by
  obtain ⟨F, W, T, P, K, O, nl, nb, n, m, hQ, hR⟩ := id hI
  have hC := hQ.1
  have hF' := hC.f8; have hW' := hC.w12; have hT' := hC.t6; have hP' := hC.p5
  have hX : XR μ μ := ⟨rfl, rfl, rfl, rfl, rfl, rfl, rfl, rfl⟩
  have x0 := hX.nF hC; have x1 := hX.nW hC; have x2 := hX.nT hC; have x3 := hX.nP hC
  have m21 := hQ.2.1.nF; have m22 := hQ.2.1.nW; have m23 := hQ.2.1.nT; have m24 := hQ.2.1.nP
  have z1 : ∀ i, (wr (xr μ i) 63 0 0) 63 0 = 0 := fun _ => rfl
  rcases wn_dec a1 (n := P) (by omega) with ⟨p, hp, rfl, hg⟩ | hg
  · rcases wn_dec2 a2 (n := 4) (by decide) with ⟨k, hk, rfl, hz⟩ | hz
    · left
      have hz : 0 ≤ ic k ∧ ic k ≤ 4 := hz
      have hk2 : k = 0 ∨ k = 1 ∨ k = 2 ∨ k = 3 ∨ k = 4 := by omega
      rcases hk2 with rfl | rfl | rfl | rfl | rfl
      · exact ⟨_, _, _, x_person_0 hN hQ hp, m_person_0 hN hQ hp, qm_0 μ, hI.sm (qm_sm μ)⟩
      · exact ⟨_, _, _, x_person_1 hN hQ hp, m_person_1 hN hQ hp, qm_0 μ, hI.sm (qm_sm μ)⟩
      · exact ⟨_, _, _, x_person_2 hN hQ hp, m_person_2 hN hQ hp, qm_0 μ, hI.sm (qm_sm μ)⟩
      · exact ⟨_, _, _, x_person_3 hN hQ hp, m_person_3 hN hQ hp, qm_0 μ, hI.sm (qm_sm μ)⟩
      · exact ⟨_, _, _, x_person_4 hN hQ hp, m_person_4 hN hQ hp, qm_0 μ, hI.sm (qm_sm μ)⟩
    · right; right
      have hz : ¬ (0 ≤ a2 ∧ a2 ≤ 4) := hz
      refine ⟨xr μ 1, 0, mr (xr μ 1) 1 2, ?_, ?_, rfl, hI.rr (by decide) 2⟩
      · unfold f_x_person; rw [g_needPerson_1 x3 hg, tb_l, g_needWhat_0 hz, tb_r]; rfl
      · show f_m_person N (xr μ 1) (ic p) a2 = _
        unfold f_m_person; rw [wb_e, h_isPerson_1 (μ := wr (xr μ 1) 63 0 0) m24 (z1 1) hg, ob_e, if_neg o1, withinm_e, ob_e, b2_n hz, may_i (by decide) (z1 1), ob_e, if_pos rfl]; rfl
  · right; left
    refine ⟨xr μ 0, 0, mr (xr μ 0) 0 1, ?_, ?_, rfl, hI.rr (by decide) 1⟩
    · unfold f_x_person; rw [g_needPerson_0 x3 hg, tb_r]; rfl
    · show f_m_person N (xr μ 0) a1 a2 = _
      unfold f_m_person; rw [wb_e, h_isPerson_0 (μ := wr (xr μ 0) 63 0 0) m24 (z1 0) hg, ob_e, if_pos rfl]; rfl
