/-! ===== work, as a call ===== -/
def WG (μ ν μ4 ν6 : sw_M) (F W T P m : Nat) : Prop :=
  ((∀ a, a ≠ 1 → a ≠ 19 → a ≠ 22 → a ≠ 23 → (a < 35 ∨ 46 < a) → μ4 a = μ a) ∧ μ4 19 4 = μ 19 4 ∧ μ4 1 3 = 0 ∧ μ4 1 8 = -1 ∧ μ4 45 4 = ic (m + 1) ∧ μ4 45 5 = μ 45 5 ∧ (∀ i, i < 38 * m → μ4 46 i = μ 46 i) ∧ RW W T P (fun j => μ4 46 (38 * m + j)) (μ 80)) ∧
  (∀ a, a ≠ 63 → (a < 76 ∨ 82 < a) → ν6 a = ν a) ∧ (∀ j, 8 < j → (j < 35 ∨ 40 < j) → ν6 63 j = ν 63 j) ∧ ν6 63 0 = ν 63 0 ∧ ν6 63 2 = 0 ∧ ν6 63 8 = -1 ∧ ν6 63 36 = ic (m + 1) ∧ (∀ i, ν6 82 i = if 49 * m ≤ i ∧ i < 49 * m + 49 then ν 80 (i - 49 * m) else ν 82 i) ∧ OKS F W T P (ν6 80) ∧ DR μ4 35 W T P (ν6 80) ∧ μ4 41 8 = ν6 63 37
theorem work_go {N : Nat} {μ μ1 ν : sw_M} {B : Nat → Nat} {n F W T P : Nat} {K O : Nat → Int32} {nl nb m : Nat} (hN : 5000 ≤ N) (hB : ∀ i, B i < 256) (h150 : n ≤ 150) (hI : QI μ F W T P K O nl nb) (hs : SHF μ F W T P m) (hm : m < 16) (hA : AT μ1 B n (sk B n 0)) (fr1 : ∀ a, a ≠ 1 → μ1 a = μ a) (p3 : μ1 1 3 = 0) (p8 : μ1 1 8 = -1) (gR : ∀ a, 63 < a → ν a = μ a) (g63 : ∀ j, j ≠ 0 → ν 63 j = μ 63 j) (hb : ∀ i, i < n → ν 65 i = ic (B i)) :
    ∃ ν1, f_m_begins N ν (ic n) = some ν1 ∧ ν1 63 36 = ic m ∧
      ((∃ μ2 μ3 μ4 ν6, f_work_read N μ1 = some (1, μ2) ∧ f_shelf_keep N μ2 = some μ3 ∧ f_work_run N μ3 = some μ4 ∧ f_m_work_68 N N (wr ν1 63 35 0) = some (μ4 41 7, ν6) ∧ WG μ ν μ4 ν6 F W T P m) ∨
       (∃ μ2 ν4, f_work_read N μ1 = some (0, μ2) ∧ f_m_work_68 N N (wr ν1 63 35 0) = f_m_work_89 N ν4 ∧ BAD μ2 ν4 ∧ XK μ1 μ2 ∧ (∀ a, a ≠ 63 → a ≠ 78 → ν4 a = ν a) ∧ (∀ j, (j = 0 ∨ 8 < j) → j ≠ 35 → ν4 63 j = ν 63 j) ∧ ν4 63 2 = 0)) := by
  obtain ⟨hC, hM, hS, hD, hX, hL, hBk⟩ := hI
  obtain ⟨-, s2, s3, -⟩ := id hs
  have hW := hC.w12; have hT := hC.t6; have hP := hC.p5
  have hCM : CM μ1 ν W T P := ⟨⟨by rw [fr1 3 (by decide)]; exact hC.1.2.1, by rw [fr1 3 (by decide)]; exact hC.1.2.2.1, by rw [fr1 3 (by decide)]; exact hC.1.2.2.2⟩, ⟨by rw [g63 22 (by decide)]; exact hM.nW, by rw [g63 23 (by decide)]; exact hM.nT, by rw [g63 24 (by decide)]; exact hM.nP⟩, hW, hT, hP⟩
  obtain ⟨ν1, hbg, hsim⟩ := work_sim hN hB h150 hA rfl ν hb hCM
  obtain ⟨ν1', b1, b2, b3, b4, b5, b6, b7⟩ := begins_e (N := N) (ν := ν) (B := B) (n := n) (by omega) hb
  have he : ν1' = ν1 := Option.some.inj (b1.symm.trans hbg)
  subst he
  refine ⟨ν1', hbg, by rw [b4 36 (by decide), g63 36 (by decide)]; exact s3, ?_⟩
  rcases hsim with ⟨μ2, ν4, k, r1, r2, hQ, hE, hk, h5, xk, x8, mk⟩ | ⟨μ2, ν4, r1, r2, hbd, xk, mk⟩
  rotate_left
  · refine Or.inr ⟨μ2, ν4, r1, r2, hbd, xk, fun a q1 q2 => by rw [mk.1 a q1 q2, wr_nr q1, b3 a q1], fun j q1 q2 => by rw [mk.2 j (by omega) q2, wr_ap, if_pos rfl, if_neg q2, b4 j (by omega)], by rw [mk.2 2 (by decide) (by decide)]; exact b5⟩
  left
  have fx2 : ∀ a, a ≠ 1 → (a < 41 ∨ 44 < a) → μ2 a = μ a := fun a q1 q2 => by rw [xk.1 a q1 q2, fr1 a q1]
  have fn4 : ∀ a, a ≠ 63 → a ≠ 78 → ν4 a = ν a := fun a q1 q2 => by rw [mk.1 a q1 q2, wr_nr q1, b3 a q1]
  have n63 : ∀ j, (j = 0 ∨ 8 < j) → j ≠ 35 → ν4 63 j = ν 63 j := fun j q1 q2 => by rw [mk.2 j (by omega) q2, wr_ap, if_pos rfl, if_neg q2, b4 j (by omega)]
  obtain ⟨μ3, hμ3⟩ : ∃ y : sw_M, y = wr (wrR μ2 46 (svF μ2 (μ2 46) (38 * m))) 45 4 (ic (m + 1)) := ⟨_, rfl⟩
  have fx3 : ∀ a, a ≠ 45 → a ≠ 46 → μ3 a = μ2 a := fun a q1 q2 => by rw [hμ3, wr_nr q1, wrR_nr q2]
  have hkeep : f_shelf_keep N μ2 = some μ3 := by
    have t : μ2 45 4 = ic m := by rw [fx2 45 (by decide) (by decide)]; exact s2
    unfold f_shelf_keep
    rw [t, if_neg (by rw [lit_le (by decide) (by omega)]; show ¬ 16 ≤ m; omega), e_save (by decide) (by omega) (by decide) μ2, ob_e, show (wrR μ2 46 (svF μ2 (μ2 46) (38 * m))) 45 4 = ic m from t, ic_1, wb_e, hμ3]
  have e80 : ν4 80 = μ 80 := by rw [fn4 80 (by decide) (by decide), gR 80 (by decide)]
  have hD2 : DR μ2 35 W T P (μ 80) := hD.fr (fun a q1 q2 => fx2 a (by omega) (by omega))
  have hX3 : XR μ3 μ := by
    unfold XR
    exact ⟨by rw [fx3 3 (by decide) (by decide), fx2 3 (by decide) (by decide)], by rw [fx3 4 (by decide) (by decide), fx2 4 (by decide) (by decide)], by rw [fx3 5 (by decide) (by decide), fx2 5 (by decide) (by decide)], by rw [fx3 6 (by decide) (by decide), fx2 6 (by decide) (by decide)], by rw [fx3 7 (by decide) (by decide), fx2 7 (by decide) (by decide)], by rw [fx3 8 (by decide) (by decide), fx2 8 (by decide) (by decide)], by rw [fx3 9 (by decide) (by decide), fx2 9 (by decide) (by decide)], by rw [fx3 10 (by decide) (by decide), fx2 10 (by decide) (by decide)]⟩
  have row : ∀ a, 63 < a → a ≠ 78 → ν4 a = μ a := fun a q1 q2 => by rw [fn4 a (by omega) q2, gR a q1]
  have cel : ∀ j, 8 < j → j ≠ 35 → ν4 63 j = μ 63 j := fun j q1 q2 => by rw [n63 j (by omega) q2, g63 j (by omega)]
  obtain ⟨μ4, ν6, a1, a2, a3, a4, a5, a6, a7, a8, a9, a10, a11⟩ := run_all (N := N) (c := μ) (μ := μ3) (ν := ν4) (n := k) (w := m) hN hC hX3 (hM.fr (fun j q1 q2 => cel j (by omega) (by omega)) (row 69 (by decide) (by decide)) (row 70 (by decide) (by decide)) (row 71 (by decide) (by decide))) (hX.fr (by rw [fx3 19 (by decide) (by decide), fx2 19 (by decide) (by decide)]) (by rw [fx3 20 (by decide) (by decide), fx2 20 (by decide) (by decide)]) (by rw [fx3 21 (by decide) (by decide), fx2 21 (by decide) (by decide)])) (hL.fr (cel 31 (by decide) (by decide)) (row 74 (by decide) (by decide)) (row 75 (by decide) (by decide))) (by rw [e80]; exact hS) (by rw [e80]; exact hD2.fr (fun a q1 q2 => fx3 a (by omega) (by omega))) (hQ.fr (by rw [fx3 41 (by decide) (by decide)]) (fx3 42 (by decide) (by decide)) (fx3 43 (by decide) (by decide)) (fx3 44 (by decide) (by decide)) rfl rfl) (hE.cg (fun i _ _ => ⟨by rw [fx3 42 (by decide) (by decide)], by rw [fx3 44 (by decide) (by decide)], rfl⟩)) hk h5 (by rw [cel 36 (by decide) (by decide)]; exact s3) hm
  have f46 : μ4 46 = svF μ2 (μ2 46) (38 * m) := by rw [a3.1 46 (by decide) (by decide) (by decide) (by decide), hμ3, wr_nr (by decide), wrR_r]
  have f45 : ∀ j, μ4 45 j = μ3 45 j := fun j => by rw [a3.1 45 (by decide) (by decide) (by decide) (by decide)]
  have f1 : ∀ j, μ4 1 j = μ2 1 j := fun j => by rw [a3.1 1 (by decide) (by decide) (by decide) (by decide), fx3 1 (by decide) (by decide)]
  refine ⟨μ2, μ3, μ4, ν6, r1, hkeep, a1, r2.trans a2, ⟨fun a q1 q2 q3 q4 q5 => ?_, ?_, ?_, ?_, ?_, ?_, fun i hi => ?_, ?_⟩, fun a q1 q2 => ?_, fun j q1 q2 => ?_, ?_, ?_, a6, a7, fun i => ?_, a9, a10, a11⟩
  · rw [a3.1 a q2 q3 q4 (by omega), fx3 a (by omega) (by omega), fx2 a q1 (by omega)]
  · rw [a3.2.1 4 (by decide), fx3 19 (by decide) (by decide), fx2 19 (by decide) (by decide)]
  · rw [f1, xk.2.1, p3]
  · rw [f1, x8, p8]
  · rw [f45, hμ3]; rfl
  · rw [f45, hμ3]; show μ2 45 5 = _; rw [fx2 45 (by decide) (by decide)]
  · rw [f46, sv_out (by omega), fx2 46 (by decide) (by decide)]
  · rw [f46]; exact RW.sv hW hT hP hD2 _ _
  · rw [a4 a q1 q2, fn4 a q1 (by omega)]
  · rw [a5 j (by omega) (by omega), n63 j (by omega) (by omega)]
  · rw [a5 0 (by decide) (by decide), n63 0 (by decide) (by decide)]
  · rw [a5 2 (by decide) (by decide), mk.2 2 (by decide) (by decide)]; exact b5
  · rw [a8, fn4 80 (by decide) (by decide), fn4 82 (by decide) (by decide)]
theorem work_inv {μ μ4 ν6 : sw_M} {F W T P : Nat} {K O : Nat → Int32} {nl nb m q : Nat} (hI : QI μ F W T P K O nl nb) (hs : SHF μ F W T P m) (hm : m < 16) (hi : IMG μ F W T P q) (h13 : μ 0 13 = μ 64 0) (h14 : μ 0 14 = μ 64 1) (hG : WG μ (wr μ4 63 0 0) μ4 ν6 F W T P m) : Inv ν6 := by
  obtain ⟨hC, hM, hS, hD, hX, hL, hB⟩ := hI
  obtain ⟨-, s2, s3, s4⟩ := id hs
  have hW := hC.w12; have hT := hC.t6; have hP := hC.p5
  obtain ⟨⟨x1, x2, x3, x4, x5, x6, x7, x8⟩, y1, y2, y3, y4, y5, y6, y7, y8, y9, y10⟩ := hG
  have g : ∀ a, a ≠ 63 → (a < 76 ∨ 82 < a) → ν6 a = μ4 a := fun a q1 q2 => by rw [y1 a q1 q2, wr_nr q1]
  have gg : ∀ a, a ≠ 63 → (a < 76 ∨ 82 < a) → a ≠ 1 → a ≠ 19 → a ≠ 22 → a ≠ 23 → (a < 35 ∨ 46 < a) → ν6 a = μ a := fun a q1 q2 q3 q4 q5 q6 q7 => by rw [g a q1 q2, x1 a q3 q4 q5 q6 q7]
  have c : ∀ j, 8 < j → (j < 35 ∨ 40 < j) → ν6 63 j = μ 63 j := fun j q1 q2 => by rw [y2 j q1 q2, wr_ap, if_pos rfl, if_neg (by omega), x1 63 (by decide) (by decide) (by decide) (by decide) (by decide)]
  have e80 : (wr μ4 63 0 0) 80 = μ 80 := by rw [wr_nr (by decide), x1 80 (by decide) (by decide) (by decide) (by decide) (by decide)]
  have e82 : (wr μ4 63 0 0) 82 = μ 82 := by rw [wr_nr (by decide), x1 82 (by decide) (by decide) (by decide) (by decide) (by decide)]
  rw [e80, e82] at y7
  refine inv_c (K := K) (O := O) (nl := nl) (nb := nb) (n := m + 1) (m := q) hC hM (fun a h1 h2 => gg a (by omega) (by omega) (by omega) (by omega) (by omega) (by omega) (by omega)) (fun a h1 h2 => gg a (by omega) (by omega) (by omega) (by omega) (by omega) (by omega) (by omega)) (fun j h1 h2 => c j (by omega) (by omega)) y8 (y9.fr (fun a h1 h2 => g a (by omega) (by omega))) (hX.fr (by rw [g 19 (by decide) (by decide)]; exact x2) (gg 20 (by decide) (by decide) (by decide) (by decide) (by decide) (by decide) (by decide)) (gg 21 (by decide) (by decide) (by decide) (by decide) (by decide) (by decide) (by decide))) (hL.fr (c 31 (by decide) (by decide)) (gg 74 (by decide) (by decide) (by decide) (by decide) (by decide) (by decide) (by decide)) (gg 75 (by decide) (by decide) (by decide) (by decide) (by decide) (by decide) (by decide)))
    (hB.fr (gg 29 (by decide) (by decide) (by decide) (by decide) (by decide) (by decide) (by decide)) (gg 30 (by decide) (by decide) (by decide) (by decide) (by decide) (by decide) (by decide)) (gg 31 (by decide) (by decide) (by decide) (by decide) (by decide) (by decide) (by decide)) (gg 84 (by decide) (by decide) (by decide) (by decide) (by decide) (by decide) (by decide)) (c 46 (by decide) (by decide))) (TP.nil (by rw [g 1 (by decide) (by decide)]; exact x3) y4 (by rw [g 1 (by decide) (by decide), x4, y5])) ⟨by omega, by rw [g 45 (by decide) (by decide)]; exact x5, y6, fun i hi => ?_⟩ (hi.fr (by rw [g 45 (by decide) (by decide)]; exact x6) (c 50 (by decide) (by decide)) (gg 47 (by decide) (by decide) (by decide) (by decide) (by decide) (by decide) (by decide)) (gg 48 (by decide) (by decide) (by decide) (by decide) (by decide) (by decide) (by decide)) (gg 86 (by decide) (by decide) (by decide) (by decide) (by decide) (by decide) (by decide))) (by rw [g 41 (by decide) (by decide)]; exact y10) ?_ ?_
  · rw [g 46 (by decide) (by decide)]
    by_cases e : i = m
    · subst e
      have q8 : ∀ j, j < 49 → ν6 82 (49 * i + j) = μ 80 j := fun j hj => by rw [y7, if_pos (by omega)]; congr 1; omega
      exact ⟨hS.cg hW hT hP q8, x8.cg hW hT hP q8 (fun _ _ => rfl)⟩
    · obtain ⟨o1, o2⟩ := s4 i (by omega)
      have q8 : ∀ j, j < 49 → ν6 82 (49 * i + j) = μ 82 (49 * i + j) := fun j hj => by rw [y7, if_neg (by omega)]
      exact ⟨o1.cg hW hT hP q8, o2.cg hW hT hP q8 (fun j hj => x7 _ (by omega))⟩
  · rw [gg 0 (by decide) (by decide) (by decide) (by decide) (by decide) (by decide) (by decide), gg 64 (by decide) (by decide) (by decide) (by decide) (by decide) (by decide) (by decide)]; exact h13
  · rw [gg 0 (by decide) (by decide) (by decide) (by decide) (by decide) (by decide) (by decide), gg 64 (by decide) (by decide) (by decide) (by decide) (by decide) (by decide) (by decide)]; exact h14
theorem op_work {N : Nat} {μ : sw_M} (hN : 5000 ≤ N) (hI : Inv μ) (a1 : Int32) : OpI (f_x_work N μ a1) (fun μ1 => f_m_work N μ1 a1) := by
  obtain ⟨F, W, T, P, K, O, nl, nb, m, qi, hQ, ⟨h, h6, t3, t2, tb, t8⟩, hs, him, hrf, h13, h14⟩ := id hI
  have z1 : ∀ i, (wr (xr μ i) 63 0 0) 63 0 = 0 := fun _ => rfl
  have e150 : (150 : Int32) = ic 150 := rfl
  rcases tx_dec a1 h6 (most := 150) (by decide) with ⟨n, hn, hn2, rfl⟩ | hno
  rotate_left
  · right
    refine ⟨xr μ 1, 0, mr (xr μ 1) 1 1, ?_, ?_, rfl, hI.rr (by decide) 1⟩
    · unfold f_x_work
      rw [e150, tx_0 h6 (by decide) t3 hno, tb_r]
    · show f_m_work N (xr μ 1) a1 = _
      have t2' : (wr (xr μ 1) 63 0 0) 63 2 = ic h := t2
      have e28 : f_m_work_29 N (wr (xr μ 1) 63 0 0) a1 = some (0, mr (xr μ 1) 1 1) := by
        unfold f_m_work_29 f_m_work_30
        rw [may_i (by decide) (z1 1), ob_e, if_pos rfl]; rfl
      unfold f_m_work
      rw [wb_e, t2', e28]
      by_cases q1 : a1 < 0
      · rw [if_pos q1]
      · rw [if_neg q1]
        by_cases q2 : ic h < a1
        · rw [if_pos q2]
        · rw [if_neg q2, if_pos (by rw [e150]; grind)]
  left
  obtain ⟨s1, s2, s3, s4⟩ := id hs
  have hb0 : ∀ i, i < n → μ 65 i = ic (byt μ h i) := fun i hi => by
    obtain ⟨-, v, hv, e⟩ := tb i (by omega)
    unfold byt; rw [if_pos (by omega), e, ic_n (by omega)]
  have hm0 : ∀ (μf ν1 : sw_M), μf 63 2 = ic h → f_m_begins N (wr μf 63 0 0) (ic n) = some ν1 → f_m_work N μf (ic n) = if ν1 63 36 = 16 then Option.bind (f_m_result N ν1 0) (fun r6 => some ((-20), r6.2)) else f_m_work_68 N N (wr ν1 63 35 0) := by
    intro μf ν1 hf hbg
    have t2' : (wr μf 63 0 0) 63 2 = ic h := hf
    unfold f_m_work f_m_work_30
    rw [wb_e, t2', if_neg (by rw [ic_lt0 (by omega)]; exact id), if_neg (by rw [ic_lt (by omega) (by omega)]; omega), if_neg (show ¬ (150 : Int32) < ic n by rw [lit_lt (by decide) (by omega)]; show ¬ 150 < n; omega), may_1 (by decide) rfl, ob_e, if_neg o1]
    simp only
    rw [hbg, ob_e]; rfl
  by_cases hm : m < 16
  rotate_left
  · have hm16 : m = 16 := by omega
    subst hm16
    obtain ⟨μ1, hμ1⟩ : ∃ y : sw_M, y = wr (wr (wr μ 1 3 0) 1 7 0) 1 8 (-1) := ⟨_, rfl⟩
    have fr1 : ∀ a, a ≠ 1 → μ1 a = μ a := fun a q => by rw [hμ1, wr_nr q, wr_nr q, wr_nr q]
    have hb3 : ∀ i, i < n → (wr μ1 63 0 0) 65 i = ic (byt μ h i) := fun i hi => by show μ1 65 i = _; rw [fr1 65 (by decide)]; exact hb0 i hi
    obtain ⟨ν1, b1, b2, b3, b4, b5, b6, b7⟩ := begins_e (N := N) (ν := wr μ1 63 0 0) (B := byt μ h) (n := n) (by omega) hb3
    have n63 : ∀ j, (j < 2 ∨ 8 < j) → j ≠ 0 → ν1 63 j = μ 63 j := fun j q q2 => by rw [b4 j q, wr_ap, if_pos rfl, if_neg q2, fr1 63 (by decide)]
    have h5 : ν1 63 5 = -1 := b2.2.2.2.2
    refine ⟨-20, μ1, wr ν1 63 8 (-1), ?_, ?_, ?_, ?_⟩
    · unfold f_x_work f_tape_drop
      rw [e150, tx_1 h6 (by decide) t3 hn hn2, tb_l, s2, if_neg (by decide), wb_e, wb_e, wb_e, ob_e, hμ1]
    · show f_m_work N μ1 (ic n) = _
      rw [hm0 μ1 ν1 (by rw [fr1 63 (by decide)]; exact t2) b1, if_pos (show ν1 63 36 = 16 from (n63 36 (by decide) (by decide)).trans s3)]
      unfold f_m_result
      rw [h5, wb_e, fine_1 (show (wr ν1 63 8 (-1)) 63 5 = -1 from h5), ob_e, if_neg o1, ob_e]
    · show ν1 63 0 = 0; rw [b4 0 (by decide)]; rfl
    · have nfr : ∀ a, a ≠ 63 → (wr ν1 63 8 (-1)) a = μ1 a := fun a q => by rw [wr_nr q, b3 a q, wr_nr q]
      refine inv_fail hI (fun a ha => ?_) (fun j hj => ?_) ?_ ?_ ?_ ?_
      · unfold FR at ha
        rw [nfr a (by omega), fr1 a (by omega)]
      · rw [wr_ap, if_pos rfl, if_neg (by omega), n63 j (by omega) (by omega)]
      · rw [nfr 41 (by decide), fr1 41 (by decide)]
      · rw [nfr 1 (by decide), hμ1]; rfl
      · exact b5
      · rw [nfr 1 (by decide), hμ1]; rfl
  obtain ⟨hBy, μ1, o1e, hA, fr1, p3, p8⟩ := open_e (μ := μ) hN h6 hn tb
  have hx0 : f_x_work N μ (ic n) = Option.bind (f_work_read N μ1) (fun r5 => if r5.1 = 0 then some (.inl ((r5.2 1 7) - 10, r5.2)) else Option.bind (f_shelf_keep N r5.2) (fun r7 => Option.bind (f_work_run N r7) (fun r9 => some (.inl (r9 41 7, r9))))) := by
    unfold f_x_work
    rw [e150, tx_1 h6 (by decide) t3 hn hn2, tb_l, s2, if_pos (by rw [lt_lit (by decide) (by omega)]; exact hm), o1e, ob_e]
  have n16 : ¬ ic m = 16 := by rw [eq_lit (by decide) (by omega)]; show ¬ m = 16; omega
  obtain ⟨_, _, _, hsim⟩ := work_go (ν := μ) hN hBy hn2 hQ hs hm hA fr1 p3 p8 (fun _ _ => rfl) (fun _ _ => rfl) hb0
  rcases hsim with ⟨μ2, μ3, μ4, _, r1, k1, w1, _, ⟨⟨x1, -⟩, -⟩⟩ | ⟨μ2, _, r1, _, _, xk, _⟩
  · obtain ⟨ν1, hbg, h36, hsim⟩ := work_go (ν := wr μ4 63 0 0) hN hBy hn2 hQ hs hm hA fr1 p3 p8 (fun a q => by rw [wr_nr (by omega), x1 a (by omega) (by omega) (by omega) (by omega) (by omega)]) (fun j q => by rw [wr_ap, if_pos rfl, if_neg q, x1 63 (by decide) (by decide) (by decide) (by decide) (by decide)]) (fun i hi => by rw [wr_nr (by decide), x1 65 (by decide) (by decide) (by decide) (by decide) (by decide)]; exact hb0 i hi)
    rcases hsim with ⟨μ2', μ3', μ4', ν6, r1', k1', w1', m1, hG⟩ | ⟨μ2', _, r1', _⟩
    rotate_left
    · rw [r1] at r1'; exact absurd (congrArg (fun o => o.map Prod.fst) r1') (by simp)
    have he : μ2' = μ2 := (congrArg Prod.snd (Option.some.inj (r1.symm.trans r1'))).symm
    subst he
    have he : μ3' = μ3 := Option.some.inj (k1'.symm.trans k1)
    subst he
    have he : μ4' = μ4 := Option.some.inj (w1'.symm.trans w1)
    subst he
    refine ⟨μ4' 41 7, μ4', ν6, ?_, ?_, ?_, work_inv hQ hs hm him h13 h14 hG⟩
    · rw [hx0, r1, ob_e, if_neg (show ¬ (1 : Int32) = 0 by decide)]
      simp only
      rw [k1, ob_e, w1, ob_e]
    · show f_m_work N μ4' (ic n) = _
      rw [hm0 μ4' ν1 (by rw [x1 63 (by decide) (by decide) (by decide) (by decide) (by decide)]; exact t2) hbg, h36, if_neg n16, m1]
    · rw [hG.2.2.2.1]; rfl
  · have fr2 : ∀ a, a ≠ 1 → (a < 41 ∨ 44 < a) → μ2 a = μ a := fun a q1 q2 => by rw [xk.1 a q1 q2, fr1 a q1]
    obtain ⟨ν1, hbg, h36, hsim⟩ := work_go (ν := wr μ2 63 0 0) hN hBy hn2 hQ hs hm hA fr1 p3 p8 (fun a q => by rw [wr_nr (by omega), fr2 a (by omega) (by omega)]) (fun j q => by rw [wr_ap, if_pos rfl, if_neg q, fr2 63 (by decide) (by decide)]) (fun i hi => by rw [wr_nr (by decide), fr2 65 (by decide) (by decide)]; exact hb0 i hi)
    rcases hsim with ⟨μ2', _, _, _, r1', _⟩ | ⟨μ2', ν4, r1', m1, hbd, -, nf, nc, n2⟩
    · rw [r1] at r1'; exact absurd (congrArg (fun o => o.map Prod.fst) r1') (by simp)
    have he : μ2' = μ2 := (congrArg Prod.snd (Option.some.inj (r1.symm.trans r1'))).symm
    subst he
    have hnf := hbd.nf
    have hres : f_m_work_89 N ν4 = some (ν4 63 6 - 10, wr ν4 63 8 (ν4 63 5)) := by
      unfold f_m_work_89 f_m_result
      rw [wb_e, fine_0 (show ¬ (wr ν4 63 8 (ν4 63 5)) 63 5 = -1 from hnf), ob_e, if_pos rfl, ob_e]
      simp only
      rw [if_neg (show ¬ (wr ν4 63 8 (ν4 63 5)) 63 5 = -1 from hnf)]; rfl
    obtain ⟨k, p, hp, hk, d7, d8, d5, d6⟩ := hbd
    refine ⟨ν4 63 6 - 10, μ2', wr ν4 63 8 (ν4 63 5), ?_, ?_, ?_, ?_⟩
    · rw [hx0, r1, ob_e, if_pos rfl]
      simp only
      rw [d7, d6]
    · show f_m_work N μ2' (ic n) = _
      rw [hm0 μ2' ν1 (by rw [fr2 63 (by decide) (by decide)]; exact t2) hbg, h36, if_neg n16, m1, hres]
    · show ν4 63 0 = 0; rw [nc 0 (by decide) (by decide)]; rfl
    · have nfr : ∀ a, a ≠ 63 → a ≠ 78 → (wr ν4 63 8 (ν4 63 5)) a = μ2' a := fun a q1 q2 => by rw [wr_nr q1, nf a q1 q2, wr_nr q1]
      refine inv_fail hI (fun a ha => ?_) (fun j hj => ?_) ?_ ?_ ?_ ?_
      · unfold FR at ha
        rw [nfr a (by omega) (by omega), fr2 a (by omega) (by omega)]
      · rw [wr_ap, if_pos rfl, if_neg (by omega), nc j (by omega) (by omega), wr_ap, if_pos rfl, if_neg (by omega), fr2 63 (by decide) (by decide)]
      · rw [nfr 41 (by decide) (by decide), xk.2.2 8 (by decide), fr1 41 (by decide)]
      · rw [nfr 1 (by decide) (by decide), xk.2.1, p3]
      · exact n2
      · rw [nfr 1 (by decide) (by decide)]; show _ = ν4 63 5; rw [d8, d5]
