/-! ===== work: keeping the days, and the run on both sides ===== -/
def mRun (N : Nat) (μ : sw_M) : Option (Int32 × sw_M) :=
  wb (wr μ 63 36 ((μ 63 36) + 1)) (fun μ1 => Option.bind (f_m_take N μ1) (fun r2 => wb (wr r2 63 38 0) (fun μ4 => wb (wr μ4 63 39 0) (fun μ5 => wb (wr μ5 63 40 0) (fun μ6 => Option.bind (f_m_goesSteps N μ6 0 (μ6 63 35)) (fun r7 => Option.bind (f_m_copies N 81 49 80 49 r7 49) (fun r9 => wb (wr r9 63 37 (r9 63 40)) (fun μ11 => some (μ11 63 39, μ11)))))))))
theorem lp_wkeep {N : Nat} {w : Nat} (hw : w < 16) : ∀ (j k : Nat) (ν : sw_M) (n : Nat), k + j = 49 → j < n → ν 63 36 = ic w → f_m_work_123 N n ν (ic k) = mRun N (wrR ν 82 (fun i => if 49 * w + k ≤ i ∧ i < 49 * w + 49 then ν 80 (i - 49 * w) else ν 82 i))
  | 0, k, ν, n, hk, hn, h => by
    obtain ⟨n, rfl⟩ := fu_s hn
    rw [f_m_work_123, if_pos (by rw [lit_le (by decide) (by omega)]; show 49 ≤ k; omega), show (fun i => if 49 * w + k ≤ i ∧ i < 49 * w + 49 then ν 80 (i - 49 * w) else ν 82 i) = ν 82 by funext i; rw [if_neg (by omega)], wrR_self]; rfl
  | j + 1, k, ν, n, hk, hn, h => by
    obtain ⟨n, rfl⟩ := fu_s (show 0 < n by omega)
    have ih := lp_wkeep (N := N) hw j (k + 1) (wr ν 82 (49 * w + k) (ν 80 k)) n (by omega) (by omega) h
    rw [f_m_work_123, if_neg (by rw [lit_le (by decide) (by omega)]; show ¬ 49 ≤ k; omega), inb_e (by omega) (by decide), h, lit_mul, ic_add, inb_e (by omega) (by decide), ic_n (by omega), ic_n (by omega), wb_e, ic_1, ih, wr_up ν 82, wrR_wrR, wrR_r, wrR_nr (show 80 ≠ 82 by decide)]
    congr 2
    funext i
    by_cases e : i = 49 * w + k
    · subst e; rw [if_neg (by omega), up_s, if_pos (by omega)]; congr 1; omega
    · rw [up_n e]
      by_cases e3 : 49 * w + k ≤ i ∧ i < 49 * w + 49
      · rw [if_pos e3, if_pos (by omega)]
      · rw [if_neg e3, if_neg (by omega)]
theorem OKS.cg {F W T P : Nat} {S S' : Nat → Int32} (hW : W ≤ 12) (hT : T ≤ 6) (hP : P ≤ 5) (h : OKS F W T P S) (e : ∀ i, i < 49 → S' i = S i) : OKS F W T P S' := by
  obtain ⟨h1, x, hx, h2⟩ := h
  exact ⟨h1.cg hW hT hP e, x, hx, by rw [e 48 (by decide)]; exact h2⟩
theorem run_all {N : Nat} {c μ ν : sw_M} {F W T P : Nat} {K O : Nat → Int32} {nl n w : Nat} (hN : 5000 ≤ N) (hC : CW c F W T P) (hX : XR μ c) (hM : MR ν c F W T P) (hL : XL μ K O nl) (hL2 : ML ν K O nl) (hS : OKS F W T P (ν 80)) (hD : DR μ 35 W T P (ν 80)) (hQ : WQ μ ν W T P n) (hE : WE μ ν 0 0 n) (hn : 4 * n ≤ 150) (h5 : ν 63 5 = -1) (h36 : ν 63 36 = ic w) (hw : w < 16) :
    ∃ μ' ν', f_work_run N μ = some μ' ∧ f_m_work_89 N ν = some (μ' 41 7, ν') ∧ XU μ μ' ∧ (∀ a, a ≠ 63 → (a < 76 ∨ 82 < a) → ν' a = ν a) ∧ (∀ j, j ≠ 8 → (j < 36 ∨ 40 < j) → ν' 63 j = ν 63 j) ∧ ν' 63 8 = -1 ∧ ν' 63 36 = ic (w + 1) ∧ (∀ i, ν' 82 i = if 49 * w ≤ i ∧ i < 49 * w + 49 then ν 80 (i - 49 * w) else ν 82 i) ∧ OKS F W T P (ν' 80) ∧ DR μ' 35 W T P (ν' 80) ∧ μ' 41 8 = ν' 63 37 := by
  have hW := hC.w12; have hT := hC.t6; have hP := hC.p5
  obtain ⟨μ6, hμ6⟩ : ∃ y : sw_M, y = wr (wr (wr μ 41 6 0) 41 7 0) 41 8 0 := ⟨_, rfl⟩
  have xu6 : XU μ μ6 := by rw [hμ6]; exact (((XU.rf μ).w 6 _ (by decide)).w 7 _ (by decide)).w 8 _ (by decide)
  obtain ⟨ν1, hν1⟩ : ∃ y : sw_M, y = wr ν 63 8 (-1) := ⟨_, rfl⟩
  obtain ⟨ν2, hν2⟩ : ∃ y : sw_M, y = wrR ν1 79 (fun i => if i < 3 * n then ν1 78 i else ν1 79 i) := ⟨_, rfl⟩
  obtain ⟨ν3, hν3⟩ : ∃ y : sw_M, y = wrR ν2 82 (fun i => if 49 * w + 0 ≤ i ∧ i < 49 * w + 49 then ν2 80 (i - 49 * w) else ν2 82 i) := ⟨_, rfl⟩
  obtain ⟨ν4, hν4⟩ : ∃ y : sw_M, y = wr ν3 63 36 (ic (w + 1)) := ⟨_, rfl⟩
  obtain ⟨ν5, hν5⟩ : ∃ y : sw_M, y = wrR ν4 81 (tkS ν4) := ⟨_, rfl⟩
  obtain ⟨ν6, hν6⟩ : ∃ y : sw_M, y = wr (wr (wr ν5 63 38 0) 63 39 0) 63 40 0 := ⟨_, rfl⟩
  have q36 : ν2 63 36 = ic w := by rw [hν2, hν1]; exact h36
  have q36' : ν3 63 36 = ic w := by rw [hν3]; exact q36
  have q35 : ν1 63 35 = ic (3 * n) := by rw [hν1]; exact hQ.2.1
  have f6 : ∀ a, a ≠ 63 → a ≠ 79 → a ≠ 81 → a ≠ 82 → ν6 a = ν a := fun a k1 k2 k3 k4 => by
    rw [hν6, wr_nr k1, wr_nr k1, wr_nr k1, hν5, wrR_nr k3, hν4, wr_nr k1, hν3, wrR_nr k4, hν2, wrR_nr k2, hν1, wr_nr k1]
  have s6 : ∀ j, j ≠ 8 → (j < 36 ∨ 40 < j) → ν6 63 j = ν 63 j := fun j k1 k2 => by
    rw [hν6, wr_ap, if_pos rfl, if_neg (by omega), wr_ap, if_pos rfl, if_neg (by omega), wr_ap, if_pos rfl, if_neg (by omega), hν5, wrR_nr (by decide), hν4, wr_ap, if_pos rfl, if_neg (by omega), hν3, wrR_nr (by decide), hν2, wrR_nr (by decide), hν1, wr_ap, if_pos rfl, if_neg (by omega)]
  have r79 : ∀ i, i < 3 * n → ν6 79 i = ν 78 i := fun i hi => by
    rw [hν6, wr_nr (by decide), wr_nr (by decide), wr_nr (by decide), hν5, wrR_nr (by decide), hν4, wr_nr (by decide), hν3, wrR_nr (by decide), hν2, wrR_r, if_pos hi, hν1]; rfl
  have r82 : ∀ i, ν6 82 i = if 49 * w ≤ i ∧ i < 49 * w + 49 then ν 80 (i - 49 * w) else ν 82 i := fun i => by
    rw [hν6, wr_nr (by decide), wr_nr (by decide), wr_nr (by decide), hν5, wrR_nr (by decide), hν4, wr_nr (by decide), hν3, wrR_r, hν2, wrR_nr (by decide), wrR_nr (by decide), hν1, wr_nr (by decide), wr_nr (by decide)]; rfl
  have r81 : ∀ i, i < 49 → ν6 81 i = ν 80 i := fun i hi => by
    rw [hν6, wr_nr (by decide), wr_nr (by decide), wr_nr (by decide), hν5, wrR_r]
    unfold tkS
    rw [if_pos hi, hν4, wr_nr (by decide), hν3, wrR_nr (by decide), hν2, wrR_nr (by decide), hν1, wr_nr (by decide)]
  have c36 : ν6 63 36 = ic (w + 1) := by rw [hν6, hν5, hν4]; rfl
  have c8 : ν6 63 8 = -1 := by rw [hν6, hν5, hν4, hν3, hν2, hν1]; rfl
  have hRS : RS c μ6 ν6 F W T P K O nl n := by
    have q : ∀ a, a ≠ 41 → μ6 a = μ a := fun a k => by rw [hμ6, wr_nr k, wr_nr k, wr_nr k]
    refine ⟨?_, hM.fr (fun j k1 k2 => s6 j (by omega) (by omega)) (f6 69 (by decide) (by decide) (by decide) (by decide)) (f6 70 (by decide) (by decide) (by decide) (by decide)) (f6 71 (by decide) (by decide) (by decide) (by decide)), hL.fr (by rw [q 19 (by decide)]) (q 20 (by decide)) (q 21 (by decide)), hL2.fr (s6 31 (by decide) (by decide)) (f6 74 (by decide) (by decide) (by decide) (by decide)) (f6 75 (by decide) (by decide) (by decide) (by decide)), hQ.fr (by rw [hμ6]; rfl) (q 42 (by decide)) (q 43 (by decide)) (q 44 (by decide)) (s6 35 (by decide) (by decide)) (f6 78 (by decide) (by decide) (by decide) (by decide)), fun i hi => by rw [r79 i hi, f6 78 (by decide) (by decide) (by decide) (by decide)]⟩
    unfold XR at hX ⊢
    rw [q 3 (by decide), q 4 (by decide), q 5 (by decide), q 6 (by decide), q 7 (by decide), q 8 (by decide), q 9 (by decide), q 10 (by decide)]; exact hX
  have hRC : RC μ6 ν6 F W T P 0 := by
    refine ⟨hS.cg hW hT hP r81, ?_, by rw [hμ6]; rfl, by rw [hν6]; rfl, by decide, by rw [hμ6, hν6]; rfl, by rw [hμ6, hν6]; rfl⟩
    refine DR.cg hW hT hP (hD.fr (fun a k1 k2 => ?_)) r81
    rw [hμ6, wr_nr (by omega), wr_nr (by omega), wr_nr (by omega)]
  have hE6 : WE μ6 ν6 0 0 n := hE.cg (fun i _ _ => ⟨by rw [hμ6]; rfl, by rw [hμ6]; rfl, by rw [f6 78 (by decide) (by decide) (by decide) (by decide)]⟩)
  obtain ⟨μ7, ν7, g7, a1, a2, a3, a4, a5⟩ := run_rp (K := K) (O := O) (nl := nl) (n := n) hN hC (by omega) 6 0 40 40 (by omega) (by omega) (by omega) μ6 ν6 0 n 0 hE6 (Nat.le_refl n) hRS hRC
  obtain ⟨p1, p2, p3, p4, p5, p6, p7⟩ := a5
  obtain ⟨ν8, hν8⟩ : ∃ y : sw_M, y = wrR ν7 80 (fun i => if i < 49 then ν7 81 i else ν7 80 i) := ⟨_, rfl⟩
  have r80 : ∀ i, i < 49 → (wr ν8 63 37 (ν8 63 40)) 80 i = ν7 81 i := fun i hi => by rw [wr_nr (by decide), hν8, wrR_r, if_pos hi]
  have e39 : (wr ν8 63 37 (ν8 63 40)) 63 39 = μ7 41 7 := by rw [hν8]; exact p6.symm
  refine ⟨μ7, wr ν8 63 37 (ν8 63 40), ?_, ?_, xu6.tr a3, fun a k1 k2 => ?_, fun j k1 k2 => ?_, ?_, ?_, fun i => ?_, p1.cg hW hT hP r80, p2.cg hW hT hP r80, ?_⟩
  · unfold f_work_run
    rw [wb_e, wb_e, wb_e, ← hμ6, show μ6 41 5 = ic n from hRS.2.2.2.2.1.1, show f_work_runSteps N μ6 0 (ic n) 0 = some μ7 from a1, ob_e]
  · have t6 : f_m_goesSteps N ν6 0 (ic (3 * n)) = some ν7 := a2
    have c1 : f_m_copies N 78 150 79 150 ν1 (ic (3 * n)) = some ν2 := by rw [hν2]; exact e_m_copies (m := 3 * n) hN (by decide) (by omega) (by omega) (by decide) (by decide) (by omega) ν1
    have c2 : f_m_copies N 81 49 80 49 ν7 49 = some ν8 := by rw [hν8]; exact e_m_copies (m := 49) hN (by decide) (by omega) (by omega) (by decide) (by decide) (by omega) ν7
    have k1 := lp_wkeep (N := N) hw 49 0 ν2 N (by omega) (by omega) q36
    rw [← hν3] at k1
    have t4 : f_m_take N ν4 = some ν5 := by rw [hν5]; exact e_m_take hN ν4
    unfold f_m_work_89 f_m_result
    rw [h5, wb_e, ← hν1, fine_1 (show ν1 63 5 = -1 by rw [hν1]; exact h5), ob_e, if_neg o1, ob_e]
    simp only
    rw [if_pos (show ν1 63 5 = -1 by rw [hν1]; exact h5), q35, c1, ob_e, show f_m_work_123 N N ν2 0 = mRun N ν3 from k1]
    unfold mRun
    rw [q36', ic_1, wb_e, ← hν4, t4, ob_e, wb_e, wb_e, wb_e, ← hν6, show ν6 63 35 = ic (3 * n) from hRS.2.2.2.2.1.2.1, t6, ob_e, c2, ob_e, wb_e, e39]
  · rw [wr_nr k1, hν8, wrR_nr (by omega), a4.1 a k1 (by omega) (by omega) (by omega), f6 a k1 (by omega) (by omega) (by omega)]
  · rw [wr_ap, if_pos rfl, if_neg (by omega), hν8, wrR_nr (by decide), a4.2 j (by omega), s6 j k1 k2]
  · show ν8 63 8 = -1
    rw [hν8, wrR_nr (by decide), a4.2 8 (by decide), c8]
  · show ν8 63 36 = _
    rw [hν8, wrR_nr (by decide), a4.2 36 (by decide), c36]
  · rw [wr_nr (by decide), hν8, wrR_nr (by decide), a4.1 82 (by decide) (by decide) (by decide) (by decide), r82]
  · show μ7 41 8 = ν8 63 40
    rw [hν8]; exact p7
