/-! ===== law, as a call ===== -/
theorem LQ.wl {μ ν : sw_M} {n : Nat} (h : LQ μ ν n 1) (hn : n ≤ 150) : WL (ν 72) (ν 73) n := ⟨hn, h.2.2.2.1, h.2.2.2.2⟩
theorem wl_cg {K K' O O' : Nat → Int32} {n : Nat} (h : WL K O n) (a : ∀ i, i < n → K' i = K i) (b : ∀ i, i < n → O' i = O i) : WL K' O' n := by
  have hd : ∀ k, k ≤ n → dep K' k = dep K k := fun k hk => dep_cg k (fun i hi => a i (by omega))
  refine ⟨h.1, by rw [hd n (by omega)]; exact h.2.1, fun k hk => ?_⟩
  rw [hd k (by omega), a k hk, b k hk]; exact h.2.2 k hk
theorem law_inv {N : Nat} {μ μ2 μ3 ν4 : sw_M} {n : Nat} (hN : 5000 ≤ N) (hI : Inv μ) (hQ : LQ μ2 ν4 n 1) (hn : n ≤ 150) (h5 : ν4 63 5 = -1)
    (d194 : μ3 19 4 = μ2 24 4) (d20 : ∀ i, i < 150 → μ3 20 i = μ2 25 i) (d21 : ∀ i, i < 150 → μ3 21 i = μ2 26 i)
    (fr : ∀ a, (a = 0 ∨ (2 ≤ a ∧ a < 19) ∨ (28 < a ∧ a ≤ 62)) → μ3 a = μ a) (x13 : μ3 1 3 = 0) (x18 : μ3 1 8 = -1)
    (nf : ∀ a, a ≤ 62 → ν4 a = μ3 a) (nf2 : ∀ a, 63 < a → a ≠ 72 → a ≠ 73 → ν4 a = μ a) (n63 : ∀ j, 8 < j → j ≠ 30 → ν4 63 j = μ 63 j) (b2' : ν4 63 2 = 0) :
    ∃ ν6, f_m_law_77 N ν4 = some (1, ν6) ∧ ν6 63 0 = ν4 63 0 ∧ Inv ν6 := by
  obtain ⟨F, W, T, P, K, O, nl, nb, n0, m0, ⟨hC, hM, hS, hD, hX, hL, hB⟩, -, hs, hm, hrf, h13, h14⟩ := hI
  obtain ⟨A, hA⟩ : ∃ y : sw_M, y = wr (wr ν4 63 8 (-1)) 63 31 (ic n) := ⟨_, rfl⟩
  obtain ⟨A1, hA1⟩ : ∃ y : sw_M, y = wrR A 74 (fun i => if i < n then A 72 i else A 74 i) := ⟨_, rfl⟩
  obtain ⟨A2, hA2⟩ : ∃ y : sw_M, y = wrR A1 75 (fun i => if i < n then A1 73 i else A1 75 i) := ⟨_, rfl⟩
  have q30 : A 63 30 = ic n := by rw [hA]; exact hQ.2.1
  have q30' : A1 63 30 = ic n := by rw [hA1]; exact q30
  have c1 : f_m_copies N 72 150 74 150 A (ic n) = some A1 := by rw [hA1]; exact e_m_copies (m := n) hN (by decide) hn hn (by decide) (by decide) (by omega) A
  have c2 : f_m_copies N 73 150 75 150 A1 (ic n) = some A2 := by rw [hA2]; exact e_m_copies (m := n) hN (by decide) hn hn (by decide) (by decide) (by omega) A1
  have fA : ∀ a, a ≠ 63 → a ≠ 74 → a ≠ 75 → A2 a = ν4 a := fun a q1 q2 q3 => by rw [hA2, wrR_nr q3, hA1, wrR_nr q2, hA, wr_nr q1, wr_nr q1]
  have f63 : ∀ j, j ≠ 8 → j ≠ 31 → A2 63 j = ν4 63 j := fun j q1 q2 => by rw [hA2, wrR_nr (by decide), hA1, wrR_nr (by decide), hA, wr_ap, if_pos rfl, if_neg q2, wr_ap, if_pos rfl, if_neg q1]
  have k74 : ∀ i, i < n → A2 74 i = ν4 72 i := fun i hi => by rw [hA2, wrR_nr (by decide), hA1, wrR_r, if_pos hi, hA]; rfl
  have k75 : ∀ i, i < n → A2 75 i = ν4 73 i := fun i hi => by rw [hA2, wrR_r, if_pos hi, hA1, wrR_nr (by decide), hA]; rfl
  have z31 : A2 63 31 = ic n := by rw [hA2, hA1, hA]; rfl
  have z8 : A2 63 8 = -1 := by rw [hA2, hA1, hA]; rfl
  have hwl := hQ.wl hn
  obtain ⟨l1, l2, l3, l4, l5⟩ := hQ
  have g : ∀ a, (a = 0 ∨ (2 ≤ a ∧ a < 19) ∨ (28 < a ∧ a ≤ 62)) → A2 a = μ a := fun a q => by rw [fA a (by omega) (by omega) (by omega), nf a (by omega), fr a q]
  have g2 : ∀ a, 63 < a → a ≠ 72 → a ≠ 73 → a ≠ 74 → a ≠ 75 → A2 a = μ a := fun a q1 q2 q3 q4 q5 => by rw [fA a (by omega) q4 q5, nf2 a q1 q2 q3]
  have g63 : ∀ j, 8 < j → j ≠ 30 → j ≠ 31 → A2 63 j = μ 63 j := fun j q1 q2 q3 => by rw [f63 j (by omega) q3, n63 j q1 q2]
  refine ⟨A2, ?_, f63 0 (by decide) (by decide), ?_⟩
  · unfold f_m_law_77 f_m_result
    rw [h5, wb_e, fine_1 (show (wr ν4 63 8 (-1)) 63 5 = -1 from h5), ob_e, if_neg o1, ob_e]
    simp only
    rw [if_pos (show (wr ν4 63 8 (-1)) 63 5 = -1 from h5), wb_e, show (wr ν4 63 8 (-1)) 63 30 = ic n from l2, ← hA, q30, c1, ob_e, q30', c2, ob_e]
  · refine inv_c (K := ν4 72) (O := ν4 73) (nl := n) (nb := nb) (n := n0) (m := m0) hC hM (fun a h1 h2 => g a (by omega)) (fun a h1 h2 => g2 a (by omega) (by omega) (by omega) (by omega) (by omega)) (fun j h1 h2 => g63 j (by omega) (by omega) (by omega)) (hS.fr (g2 80 (by omega) (by omega) (by omega) (by omega) (by omega))) ?_ ⟨hwl, ?_, fun i hi => ?_⟩ ⟨hwl, Or.inl ⟨z31, fun i hi => ⟨k74 i hi, k75 i hi⟩⟩⟩ (hB.fr (g 29 (by omega)) (g 30 (by omega)) (g 31 (by omega)) (g2 84 (by omega) (by omega) (by omega) (by omega) (by omega)) (g63 46 (by omega) (by omega) (by omega))) (TP.nil ?_ ?_ ?_) (hs.fr (by rw [g 45 (by omega)]) (g63 36 (by omega) (by omega) (by omega)) (g 46 (by omega)) (g2 82 (by omega) (by omega) (by omega) (by omega) (by omega))) (hm.fr (by rw [g 45 (by omega)]) (g63 50 (by omega) (by omega) (by omega)) (g 47 (by omega)) (g 48 (by omega)) (g2 86 (by omega) (by omega) (by omega) (by omega) (by omega))) ?_ ?_ ?_
    · rw [g2 80 (by omega) (by omega) (by omega) (by omega) (by omega)]; exact hD.fr (fun a h1 h2 => g a (by omega))
    · rw [fA 19 (by omega) (by omega) (by omega), nf 19 (by omega), d194]; exact l1
    · rw [fA 20 (by omega) (by omega) (by omega), nf 20 (by omega), d20 i (by omega), fA 21 (by omega) (by omega) (by omega), nf 21 (by omega), d21 i (by omega)]; exact l3 i hi
    · rw [fA 1 (by omega) (by omega) (by omega), nf 1 (by omega)]; exact x13
    · rw [f63 2 (by omega) (by omega)]; exact b2'
    · rw [fA 1 (by omega) (by omega) (by omega), nf 1 (by omega), x18, z8]
    · rw [g 41 (by omega), g63 37 (by omega) (by omega) (by omega)]; exact hrf
    · rw [g 0 (by omega), g2 64 (by omega) (by omega) (by omega) (by omega) (by omega)]; exact h13
    · rw [g 0 (by omega), g2 64 (by omega) (by omega) (by omega) (by omega) (by omega)]; exact h14
theorem e_wcopy {N : Nat} (μ : sw_M) : ∃ μ', f_law_copy N μ = some μ' ∧ (∀ a, a ≠ 19 → a ≠ 20 → a ≠ 21 → μ' a = μ a) ∧ μ' 19 4 = μ 24 4 ∧ (∀ i, i < 150 → μ' 20 i = μ 25 i) ∧ (∀ i, i < 150 → μ' 21 i = μ 26 i) := by
  obtain ⟨A, hA⟩ : ∃ y : sw_M, y = wr μ 19 4 (μ 24 4) := ⟨_, rfl⟩
  have Afr : ∀ a, a ≠ 19 → A a = μ a := fun a q => by rw [hA, wr_nr q]
  refine ⟨wrR (wrR A 20 (va_cpy (A 25) (A 20) 0 0 150)) 21 (va_cpy (A 26) (A 21) 0 0 150), ?_, fun a q1 q2 q3 => ?_, ?_, fun i hi => ?_, fun i hi => ?_⟩
  · unfold f_law_copy
    simp only [wb_e]
    rw [show cpc (0 : Int32) 0 150 150 150 = fun k => k by funext k; rfl, hA]; rfl
  · rw [wrR_nr q3, wrR_nr q2, Afr a q1]
  · rw [hA]; rfl
  · rw [wrR_nr (by decide), wrR_r, vc0 _ _ hi, Afr 25 (by decide)]
  · rw [wrR_r, vc0 _ _ hi, Afr 26 (by decide)]
theorem op_law {N : Nat} {μ : sw_M} (hN : 5000 ≤ N) (hI : Inv μ) (a1 : Int32) : OpI (f_x_law N μ a1) (fun μ1 => f_m_law N μ1 a1) := by
  obtain ⟨-, -, -, -, -, -, -, -, -, -, -, ⟨h, h6, t3, t2, tb, t8⟩, -, -, hrf, h13, h14⟩ := id hI
  have z1 : ∀ i, (wr (xr μ i) 63 0 0) 63 0 = 0 := fun _ => rfl
  have e150 : (150 : Int32) = ic 150 := rfl
  rcases tx_dec a1 h6 (most := 150) (by decide) with ⟨n, hn, hn2, rfl⟩ | hno
  rotate_left
  · right
    refine ⟨xr μ 1, 0, mr (xr μ 1) 1 1, ?_, ?_, rfl, hI.rr (by decide) 1⟩
    · unfold f_x_law
      rw [e150, tx_0 h6 (by decide) t3 hno, tb_r]
    · show f_m_law N (xr μ 1) a1 = _
      have t2' : (wr (xr μ 1) 63 0 0) 63 2 = ic h := t2
      have e28 : f_m_law_29 N (wr (xr μ 1) 63 0 0) a1 = some (0, mr (xr μ 1) 1 1) := by
        unfold f_m_law_29 f_m_law_30
        rw [may_i (by decide) (z1 1), ob_e, if_pos rfl]; rfl
      unfold f_m_law
      rw [wb_e, t2', e28]
      by_cases q1 : a1 < 0
      · rw [if_pos q1]
      · rw [if_neg q1]
        by_cases q2 : ic h < a1
        · rw [if_pos q2]
        · rw [if_neg q2, if_pos (by rw [e150]; grind)]
  · left
    obtain ⟨hBy, μ1, o1e, hA, fr1, p3, p8⟩ := open_e (μ := μ) hN h6 hn tb
    have hb0 : ∀ i, i < n → μ 65 i = ic (byt μ h i) := fun i hi => by
      obtain ⟨-, v, hv, e⟩ := tb i (by omega)
      unfold byt; rw [if_pos (by omega), e, ic_n (by omega)]
    have hm0 : ∀ (μf ν1 : sw_M), μf 63 2 = ic h → f_m_begins N (wr μf 63 0 0) (ic n) = some ν1 → f_m_law N μf (ic n) = mLaw N (wr ν1 63 30 0) := by
      intro μf ν1 hf hbg
      have t2' : (wr μf 63 0 0) 63 2 = ic h := hf
      unfold f_m_law f_m_law_30
      rw [wb_e, t2', if_neg (by rw [ic_lt0 (by omega)]; exact id), if_neg (by rw [ic_lt (by omega) (by omega)]; omega), if_neg (show ¬ (150 : Int32) < ic n by rw [lit_lt (by decide) (by omega)]; show ¬ 150 < n; omega), may_1 (by decide) rfl, ob_e, if_neg o1]
      simp only
      rw [hbg, ob_e]; rfl
    have hx0 : f_x_law N μ (ic n) = Option.bind (f_lawR_read N μ1) (fun r5 => if r5.1 = 0 then some (.inl ((r5.2 1 7) - 10, r5.2)) else Option.bind (f_law_copy N r5.2) (fun r7 => some (.inl (1, r7)))) := by
      unfold f_x_law
      rw [e150, tx_1 h6 (by decide) t3 hn hn2, tb_l, o1e, ob_e]
    obtain ⟨_, _, hsim⟩ := law_sim hN hBy hn2 hA rfl μ hb0
    rcases hsim with ⟨μ2, _, _, r1, _, _, _, _, xb, x8, _⟩ | ⟨μ2, _, r1, _, _, xb, _⟩
    · obtain ⟨μ3, c1, fc, d194, d20, d21⟩ := e_wcopy (N := N) μ2
      have fr3 : ∀ a, (a = 0 ∨ (2 ≤ a ∧ a < 19) ∨ 28 < a) → μ3 a = μ a := fun a q => by
        rw [fc a (by omega) (by omega) (by omega), xb.1 a (by omega) (by omega), fr1 a (by omega)]
      have hb3 : ∀ i, i < n → (wr μ3 63 0 0) 65 i = ic (byt μ h i) := fun i hi => by show μ3 65 i = _; rw [fr3 65 (by omega)]; exact hb0 i hi
      obtain ⟨ν1, hbg, hsim⟩ := law_sim hN hBy hn2 hA rfl (wr μ3 63 0 0) hb3
      have hm1 := hm0 μ3 ν1 (by rw [fr3 63 (by omega)]; exact t2) hbg
      obtain ⟨ν1', b1, -, b3, b4, b5, b6, -⟩ := begins_e (N := N) (ν := wr μ3 63 0 0) (B := byt μ h) (n := n) (by omega) hb3
      have he : ν1' = ν1 := Option.some.inj (b1.symm.trans hbg)
      subst he
      rcases hsim with ⟨μ2', ν4, nn, r1', r2, hQ, hnn, h5, -, -, mw⟩ | ⟨μ2', _, r1', _⟩
      rotate_left
      · rw [r1] at r1'; exact absurd (congrArg (fun o => o.map Prod.fst) r1') (by simp)
      have he : μ2' = μ2 := (congrArg Prod.snd (Option.some.inj (r1.symm.trans r1'))).symm
      subst he
      have nfr : ∀ a, a ≠ 63 → a ≠ 72 → a ≠ 73 → ν4 a = μ3 a := fun a q1 q2 q3 => by rw [mw.1 a q1 q2 q3, wr_nr q1, b3 a q1, wr_nr q1]
      have n63 : ∀ j, (j < 4 ∨ 7 < j) → j ≠ 30 → ν4 63 j = ν1' 63 j := fun j q1 q2 => by rw [mw.2 j q1 q2, wr_ap, if_pos rfl, if_neg q2]
      obtain ⟨ν6, q1, q3, q4⟩ := law_inv hN hI hQ hnn h5 d194 d20 d21 (fun a q => fr3 a (by omega)) (by rw [fc 1 (by omega) (by omega) (by omega), xb.2, p3]) (by rw [fc 1 (by omega) (by omega) (by omega), x8, p8]) (fun a q => nfr a (by omega) (by omega) (by omega)) (fun a q1 q2 q3 => by rw [nfr a (by omega) q2 q3, fr3 a (by omega)]) (fun j q1 q2 => by rw [n63 j (by omega) q2, b4 j (by omega), wr_ap, if_pos rfl, if_neg (by omega), fr3 63 (by omega)]) (by rw [n63 2 (by omega) (by omega)]; exact b5)
      refine ⟨1, μ3, ν6, ?_, ?_, ?_, q4⟩
      · rw [hx0, r1, ob_e, if_neg (show ¬ (1 : Int32) = 0 by decide)]
        simp only
        rw [c1, ob_e]
      · show f_m_law N μ3 (ic n) = _
        rw [hm1, r2, q1]
      · rw [q3, n63 0 (by omega) (by omega), b4 0 (by omega)]; rfl
    · have fr2 : ∀ a, a ≠ 1 → (a < 24 ∨ 28 < a) → μ2 a = μ a := fun a q1 q2 => by rw [xb.1 a q1 q2, fr1 a q1]
      have hb3 : ∀ i, i < n → (wr μ2 63 0 0) 65 i = ic (byt μ h i) := fun i hi => by show μ2 65 i = _; rw [fr2 65 (by decide) (by decide)]; exact hb0 i hi
      obtain ⟨ν1, hbg, hsim⟩ := law_sim hN hBy hn2 hA rfl (wr μ2 63 0 0) hb3
      have hm1 := hm0 μ2 ν1 (by rw [fr2 63 (by decide) (by decide)]; exact t2) hbg
      obtain ⟨ν1', b1, -, b3, b4, b5, b6, -⟩ := begins_e (N := N) (ν := wr μ2 63 0 0) (B := byt μ h) (n := n) (by omega) hb3
      have he : ν1' = ν1 := Option.some.inj (b1.symm.trans hbg)
      subst he
      rcases hsim with ⟨μ2', _, _, r1', _⟩ | ⟨μ2', ν4, r1', r2, hbd, -, mw⟩
      · rw [r1] at r1'; exact absurd (congrArg (fun o => o.map Prod.fst) r1') (by simp)
      have he : μ2' = μ2 := (congrArg Prod.snd (Option.some.inj (r1.symm.trans r1'))).symm
      subst he
      have nf := hbd.nf
      have n63 : ∀ j, (j < 4 ∨ 7 < j) → j ≠ 30 → ν4 63 j = ν1' 63 j := fun j q1 q2 => by rw [mw.2 j q1 q2, wr_ap, if_pos rfl, if_neg q2]
      have hres : f_m_law_77 N ν4 = some (ν4 63 6 - 10, wr ν4 63 8 (ν4 63 5)) := by
        unfold f_m_law_77 f_m_result
        rw [wb_e, fine_0 (show ¬ (wr ν4 63 8 (ν4 63 5)) 63 5 = -1 from nf), ob_e, if_pos rfl, ob_e]
        simp only
        rw [if_neg (show ¬ (wr ν4 63 8 (ν4 63 5)) 63 5 = -1 from nf)]; rfl
      obtain ⟨k, p, hp, hk, d7, d8, d5, d6⟩ := hbd
      refine ⟨ν4 63 6 - 10, μ2', wr ν4 63 8 (ν4 63 5), ?_, ?_, ?_, ?_⟩
      · rw [hx0, r1, ob_e, if_pos rfl]
        simp only
        rw [d7, d6]
      · show f_m_law N μ2' (ic n) = _
        rw [hm1, r2, hres]
      · show ν4 63 0 = 0; rw [n63 0 (by decide) (by decide), b4 0 (by decide)]; rfl
      · have nfr : ∀ a, a ≠ 63 → a ≠ 72 → a ≠ 73 → (wr ν4 63 8 (ν4 63 5)) a = μ2' a := fun a q1 q2 q3 => by rw [wr_nr q1, mw.1 a q1 q2 q3, wr_nr q1, b3 a q1, wr_nr q1]
        refine inv_fail hI (fun a ha => ?_) (fun j hj => ?_) ?_ ?_ ?_ ?_
        · unfold FR at ha
          rw [nfr a (by omega) (by omega) (by omega), fr2 a (by omega) (by omega)]
        · rw [wr_ap, if_pos rfl, if_neg (by omega), n63 j (by omega) (by omega), b4 j (by omega), wr_ap, if_pos rfl, if_neg (by omega), fr2 63 (by decide) (by decide)]
        · rw [nfr 41 (by decide) (by decide) (by decide), fr2 41 (by decide) (by decide)]
        · rw [nfr 1 (by decide) (by decide) (by decide), xb.2, p3]
        · show ν4 63 2 = 0; rw [n63 2 (by decide) (by decide)]; exact b5
        · rw [nfr 1 (by decide) (by decide) (by decide)]; show _ = ν4 63 5; rw [d8, d5]
