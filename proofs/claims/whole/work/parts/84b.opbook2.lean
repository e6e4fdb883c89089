/-! ===== book, as a call ===== -/
def FR (a : Nat) : Prop := a = 1 ∨ (11 ≤ a ∧ a ≤ 18) ∨ (24 ≤ a ∧ a ≤ 28) ∨ (32 ≤ a ∧ a ≤ 34) ∨ (41 ≤ a ∧ a ≤ 44) ∨ a = 63 ∨ (66 ≤ a ∧ a ≤ 68) ∨ a = 72 ∨ a = 73 ∨ a = 78 ∨ a = 79 ∨ a = 83
/-- a text that was not taken -/
theorem inv_fail {μ ν : sw_M} (hI : Inv μ) (fr : ∀ a, ¬ FR a → ν a = μ a) (c63 : ∀ j, ((21 ≤ j ∧ j ≤ 24) ∨ j = 31 ∨ j = 36 ∨ j = 37 ∨ j = 46 ∨ j = 50) → ν 63 j = μ 63 j) (h41 : ν 41 8 = μ 41 8) (h3 : ν 1 3 = 0) (h2 : ν 63 2 = 0) (h8 : ν 1 8 = ν 63 8) : Inv ν := by
  obtain ⟨F, W, T, P, K, O, nl, nb, n, m, ⟨hC, hM, hS, hD, hX, hL, hB⟩, -, hs, hm, hrf, h13, h14⟩ := hI
  have q : ∀ a, (a < 1 ∨ (2 ≤ a ∧ a ≤ 10) ∨ (19 ≤ a ∧ a ≤ 23) ∨ (29 ≤ a ∧ a ≤ 31) ∨ (35 ≤ a ∧ a ≤ 40) ∨ (45 ≤ a ∧ a ≤ 62) ∨ a = 64 ∨ a = 65 ∨ (69 ≤ a ∧ a ≤ 71) ∨ (74 ≤ a ∧ a ≤ 77) ∨ (80 ≤ a ∧ a ≤ 82) ∨ 84 ≤ a) → ν a = μ a := fun a ha => fr a (by unfold FR; omega)
  refine inv_c hC hM (fun a h1 h2 => q a (by omega)) (fun a h1 h2 => q a (by omega)) (fun j h1 h2 => c63 j (by omega)) (hS.fr (q 80 (by omega))) ?_ (hX.fr (by rw [q 19 (by omega)]) (q 20 (by omega)) (q 21 (by omega))) (hL.fr (c63 31 (by omega)) (q 74 (by omega)) (q 75 (by omega))) (hB.fr (q 29 (by omega)) (q 30 (by omega)) (q 31 (by omega)) (q 84 (by omega)) (c63 46 (by omega))) (TP.nil h3 h2 h8) (hs.fr (by rw [q 45 (by omega)]) (c63 36 (by omega)) (q 46 (by omega)) (q 82 (by omega))) (hm.fr (by rw [q 45 (by omega)]) (c63 50 (by omega)) (q 47 (by omega)) (q 48 (by omega)) (q 86 (by omega))) ?_ ?_ ?_
  · rw [q 80 (by omega)]; exact hD.fr (fun a h1 h2 => q a (by omega))
  · rw [h41, c63 37 (by omega)]; exact hrf
  · rw [q 0 (by omega), q 64 (by omega)]; exact h13
  · rw [q 0 (by omega), q 64 (by omega)]; exact h14
theorem op_book {N : Nat} {μ : sw_M} (hN : 5000 ≤ N) (hI : Inv μ) (a1 : Int32) : OpI (f_x_book N μ a1) (fun μ1 => f_m_book N μ1 a1) := by
  obtain ⟨F, W, T, P, K, O, nl, nb, n0, m0, ⟨hC, hM, hS, hD, hX, hL, hB⟩, ⟨h, h6, t3, t2, tb, t8⟩, hs, hm, hrf, h13, h14⟩ := id hI
  have z1 : ∀ i, (wr (xr μ i) 63 0 0) 63 0 = 0 := fun _ => rfl
  have e60 : (60 : Int32) = ic 60 := rfl
  rcases tx_dec a1 h6 (most := 60) (by decide) with ⟨n, hn, hn2, rfl⟩ | hno
  rotate_left
  · right
    refine ⟨xr μ 1, 0, mr (xr μ 1) 1 1, ?_, ?_, rfl, hI.rr (by decide) 1⟩
    · unfold f_x_book
      rw [e60, tx_0 h6 (by decide) t3 hno, tb_r]
    · show f_m_book N (xr μ 1) a1 = _
      have t2' : (wr (xr μ 1) 63 0 0) 63 2 = ic h := t2
      have e28 : f_m_book_28 N (wr (xr μ 1) 63 0 0) a1 = some (0, mr (xr μ 1) 1 1) := by
        unfold f_m_book_28 f_m_book_29
        rw [may_i (by decide) (z1 1), ob_e, if_pos rfl]; rfl
      unfold f_m_book
      rw [wb_e, t2', e28]
      by_cases q1 : a1 < 0
      · rw [if_pos q1]
      · rw [if_neg q1]
        by_cases q2 : ic h < a1
        · rw [if_pos q2]
        · rw [if_neg q2, if_pos (by rw [e60]; grind)]
  · left
    obtain ⟨hBy, μ1, o1e, hA, fr1, p3, p8⟩ := open_e (μ := μ) hN h6 hn tb
    have hb0 : ∀ i, i < n → μ 65 i = ic (byt μ h i) := fun i hi => by
      obtain ⟨-, v, hv, e⟩ := tb i (by omega)
      unfold byt; rw [if_pos (by omega), e, ic_n (by omega)]
    -- the reference's way to its reading
    have hm0 : ∀ (μf ν1 : sw_M), μf 63 2 = ic h → f_m_begins N (wr μf 63 0 0) (ic n) = some ν1 → f_m_book N μf (ic n) = f_m_book_46 N N ν1 0 := by
      intro μf ν1 hf hbg
      have t2' : (wr μf 63 0 0) 63 2 = ic h := hf
      unfold f_m_book f_m_book_29
      rw [wb_e, t2', if_neg (by rw [ic_lt0 (by omega)]; exact id), if_neg (by rw [ic_lt (by omega) (by omega)]; omega), if_neg (by rw [lit_lt (by decide) (by omega)]; omega), may_1 (by decide) rfl, ob_e, if_neg o1]
      simp only
      rw [hbg, ob_e]
    have hx0 : f_x_book N μ (ic n) = Option.bind (f_bookR_read N μ1) (fun r5 => if r5.1 = 0 then some (.inl ((r5.2 1 7) - 10, r5.2)) else Option.bind (f_book_copy N r5.2) (fun r7 => some (.inl (r7 29 0, r7)))) := by
      unfold f_x_book
      rw [e60, tx_1 h6 (by decide) t3 hn hn2, tb_l, o1e, ob_e]
    obtain ⟨_, _, hsim⟩ := book_sim hN hBy (by omega) hA rfl μ hb0
    rcases hsim with ⟨μ2, _, _, r1, _, _, _, xb, x8, _⟩ | ⟨μ2, _, _, r1, _, _, xb, _⟩
    · obtain ⟨μ3, hμ3⟩ : ∃ μ3 : sw_M, μ3 = wrR (wrR (wr μ2 29 0 (μ2 32 0)) 30 (va_cpy (μ2 33) (μ2 30) 0 0 8)) 31 (va_cpy (μ2 34) (μ2 31) 0 0 8) := ⟨_, rfl⟩
      have ecp : f_book_copy N μ2 = some μ3 := by
        unfold f_book_copy
        rw [wb_e, show cpc (0 : Int32) 0 8 8 8 = fun k => k by funext k; rfl, hμ3]; rfl
      have fr3 : ∀ a, a ≠ 1 → a ≠ 29 → a ≠ 30 → a ≠ 31 → a ≠ 32 → a ≠ 33 → a ≠ 34 → μ3 a = μ a := fun a q1 q2 q3 q4 q5 q6 q7 => by
        rw [hμ3, wrR_nr q4, wrR_nr q3, wr_nr q2, xb.1 a q1 q5 q6 q7, fr1 a q1]
      obtain ⟨ν1, hbg, hsim⟩ := book_sim hN hBy (by omega) hA rfl (wr μ3 63 0 0) (fun i hi => by show μ3 65 i = _; rw [fr3 65 (by decide) (by decide) (by decide) (by decide) (by decide) (by decide) (by decide)]; exact hb0 i hi)
      have hm1 := hm0 μ3 ν1 (by rw [fr3 63 (by decide) (by decide) (by decide) (by decide) (by decide) (by decide) (by decide)]; exact t2) hbg
      have hbegin := begins_e (N := N) (ν := wr μ3 63 0 0) (B := byt μ h) (n := n) (by omega) (fun i hi => by show μ3 65 i = _; rw [fr3 65 (by decide) (by decide) (by decide) (by decide) (by decide) (by decide) (by decide)]; exact hb0 i hi)
      obtain ⟨ν1', b1, -, b3, b4, b5, b6, -⟩ := hbegin
      have : ν1' = ν1 := by rw [hbg] at b1; injection b1 with z; exact z.symm
      subst this
      rcases hsim with ⟨μ2', ν2, n', r1', r2, hbl, h5, -, -, mb⟩ | ⟨μ2', _, _, r1', _⟩
      rotate_left
      · rw [r1] at r1'; exact absurd (congrArg (fun o => o.map Prod.fst) r1') (by simp)
      have : μ2' = μ2 := by rw [r1] at r1'; injection r1' with z; exact (congrArg Prod.snd z).symm
      subst this
      obtain ⟨ν3, hν3⟩ : ∃ ν3 : sw_M, ν3 = wrR (wr (wr ν2 63 8 (-1)) 63 46 (ic n')) 84 (fun i => if i < 41 then ν2 83 i else ν2 84 i) := ⟨_, rfl⟩
      have hres : f_m_book_183 N ν2 (ic n') = some (ic n', ν3) := by
        have hcp := e_m_copies (N := N) (k0 := 83) (n0 := 41) (k1 := 84) (n1 := 41) (m := 41) hN (by decide) (by decide) (by decide) (by decide) (by decide) (by decide) (wr (wr ν2 63 8 (-1)) 63 46 (ic n'))
        have hcp' : f_m_copies N 83 41 84 41 (wr (wr ν2 63 8 (-1)) 63 46 (ic n')) 41 = _ := hcp
        unfold f_m_book_183 f_m_result
        rw [h5, wb_e, fine_1 (show (wr ν2 63 8 (-1)) 63 5 = -1 from h5), ob_e, if_neg o1, ob_e]
        simp only
        rw [if_pos (show (wr ν2 63 8 (-1)) 63 5 = -1 from h5), wb_e, hcp', ob_e, hν3]; rfl
      have nfr : ∀ a, a ≠ 1 → a ≠ 29 → a ≠ 30 → a ≠ 31 → a ≠ 32 → a ≠ 33 → a ≠ 34 → a ≠ 63 → a ≠ 83 → a ≠ 84 → ν3 a = μ a := fun a q1 q2 q3 q4 q5 q6 q7 q8 q9 q10 => by
        rw [hν3, wrR_nr q10, wr_nr q8, wr_nr q8, mb.1 a q8 q9, b3 a q8, wr_nr q8, fr3 a q1 q2 q3 q4 q5 q6 q7]
      have nfr2 : ∀ a, a ≠ 63 → a ≠ 83 → a ≠ 84 → ν3 a = μ3 a := fun a q8 q9 q10 => by
        rw [hν3, wrR_nr q10, wr_nr q8, wr_nr q8, mb.1 a q8 q9, b3 a q8, wr_nr q8]
      have n63 : ∀ j, 8 < j → j ≠ 46 → ν3 63 j = μ 63 j := fun j q1 q2 => by
        rw [hν3, wrR_nr (by decide), wr_ap, if_pos rfl, if_neg q2, wr_ap, if_pos rfl, if_neg (by omega), mb.2 j (by omega) (by omega) (by omega), b4 j (by omega), wr_ap, if_pos rfl, if_neg (by omega), fr3 63 (by decide) (by decide) (by decide) (by decide) (by decide) (by decide) (by decide)]
      have x18 : μ3 1 8 = -1 := by rw [hμ3]; show μ2' 1 8 = -1; rw [x8, p8]
      have x13 : μ3 1 3 = 0 := by rw [hμ3]; show μ2' 1 3 = 0; rw [xb.2, p3]
      have z630 : ν3 63 0 = 0 := by
        rw [hν3]; show ν2 63 0 = 0; rw [mb.2 0 (by decide) (by decide) (by decide), b4 0 (by decide)]; rfl
      refine ⟨ic n', μ3, ν3, ?_, ?_, z630, ?_⟩
      · rw [hx0, r1, ob_e, if_neg (show ¬ (1 : Int32) = 0 by decide)]
        simp only
        rw [ecp, ob_e]
        have : μ3 29 0 = ic n' := by rw [hμ3]; show μ2' 32 0 = _; exact hbl.2.1
        rw [this]
      · show f_m_book N μ3 (ic n) = _
        rw [hm1, r2, hres]
      · refine inv_c hC hM (fun a h1 h2 => nfr a (by omega) (by omega) (by omega) (by omega) (by omega) (by omega) (by omega) (by omega) (by omega) (by omega)) (fun a h1 h2 => nfr a (by omega) (by omega) (by omega) (by omega) (by omega) (by omega) (by omega) (by omega) (by omega) (by omega)) (fun j h1 h2 => n63 j (by omega) (by omega)) (nb := n') (n := n0) (m := m0) ?_ ?_ (hX.fr ?_ ?_ ?_) (hL.fr (n63 31 (by decide) (by decide)) ?_ ?_) ?_ (TP.nil ?_ ?_ ?_) (hs.fr ?_ (n63 36 (by decide) (by decide)) ?_ ?_) (hm.fr ?_ (n63 50 (by decide) (by decide)) ?_ ?_ ?_) ?_ ?_ ?_
        · exact hS.fr (nfr 80 (by decide) (by decide) (by decide) (by decide) (by decide) (by decide) (by decide) (by decide) (by decide) (by decide))
        · rw [nfr 80 (by decide) (by decide) (by decide) (by decide) (by decide) (by decide) (by decide) (by decide) (by decide) (by decide)]
          exact hD.fr (fun a h1 h2 => nfr a (by omega) (by omega) (by omega) (by omega) (by omega) (by omega) (by omega) (by omega) (by omega) (by omega))
        · rw [nfr 19 (by decide) (by decide) (by decide) (by decide) (by decide) (by decide) (by decide) (by decide) (by decide) (by decide)]
        · exact nfr 20 (by decide) (by decide) (by decide) (by decide) (by decide) (by decide) (by decide) (by decide) (by decide) (by decide)
        · exact nfr 21 (by decide) (by decide) (by decide) (by decide) (by decide) (by decide) (by decide) (by decide) (by decide) (by decide)
        · exact nfr 74 (by decide) (by decide) (by decide) (by decide) (by decide) (by decide) (by decide) (by decide) (by decide) (by decide)
        · exact nfr 75 (by decide) (by decide) (by decide) (by decide) (by decide) (by decide) (by decide) (by decide) (by decide) (by decide)
        · obtain ⟨l1, l2, l3, l4⟩ := hbl
          have e30 : ∀ i, i < 8 → ν3 30 i = μ2' 33 i := fun i hi => by
            rw [nfr2 30 (by decide) (by decide) (by decide), hμ3]; show va_cpy (μ2' 33) (μ2' 30) 0 0 8 i = _
            unfold va_cpy; rw [if_pos (by omega)]; congr 1; omega
          have e31 : ∀ i, i < 8 → ν3 31 i = μ2' 34 i := fun i hi => by
            rw [nfr2 31 (by decide) (by decide) (by decide), hμ3]; show va_cpy (μ2' 34) (μ2' 31) 0 0 8 i = _
            unfold va_cpy; rw [if_pos (by omega)]; congr 1; omega
          have e84 : ∀ k, k ≤ 40 → ν3 84 k = ν2 83 k := fun k hk => by
            rw [hν3, wrR_r]; show (if k < 41 then _ else _) = _; rw [if_pos (by omega)]
          refine ⟨l1, ?_, ?_, fun i hi => ?_, fun k hk => ?_⟩
          · rw [nfr2 29 (by decide) (by decide) (by decide), hμ3]; show μ2' 32 0 = _; exact l2
          · rw [hν3]; rfl
          · obtain ⟨k, v, g1, g2, g3, g4, g5⟩ := l3 i hi
            exact ⟨k, v, g1, g2, by rw [e30 i (by omega)]; exact g3, by rw [e31 i (by omega)]; exact g4, by rw [e84 k g1]; exact g5⟩
          · rw [e84 k hk]
            rcases l4 k hk with z | ⟨i, hi, z⟩
            · exact Or.inl z
            · exact Or.inr ⟨i, hi, by rw [e30 i (by omega)]; exact z⟩
        · rw [nfr2 1 (by decide) (by decide) (by decide)]; exact x13
        · rw [hν3]; show ν2 63 2 = 0; rw [mb.2 2 (by decide) (by decide) (by decide)]; exact b5
        · rw [nfr2 1 (by decide) (by decide) (by decide), x18, hν3]; rfl
        · rw [nfr 45 (by decide) (by decide) (by decide) (by decide) (by decide) (by decide) (by decide) (by decide) (by decide) (by decide)]
        · exact nfr 46 (by decide) (by decide) (by decide) (by decide) (by decide) (by decide) (by decide) (by decide) (by decide) (by decide)
        · exact nfr 82 (by decide) (by decide) (by decide) (by decide) (by decide) (by decide) (by decide) (by decide) (by decide) (by decide)
        · rw [nfr 45 (by decide) (by decide) (by decide) (by decide) (by decide) (by decide) (by decide) (by decide) (by decide) (by decide)]
        · exact nfr 47 (by decide) (by decide) (by decide) (by decide) (by decide) (by decide) (by decide) (by decide) (by decide) (by decide)
        · exact nfr 48 (by decide) (by decide) (by decide) (by decide) (by decide) (by decide) (by decide) (by decide) (by decide) (by decide)
        · exact nfr 86 (by decide) (by decide) (by decide) (by decide) (by decide) (by decide) (by decide) (by decide) (by decide) (by decide)
        · rw [nfr 41 (by decide) (by decide) (by decide) (by decide) (by decide) (by decide) (by decide) (by decide) (by decide) (by decide), n63 37 (by decide) (by decide)]; exact hrf
        · rw [nfr 0 (by decide) (by decide) (by decide) (by decide) (by decide) (by decide) (by decide) (by decide) (by decide) (by decide), nfr 64 (by decide) (by decide) (by decide) (by decide) (by decide) (by decide) (by decide) (by decide) (by decide) (by decide)]; exact h13
        · rw [nfr 0 (by decide) (by decide) (by decide) (by decide) (by decide) (by decide) (by decide) (by decide) (by decide) (by decide), nfr 64 (by decide) (by decide) (by decide) (by decide) (by decide) (by decide) (by decide) (by decide) (by decide) (by decide)]; exact h14
    · have fr2 : ∀ a, a ≠ 1 → a ≠ 32 → a ≠ 33 → a ≠ 34 → μ2 a = μ a := fun a q1 q5 q6 q7 => by rw [xb.1 a q1 q5 q6 q7, fr1 a q1]
      obtain ⟨ν1, hbg, hsim⟩ := book_sim hN hBy (by omega) hA rfl (wr μ2 63 0 0) (fun i hi => by show μ2 65 i = _; rw [fr2 65 (by decide) (by decide) (by decide) (by decide)]; exact hb0 i hi)
      have hm1 := hm0 μ2 ν1 (by rw [fr2 63 (by decide) (by decide) (by decide) (by decide)]; exact t2) hbg
      obtain ⟨ν1', b1, -, b3, b4, b5, b6, -⟩ := begins_e (N := N) (ν := wr μ2 63 0 0) (B := byt μ h) (n := n) (by omega) (fun i hi => by show μ2 65 i = _; rw [fr2 65 (by decide) (by decide) (by decide) (by decide)]; exact hb0 i hi)
      have : ν1' = ν1 := by rw [hbg] at b1; injection b1 with z; exact z.symm
      subst this
      rcases hsim with ⟨μ2', _, _, r1', _⟩ | ⟨μ2', ν2, x, r1', r2, hbd, -, mb⟩
      · rw [r1] at r1'; exact absurd (congrArg (fun o => o.map Prod.fst) r1') (by simp)
      have : μ2' = μ2 := by rw [r1] at r1'; injection r1' with z; exact (congrArg Prod.snd z).symm
      subst this
      have nf := hbd.nf
      have hres : f_m_book_183 N ν2 x = some (ν2 63 6 - 10, wr ν2 63 8 (ν2 63 5)) := by
        unfold f_m_book_183 f_m_result
        rw [wb_e, fine_0 (show ¬ (wr ν2 63 8 (ν2 63 5)) 63 5 = -1 from nf), ob_e, if_pos rfl, ob_e]
        simp only
        rw [if_neg (show ¬ (wr ν2 63 8 (ν2 63 5)) 63 5 = -1 from nf)]; rfl
      obtain ⟨k, p, hp, hk, d7, d8, d5, d6⟩ := hbd
      refine ⟨ν2 63 6 - 10, μ2', wr ν2 63 8 (ν2 63 5), ?_, ?_, ?_, ?_⟩
      · rw [hx0, r1, ob_e, if_pos rfl]
        simp only
        rw [d7, d6]
      · show f_m_book N μ2' (ic n) = _
        rw [hm1, r2, hres]
      · show ν2 63 0 = 0; rw [mb.2 0 (by decide) (by decide) (by decide), b4 0 (by decide)]; rfl
      · have nfr : ∀ a, a ≠ 63 → a ≠ 83 → (wr ν2 63 8 (ν2 63 5)) a = μ2' a := fun a q1 q2 => by rw [wr_nr q1, mb.1 a q1 q2, b3 a q1, wr_nr q1]
        refine inv_fail hI (fun a ha => ?_) (fun j hj => ?_) ?_ ?_ ?_ ?_
        · unfold FR at ha
          rw [nfr a (by omega) (by omega), fr2 a (by omega) (by omega) (by omega) (by omega)]
        · rw [wr_ap, if_pos rfl, if_neg (by omega), mb.2 j (by omega) (by omega) (by omega), b4 j (by omega), wr_ap, if_pos rfl, if_neg (by omega), fr2 63 (by decide) (by decide) (by decide) (by decide)]
        · rw [nfr 41 (by decide) (by decide), fr2 41 (by decide) (by decide) (by decide) (by decide)]
        · rw [nfr 1 (by decide) (by decide), xb.2, p3]
        · show ν2 63 2 = 0; rw [mb.2 2 (by decide) (by decide) (by decide)]; exact b5
        · rw [nfr 1 (by decide) (by decide)]; show _ = ν2 63 5; rw [d8, d5]
