/-! ===== country, as a call ===== -/
theorem cut0 {S : Nat → Int32} {W : Nat} (h : ∀ w, w < W → S (12 + w) = 0) : cutS W S = 0 := by
  unfold cutS
  have : ∀ n k : Nat, k + n = W → fo (fun w a => if S (12 + w) = 1 then a ||| sh w else a) k n (0 : Int32) = 0 := by
    intro n
    induction n with
    | zero => intro k _; rfl
    | succ n ih =>
      intro k hk
      rw [fo_s, if_neg (by rw [h k (by omega)]; decide)]
      exact ih (k + 1) (by omega)
  exact this W 0 (by omega)
def xTail (N : Nat) (μ2 : sw_M) : Option ((Int32 × sw_M) ⊕ (String × sw_M)) := Option.bind (f_land_copy N μ2) (fun r7 => Option.bind (f_law_clear N r7) (fun r9 => Option.bind (f_book_clear N r9) (fun r11 => Option.bind (f_days_begin N r11) (fun r13 => Option.bind (f_shelf_clear N r13) (fun r15 => wb (wr r15 41 8 0) (fun μ17 => some (.inl (μ17 3 1, μ17))))))))
def LTF (μ2 μ3 : sw_M) : Prop := (∀ a, (a ≤ 2 ∨ (11 ≤ a ∧ a ≤ 18) ∨ (22 ≤ a ∧ a ≤ 28) ∨ (30 ≤ a ∧ a ≤ 34) ∨ (42 ≤ a ∧ a ≤ 44) ∨ 46 ≤ a) → μ3 a = μ2 a) ∧
  ((∀ j, j ≤ 4 → μ3 3 j = μ2 11 j) ∧ (∀ i, i < 12 → μ3 4 i = μ2 12 i) ∧ (∀ i, i < 12 → μ3 5 i = μ2 13 i) ∧ (∀ i, i < 12 → μ3 6 i = μ2 14 i) ∧ (∀ i, i < 6 → μ3 7 i = μ2 15 i) ∧ (∀ i, i < 6 → μ3 8 i = μ2 16 i) ∧ (∀ i, i < 5 → μ3 9 i = μ2 17 i) ∧ (∀ i, i < 5 → μ3 10 i = μ2 18 i)) ∧
  (μ3 19 4 = ic 5 ∧ (∀ i, i < 5 → μ3 20 i = cx (K0 i) ∧ μ3 21 i = O0 i) ∧ μ3 29 0 = 0) ∧
  ((μ3 35 2 = 0 ∧ μ3 35 3 = μ2 11 4 ∧ μ3 35 4 = 0 ∧ μ3 35 5 = 0) ∧ (∀ i, i < 12 → μ3 36 i = μ2 14 i) ∧ (∀ i, i < 6 → μ3 37 i = μ2 15 i) ∧ (∀ i, i < 6 → μ3 38 i = -1) ∧ (∀ i, i < 5 → μ3 39 i = μ2 17 i) ∧ (∀ i, i < 5 → μ3 40 i = 0)) ∧
  (μ3 45 4 = 0 ∧ μ3 45 5 = 0 ∧ μ3 41 8 = 0)
theorem land_tail {N : Nat} (hN : 5000 ≤ N) (μ2 : sw_M) : ∃ μ3, xTail N μ2 = some (.inl (μ3 3 1, μ3)) ∧ LTF μ2 μ3 := by
  obtain ⟨A1, c1, f1, d3, d4, d5, d6, d7, d8, d9, d10⟩ := e_lcopy (N := N) μ2
  obtain ⟨A2, c2, f2, d19, d194, d20⟩ := e_lclear (N := N) A1
  obtain ⟨A3, hA3⟩ : ∃ x : sw_M, x = wr A2 29 0 0 := ⟨_, rfl⟩
  have c3 : f_book_clear N A2 = some A3 := by rw [hA3]; rfl
  have f3 : ∀ a, a ≠ 29 → A3 a = A2 a := fun a q => by rw [hA3, wr_nr q]
  obtain ⟨A4, c4, f4, ⟨d352, d353, d354, d355⟩, d36, d37, d38, d39, d40⟩ := e_dbegin hN A3
  obtain ⟨μ3, hμ3⟩ : ∃ x : sw_M, x = wr (wr (wr A4 45 4 0) 45 5 0) 41 8 0 := ⟨_, rfl⟩
  have f5 : ∀ a, a ≠ 41 → a ≠ 45 → μ3 a = A4 a := fun a q1 q2 => by rw [hμ3, wr_nr q1, wr_nr q2, wr_nr q2]
  have fA : ∀ a, (a ≤ 18 ∨ (22 ≤ a ∧ a ≤ 28) ∨ (30 ≤ a ∧ a ≤ 34) ∨ (42 ≤ a ∧ a ≤ 44) ∨ 46 ≤ a) → μ3 a = A1 a := fun a q => by
    rw [f5 a (by omega) (by omega), f4 a (by omega), f3 a (by omega), f2 a (by omega) (by omega) (by omega)]
  have x31 : ∀ a, a ≤ 10 → A3 a = A1 a := fun a q => by rw [f3 a (by omega), f2 a (by omega) (by omega) (by omega)]
  refine ⟨μ3, ?_, fun a q => ?_, ⟨?_, ?_, ?_, ?_, ?_, ?_, ?_, ?_⟩, ⟨?_, ?_, ?_⟩, ⟨⟨?_, ?_, ?_, ?_⟩, ?_, ?_, ?_, ?_, ?_⟩, ?_, ?_, ?_⟩
  · unfold xTail
    rw [c1, ob_e, c2, ob_e, c3, ob_e, c4, ob_e, hμ3]; rfl
  · rw [fA a (by omega), f1 a (by omega)]
  · rw [fA 3 (by omega)]; exact d3
  · rw [fA 4 (by omega)]; exact d4
  · rw [fA 5 (by omega)]; exact d5
  · rw [fA 6 (by omega)]; exact d6
  · rw [fA 7 (by omega)]; exact d7
  · rw [fA 8 (by omega)]; exact d8
  · rw [fA 9 (by omega)]; exact d9
  · rw [fA 10 (by omega)]; exact d10
  · rw [f5 19 (by omega) (by omega), f4 19 (by omega), f3 19 (by omega)]; exact d194
  · rw [f5 20 (by omega) (by omega), f4 20 (by omega), f3 20 (by omega), f5 21 (by omega) (by omega), f4 21 (by omega), f3 21 (by omega)]; exact d20
  · rw [f5 29 (by omega) (by omega), f4 29 (by omega), hA3]; rfl
  · rw [f5 35 (by omega) (by omega)]; exact d352
  · rw [f5 35 (by omega) (by omega), d353, x31 3 (by omega)]; exact d3 4 (by omega)
  · rw [f5 35 (by omega) (by omega)]; exact d354
  · rw [f5 35 (by omega) (by omega)]; exact d355
  · intro i hi; rw [f5 36 (by omega) (by omega), d36 i hi, x31 6 (by omega)]; exact d6 i hi
  · intro i hi; rw [f5 37 (by omega) (by omega), d37 i hi, x31 7 (by omega)]; exact d7 i hi
  · rw [f5 38 (by omega) (by omega)]; exact d38
  · intro i hi; rw [f5 39 (by omega) (by omega), d39 i hi, x31 9 (by omega)]; exact d9 i hi
  · rw [f5 40 (by omega) (by omega)]; exact d40
  · rw [hμ3]; rfl
  · rw [hμ3]; rfl
  · rw [hμ3]; rfl
theorem land_inv {N : Nat} {μ2 μ3 ν4 : sw_M} {F W T P l : Nat} (hN : 5000 ≤ N) (lt : LTF μ2 μ3) (hL : LR μ2 ν4 F W T P l) (h5 : ν4 63 5 = -1) (nf4 : ∀ a, (a ≤ 62 ∨ a = 64 ∨ a = 65) → ν4 a = μ3 a) (b2' : ν4 63 2 = 0) (x13 : μ3 1 3 = 0) (x18 : μ3 1 8 = -1) (h13 : μ3 0 13 = μ3 64 0) (h14 : μ3 0 14 = μ3 64 1) : ∃ ν6, f_m_country_136 N ν4 = some (ic W, ν6) ∧ μ3 3 1 = ic W ∧ ν6 63 0 = ν4 63 0 ∧ Inv ν6 := by
  obtain ⟨-, ⟨d3, d4, d5, d6, d7, d8, d9, d10⟩, ⟨d194, d20, d29⟩, ⟨⟨d352, d353, d354, d355⟩, d36, d37, d38, d39, d40⟩, d454, d455, d418⟩ := lt
  obtain ⟨⟨l0, l1, l2, l3, l4⟩, ⟨n0, n1, n2, n3, n4⟩, ⟨hF, hW, hT, hP, hl⟩, hw, ht, hp⟩ := hL
  obtain ⟨ν5, hν5⟩ : ∃ x : sw_M, x = wr ν4 63 8 (-1) := ⟨_, rfl⟩
  have g5 : ∀ a, a ≠ 63 → ν5 a = ν4 a := fun a q => by rw [hν5, wr_nr q]
  have g63 : ∀ j, j ≠ 8 → ν5 63 j = ν4 63 j := fun j q => by rw [hν5, wr_ap, if_pos rfl, if_neg q]
  obtain ⟨ν6, s1, s2, s3, ⟨s21, s22, s23, s24⟩, ⟨s31, s36, s37, s46, s50⟩, ⟨s69, s70, s71⟩, s84, s80, s80b, s80c, s80d, s80e, s80f, s8046, s8047, s8048⟩ := e_sets (ν := ν5) hN ((g63 17 (by decide)).trans n1) ((g63 18 (by decide)).trans n2) ((g63 19 (by decide)).trans n3) hW hT hP
  have hres : f_m_country_136 N ν4 = some (ic W, ν6) := by
    unfold f_m_country_136 f_m_result
    rw [h5, wb_e, ← hν5, fine_1 ((g63 5 (by decide)).trans h5), ob_e, if_neg o1, ob_e]
    simp only
    rw [if_pos ((g63 5 (by decide)).trans h5), s1, ob_e, n1]
  have nfr : ∀ a, (a ≤ 62 ∨ a = 64 ∨ a = 65) → ν6 a = μ3 a := fun a q => by
    rw [s2 a (by omega) (by omega) (by omega) (by omega) (by omega) (by omega), g5 a (by omega), nf4 a q]
  have n63 : ∀ j, j < 4 → ν6 63 j = ν4 63 j := fun j q => by
    rw [s3 j (by omega) (by omega) (by omega) (by omega) (by omega) (by omega), g63 j (by omega)]
  have k4 : ∀ i, i < 12 → ν6 4 i = μ2 12 i := fun i hi => by rw [nfr 4 (by omega)]; exact d4 i hi
  have k5 : ∀ i, i < 12 → ν6 5 i = μ2 13 i := fun i hi => by rw [nfr 5 (by omega)]; exact d5 i hi
  have k6 : ∀ i, i < 12 → ν6 6 i = μ2 14 i := fun i hi => by rw [nfr 6 (by omega)]; exact d6 i hi
  have k7 : ∀ i, i < 6 → ν6 7 i = μ2 15 i := fun i hi => by rw [nfr 7 (by omega)]; exact d7 i hi
  have k8 : ∀ i, i < 6 → ν6 8 i = μ2 16 i := fun i hi => by rw [nfr 8 (by omega)]; exact d8 i hi
  have k9 : ∀ i, i < 5 → ν6 9 i = μ2 17 i := fun i hi => by rw [nfr 9 (by omega)]; exact d9 i hi
  have k10 : ∀ i, i < 5 → ν6 10 i = μ2 18 i := fun i hi => by rw [nfr 10 (by omega)]; exact d10 i hi
  have k3 : ∀ j, j ≤ 4 → ν6 3 j = μ2 11 j := fun j hj => by rw [nfr 3 (by omega)]; exact d3 j hj
  have k36 : ∀ i, i < 12 → ν6 36 i = μ2 14 i := fun i hi => by rw [nfr 36 (by omega)]; exact d36 i hi
  have k37 : ∀ i, i < 6 → ν6 37 i = μ2 15 i := fun i hi => by rw [nfr 37 (by omega)]; exact d37 i hi
  have k39 : ∀ i, i < 5 → ν6 39 i = μ2 17 i := fun i hi => by rw [nfr 39 (by omega)]; exact d39 i hi
  have k38 : ∀ i, i < 6 → ν6 38 i = -1 := fun i hi => by rw [nfr 38 (by omega)]; exact d38 i hi
  have k40 : ∀ i, i < 5 → ν6 40 i = 0 := fun i hi => by rw [nfr 40 (by omega)]; exact d40 i hi
  have u66 : ν5 66 = ν4 66 := g5 66 (by decide)
  have u67 : ν5 67 = ν4 67 := g5 67 (by decide)
  have u68 : ν5 68 = ν4 68 := g5 68 (by decide)
  rw [u66] at s69 s80; rw [u67] at s70 s80c; rw [u68] at s71 s80e
  refine ⟨ν6, hres, by rw [d3 1 (by decide)]; exact l1, n63 0 (by decide), ?_⟩
  refine ⟨F, W, T, P, K0, O0, 5, 0, 0, 0, ⟨⟨⟨?_, ?_, ?_, ?_⟩, ⟨hF, hW, hT, hP⟩, fun w q => ?_, fun t q => ?_, fun p q => ?_⟩, ⟨⟨?_, s22, s23, s24⟩, fun w q => ?_, fun t q => ?_, fun p q => ?_⟩, ⟨⟨⟨0, by decide, s8048⟩, ⟨l, hl, ?_⟩, fun w q => ⟨?_, Or.inl (s80b w (by omega))⟩, fun t q => ⟨?_, Or.inl (s80d t (by omega))⟩, fun p q => ⟨?_, 0, by decide, s80f p (by omega)⟩⟩, 0, by decide, s8048⟩, ⟨⟨?_, ?_, ?_, ?_⟩, fun w q => ?_, fun t q => ?_, fun t q _ => ?_, fun p q => ?_, fun p q => ?_⟩, ⟨wl0, ?_, fun i q => ?_⟩, ⟨wl0, Or.inr ⟨s31, rfl, rfl, rfl⟩⟩, ⟨by decide, ?_, s46, fun i q => by omega, fun k q => Or.inl (s84 k q)⟩⟩, TP.nil ?_ ?_ ?_, ⟨by decide, ?_, s36, fun i q => by omega⟩, ⟨by decide, ?_, s50, fun i q => by omega⟩, ?_, ?_, ?_⟩
  · rw [k3 0 (by decide)]; exact l0
  · rw [k3 1 (by decide)]; exact l1
  · rw [k3 2 (by decide)]; exact l2
  · rw [k3 3 (by decide)]; exact l3
  · obtain ⟨a, b, c, ⟨g1, g2, g3, g4⟩, ⟨g5, g6, g7⟩, -⟩ := hw w q
    exact ⟨a, b, c, g1, g2, g3, g4, by rw [k4 w (by omega)]; exact g5, by rw [k5 w (by omega)]; exact g6, by rw [k6 w (by omega)]; exact g7⟩
  · obtain ⟨a, c, ⟨g1, g2, g3⟩, ⟨g5, g6⟩, -⟩ := ht t q
    exact ⟨a, c, g1, g2, g3, by rw [k7 t (by omega)]; exact g5, by rw [k8 t (by omega)]; exact g6⟩
  · obtain ⟨a, c, ⟨g1, g2, g3⟩, ⟨g5, g6⟩, -⟩ := hp p q
    exact ⟨a, c, g1, g2, g3, by rw [k9 p (by omega)]; exact g5, by rw [k10 p (by omega)]; exact g6⟩
  · rw [s21, g63 16 (by decide)]; exact n0
  · obtain ⟨a, b, c, -, ⟨g5, g6, g7⟩, g8, g9, g10⟩ := hw w q
    rw [s69 _ (by omega), s69 _ (by omega), s69 _ (by omega), k4 w (by omega), k5 w (by omega), k6 w (by omega), g5, g6, g7]
    exact ⟨g8, g9, g10⟩
  · obtain ⟨a, c, -, ⟨g5, g6⟩, g8, g9⟩ := ht t q
    rw [s70 _ (by omega), s70 _ (by omega), k7 t (by omega), k8 t (by omega), g5, g6]
    exact ⟨g8, g9⟩
  · obtain ⟨a, c, -, ⟨g5, g6⟩, g8, g9⟩ := hp p q
    rw [s71 _ (by omega), s71 _ (by omega), k9 p (by omega), k10 p (by omega), g5, g6]
    exact ⟨g8, g9⟩
  · rw [s8046, g63 20 (by decide)]; exact n4
  · obtain ⟨a, b, c, ⟨-, -, -, g4⟩, -, -, -, g10⟩ := hw w q
    exact ⟨c, by omega, by rw [s80 w q]; exact g10⟩
  · obtain ⟨a, c, ⟨g1, -⟩, -, g8, -⟩ := ht t q
    exact ⟨a, g1, by rw [s80c t q]; exact g8⟩
  · obtain ⟨a, c, ⟨g1, -⟩, -, g8, -⟩ := hp p q
    exact ⟨a, g1, by rw [s80e p q]; exact g8⟩
  · rw [nfr 35 (by omega), d352, s8048]
  · rw [nfr 35 (by omega), d353, s8046, g63 20 (by decide), l4]; exact n4.symm
  · rw [nfr 35 (by omega), d355, s8047]
  · rw [nfr 35 (by omega), d354, cut0 (fun w q => s80b w (by omega))]
  · obtain ⟨a, b, c, -, ⟨-, -, g7⟩, -, -, g10⟩ := hw w q
    rw [k36 w (by omega), s80 w q, g7, g10]
  · rw [k38 t (by omega), s80d t (by omega)]
  · obtain ⟨a, c, -, ⟨g5, -⟩, g8, -⟩ := ht t q
    rw [k37 t (by omega), s80c t q, g5, g8]
  · obtain ⟨a, c, -, ⟨g5, -⟩, g8, -⟩ := hp p q
    rw [k39 p (by omega), s80e p q, g5, g8]
  · rw [k40 p (by omega), s80f p (by omega)]
  · rw [nfr 19 (by omega)]; exact d194
  · rw [nfr 20 (by omega), nfr 21 (by omega)]; exact d20 i q
  · rw [nfr 29 (by omega)]; exact d29
  · rw [nfr 1 (by decide)]; exact x13
  · rw [n63 2 (by decide)]; exact b2'
  · rw [nfr 1 (by decide), x18, s3 8 (by decide) (by decide) (by decide) (by decide) (by decide) (by decide), hν5]; rfl
  · rw [nfr 45 (by omega)]; exact d454
  · rw [nfr 45 (by omega)]; exact d455
  · rw [nfr 41 (by omega), s37]; exact d418
  · rw [nfr 0 (by omega), nfr 64 (by omega)]; exact h13
  · rw [nfr 0 (by omega), nfr 64 (by omega)]; exact h14
theorem op_country {N : Nat} {μ : sw_M} (hN : 5000 ≤ N) (hI : Inv μ) (a1 : Int32) : OpI (f_x_country N μ a1) (fun μ1 => f_m_country N μ1 a1) := by
  obtain ⟨-, -, -, -, -, -, -, -, -, -, -, ⟨h, h6, t3, t2, tb, t8⟩, -, -, hrf, h13, h14⟩ := id hI
  have z1 : ∀ i, (wr (xr μ i) 63 0 0) 63 0 = 0 := fun _ => rfl
  have e600 : (600 : Int32) = ic 600 := rfl
  rcases tx_dec a1 h6 (most := 600) (by decide) with ⟨n, hn, hn2, rfl⟩ | hno
  rotate_left
  · right
    refine ⟨xr μ 1, 0, mr (xr μ 1) 1 1, ?_, ?_, rfl, hI.rr (by decide) 1⟩
    · unfold f_x_country
      rw [e600, tx_0 h6 (by decide) t3 hno, tb_r]
    · show f_m_country N (xr μ 1) a1 = _
      have t2' : (wr (xr μ 1) 63 0 0) 63 2 = ic h := t2
      have e28 : f_m_country_22 N (wr (xr μ 1) 63 0 0) a1 = some (0, mr (xr μ 1) 1 1) := by
        unfold f_m_country_22 f_m_country_23
        rw [may_i (by decide) (z1 1), ob_e, if_pos rfl]; rfl
      unfold f_m_country
      rw [wb_e, t2', e28]
      by_cases q1 : a1 < 0
      · rw [if_pos q1]
      · rw [if_neg q1]
        by_cases q2 : ic h < a1
        · rw [if_pos q2]
        · exfalso
          have p1 : 0 ≤ a1 := by grind
          have p2 : a1 ≤ ic h := by grind
          obtain ⟨k, hk, rfl⟩ := ic_bd p1 p2 (by omega)
          exact hno ⟨p1, p2, by rw [ic_le (by omega) (by omega)]; omega⟩
  · left
    obtain ⟨hBy, μ1, o1e, hA, fr1, p3, p8⟩ := open_e (μ := μ) hN h6 hn tb
    have hb0 : ∀ i, i < n → μ 65 i = ic (byt μ h i) := fun i hi => by
      obtain ⟨-, v, hv, e⟩ := tb i (by omega)
      unfold byt; rw [if_pos (by omega), e, ic_n (by omega)]
    have hm0 : ∀ (μf ν1 ν2 : sw_M), μf 63 2 = ic h → f_m_begins N (wr μf 63 0 0) (ic n) = some ν1 → f_m_clears N ν1 = some ν2 → f_m_country N μf (ic n) = f_m_country_44 N N ν2 0 := by
      intro μf ν1 ν2 hf hbg hcl
      have t2' : (wr μf 63 0 0) 63 2 = ic h := hf
      unfold f_m_country f_m_country_23
      rw [wb_e, t2', if_neg (by rw [ic_lt0 (by omega)]; exact id), if_neg (by rw [ic_lt (by omega) (by omega)]; omega), may_1 (by decide) rfl, ob_e, if_neg o1]
      simp only
      rw [hbg, ob_e, hcl, ob_e]
    have hx0 : f_x_country N μ (ic n) = Option.bind (f_landR_read N μ1) (fun r5 => if r5.1 = 0 then some (.inl ((r5.2 1 7) - 10, r5.2)) else xTail N r5.2) := by
      unfold f_x_country
      rw [e600, tx_1 h6 (by decide) t3 hn hn2, tb_l, o1e, ob_e]; rfl
    obtain ⟨_, _, _, _, _, hsim⟩ := land_sim hN hBy (by omega) hA rfl μ hb0
    rcases hsim with ⟨μ2, _, _, _, _, _, _, r1, _, _, _, xb, x8, _⟩ | ⟨μ2, _, r1, _, _, xb, _⟩
    · obtain ⟨μ3, c1, lt⟩ := land_tail hN μ2
      have fr3 : ∀ a, (a = 0 ∨ a = 2 ∨ 46 ≤ a) → μ3 a = μ a := fun a q => by
        rw [lt.1 a (by omega), xb.1 a (by omega) (by omega), fr1 a (by omega)]
      have hb3 : ∀ i, i < n → (wr μ3 63 0 0) 65 i = ic (byt μ h i) := fun i hi => by show μ3 65 i = _; rw [fr3 65 (by omega)]; exact hb0 i hi
      obtain ⟨ν1, ν2, hbg, hcl, mn0, hsim⟩ := land_sim hN hBy (by omega) hA rfl (wr μ3 63 0 0) hb3
      have hm1 := hm0 μ3 ν1 ν2 (by rw [fr3 63 (by omega)]; exact t2) hbg hcl
      obtain ⟨ν1', b1, -, b3, b4, b5, b6, -⟩ := begins_e (N := N) (ν := wr μ3 63 0 0) (B := byt μ h) (n := n) (by omega) hb3
      have he : ν1' = ν1 := Option.some.inj (b1.symm.trans hbg)
      subst he
      rcases hsim with ⟨μ2', ν4, F, W, T, P, l, r1', r2, hL, h5, -, -, mn⟩ | ⟨μ2', _, r1', _⟩
      rotate_left
      · rw [r1] at r1'; exact absurd (congrArg (fun o => o.map Prod.fst) r1') (by simp)
      have he : μ2' = μ2 := (congrArg Prod.snd (Option.some.inj (r1.symm.trans r1'))).symm
      subst he
      have mb := mn0.tr mn
      obtain ⟨ν6, q1, q2, q3, q4⟩ := land_inv hN lt hL h5 (fun a q => by rw [mb.1 a (by omega) (by omega), b3 a (by omega), wr_nr (by omega)]) (by rw [mb.2 2 (by omega) (by omega)]; exact b5) (by rw [lt.1 1 (by omega), xb.2, p3]) (by rw [lt.1 1 (by omega), x8, p8]) (by rw [fr3 0 (by omega), fr3 64 (by omega)]; exact h13) (by rw [fr3 0 (by omega), fr3 64 (by omega)]; exact h14)
      refine ⟨ic W, μ3, ν6, ?_, ?_, ?_, q4⟩
      · rw [hx0, r1, ob_e, if_neg (show ¬ (1 : Int32) = 0 by decide)]
        show xTail N μ2' = _
        rw [c1, q2]
      · show f_m_country N μ3 (ic n) = _
        rw [hm1, r2, q1]
      · rw [q3, mb.2 0 (by omega) (by omega), b4 0 (by omega)]; rfl
    · have fr2 : ∀ a, a ≠ 1 → (a < 11 ∨ 18 < a) → μ2 a = μ a := fun a q1 q2 => by rw [xb.1 a q1 q2, fr1 a q1]
      have hb3 : ∀ i, i < n → (wr μ2 63 0 0) 65 i = ic (byt μ h i) := fun i hi => by show μ2 65 i = _; rw [fr2 65 (by decide) (by decide)]; exact hb0 i hi
      obtain ⟨ν1, ν2, hbg, hcl, mn0, hsim⟩ := land_sim hN hBy (by omega) hA rfl (wr μ2 63 0 0) hb3
      have hm1 := hm0 μ2 ν1 ν2 (by rw [fr2 63 (by decide) (by decide)]; exact t2) hbg hcl
      obtain ⟨ν1', b1, -, b3, b4, b5, b6, -⟩ := begins_e (N := N) (ν := wr μ2 63 0 0) (B := byt μ h) (n := n) (by omega) hb3
      have he : ν1' = ν1 := Option.some.inj (b1.symm.trans hbg)
      subst he
      rcases hsim with ⟨μ2', _, _, _, _, _, _, r1', _⟩ | ⟨μ2', ν4, r1', r2, hbd, -, mn⟩
      · rw [r1] at r1'; exact absurd (congrArg (fun o => o.map Prod.fst) r1') (by simp)
      have he : μ2' = μ2 := (congrArg Prod.snd (Option.some.inj (r1.symm.trans r1'))).symm
      subst he
      have nf := hbd.nf
      have mb := mn0.tr mn
      have hres : f_m_country_136 N ν4 = some (ν4 63 6 - 10, wr ν4 63 8 (ν4 63 5)) := by
        unfold f_m_country_136 f_m_result
        rw [wb_e, fine_0 (show ¬ (wr ν4 63 8 (ν4 63 5)) 63 5 = -1 from nf), ob_e, if_pos rfl, ob_e]
        simp only
        rw [if_neg (show ¬ (wr ν4 63 8 (ν4 63 5)) 63 5 = -1 from nf)]; rfl
      obtain ⟨k, p, hp, hk, d7, d8, d5, d6⟩ := hbd
      refine ⟨ν4 63 6 - 10, μ2', wr ν4 63 8 (ν4 63 5), ?_, ?_, ?_, ?_⟩
      · rw [hx0, r1, ob_e, if_pos rfl]
        simp only
        rw [d7, d6]
      · show f_m_country N μ2' (ic n) = _
        rw [hm1, r2, hres]
      · show ν4 63 0 = 0; rw [mb.2 0 (by decide) (by decide), b4 0 (by decide)]; rfl
      · have nfr : ∀ a, a ≠ 63 → (a < 66 ∨ 68 < a) → (wr ν4 63 8 (ν4 63 5)) a = μ2' a := fun a q1 q2 => by rw [wr_nr q1, mb.1 a q1 q2, b3 a q1, wr_nr q1]
        refine inv_fail hI (fun a ha => ?_) (fun j hj => ?_) ?_ ?_ ?_ ?_
        · unfold FR at ha
          rw [nfr a (by omega) (by omega), fr2 a (by omega) (by omega)]
        · rw [wr_ap, if_pos rfl, if_neg (by omega), mb.2 j (by omega) (by omega), b4 j (by omega), wr_ap, if_pos rfl, if_neg (by omega), fr2 63 (by decide) (by decide)]
        · rw [nfr 41 (by decide) (by decide), fr2 41 (by decide) (by decide)]
        · rw [nfr 1 (by decide) (by decide), xb.2, p3]
        · show ν4 63 2 = 0; rw [mb.2 2 (by decide) (by decide)]; exact b5
        · rw [nfr 1 (by decide) (by decide)]; show _ = ν4 63 5; rw [d8, d5]
