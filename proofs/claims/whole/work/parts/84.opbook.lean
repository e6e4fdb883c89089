/-! ===== what a text's call owes; book ===== -/
theorem inv_c {μ μ' : sw_M} {F W T P : Nat} {K O : Nat → Int32} {nl nb n m : Nat} (hC : CW μ F W T P) (hM : MR μ μ F W T P) (r3 : ∀ a, 3 ≤ a → a ≤ 10 → μ' a = μ a) (r69 : ∀ a, 69 ≤ a → a ≤ 71 → μ' a = μ a) (c63 : ∀ j, 21 ≤ j → j ≤ 24 → μ' 63 j = μ 63 j)
    (hS : OKS F W T P (μ' 80)) (hD : DR μ' 35 W T P (μ' 80)) (hX : XL μ' K O nl) (hL : ML μ' K O nl) (hB : BK μ' nb) (tp : TP μ') (sh : SHF μ' F W T P n) (im : IMG μ' F W T P m) (h8 : μ' 41 8 = μ' 63 37) (h13 : μ' 0 13 = μ' 64 0) (h14 : μ' 0 14 = μ' 64 1) : Inv μ' := by
  have q3 := r3 3 (by decide) (by decide); have q4 := r3 4 (by decide) (by decide); have q5 := r3 5 (by decide) (by decide); have q6 := r3 6 (by decide) (by decide)
  have q7 := r3 7 (by decide) (by decide); have q8 := r3 8 (by decide) (by decide); have q9 := r3 9 (by decide) (by decide); have q10 := r3 10 (by decide) (by decide)
  have q69 := r69 69 (by decide) (by decide); have q70 := r69 70 (by decide) (by decide); have q71 := r69 71 (by decide) (by decide)
  have c21 := c63 21 (by decide) (by decide); have c22 := c63 22 (by decide) (by decide); have c23 := c63 23 (by decide) (by decide); have c24 := c63 24 (by decide) (by decide)
  refine ⟨F, W, T, P, K, O, nl, nb, n, m, ⟨?_, ?_, hS, hD, hX, hL, hB⟩, tp, sh, im, h8, h13, h14⟩
  · unfold CW at hC ⊢; simp only [q3, q4, q5, q6, q7, q8, q9, q10]; exact hC
  · unfold MR at hM ⊢; simp only [c21, c22, c23, c24, q69, q70, q71, q4, q5, q6, q7, q8, q9, q10]; exact hM
section
variable {μ μ' : sw_M} {F W T P n m nl nb : Nat} {K O : Nat → Int32}
theorem XL.fr (h : XL μ K O nl) (a : μ' 19 4 = μ 19 4) (b : μ' 20 = μ 20) (c : μ' 21 = μ 21) : XL μ' K O nl := by unfold XL at h ⊢; rw [a, b, c]; exact h
theorem ML.fr (h : ML μ K O nl) (a : μ' 63 31 = μ 63 31) (b : μ' 74 = μ 74) (c : μ' 75 = μ 75) : ML μ' K O nl := by unfold ML at h ⊢; rw [a, b, c]; exact h
theorem BK.fr (h : BK μ nb) (a : μ' 29 = μ 29) (b : μ' 30 = μ 30) (c : μ' 31 = μ 31) (d : μ' 84 = μ 84) (e : μ' 63 46 = μ 63 46) : BK μ' nb := by unfold BK at h ⊢; rw [a, b, c, d, e]; exact h
theorem SHF.fr (h : SHF μ F W T P n) (a : μ' 45 4 = μ 45 4) (b : μ' 63 36 = μ 63 36) (c : μ' 46 = μ 46) (d : μ' 82 = μ 82) : SHF μ' F W T P n := by unfold SHF at h ⊢; rw [a, b, c, d]; exact h
theorem IMG.fr (h : IMG μ F W T P m) (a : μ' 45 5 = μ 45 5) (b : μ' 63 50 = μ 63 50) (c : μ' 47 = μ 47) (d : μ' 48 = μ 48) (e : μ' 86 = μ 86) : IMG μ' F W T P m := by unfold IMG IM1 at h ⊢; rw [a, b, c, d, e]; exact h
theorem OKS.fr (h : OKS F W T P (μ 80)) (a : μ' 80 = μ 80) : OKS F W T P (μ' 80) := by rw [a]; exact h
end
theorem TP.nil {μ : sw_M} (h3 : μ 1 3 = 0) (h2 : μ 63 2 = 0) (h8 : μ 1 8 = μ 63 8) : TP μ := ⟨0, by decide, h3, h2, fun i hi => by omega, h8⟩
/-! the guard of a text -/
theorem tx_dec (a : Int32) {h most : Nat} (hh : h ≤ 600) (hm : most ≤ 600) : (∃ n, n ≤ h ∧ n ≤ most ∧ a = ic n) ∨ ¬ (0 ≤ a ∧ a ≤ ic h ∧ a ≤ ic most) := by
  by_cases q : 0 ≤ a ∧ a ≤ ic h ∧ a ≤ ic most
  · obtain ⟨k, hk, rfl⟩ := ic_bd q.1 q.2.1 (by omega)
    have := q.2.2
    rw [ic_le (by omega) (by omega)] at this
    exact Or.inl ⟨k, hk, this, rfl⟩
  · exact Or.inr q
theorem tx_min {h most : Nat} (hh : h ≤ 600) (hm : most ≤ 600) (a : Int32) : (0 ≤ a ∧ a ≤ (if ic most < ic h then ic most else ic h)) ↔ (0 ≤ a ∧ a ≤ ic h ∧ a ≤ ic most) := by
  by_cases q : most < h
  · rw [if_pos (by rw [ic_lt (by omega) (by omega)]; exact q)]
    have : ic most ≤ ic h := by rw [ic_le (by omega) (by omega)]; omega
    exact ⟨fun z => ⟨z.1, by have := z.2; grind, z.2⟩, fun z => ⟨z.1, z.2.2⟩⟩
  · rw [if_neg (by rw [ic_lt (by omega) (by omega)]; exact q)]
    have : ic h ≤ ic most := by rw [ic_le (by omega) (by omega)]; omega
    exact ⟨fun z => ⟨z.1, z.2, by have := z.2; grind⟩, fun z => ⟨z.1, z.2.1⟩⟩
theorem tx_1 {N h most n : Nat} {μ : sw_M} (hh : h ≤ 600) (hm : most ≤ 600) (h3 : μ 1 3 = ic h) (hn : n ≤ h) (hn2 : n ≤ most) : f_x_needText N μ (ic n) (ic most) = some (.inl μ) := by
  have : 0 ≤ ic n ∧ ic n ≤ (if ic most < ic h then ic most else ic h) := by
    rw [tx_min hh hm, ic_0le (by omega), ic_le (by omega) (by omega), ic_le (by omega) (by omega)]; exact ⟨trivial, hn, hn2⟩
  unfold f_x_needText
  rw [h3, within_e, ob_e, b2_p this, nd_1 (by decide), tb_l]
theorem tx_0 {N h most : Nat} {μ : sw_M} {a : Int32} (hh : h ≤ 600) (hm : most ≤ 600) (h3 : μ 1 3 = ic h) (hn : ¬ (0 ≤ a ∧ a ≤ ic h ∧ a ≤ ic most)) : f_x_needText N μ a (ic most) = some (.inr ("java/lang/IllegalArgumentException", xr μ 1)) := by
  have : ¬ (0 ≤ a ∧ a ≤ (if ic most < ic h then ic most else ic h)) := by rw [tx_min hh hm]; exact hn
  unfold f_x_needText
  rw [h3, within_e, ob_e, b2_n this, nd_0, tb_r]; rfl
theorem lp_book46 {N : Nat} : ∀ (j k : Nat) (ν : sw_M) (n : Nat), k + j = 41 → j < n → (∀ i, i < k → ν 83 i = -1) → ∃ g, f_m_book_46 N n ν (ic k) = f_m_book_67 N N (wrR ν 83 g) 0 ∧ ∀ i, i ≤ 40 → g i = -1
  | 0, k, ν, n, hk, hn, hz => by
    obtain ⟨n, rfl⟩ := fu_s hn
    refine ⟨ν 83, ?_, fun i hi => hz i (by omega)⟩
    rw [wrR_self, f_m_book_46, if_pos (by rw [lit_lt (by decide) (by omega)]; omega)]
  | j + 1, k, ν, n, hk, hn, hz => by
    obtain ⟨n, rfl⟩ := fu_s (show 0 < n by omega)
    obtain ⟨g, h1, h2⟩ := lp_book46 j (k + 1) (wr ν 83 k (-1)) n (by omega) (by omega) (fun i hi => by
      rw [wr_up, wrR_r]
      by_cases e : i = k
      · subst e; rw [up_s]
      · rw [up_n e]; exact hz i (by omega))
    rw [wr_up, wrR_wrR] at h1
    refine ⟨g, ?_, h2⟩
    rw [← h1, f_m_book_46, if_neg (by rw [lit_lt (by decide) (by omega)]; omega), inb_e (by omega) (by decide), ic_n (by omega), wb_e, ic_1, wr_up]
/-- both read a book: for every state of the reference that holds the bytes -/
theorem book_sim {N : Nat} {μ : sw_M} {B : Nat → Nat} {n s : Nat} (hN : 5000 ≤ N) (hB : ∀ i, B i < 256) (h6 : n ≤ 600) (hA : AT μ B n s) (hs : s = sk B n 0) (ν : sw_M) (hb : ∀ i, i < n → ν 65 i = ic (B i)) :
    ∃ ν1, f_m_begins N ν (ic n) = some ν1 ∧ (
    (∃ μ' ν' n', f_bookR_read N μ = some (1, μ') ∧ f_m_book_46 N N ν1 0 = f_m_book_183 N ν' (ic n') ∧ BL μ' ν' n' ∧ ν' 63 5 = -1 ∧ XB μ μ' ∧ μ' 1 8 = μ 1 8 ∧ MB ν1 ν') ∨
    (∃ μ' ν' x, f_bookR_read N μ = some (0, μ') ∧ f_m_book_46 N N ν1 0 = f_m_book_183 N ν' x ∧ BAD μ' ν' ∧ XB μ μ' ∧ MB ν1 ν')) := by
  obtain ⟨ν1, e1, e2, e3, e4, -⟩ := begins_e (N := N) h6 hb
  refine ⟨ν1, e1, ?_⟩
  obtain ⟨g, g1, g2⟩ := lp_book46 (N := N) 41 0 ν1 N (by omega) (by omega) (fun i hi => by omega)
  have g1' : f_m_book_46 N N ν1 0 = _ := g1
  subst hs
  have hA1 : AT (wr μ 32 0 0) B n (sk B n 0) := hA
  have hR1 : RT (wrR ν1 83 g) B n (sk B n 0) := e2
  have hL : BL (wr μ 32 0 0) (wrR ν1 83 g) 0 := ⟨by decide, rfl, fun i hi => by omega, fun k hk => Or.inl (by rw [wrR_r]; exact g2 k hk)⟩
  have x0 : XB μ (wr μ 32 0 0) := ⟨fun a _ q _ _ => wr_nr q, rfl⟩
  have m0 : MB ν1 (wrR ν1 83 g) := ⟨fun a _ q => wrR_nr q, fun j _ _ _ => rfl⟩
  rcases lp_book hN hB 8 0 _ _ _ N N (by omega) (by omega) (by omega) hA1 hR1 hL with ⟨μ', ν', n', a1, a2, a3, a4, a5, a6, a7⟩ | ⟨μ', ν', x, a1, a2, a3, a5, a7⟩
  · exact Or.inl ⟨μ', ν', n', a1, g1'.trans a2, a3, a4, x0.tr a5, a6, m0.tr a7⟩
  · exact Or.inr ⟨μ', ν', x, a1, g1'.trans a2, a3, x0.tr a5, m0.tr a7⟩
