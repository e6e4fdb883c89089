theorem lp_m_valueNow {N : Nat} {K O V : Nat → Int32} {len : Nat} (hL : WL K O len) : ∀ (j k : Nat) (s : (Nat → Int32) × Nat) (μ : sw_M) (n : Nat), k + j = len → j < n → s.2 = dep K k → (∀ i, i < s.2 → μ 76 i = s.1 i) → μ 63 31 = ic len → (∀ i, i < len → μ 74 i = K i ∧ μ 75 i = O i) → (∀ i, i < 7 → μ 77 i = V i) →
    ∃ g : Nat → Int32, f_m_valueNow_4 N n μ (ic s.2) (ic k) = some (g 0, wrR μ 76 g) ∧ ∀ i, i < (fo (es K O V) k j s).2 → g i = (fo (es K O V) k j s).1 i := by
  intro j
  induction j with
  | zero => sorry
  | succ j ih =>
    intro k s μ n h hn hd hs hl hc hv
    obtain ⟨n, rfl⟩ := fu_s (show 0 < n by omega)
    have h150 := hL.1
    have hdk := dep_le K k
    obtain ⟨hK, hO⟩ := hc k (by omega)
    rw [fo_s]
    have key : ∀ (i : Nat) (v : Int32) (t : Nat), t = dep K (k + 1) → (∀ x, x < t → up (μ 76) i v x = up s.1 i v x) → es K O V k s = (up s.1 i v, t) → ∃ g : Nat → Int32, f_m_valueNow_4 N n (wr μ 76 i v) (ic t) (ic (k + 1)) = some (g 0, wrR μ 76 g) ∧ ∀ i, i < (fo (es K O V) (k + 1) j (es K O V k s)).2 → g i = (fo (es K O V) (k + 1) j (es K O V k s)).1 i := by
      intro i v t ht hx he
      have := ih (k + 1) (up s.1 i v, t) (wr μ 76 i v) n (by omega) (by omega) ht (fun x hx' => by rw [wr_up, wrR_r]; exact hx x hx') (by rw [wr_nr (by decide)]; exact hl) (fun x hx' => by rw [wr_nr (by decide), wr_nr (by decide)]; exact hc x hx') (fun x hx' => by rw [wr_nr (by decide)]; exact hv x hx')
      obtain ⟨g, h1, h2⟩ := this
      refine ⟨g, ?_, ?_⟩
      · rw [h1, wr_up, wrR_wrR]
      · rw [he]; exact h2
    rcases hL.2.2 k (by omega) with e | ⟨e, i, hi, e2⟩ | ⟨q, hq1, hq2, e, hd2⟩
    · obtain ⟨g, h1, h2⟩ := key s.2 (O k) (s.2 + 1) (by unfold dep; simp [e, hd]) (fun x hx => by
        rw [up_ap, up_ap]; split
        · rfl
        · exact hs x (by omega)) (by unfold es; simp [e])
      refine ⟨g, ?_, h2⟩
      rw [← h1]
      simp (disch := omega) only [f_m_valueNow_4, f_m_valueNow_53, hl, hK, hO, e, wb_e, ib_e, ibL_e, ob_e, nz4, inb_e, inb_lit, ic_n, n_lit, ic_1, lit_add, add_lit, lit_mul, mul_lit, ic_add, ic_mul, ic_le, ic_lt, ic_eq, lit_le, le_lit, lit_lt, lt_lit, lit_eq, eq_lit, ic_m1, m1_ic, ic_lt0, ic_0le, b2_0, b2_1, b2_bl, sh_e, Nat.not_lt_zero, Nat.zero_le, Nat.reduceEqDiff, Nat.reduceAdd, Nat.reduceMul, Nat.reduceSub, Nat.reduceLT, Nat.reduceLeDiff, reduceIte, ne_eq, not_false_eq_true, not_true_eq_false, if_true, if_false, Nat.zero_add]
      rw [if_neg (by omega)]
      simp only [show ¬ (1 : Int32) < 0 by decide, if_false, if_true]
    · sorry
    · sorry
