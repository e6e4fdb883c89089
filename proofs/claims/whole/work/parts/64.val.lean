theorem vs_0 {N n len k d q : Nat} {μ : sw_M} {o : Int32} (hl : μ 63 31 = ic len) (h150 : len ≤ 150) (hk : k < len) (hd : d < 150) (hq : q = 0) (hK : μ 74 k = ic q) (hO : μ 75 k = o) : f_m_valueNow_4 N (n + 1) μ (ic d) (ic k) = f_m_valueNow_4 N n (wr μ 76 d o) (ic (d + 1)) (ic (k + 1)) := by
  rw [f_m_valueNow_4]
  simp (disch := omega) only [f_m_valueNow_53, hl, hK, hO, wb_e, ib_e, ibL_e, ob_e, nz4, inb_e, inb_lit, ic_n, n_lit, ic_1, lit_add, add_lit, lit_mul, mul_lit, ic_add, ic_mul, ic_le, ic_lt, ic_eq, lit_le, le_lit, lit_lt, lt_lit, lit_eq, eq_lit, ic_m1, m1_ic, ic_lt0, ic_0le, b2_0, b2_1, b2_bl, sh_e, Nat.not_lt_zero, Nat.zero_le, Nat.reduceEqDiff, Nat.reduceAdd, Nat.reduceMul, Nat.reduceSub, Nat.reduceLT, Nat.reduceLeDiff, reduceIte, ne_eq, not_false_eq_true, not_true_eq_false, if_true, if_false, Nat.zero_add]
  rw [if_neg (by omega), if_neg (by omega), if_pos (by omega)]
theorem vs_1 {N n len k d i q : Nat} {μ : sw_M} (hl : μ 63 31 = ic len) (h150 : len ≤ 150) (hk : k < len) (hd : d < 150) (hi : i < 7) (hq : q = 1) (hK : μ 74 k = ic q) (hO : μ 75 k = ic i) : f_m_valueNow_4 N (n + 1) μ (ic d) (ic k) = f_m_valueNow_4 N n (wr μ 76 d (μ 77 i)) (ic (d + 1)) (ic (k + 1)) := by
  rw [f_m_valueNow_4]
  simp (disch := omega) only [f_m_valueNow_53, hl, hK, hO, wb_e, ib_e, ibL_e, ob_e, nz4, inb_e, inb_lit, ic_n, n_lit, ic_1, lit_add, add_lit, lit_mul, mul_lit, ic_add, ic_mul, ic_le, ic_lt, ic_eq, lit_le, le_lit, lit_lt, lt_lit, lit_eq, eq_lit, ic_m1, m1_ic, ic_lt0, ic_0le, b2_0, b2_1, b2_bl, sh_e, Nat.not_lt_zero, Nat.zero_le, Nat.reduceEqDiff, Nat.reduceAdd, Nat.reduceMul, Nat.reduceSub, Nat.reduceLT, Nat.reduceLeDiff, reduceIte, ne_eq, not_false_eq_true, not_true_eq_false, if_true, if_false, Nat.zero_add]
  rw [if_neg (by omega), if_neg (by omega), if_neg (by omega)]
theorem vs_2 {N n len k d q : Nat} {μ : sw_M} (hl : μ 63 31 = ic len) (h150 : len ≤ 150) (hk : k < len) (hd : d + 1 < 150) (h2 : 2 ≤ q) (h8 : q ≤ 8) (hK : μ 74 k = ic q) : f_m_valueNow_4 N (n + 1) μ (ic (d + 1 + 1)) (ic k) = f_m_valueNow_4 N n (wr μ 76 d (opI (ic q) (μ 76 d) (μ 76 (d + 1)))) (ic (d + 1)) (ic (k + 1)) := by
  rw [f_m_valueNow_4]
  simp (disch := omega) only [hl, hK, ic_p1, ic_s1, both_e h2 h8, wb_e, ib_e, ibL_e, ob_e, nz4, inb_e, inb_lit, ic_n, n_lit, ic_1, lit_add, add_lit, lit_mul, mul_lit, ic_add, ic_mul, ic_le, ic_lt, ic_eq, lit_le, le_lit, lit_lt, lt_lit, lit_eq, eq_lit, ic_m1, m1_ic, ic_lt0, ic_0le, b2_0, b2_1, b2_bl, sh_e, Nat.not_lt_zero, Nat.zero_le, Nat.reduceEqDiff, Nat.reduceAdd, Nat.reduceMul, Nat.reduceSub, Nat.reduceLT, Nat.reduceLeDiff, reduceIte, ne_eq, not_false_eq_true, not_true_eq_false, if_true, if_false, Nat.zero_add]
  rw [if_neg (by omega), if_pos (by omega)]
theorem lp_m_valueNow {N : Nat} {K O V : Nat → Int32} {len : Nat} (hL : WL K O len) : ∀ (j k d : Nat) (f : Nat → Int32) (μ : sw_M) (n : Nat), k + j = len → j < n → d = dep K k → (∀ i, i < d → μ 76 i = f i) → μ 63 31 = ic len → (∀ i, i < len → μ 74 i = K i ∧ μ 75 i = O i) → (∀ i, i < 7 → μ 77 i = V i) →
    ∃ g : Nat → Int32, f_m_valueNow_4 N n μ (ic d) (ic k) = some (g 0, wrR μ 76 g) ∧ ∀ i, i < (fo (es K O V) k j (f, d)).2 → g i = (fo (es K O V) k j (f, d)).1 i := by
  intro j
  induction j with
  | zero =>
    intro k d f μ n h hn hd hs hl hc hv
    obtain ⟨n, rfl⟩ := fu_s hn
    exact vq_7 K O V μ N n len k (f, d) hl hL.1 h hs
  | succ j ih =>
    intro k d f μ n h hn hd hs hl hc hv
    obtain ⟨n, rfl⟩ := fu_s (show 0 < n by omega)
    have h150 := hL.1
    have hdk := dep_le K k
    obtain ⟨hK, hO⟩ := hc k (by omega)
    rw [fo_s]
    have key : ∀ (i : Nat) (v : Int32) (t : Nat), t = dep K (k + 1) → (∀ x, x < t → up (μ 76) i v x = up f i v x) → es K O V k (f, d) = (up f i v, t) → f_m_valueNow_4 N (n + 1) μ (ic d) (ic k) = f_m_valueNow_4 N n (wr μ 76 i v) (ic t) (ic (k + 1)) → ∃ g : Nat → Int32, f_m_valueNow_4 N (n + 1) μ (ic d) (ic k) = some (g 0, wrR μ 76 g) ∧ ∀ i, i < (fo (es K O V) (k + 1) j (es K O V k (f, d))).2 → g i = (fo (es K O V) (k + 1) j (es K O V k (f, d))).1 i := by
      intro i v t ht hx he hst
      obtain ⟨g, h1, h2⟩ := ih (k + 1) t (up f i v) (wr μ 76 i v) n (by omega) (by omega) ht (fun x hx' => by rw [wr_up, wrR_r]; exact hx x hx') (by rw [wr_nr (by decide)]; exact hl) (fun x hx' => by rw [wr_nr (by decide), wr_nr (by decide)]; exact hc x hx') (fun x hx' => by rw [wr_nr (by decide)]; exact hv x hx')
      refine ⟨g, ?_, ?_⟩
      · rw [hst, h1, wr_up, wrR_wrR]
      · rw [he]; exact h2
    have hup : ∀ (i : Nat) (v : Int32) (t : Nat), t ≤ d + 1 → i = d ∨ t ≤ d → ∀ x, x < t → up (μ 76) i v x = up f i v x := by
      intro i v t h1 h2 x hx
      rw [up_ap, up_ap]
      by_cases e : x = i
      · rw [if_pos e, if_pos e]
      · rw [if_neg e, if_neg e]; exact hs x (by omega)
    rcases hL.2.2 k (by omega) with e | ⟨e, i, hi, e2⟩ | ⟨q, hq1, hq2, e, hd2⟩
    · refine key d (O k) (d + 1) ?_ (hup _ _ _ (by omega) (Or.inl rfl)) ?_ (vs_0 (q := 0) hl h150 (by omega) (by omega) rfl (hK.trans e) hO)
      · rw [dep, if_pos (Or.inl e), hd]
      · unfold es; rw [if_pos e]
    · refine key d (V i) (d + 1) ?_ (hup _ _ _ (by omega) (Or.inl rfl)) ?_ (by rw [← hv i hi]; exact vs_1 (q := 1) hl h150 (by omega) (by omega) hi rfl (hK.trans e) (hO.trans e2))
      · rw [dep, if_pos (Or.inr e), hd]
      · unfold es; rw [if_neg (by rw [e]; decide), if_pos e, e2, ic_n (by omega)]
    · obtain ⟨z, hd3⟩ : ∃ z, d = z + 1 + 1 := ⟨d - 2, by omega⟩
      have n0 : ¬ K k = 0 := by rw [e, eq_lit (by omega) (by omega)]; omega
      have n1 : ¬ K k = 1 := by rw [e, eq_lit (by omega) (by omega)]; omega
      have s1 := hs z (by omega)
      have s2 := hs (z + 1) (by omega)
      refine key z (opI (ic q) (μ 76 z) (μ 76 (z + 1))) (z + 1) ?_ (hup _ _ _ (by omega) (Or.inr (by omega))) ?_ (by rw [hd3]; exact vs_2 hl h150 (by omega) (by omega) hq1 hq2 (hK.trans e))
      · rw [dep, if_neg (fun x => x.elim n0 n1), ← hd, hd3]; omega
      · unfold es; rw [if_neg n0, if_neg n1, e, hd3, s1, s2]
        simp only [Nat.add_sub_cancel]
        rw [show z + 1 + 1 - 2 = z by omega]
def FrT (μ μ' : sw_M) : Prop := ∀ a, a ≠ 76 → a ≠ 77 → μ' a = μ a
def vf (a1 a2 a3 a4 a5 a6 a7 : Int32) (i : Nat) : Int32 := if i = 0 then a1 else if i = 1 then a2 else if i = 2 then a3 else if i = 3 then a4 else if i = 4 then a5 else if i = 5 then a6 else a7
def tollV (K O : Nat → Int32) (n : Nat) (V : Nat → Int32) : Int32 := clampI (valS K O V n) 0 40
def K0 (k : Nat) : Int32 := if k = 0 then 0 else if k = 1 then 1 else if k = 2 then 0 else if k = 3 then 5 else 2
def O0 (k : Nat) : Int32 := if k = 0 then 1 else if k = 2 then 4 else 0
theorem wl0 : WL K0 O0 5 := by
  refine ⟨by decide, by decide, ?_⟩
  intro k hk
  have : k = 0 ∨ k = 1 ∨ k = 2 ∨ k = 3 ∨ k = 4 := by omega
  rcases this with rfl | rfl | rfl | rfl | rfl
  · exact Or.inl rfl
  · exact Or.inr (Or.inl ⟨rfl, 0, by decide, rfl⟩)
  · exact Or.inl rfl
  · exact Or.inr (Or.inr ⟨5, by decide, by decide, rfl, by decide⟩)
  · exact Or.inr (Or.inr ⟨2, by decide, by decide, rfl, by decide⟩)
theorem val0 (V : Nat → Int32) : valS K0 O0 V 5 = 1 + V 0 / 4 := by
  show (fo (es K0 O0 V) 0 5 (fun _ => 0, 0)).1 0 = 1 + V 0 / 4
  rfl
/-- the law as the reference has it -/
def ML (μ : sw_M) (K O : Nat → Int32) (n : Nat) : Prop := WL K O n ∧ ((μ 63 31 = ic n ∧ ∀ i, i < n → μ 74 i = K i ∧ μ 75 i = O i) ∨ (μ 63 31 = 0 ∧ n = 5 ∧ K = K0 ∧ O = O0))
theorem WL.pos {K O : Nat → Int32} {n : Nat} (h : WL K O n) : 1 ≤ n := by
  have := h.2.1
  have h2 := dep_le K n
  omega
theorem e_m_tollOf {N : Nat} {μ : sw_M} {K O : Nat → Int32} {n : Nat} (hN : 5000 ≤ N) (hL : ML μ K O n) (a1 a2 a3 a4 a5 a6 a7 : Int32) : ∃ μ', f_m_tollOf N μ a1 a2 a3 a4 a5 a6 a7 = some (tollV K O n (vf a1 a2 a3 a4 a5 a6 a7), μ') ∧ FrT μ μ' := by
  simp (disch := omega) only [f_m_tollOf, wb_e, ib_e, ibL_e, ob_e, nz4, inb_e, inb_lit, ic_n, n_lit, ic_1, lit_add, add_lit, lit_mul, mul_lit, ic_add, ic_mul, ic_le, ic_lt, ic_eq, lit_le, le_lit, lit_lt, lt_lit, lit_eq, eq_lit, ic_m1, m1_ic, ic_lt0, ic_0le, b2_0, b2_1, b2_bl, sh_e, Nat.not_lt_zero, Nat.zero_le, Nat.reduceEqDiff, Nat.reduceAdd, Nat.reduceMul, Nat.reduceSub, Nat.reduceLT, Nat.reduceLeDiff, reduceIte, ne_eq, not_false_eq_true, not_true_eq_false, if_true, if_false, Nat.zero_add]
  generalize hm : wr (wr (wr (wr (wr (wr (wr μ 77 0 a1) 77 1 a2) 77 2 a3) 77 3 a4) 77 4 a5) 77 5 a6) 77 6 a7 = m
  have hf : ∀ a, a ≠ 77 → m a = μ a := fun a ha => by subst hm; simp only [wr_nr ha]
  have hv : ∀ i, i < 7 → m 77 i = vf a1 a2 a3 a4 a5 a6 a7 i := by
    intro i hi
    subst hm
    have : i = 0 ∨ i = 1 ∨ i = 2 ∨ i = 3 ∨ i = 4 ∨ i = 5 ∨ i = 6 := by omega
    rcases this with rfl | rfl | rfl | rfl | rfl | rfl | rfl <;> rfl
  have ht : ∀ (v : Int32) (m' : sw_M), f_m_tollNow_24 N m' v = some (clampI v 0 40, m') := by
    intro v m'; unfold f_m_tollNow_24 clampI; split
    · split <;> rfl
    · rfl
  obtain ⟨hW, h | h⟩ := hL
  · have hp := hW.pos; have h150 := hW.1
    have n0 : ¬ m 63 31 = 0 := by rw [hf 63 (by decide), h.1, eq_lit (by omega) (by omega)]; omega
    obtain ⟨g, h1, h2⟩ := lp_m_valueNow (N := N) (V := vf a1 a2 a3 a4 a5 a6 a7) hW n 0 0 (fun _ => 0) m N (by omega) (by omega) rfl (fun i hi => absurd hi (Nat.not_lt_zero i)) (by rw [hf 63 (by decide)]; exact h.1) (fun i hi => by rw [hf 74 (by decide), hf 75 (by decide)]; exact h.2 i hi) hv
    refine ⟨wrR m 76 g, ?_, ?_⟩
    · have h1' : f_m_valueNow N m = some (g 0, wrR m 76 g) := h1
      unfold f_m_tollNow
      rw [if_neg n0, h1']
      simp only [ob_e, ht]
      have := h2 0 (by rw [es_dep (n := n) n 0 _ rfl, Nat.zero_add, hW.2.1]; decide)
      rw [this]; rfl
    · intro a ha hb; rw [wrR_nr ha, hf a hb]
  · obtain ⟨h0, rfl, rfl, rfl⟩ := h
    refine ⟨m, ?_, fun a _ hb => hf a hb⟩
    unfold f_m_tollNow
    rw [if_pos (by rw [hf 63 (by decide)]; exact h0)]
    simp (disch := omega) only [wb_e, ib_e, ibL_e, ob_e, nz4, inb_e, inb_lit, ic_n, n_lit, ic_1, lit_add, add_lit, lit_mul, mul_lit, ic_add, ic_mul, ic_le, ic_lt, ic_eq, lit_le, le_lit, lit_lt, lt_lit, lit_eq, eq_lit, ic_m1, m1_ic, ic_lt0, ic_0le, b2_0, b2_1, b2_bl, sh_e, Nat.not_lt_zero, Nat.zero_le, Nat.reduceEqDiff, Nat.reduceAdd, Nat.reduceMul, Nat.reduceSub, Nat.reduceLT, Nat.reduceLeDiff, reduceIte, ne_eq, not_false_eq_true, not_true_eq_false, if_true, if_false, Nat.zero_add, ht]
    rw [hv 0 (by decide)]
    unfold tollV
    rw [val0]
