/-! ===== printed by wip/whole/gen78.py: ahead, grace, haul ===== -/
/-- the row so many hours later -/
def ah (P : Nat) (S : Nat → Int32) (k : Nat) : Nat → Int32 := fun i => if i = 48 then S 48 + ic k else if 41 ≤ i ∧ i < 41 + P then (if 0 < S i - 5 * ic k then S i - 5 * ic k else 0) else S i
theorem ah_lo {P : Nat} {S : Nat → Int32} {k i : Nat} (h : i < 41) : ah P S k i = S i := by
  unfold ah; rw [if_neg (by omega), if_neg (by omega)]
theorem ah_48 {P : Nat} {S : Nat → Int32} {k : Nat} : ah P S k 48 = S 48 + ic k := by unfold ah; rw [if_pos rfl]
theorem ah_r {P : Nat} {S : Nat → Int32} {k p : Nat} (hP : P ≤ 5) (h : p < P) : ah P S k (41 + p) = if 0 < S (41 + p) - 5 * ic k then S (41 + p) - 5 * ic k else 0 := by
  unfold ah; rw [if_neg (by omega), if_pos (by omega)]
theorem cl0 {a b : Nat} (ha : a ≤ 100000) (hb : b ≤ 100000) : (if 0 < ic a - ic b then ic a - ic b else 0) = ic (a - b) := by
  by_cases h : b < a
  · rw [ic_sub (by omega), if_pos]
    rw [show (0 : Int32) = ic 0 from rfl, ic_lt (by omega) (by omega)]; omega
  · rw [if_neg, show a - b = 0 by omega]; rfl
    intro z
    have z2 := Int32.lt_iff_toInt_lt.mp z
    rw [ic_sub_toInt (by omega) (by omega), show (0 : Int32).toInt = 0 from rfl] at z2
    omega
theorem ah_hr {F W T P : Nat} {S : Nat → Int32} (hP : P ≤ 5) (hS : WS F W T P S) {k : Nat} (hk : k ≤ 1000) : hrS P (ah P S k) = ah P S (k + 1) := by
  funext i
  by_cases e : i = 48
  · subst e
    rw [hrS_48 hP, ah_48, ah_48, ← ic_1, Int32.add_assoc]
  · unfold hrS
    rw [up_n e]
    unfold hrF
    rw [hrF_ap P 0 (ah P S k) i]
    by_cases h : 41 ≤ i ∧ i < 41 + P
    · obtain ⟨p, rfl⟩ : ∃ p, i = 41 + p := ⟨i - 41, by omega⟩
      obtain ⟨t, ht, et⟩ := (hS.2.2.2.2 p (by omega)).2
      rw [if_pos (by omega), ah_r hP (by omega), ah_r hP (by omega), et, lit_mul, lit_mul, cl0 (by omega) (by omega), cl0 (by omega) (by omega)]
      by_cases q : 5 ≤ t - 5 * k
      · rw [if_pos (by rw [lit_le (by decide) (by omega)]; exact q), show (5 : Int32) = ic 5 from rfl, ic_sub (by omega), show t - 5 * k - 5 = t - 5 * (k + 1) by omega]
      · rw [if_neg (by rw [lit_le (by decide) (by omega)]; exact q), show (0 : Int32) = ic 0 from rfl]
        rw [show t - 5 * (k + 1) = 0 by omega]
    · rw [if_neg (by omega)]
      unfold ah
      rw [if_neg e, if_neg e, if_neg h, if_neg h]
theorem ah_0 {F W T P : Nat} {S : Nat → Int32} (hP : P ≤ 5) (hS : WS F W T P S) : ah P S 0 = S := by
  funext i
  unfold ah
  by_cases e : i = 48
  · subst e; rw [if_pos rfl]; exact Int32.add_zero _
  · rw [if_neg e]
    by_cases h : 41 ≤ i ∧ i < 41 + P
    · obtain ⟨p, rfl⟩ : ∃ p, i = 41 + p := ⟨i - 41, by omega⟩
      obtain ⟨t, ht, et⟩ := (hS.2.2.2.2 p (by omega)).2
      rw [if_pos h, et, lit_mul, cl0 (by omega) (by omega)]
      congr 1
    · rw [if_neg h]
theorem ah_ws {F W T P : Nat} {S : Nat → Int32} (hT : T ≤ 6) (hW : W ≤ 12) (hP : P ≤ 5) (hS : OKS F W T P S) {k : Nat} (hk : k ≤ 500) : WS F W T P (ah P S k) := by
  obtain ⟨hS, h0, hh, e0⟩ := hS
  refine ⟨⟨h0 + k, by omega, by rw [ah_48, e0, ic_add]⟩, ?_, ?_, ?_, ?_⟩
  · rw [show ah P S k 46 = S 46 by unfold ah; rw [if_neg (by decide), if_neg (by omega)]]; exact hS.2.1
  · intro w hw; rw [ah_lo (by omega), ah_lo (by omega)]; exact hS.2.2.1 w hw
  · intro t ht; rw [ah_lo (by omega), ah_lo (by omega)]
    refine ⟨(hS.2.2.2.1 t ht).1, (hS.2.2.2.1 t ht).2.imp id (fun ⟨q, hq, e1, e2⟩ => ⟨q, hq, e1, ?_⟩)⟩
    rw [ah_lo (by omega)]; exact e2
  · intro p hp
    obtain ⟨t, ht, et⟩ := (hS.2.2.2.2 p hp).2
    rw [ah_lo (by omega), ah_r hP hp, et, lit_mul, cl0 (by omega) (by omega)]
    exact ⟨(hS.2.2.2.2 p hp).1, t - 5 * k, by omega, rfl⟩
theorem ah_live {W P : Nat} {S : Nat → Int32} (hW : W ≤ 12) (k : Nat) : liveB W (ah P S k) 0 = liveB W S (ic k) := by
  unfold liveB
  refine fo_cg W 0 0 (fun w _ h b => ?_)
  unfold lv
  rw [ah_lo (by omega), ah_lo (by omega), ah_48, Int32.add_zero (_ + _)]
theorem ah_tir {P : Nat} {S : Nat → Int32} (hP : P ≤ 5) (k : Nat) : tirN P (ah P S k) = tirS P S (ic k) := by
  unfold tirN tirS
  refine fo_cg P 0 0 (fun p _ h b => ?_)
  rw [ah_r hP (by omega)]
/-- the first of them -/
def ff (p : Nat → Prop) [DecidablePred p] : Nat → Nat → Int32 → Int32
  | _, 0, d => d
  | k, j + 1, d => if p k then ic k else ff p (k + 1) j d
theorem ff_e (p : Nat → Prop) [DecidablePred p] : ∀ (j k : Nat) (d : Int32), ff p k (j + 1) d = ff p k j (if p (k + j) then ic (k + j) else d)
  | 0, k, d => rfl
  | j + 1, k, d => by
    show (if p k then ic k else ff p (k + 1) (j + 1) d) = (if p k then ic k else ff p (k + 1) j (if p (k + (j + 1)) then ic (k + (j + 1)) else d))
    rw [ff_e p j (k + 1) d, show k + 1 + j = k + (j + 1) by omega]
theorem ff_s (p : Nat → Prop) [DecidablePred p] (k j : Nat) (d : Int32) : ff p k (j + 1) d = if p k then ic k else ff p (k + 1) j d := rfl
theorem ff_cg {p q : Nat → Prop} [DecidablePred p] [DecidablePred q] : ∀ (j k : Nat) (d : Int32), (∀ i, k ≤ i → i < k + j → (p i ↔ q i)) → ff p k j d = ff q k j d
  | 0, _, _, _ => rfl
  | j + 1, k, d, H => by
    rw [ff_s, ff_s, ff_cg j (k + 1) d (fun i h1 h2 => H i (by omega) (by omega))]
    have := H k (by omega) (by omega)
    by_cases a : p k
    · rw [if_pos a, if_pos (this.mp a)]
    · rw [if_neg a, if_neg (fun z => a (this.mpr z))]
theorem lp_wireLiveAt {N : Nat} {μ c : sw_M} {F W T P : Nat} (hN : 5000 ≤ N) (hC : CW c F W T P) (hX : XR μ c) {S : Nat → Int32} (hS : WS F W T P S) (hD : DR μ 35 W T P S) (x : Int32) : ∀ (j k : Nat) (n : Nat), k + j = W → j < n → f_days_wireLiveAt_2 N μ n x (ic k) = some (ff (fun w => ¬ S (12 + w) = 1 ∧ S w = x) k j (-1))
  | 0, k, n, h, hn => by
    have hW' := hC.w12; have nW := hX.nW hC
    obtain ⟨n, rfl⟩ := fu_s hn
    rw [f_days_wireLiveAt_2, nW, if_pos (by rw [ic_le (by omega) (by omega)]; omega)]; rfl
  | j + 1, k, n, h, hn => by
    have hW' := hC.w12; have nW := hX.nW hC
    obtain ⟨n, rfl⟩ := fu_s (show 0 < n by omega)
    have ih := lp_wireLiveAt hN hC hX hS hD x j (k + 1) n (by omega) (by omega)
    have e1 := e_days_isCut hN hC hX hS hD (w := k) (by omega)
    have dl := hD.dl (w := k) (by omega)
    rw [f_days_wireLiveAt_2, nW, if_neg (by rw [ic_le (by omega) (by omega)]; omega), e1, ob_e, inb_e (by omega) (by decide), ic_n (by omega), dl, ic_1, ih, ff_s]
    simp only [b2_0]
    by_cases a : S (12 + k) = 1
    · rw [if_neg (fun z => z a), if_neg (fun z => z.1 a)]
    · rw [if_pos a]
      by_cases b : S k = x
      · rw [if_pos b, if_pos ⟨a, b⟩]
      · rw [if_neg b, if_neg (fun z => b z.2)]
theorem lp_m_ahead93 {N : Nat} {μ c : sw_M} {F W T P : Nat} (hN : 5000 ≤ N) (hC : CW c F W T P) (hM : MR μ c F W T P) (hS : WS F W T P (μ 81)) : ∀ (j : Nat) (d : Int32) (n : Nat), j ≤ W → j < n → f_m_ahead_93 N n μ d (ic j - 1) = some (ff (fun w => ¬ (μ 81) (12 + w) = 1 ∧ (μ 81) w = (μ 81) 48) 0 j d, μ)
  | 0, d, n, h, hn => by
    obtain ⟨n, rfl⟩ := fu_s hn
    rw [f_m_ahead_93, if_pos (by decide)]; rfl
  | j + 1, d, n, h, hn => by
    have hW' := hC.w12
    obtain ⟨n, rfl⟩ := fu_s (show 0 < n by omega)
    have ih := fun d => lp_m_ahead93 hN hC hM hS j d n (by omega) (by omega)
    have e0 := hS.ct0 (w := j) (by omega)
    have e1 : ic j + -1 = ic j - 1 := by rw [Int32.sub_eq_add_neg]
    rw [ic_s1, ff_e]
    simp (disch := omega) only [f_m_ahead_93, f_m_ahead_135, f_m_ahead_136, e0, e1, ih, wb_e, ib_e, ibL_e, ob_e, nz4, inb_e, inb_lit, ic_n, n_lit, ic_1, lit_add, add_lit, lit_mul, mul_lit, ic_add, ic_mul, ic_le, ic_lt, ic_eq, lit_le, le_lit, lit_lt, lt_lit, lit_eq, eq_lit, ic_m1, m1_ic, ic_lt0, ic_0le, b2_0, b2_1, b2_bl, sh_e, Nat.not_lt_zero, Nat.zero_le, Nat.reduceEqDiff, Nat.reduceAdd, Nat.reduceMul, Nat.reduceSub, Nat.reduceLT, Nat.reduceLeDiff, reduceIte, ne_eq, not_false_eq_true, not_true_eq_false, if_true, if_false, Nat.zero_add]
    by_cases a : (μ 81) (12 + j) = 1
    · simp [a]
    · by_cases b : (μ 81) j = (μ 81) 48
      · simp [a, b]
      · simp [a, b]
theorem lp_m_ahead {N : Nat} {c : sw_M} {F W T P : Nat} (hN : 5000 ≤ N) (hC : CW c F W T P) {S : Nat → Int32} (hS : OKS F W T P S) {h k : Nat} (hh : h ≤ 99) (hk : k ≤ 2) : ∀ (j i : Nat) (μ : sw_M) (n : Nat), i + j = h → j < n → MR μ c F W T P → μ 81 = ah P S i → f_m_ahead_46 N n μ (ic h) (ic k) (ic i) = some (if k = 0 then liveB W S (ic h) else if k = 1 then tirS P S (ic h) else ff (fun w => ¬ S (12 + w) = 1 ∧ S w = S 48 + ic h) 0 W (-1), wrR μ 81 (ah P S h))
  | 0, i, μ, n, hi, hn, hM, hs => by
    have hW' := hC.w12; have hP' := hC.p5; have hT' := hC.t6
    obtain ⟨n, rfl⟩ := fu_s hn
    have hi' : i = h := by omega
    subst hi'
    have hws : WS F W T P (μ 81) := by rw [hs]; exact ah_ws hT' hW' hP' hS (by omega)
    have e1 := e_m_liveIn hN hC hM hws 0
    have e2 := e_m_tiredAll hN hC hM hws
    have e3 := lp_m_ahead93 hN hC hM hws W (-1) N (by omega) (by omega)
    rw [hs, ah_live hW'] at e1
    rw [hs, ah_tir hP'] at e2
    have nW := hM.nW
    rw [show wrR μ 81 (ah P S i) = μ by rw [← hs]; exact wrR_self μ 81]
    rw [f_m_ahead_46, if_pos (by rw [ic_le (by omega) (by omega)]; omega), e1, e2, ob_e, ob_e, nW, ib_e, e3]
    have hk2 : k = 0 ∨ k = 1 ∨ k = 2 := by omega
    rcases hk2 with rfl | rfl | rfl
    · rw [if_neg (by decide), if_pos (show ic 0 = 0 from rfl), if_pos rfl]
    · rw [if_neg (by decide), if_neg (by decide), if_neg (by decide), if_pos rfl]
    · rw [if_pos (by decide), if_neg (by decide), if_neg (by decide)]
      congr 2
      refine ff_cg W 0 _ (fun w _ h => ?_)
      rw [hs, ah_lo (by omega), ah_lo (by omega), ah_48]
  | j + 1, i, μ, n, hi, hn, hM, hs => by
    have hW' := hC.w12; have hP' := hC.p5; have hT' := hC.t6
    obtain ⟨n, rfl⟩ := fu_s (show 0 < n by omega)
    have hws : WS F W T P (μ 81) := by rw [hs]; exact ah_ws hT' hW' hP' hS (by omega)
    have e1 := s_m_goesOn hN hC hM hws
    have e2 : hrS P (μ 81) = ah P S (i + 1) := by rw [hs]; exact ah_hr hP' hS.1 (by omega)
    have ih := lp_m_ahead hN hC hS hh hk j (i + 1) (wrR μ 81 (ah P S (i + 1))) n (by omega) (by omega) (hM.fr (fun j _ _ => rfl) rfl rfl rfl) (wrR_r _ _ _)
    rw [f_m_ahead_46, if_neg (by rw [ic_le (by omega) (by omega)]; omega), e1, ob_e, e2, ic_1, ih, wrR_wrR]
theorem op_ahead {N : Nat} {μ : sw_M} (hN : 5000 ≤ N) (hI : Inv μ) (a1 a2 : Int32) : OpI (f_x_ahead N μ a1 a2) (fun μ1 => f_m_ahead N μ1 a1 a2) := by
  obtain ⟨F, W, T, P, K, O, nl, nb, n, m, hQ, hR⟩ := id hI
  have hC := hQ.1
  have hF' := hC.f8; have hW' := hC.w12; have hT' := hC.t6; have hP' := hC.p5
  have hX : XR μ μ := ⟨rfl, rfl, rfl, rfl, rfl, rfl, rfl, rfl⟩
  have x0 := hX.nF hC; have x1 := hX.nW hC; have x2 := hX.nT hC; have x3 := hX.nP hC
  have m21 := hQ.2.1.nF; have m22 := hQ.2.1.nW; have m23 := hQ.2.1.nT; have m24 := hQ.2.1.nP
  have z1 : ∀ i, (wr (xr μ i) 63 0 0) 63 0 = 0 := fun _ => rfl
  rcases wn_dec2 a1 (n := 99) (by decide) with ⟨h, hh, rfl, hg⟩ | hg
  · have hg : 0 ≤ ic h ∧ ic h ≤ 99 := hg
    rcases wn_dec2 a2 (n := 2) (by decide) with ⟨k, hk, rfl, hz⟩ | hz
    · left
      have hz : 0 ≤ ic k ∧ ic k ≤ 2 := hz
      obtain ⟨-, -, hS, hD, hM, -, -⟩ := qm_ctx hQ
      have hO : OKS F W T P ((qm μ) 81) := ⟨hS, by rw [qm_i μ (by decide)]; exact hQ.2.2.1.2⟩
      have z0 : (wr μ 63 0 0) 63 0 = 0 := rfl
      have e2 := lp_m_ahead hN hC hO hh hk h 0 (qm μ) N (by omega) (by omega) hM (ah_0 hP' hS).symm
      refine ⟨if k = 0 then liveB W ((qm μ) 81) (ic h) else if k = 1 then tirS P ((qm μ) 81) (ic h) else ff (fun w => ¬ ((qm μ) 81) (12 + w) = 1 ∧ ((qm μ) 81) w = ((qm μ) 81) 48 + ic h) 0 W (-1), μ, wrR (qm μ) 81 (ah P ((qm μ) 81) h), ?_, ?_, rfl, hI.sm ((qm_sm μ).wrR81 _)⟩
      · have e1 := e_days_liveBits hN hC hX hS hD (ic h)
        have e3 := e_days_tiredTogether hN hC hX hS hD (ic h)
        have e4 : f_days_wireLiveAt N μ (((qm μ) 81) 48 + ic h) = _ := lp_wireLiveAt hN hC hX hS hD (((qm μ) 81) 48 + ic h) W 0 N (by omega) (by omega)
        unfold f_x_ahead
        rw [within_e, ob_e, b2_p hg, nd_1 (by decide), tb_l, g_needWhat_1 hz, tb_l, e1, e3, ob_e, ob_e, hD.dh, e4, ob_e]
        have hk2 : k = 0 ∨ k = 1 ∨ k = 2 := by omega
        rcases hk2 with rfl | rfl | rfl
        · rw [if_pos (show ic 0 = 0 from rfl), if_pos rfl]
        · rw [if_neg (by decide), if_pos (show ic 1 = 1 from rfl), if_neg (by decide), if_pos rfl]
        · rw [if_neg (by decide), if_neg (by decide), if_neg (by decide), if_neg (by decide)]
      · show f_m_ahead N μ (ic h) (ic k) = _
        unfold f_m_ahead f_m_ahead_30
        rw [wb_e, withinm_e, ob_e, b2_p hg, if_neg o1, withinm_e, ob_e, b2_p hz, if_neg o1, may_1 (by decide) z0, ob_e, if_neg o1, e_q_take hN, ob_e]
        exact e2
    · right
      have hz : ¬ (0 ≤ a2 ∧ a2 ≤ 2) := hz
      refine ⟨xr μ 1, 0, mr (xr μ 1) 1 1, ?_, ?_, rfl, hI.rr (by decide) 1⟩
      · unfold f_x_ahead; rw [within_e, ob_e, b2_p hg, nd_1 (by decide), tb_l, g_needWhat_0 hz, tb_r]; rfl
      · show f_m_ahead N (xr μ 1) (ic h) a2 = _
        unfold f_m_ahead f_m_ahead_29 f_m_ahead_30; rw [wb_e, withinm_e, ob_e, b2_p hg, if_neg o1, withinm_e, ob_e, b2_n hz, if_pos rfl, may_i (by decide) (z1 1), ob_e, if_pos rfl]; rfl
  · right
    have hg : ¬ (0 ≤ a1 ∧ a1 ≤ 99) := hg
    refine ⟨xr μ 1, 0, mr (xr μ 1) 1 1, ?_, ?_, rfl, hI.rr (by decide) 1⟩
    · unfold f_x_ahead; rw [within_e, ob_e, b2_n hg, nd_0, tb_r]; rfl
    · show f_m_ahead N (xr μ 1) a1 a2 = _
      unfold f_m_ahead f_m_ahead_29 f_m_ahead_30; rw [wb_e, withinm_e, ob_e, b2_n hg, if_pos rfl, may_i (by decide) (z1 1), ob_e, if_pos rfl]; rfl
/-! grace -/
def gvS (W : Nat) (S : Nat → Int32) (x : Int32) (b : Int32) : Int32 := fo (fun w a => if bt x w = true then a + (if leftS S w < b then leftS S w else b) else a) 0 W 0
theorem lp_givenBy {N : Nat} {μ c : sw_M} {F W T P : Nat} (hN : 5000 ≤ N) (hC : CW c F W T P) (hX : XR μ c) {S : Nat → Int32} (hS : WS F W T P S) (hD : DR μ 35 W T P S) (x b : Int32) : ∀ (j k : Nat) (a : Int32) (n : Nat), k + j = W → j < n → f_days_givenBy_5 N μ n x b a (ic k) = some (fo (fun w a => if bt x w = true then a + (if leftS S w < b then leftS S w else b) else a) k j a)
  | 0, k, a, n, h, hn => by
    have hW' := hC.w12; have nW := hX.nW hC
    obtain ⟨n, rfl⟩ := fu_s hn
    rw [f_days_givenBy_5, nW, if_pos (by rw [ic_le (by omega) (by omega)]; omega), fo_0]
  | j + 1, k, a, n, h, hn => by
    have hW' := hC.w12; have nW := hX.nW hC
    obtain ⟨n, rfl⟩ := fu_s (show 0 < n by omega)
    have ih := fun a => lp_givenBy hN hC hX hS hD x b j (k + 1) a n (by omega) (by omega)
    have e1 := e_days_hoursLeft hN hC hX hS hD (w := k) (by omega)
    rw [f_days_givenBy_5, nW, if_neg (by rw [ic_le (by omega) (by omega)]; omega), has_e x (by omega), ob_e, e1, ob_e, ib_e, ic_1, ih, ih, fo_s]
    simp only [b2_0]
    by_cases q : bt x k = true
    · rw [if_neg (fun z => z q), if_pos q]
    · rw [if_pos q, if_neg q]
theorem lp_m_graceBy {N : Nat} {μ c : sw_M} {F W T P : Nat} (hN : 5000 ≤ N) (hC : CW c F W T P) (hM : MR μ c F W T P) (hS : WS F W T P (μ 81)) (x b : Int32) : ∀ (j k : Nat) (a : Int32) (n : Nat), k + j = W → j < n → f_m_graceBy_5 N μ n x b a (ic k) = some (fo (fun w a => if bt x w = true then a + (if leftS (μ 81) w < b then leftS (μ 81) w else b) else a) k j a)
  | 0, k, a, n, h, hn => by
    have hW' := hC.w12; have nW := hM.nW
    obtain ⟨n, rfl⟩ := fu_s hn
    rw [f_m_graceBy_5, nW, if_pos (by rw [ic_le (by omega) (by omega)]; omega), fo_0]
  | j + 1, k, a, n, h, hn => by
    have hW' := hC.w12; have nW := hM.nW
    obtain ⟨n, rfl⟩ := fu_s (show 0 < n by omega)
    have ih := fun a => lp_m_graceBy hN hC hM hS x b j (k + 1) a n (by omega) (by omega)
    have e1 := e_m_leftOf hN hC hM hS (w := k) (by omega)
    rw [f_m_graceBy_5, nW, if_neg (by rw [ic_le (by omega) (by omega)]; omega), e1, ob_e, ob_e, fo_s]
    unfold f_m_graceBy_41
    rw [bit_v x (show k < 32 by omega), ib_e, ib_e, ic_1, ih, ih]
    by_cases q : bt x k = true
    · rw [if_pos q, if_pos q, Int32.one_mul, Int32.one_mul]
      by_cases r : b ≤ leftS (μ 81) k
      · rw [if_pos r, if_neg (by grind)]
      · rw [if_neg r, if_pos (by grind)]
    · rw [if_neg q, if_neg q, Int32.zero_mul, Int32.zero_mul, Int32.add_zero]
      split <;> rfl
theorem gv_0 {F W T P : Nat} {S : Nat → Int32} (hS : WS F W T P S) (x : Int32) : gvS W S x 0 = 0 := by
  unfold gvS
  have := fo_inv (g := fun w a => if bt x w = true then a + (if leftS S w < 0 then leftS S w else 0) else a) (fun _ (a : Int32) => a = 0) W 0 0 rfl (by
    rintro i b - h rfl
    have : ¬ leftS S i < 0 := by
      unfold leftS clampI
      split
      · decide
      · split
        · split
          · grind
          · decide
        · decide
    rw [if_neg this]
    split <;> rfl)
  exact this

theorem gr_fin {N : Nat} {ν c : sw_M} {F W T P : Nat} (hN : 5000 ≤ N) (hC : CW c F W T P) (hM : MR ν c F W T P) (hS : WS F W T P (ν 81)) {w : Nat} (hw : w < W) (x v n : Int32) (u : Nat) (h : gvS W (ν 81) x v ≤ n) : f_m_grace_63 N (u + 1) ν (ic w) x n v = some (if bt x w = true then (if v < leftS (ν 81) w then v else leftS (ν 81) w) else 0, ν) := by
  have hW' := hC.w12
  have e1 : f_m_graceBy N ν x v = some (gvS W (ν 81) x v) := lp_m_graceBy hN hC hM hS x v W 0 0 N (by omega) (by omega)
  have e2 := e_m_leftOf hN hC hM hS hw
  rw [f_m_grace_63, e1, ob_e, if_pos h, e2, ob_e, ob_e]
  simp only [bit_0 x (show w < 32 by omega)]
  by_cases q : bt x w = true
  · rw [if_neg (by rw [q]; decide), if_pos q]
    by_cases r : v ≤ leftS (ν 81) w
    · rw [if_pos r]
      by_cases z : v < leftS (ν 81) w
      · rw [if_pos z]
      · rw [if_neg z, show v = leftS (ν 81) w by grind]
    · rw [if_neg r, if_neg (by grind)]
  · have q2 : bt x w = false := by cases h : bt x w; rfl; exact absurd h q
    rw [if_pos q2, if_neg q]
theorem lp_grace {N : Nat} {μ ν c : sw_M} {F W T P : Nat} (hN : 5000 ≤ N) (hC : CW c F W T P) (hX : XR μ c) (hS : WS F W T P (ν 81)) (hD : DR μ 35 W T P (ν 81)) (hM : MR ν c F W T P) (x : Int32) {w n : Nat} (hw : w < W) (hn : n ≤ 999) : ∀ (j u u2 : Nat), j ≤ 99 → j < u → j < u2 → ∃ v, f_days_graceBound_3 N μ u x (ic n) (ic j) = some v ∧ f_m_grace_63 N u2 ν (ic w) x (ic n) (ic j) = some (if bt x w = true then (if v < leftS (ν 81) w then v else leftS (ν 81) w) else 0, ν)
  | 0, u, u2, hj, h1, h2 => by
    obtain ⟨u, rfl⟩ := fu_s h1
    obtain ⟨u2, rfl⟩ := fu_s h2
    refine ⟨0, by rw [f_days_graceBound_3, if_pos (by decide)], ?_⟩
    have := gr_fin hN hC hM hS hw x 0 (ic n) u2 (by rw [gv_0 hS]; rw [show (0 : Int32) = ic 0 from rfl, ic_le (by decide) (by omega)]; omega)
    exact this
  | j + 1, u, u2, hj, h1, h2 => by
    have hW' := hC.w12
    obtain ⟨u, rfl⟩ := fu_s (show 0 < u by omega)
    obtain ⟨u2, rfl⟩ := fu_s (show 0 < u2 by omega)
    have e0 : f_days_givenBy N μ x (ic (j + 1)) = some (gvS W (ν 81) x (ic (j + 1))) := lp_givenBy hN hC hX hS hD x (ic (j + 1)) W 0 0 N (by omega) (by omega)
    by_cases q : gvS W (ν 81) x (ic (j + 1)) ≤ ic n
    · refine ⟨ic (j + 1), ?_, gr_fin hN hC hM hS hw x (ic (j + 1)) (ic n) u2 q⟩
      rw [f_days_graceBound_3, if_neg (by rw [le_lit (by decide) (by omega)]; omega), e0, ob_e, if_neg (by grind)]
    · obtain ⟨v, g1, g2⟩ := lp_grace hN hC hX hS hD hM x hw hn j u u2 (by omega) (by omega) (by omega)
      refine ⟨v, ?_, ?_⟩
      · rw [f_days_graceBound_3, if_neg (by rw [le_lit (by decide) (by omega)]; omega), e0, ob_e, if_pos (by grind), ic_p1, g1]
      · have e1 : f_m_graceBy N ν x (ic (j + 1)) = some (gvS W (ν 81) x (ic (j + 1))) := lp_m_graceBy hN hC hM hS x (ic (j + 1)) W 0 0 N (by omega) (by omega)
        rw [f_m_grace_63, e1, ob_e, if_neg q, ic_p1, g2]
theorem msk_e (x : Int32) {W : Nat} (hW : W ≤ 12) : (x &&& ((sh W - 1) ^^^ (-1)) = 0) ↔ (0 ≤ x ∧ x < sh W) := by
  have hb : x &&& ((sh W - 1) ^^^ (-1)) = 0 ↔ ∀ i, i < 32 → W ≤ i → bt x i = false := by
    constructor
    · intro h i hi hw
      have := congrArg (fun y => bt y i) h
      simp only [b_and, b_xor, b_m1 i hi, b_msk W hW i hi, b_0] at this
      simpa [show ¬ i < W by omega] using this
    · intro h
      refine b_ext (fun i hi => ?_)
      rw [b_and, b_xor, b_m1 i hi, b_msk W hW i hi, b_0]
      by_cases q : i < W
      · simp [q]
      · rw [h i hi (by omega)]; rfl
  have hsh : sh W = ic (2 ^ W) := by
    have : ∀ W, W ≤ 12 → sh W = ic (2 ^ W) := by decide +kernel
    exact this W hW
  have h2 : 2 ^ W ≤ 4096 := Nat.pow_le_pow_right (n := 2) (by decide) (show W ≤ 12 from hW)
  rw [hb, hsh]
  constructor
  · intro h
    have hx : x = ic x.toBitVec.toNat := by
      refine Int32.toBitVec_inj.mp ?_
      show _ = BitVec.ofNat 32 x.toBitVec.toNat
      simp
    have hn : x.toBitVec.toNat < 2 ^ W := by
      refine Nat.lt_pow_two_of_testBit (n := W) _ (fun i hi => ?_)
      by_cases q : i < 32
      · exact h i q hi
      · exact BitVec.getLsbD_of_ge x.toBitVec i (by omega)
    rw [hx, ic_0le (by omega), ic_lt (by omega) (by omega)]
    exact ⟨trivial, hn⟩
  · rintro ⟨h0, h1⟩ i hi hw
    obtain ⟨k, hk, rfl⟩ := ic_of h0
    rw [ic_lt hk (by omega)] at h1
    unfold bt
    show (BitVec.ofNat 32 k).getLsbD i = false
    rw [BitVec.getLsbD_ofNat]
    have : k.testBit i = false := Nat.testBit_lt_two_pow (Nat.lt_of_lt_of_le h1 (Nat.pow_le_pow_right (by decide) hw))
    rw [this]; simp
theorem op_grace {N : Nat} {μ : sw_M} (hN : 5000 ≤ N) (hI : Inv μ) (a1 a2 a3 : Int32) : OpB (f_x_grace N μ a1 a2 a3) (fun μ1 => f_m_grace N μ1 a1 a2 a3) := by
  obtain ⟨F, W, T, P, K, O, nl, nb, n, m, hQ, hR⟩ := id hI
  have hC := hQ.1
  have hF' := hC.f8; have hW' := hC.w12; have hT' := hC.t6; have hP' := hC.p5
  have hX : XR μ μ := ⟨rfl, rfl, rfl, rfl, rfl, rfl, rfl, rfl⟩
  have x0 := hX.nF hC; have x1 := hX.nW hC; have x2 := hX.nT hC; have x3 := hX.nP hC
  have m21 := hQ.2.1.nF; have m22 := hQ.2.1.nW; have m23 := hQ.2.1.nT; have m24 := hQ.2.1.nP
  have z1 : ∀ i, (wr (xr μ i) 63 0 0) 63 0 = 0 := fun _ => rfl
  have n22 : ∀ i, (wr (xr μ i) 63 0 0) 63 22 = ic W := fun _ => m22
  rcases wn_dec a1 (n := W) (by omega) with ⟨w, hw, rfl, hg⟩ | hg
  · by_cases hs : 0 ≤ a2 ∧ a2 < sh W
    · rcases wn_dec2 a3 (n := 999) (by decide) with ⟨k, hk, rfl, hz⟩ | hz
      · left
        have hz : 0 ≤ ic k ∧ ic k ≤ 999 := hz
        obtain ⟨-, -, hS, hD, hM, -, -⟩ := qm_ctx hQ
        have z0 : (wr μ 63 0 0) 63 0 = 0 := rfl
        obtain ⟨v, e1, e2⟩ := lp_grace hN hC hX hS hD hM a2 hw hk 99 N N (by omega) (by omega) (by omega)
        have e3 : f_days_graceBound N μ a2 (ic k) = some v := e1
        have e4 := e_days_hoursLeft hN hC hX hS hD hw
        refine ⟨if bt a2 w = true then (if v < leftS ((qm μ) 81) w then v else leftS ((qm μ) 81) w) else 0, μ, qm μ, ?_, ?_, qm_0 μ, hI.sm (qm_sm μ)⟩
        · unfold f_x_grace f_x_grace_40
          rw [g_needWire_1 x1 hg, tb_l, x1, sh_e, if_pos ((msk_e a2 hW').mpr hs), within_e, ob_e, b2_p hz, if_neg o1, nd_1 (by decide), tb_l, has_e a2 (by omega), ob_e, e4, ob_e, e3, ob_e]
          simp only [b2_0]
          by_cases q : bt a2 w = true
          · rw [if_neg (fun z => z q), if_pos q]
          · rw [if_pos q, if_neg q]
        · show f_m_grace N μ (ic w) a2 (ic k) = _
          unfold f_m_grace f_m_grace_45
          rw [wb_e, h_isWire_1 (μ := wr μ 63 0 0) m22 rfl hg, ob_e, if_neg o1, if_neg (by grind)]
          have e22 : (wr μ 63 0 0) 63 22 = ic W := m22
          simp only [e22, sh_e]
          rw [if_neg (by grind), withinm_e, ob_e, b2_p hz, if_neg o1, may_1 (by decide) z0, ob_e, if_neg o1, e_q_take hN, ob_e]
          exact e2
      · right; right
        have hz : ¬ (0 ≤ a3 ∧ a3 ≤ 999) := hz
        refine ⟨xr μ 1, 0, mr (xr μ 1) 1 2, ?_, ?_, rfl, hI.rr (by decide) 2⟩
        · unfold f_x_grace f_x_grace_39 f_x_grace_40
          rw [g_needWire_1 x1 hg, tb_l, x1, sh_e, if_pos ((msk_e a2 hW').mpr hs), within_e, ob_e, b2_n hz, if_pos rfl, nd_0, tb_r]; rfl
        · show f_m_grace N (xr μ 1) (ic w) a2 a3 = _
          unfold f_m_grace f_m_grace_44 f_m_grace_45
          rw [wb_e, h_isWire_1 (μ := wr (xr μ 1) 63 0 0) m22 (z1 1) hg, ob_e, if_neg o1, if_neg (by grind)]
          have e22 := n22 1
          simp only [e22, sh_e]
          rw [if_neg (by grind), withinm_e, ob_e, b2_n hz, if_pos rfl, may_i (by decide) (z1 1), ob_e, if_pos rfl]; rfl
    · right; right
      refine ⟨xr μ 1, 0, mr (xr μ 1) 1 2, ?_, ?_, rfl, hI.rr (by decide) 2⟩
      · unfold f_x_grace f_x_grace_39 f_x_grace_40
        rw [g_needWire_1 x1 hg, tb_l, x1, sh_e, if_neg (fun z => hs ((msk_e a2 hW').mp z)), nd_0, tb_r]; rfl
      · show f_m_grace N (xr μ 1) (ic w) a2 a3 = _
        unfold f_m_grace f_m_grace_44 f_m_grace_45
        rw [wb_e, h_isWire_1 (μ := wr (xr μ 1) 63 0 0) m22 (z1 1) hg, ob_e, if_neg o1]
        have e22 := n22 1
        simp only [e22, sh_e]
        by_cases q : a2 < 0
        · rw [if_pos q, may_i (by decide) (z1 1), ob_e, if_pos rfl]; rfl
        · rw [if_neg q, if_pos (by grind), may_i (by decide) (z1 1), ob_e, if_pos rfl]; rfl
  · right; left
    refine ⟨xr μ 0, 0, mr (xr μ 0) 0 1, ?_, ?_, rfl, hI.rr (by decide) 1⟩
    · unfold f_x_grace; rw [g_needWire_0 x1 hg, tb_r]; rfl
    · show f_m_grace N (xr μ 0) a1 a2 a3 = _
      unfold f_m_grace; rw [wb_e, h_isWire_0 (μ := wr (xr μ 0) 63 0 0) m22 (z1 0) hg, ob_e, if_pos rfl]; rfl
