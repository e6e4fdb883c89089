/-! ===== printed by wip/whole/gen79k.py: autumn, span ===== -/
theorem isAut_e {N : Nat} {μ : sw_M} (a b : Int32) : f_sm_isAutumn N μ a b = some (b2 ((0 ≤ a ∧ a ≤ 16) ∧ (1 ≤ b ∧ b ≤ 96))) := by
  unfold f_sm_isAutumn b2
  have e1 : a < 0 ↔ ¬ 0 ≤ a := by grind
  have e2 : 16 < a ↔ ¬ a ≤ 16 := by grind
  have e3 : b < 1 ↔ ¬ 1 ≤ b := by grind
  have e4 : 96 < b ↔ ¬ b ≤ 96 := by grind
  simp only [e1, e2, e3, e4]
  by_cases h1 : 0 ≤ a <;> by_cases h2 : a ≤ 16 <;> by_cases h3 : 1 ≤ b <;> by_cases h4 : b ≤ 96 <;> simp [h1, h2, h3, h4]
theorem wn_one (a : Int32) {n : Nat} (hn : n ≤ 1000) : (∃ f, f ≤ n ∧ a = ic f ∧ (1 ≤ a ∧ a ≤ ic n)) ∨ ¬ (1 ≤ a ∧ a ≤ ic n) := by
  by_cases h : 1 ≤ a ∧ a ≤ ic n
  · left
    have h0 : 0 ≤ a := by have := h.1; grind
    obtain ⟨k, hk, rfl⟩ := ic_bd h0 h.2 (by omega)
    exact ⟨k, hk, rfl, h⟩
  · exact Or.inr h
theorem QI.gx {μ : sw_M} {F W T P : Nat} {K O : Nat → Int32} {nl nb : Nat} (h : QI μ F W T P K O nl nb) : GX μ μ W T P K O nl (μ 80) := ⟨⟨rfl, rfl, rfl, rfl, rfl, rfl, rfl, rfl⟩, h.2.2.2.2.1, h.2.2.2.1⟩
theorem QI.gm {μ μ' : sw_M} {F W T P : Nat} {K O : Nat → Int32} {nl nb : Nat} (h : QI μ F W T P K O nl nb) (f : SX μ μ') : GM (wr μ' 63 0 0) μ F W T P K O nl (μ 80) := by
  have r : ∀ a, 63 ≤ a → μ' a = μ a := fun a ha => f.1 a (by omega) (by omega) (by omega) (by omega)
  have q : ∀ j, j ≠ 0 → (wr μ' 63 0 0) 63 j = μ 63 j := fun j hj => by rw [wr_ap, if_pos rfl, if_neg hj, r 63 (by decide)]
  refine ⟨h.2.1.fr (fun j h1 h2 => q j (by omega)) (r 69 (by decide)) (r 70 (by decide)) (r 71 (by decide)), ?_, fun i _ => by show μ' 80 i = μ 80 i; rw [r 80 (by decide)]⟩
  have hl := h.2.2.2.2.2.1
  unfold ML at hl ⊢
  rw [q 31 (by decide), show (wr μ' 63 0 0) 74 = μ 74 from r 74 (by decide), show (wr μ' 63 0 0) 75 = μ 75 from r 75 (by decide)]; exact hl
def auV (T P W k : Nat) (S S0 : Nat → Int32) : Int32 := if k = 0 then S 47 - S0 47 else if k = 1 then carB T S else if k = 2 then liveB W S 0 else tirN P S
theorem op_autumn {N : Nat} {μ : sw_M} (hN : 5000 ≤ N) (hI : Inv μ) (a1 a2 a3 a4 : Int32) : OpI (f_x_autumn N μ a1 a2 a3 a4) (fun μ1 => f_m_autumn N μ1 a1 a2 a3 a4) := by
  obtain ⟨F, W, T, P, K, O, nl, nb, n, m, hQ, hR⟩ := id hI
  have hC := hQ.1
  have hF' := hC.f8; have hW' := hC.w12; have hT' := hC.t6; have hP' := hC.p5
  have hX : XR μ μ := ⟨rfl, rfl, rfl, rfl, rfl, rfl, rfl, rfl⟩
  have x0 := hX.nF hC; have x1 := hX.nW hC; have x2 := hX.nT hC; have x3 := hX.nP hC
  have m21 := hQ.2.1.nF; have m22 := hQ.2.1.nW; have m23 := hQ.2.1.nT; have m24 := hQ.2.1.nP
  have z1 : ∀ i, (wr (xr μ i) 63 0 0) 63 0 = 0 := fun _ => rfl
  rcases wn_dec2 a2 (n := 16) (by decide) with ⟨q, hq, rfl, h2⟩ | h2
  · have h2 : 0 ≤ ic q ∧ ic q ≤ 16 := h2
    rcases wn_one a3 (n := 96) (by decide) with ⟨m, hm, rfl, h3⟩ | h3
    · have h3 : 1 ≤ ic m ∧ ic m ≤ 96 := h3
      rcases wn_dec2 a4 (n := 3) (by decide) with ⟨k, hk, rfl, h4⟩ | h4
      · have h4 : 0 ≤ ic k ∧ ic k ≤ 3 := h4
        left
        have gx := hQ.gx
        obtain ⟨μ1, -, e1, -, fx, -, -⟩ := au_go hN hC hQ.2.2.1 (q := q) hm a1 gx (hQ.gm (SX.rf μ)) rfl
        obtain ⟨μ2, ν, e2, e3, -, fm, hA⟩ := au_go hN hC hQ.2.2.1 (q := q) hm a1 gx (hQ.gm fx) rfl
        have : μ2 = μ1 := by rw [e1] at e2; injection e2 with z; exact z.symm
        subst this
        obtain ⟨b1, b2', b3, -, -, b6⟩ := hA
        have gx2 := gx.sx fx
        have gm2 := (hQ.gm fx).sm fm
        have z0 : (wr μ2 63 0 0) 63 0 = 0 := rfl
        have v1 := e_dream_carriedBits hN hC gx2.1 b1 b2'
        have v2 := e_dream_liveBits hN hC gx2.1 b1 b2' 0
        have v3 := e_dream_tiredTogether hN hC gx2.1 b1 b2' 0
        have t0 : tirS P (ν 81) 0 = tirN P (ν 81) := by
          have := ah_tir (S := ν 81) hP' 0
          rw [ah_0 hP' b1] at this; exact this.symm
        rw [t0] at v3
        have w1 := e_m_carried hN hC gm2.1 b1
        have w2 := e_m_liveIn hN hC gm2.1 b1 0
        have w3 := e_m_tiredAll hN hC gm2.1 b1
        have dx : μ2 57 5 = ν 81 47 := b2'.ex
        have d5 : μ2 35 5 = μ 80 47 := gx2.2.2.dx
        have n80 : ν 80 47 = μ 80 47 := gm2.2.2 47 (by decide)
        have hk2 : k = 0 ∨ k = 1 ∨ k = 2 ∨ k = 3 := by omega
        refine ⟨auV T P W k (ν 81) (μ 80), μ2, ν, ?_, ?_, ?_, (hI.sx fx).sm (((SM.rf μ2).wr63 0 0 (Or.inl rfl)).tr fm)⟩
        · unfold f_x_autumn f_x_autumn_26 f_autm_crossings
          rw [within_e, ob_e, b2_p h2, if_neg o1, within_e, ob_e, b2_p h3, if_neg o1, nd_1 (by decide), tb_l, g_needWhat_1 h4, tb_l, e1, ob_e, v1, v2, v3, ob_e, ob_e, ob_e, ob_e, dx, d5]
          unfold auV
          rcases hk2 with rfl | rfl | rfl | rfl <;> rfl
        · show f_m_autumn N μ2 a1 (ic q) (ic m) (ic k) = _
          unfold f_m_autumn f_m_autumn_29
          rw [wb_e, isAut_e, ob_e, b2_p ⟨h2, h3⟩, if_neg o1, withinm_e, ob_e, b2_p h4, if_neg o1, may_1 (by decide) z0, ob_e, if_neg o1, e3, ob_e, w1, w2, w3, ob_e, ob_e, ob_e, inb_lit (by decide) (by decide), inb_lit (by decide) (by decide), n_lit (by decide), n80]
          unfold auV
          rcases hk2 with rfl | rfl | rfl | rfl <;> rfl
        · exact b6
      · right
        have h4 : ¬ (0 ≤ a4 ∧ a4 ≤ 3) := h4
        refine ⟨xr μ 1, 0, mr (xr μ 1) 1 1, ?_, ?_, rfl, hI.rr (by decide) 1⟩
        · unfold f_x_autumn f_x_autumn_26; rw [within_e, ob_e, b2_p h2, if_neg o1, within_e, ob_e, b2_p h3, if_neg o1, nd_1 (by decide), tb_l, g_needWhat_0 h4, tb_r]; rfl
        · show f_m_autumn N (xr μ 1) a1 (ic q) (ic m) a4 = _
          unfold f_m_autumn f_m_autumn_28 f_m_autumn_29; rw [wb_e, isAut_e, ob_e, b2_p ⟨h2, h3⟩, if_neg o1, withinm_e, ob_e, b2_n h4, if_pos rfl, may_i (by decide) (z1 1), ob_e, if_pos rfl]; rfl
    · right
      have h3 : ¬ (1 ≤ a3 ∧ a3 ≤ 96) := h3
      refine ⟨xr μ 1, 0, mr (xr μ 1) 1 1, ?_, ?_, rfl, hI.rr (by decide) 1⟩
      · unfold f_x_autumn f_x_autumn_25 f_x_autumn_26; rw [within_e, ob_e, b2_p h2, if_neg o1, within_e, ob_e, b2_n h3, if_pos rfl, nd_0, tb_r]; rfl
      · show f_m_autumn N (xr μ 1) a1 (ic q) a3 a4 = _
        unfold f_m_autumn f_m_autumn_28 f_m_autumn_29; rw [wb_e, isAut_e, ob_e, b2_n (fun z => h3 z.2), if_pos rfl, may_i (by decide) (z1 1), ob_e, if_pos rfl]; rfl
  · right
    have h2 : ¬ (0 ≤ a2 ∧ a2 ≤ 16) := h2
    refine ⟨xr μ 1, 0, mr (xr μ 1) 1 1, ?_, ?_, rfl, hI.rr (by decide) 1⟩
    · unfold f_x_autumn f_x_autumn_25 f_x_autumn_26; rw [within_e, ob_e, b2_n h2, if_pos rfl, nd_0, tb_r]; rfl
    · show f_m_autumn N (xr μ 1) a1 a2 a3 a4 = _
      unfold f_m_autumn f_m_autumn_28 f_m_autumn_29; rw [wb_e, isAut_e, ob_e, b2_n (fun z => h2 z.1), if_pos rfl, may_i (by decide) (z1 1), ob_e, if_pos rfl]; rfl
/-- many autumns -/
theorem sp_loop {N : Nat} {c : sw_M} {F W T P : Nat} {K O S0 : Nat → Int32} {nl : Nat} (hN : 5000 ≤ N) (hC : CW c F W T P) (hS0 : OKS F W T P S0) {q m many p k : Nat} (hm : m ≤ 96) (hmn : many ≤ 20) (hp : p < P) (hk : k ≤ 2) (seed : Int32) : ∀ (j i : Nat) (μ ν : sw_M) (x7 y7 x8 x9 : Int32) (n n2 : Nat), i + j = many → j < n → j < n2 → GX μ c W T P K O nl S0 → GM ν c F W T P K O nl S0 → ν 63 0 = 0 → ((i = 0 ∧ y7 = -1) ∨ (0 < i ∧ y7 = x7 ∧ ∃ u : Nat, u ≤ 96 ∧ x7 = ic u)) → 1 ≤ many → ∃ v μ' ν', f_x_span_78 N n μ seed (ic many) (ic q) (ic m) (ic k) (ic p) x7 x8 x9 (ic i) = some (.inl (v, μ')) ∧ f_m_span_77 N n2 ν seed (ic many) (ic q) (ic m) (ic k) (ic p) y7 x8 x9 (ic i) = some (v, ν') ∧ SX μ μ' ∧ SM ν ν' ∧ ν' 63 0 = 0
  | 0, i, μ, ν, x7, y7, x8, x9, n, n2, h, hn, hn2, gx, gm, h0, h7, h1 => by
    obtain ⟨n, rfl⟩ := fu_s hn
    obtain ⟨n2, rfl⟩ := fu_s hn2
    have hi : ic many ≤ ic i := by rw [ic_le (by omega) (by omega)]; omega
    have e7 : y7 = x7 := by
      rcases h7 with z | z
      · omega
      · exact z.2.1
    rw [f_x_span_78, if_pos hi, f_m_span_77, if_pos hi, e7]
    have hk2 : k = 0 ∨ k = 1 ∨ k = 2 := by omega
    rcases hk2 with rfl | rfl | rfl
    · exact ⟨x7, μ, ν, rfl, rfl, SX.rf μ, SM.rf ν, h0⟩
    · exact ⟨x8, μ, ν, rfl, rfl, SX.rf μ, SM.rf ν, h0⟩
    · exact ⟨x9, μ, ν, rfl, rfl, SX.rf μ, SM.rf ν, h0⟩
  | j + 1, i, μ, ν, x7, y7, x8, x9, n, n2, h, hn, hn2, gx, gm, h0, h7, h1 => by
    have hP' := hC.p5
    obtain ⟨n, rfl⟩ := fu_s (show 0 < n by omega)
    obtain ⟨n2, rfl⟩ := fu_s (show 0 < n2 by omega)
    have hi : ¬ ic many ≤ ic i := by rw [ic_le (by omega) (by omega)]; omega
    obtain ⟨μ1, ν1, e1, e2, fx, fm, hA⟩ := au_go hN hC hS0 (q := q) hm (seed + ic i) gx gm h0
    obtain ⟨b1, b2', b3, -, ⟨u, hu, eu⟩, b6⟩ := hA
    have gx1 := gx.sx fx
    have gm1 := gm.sm fm
    have dx : μ1 57 5 = S0 47 + ic u := by rw [← eu]; exact b2'.ex
    have d5 : μ1 35 5 = S0 47 := gx1.2.2.dx
    have n80 : ν1 80 47 = S0 47 := gm1.2.2 47 (by decide)
    have cr : S0 47 + ic u - S0 47 = ic u := by grind
    have ea : ν1 81 (36 + p) = μ1 61 p := (b2'.ea hp).symm
    have eb : ν1 80 (36 + p) = μ1 39 p := by rw [gm1.2.2 _ (by omega)]; exact (gx1.2.2.da hp).symm
    have el : f_autm_isElsewhere N μ1 (ic p) = some (if μ1 61 p = μ1 39 p then 0 else 1) := by
      unfold f_autm_isElsewhere
      rw [at_e (show p < 5 by omega) (by decide), ob_e, at_e (show p < 5 by omega) (by decide), ob_e]
      split <;> rfl
    obtain ⟨f7, hf7⟩ : ∃ f7 : Int32, f7 = if i = 0 then ic u else (if ic u < x7 then ic u else x7) := ⟨_, rfl⟩
    have hf : ∃ w : Nat, w ≤ 96 ∧ f7 = ic w := by
      rw [hf7]
      by_cases z : i = 0
      · rw [if_pos z]; exact ⟨u, hu, rfl⟩
      · rw [if_neg z]
        obtain ⟨w, hw, ew⟩ : ∃ w : Nat, w ≤ 96 ∧ x7 = ic w := by
          rcases h7 with y | y
          · omega
          · exact y.2.2
        split
        · exact ⟨u, hu, rfl⟩
        · exact ⟨w, hw, ew⟩
    obtain ⟨v, μ2, ν2, g1, g2, fx2, fm2, g3⟩ := sp_loop hN hC hS0 (q := q) hm hmn hp hk seed j (i + 1) μ1 ν1 f7 f7 (if x8 < ic u then ic u else x8) (x9 + (if μ1 61 p = μ1 39 p then 0 else 1)) n n2 (by omega) (by omega) (by omega) gx1 gm1 b6 (Or.inr ⟨by omega, rfl, hf⟩) h1
    refine ⟨v, μ2, ν2, ?_, ?_, fx.tr fx2, fm.tr fm2, g3⟩
    · rw [f_x_span_78, if_neg hi, e1, ob_e]
      unfold f_autm_crossings f_x_span_124 f_x_span_154
      rw [ob_e, dx, d5, cr, el, ← g1]
      simp only [ib_e, ob_e, ic_1]
      rw [hf7]
      by_cases z : i = 0
      · rw [if_pos (by rw [z]; rfl), if_pos z]
        by_cases y : μ1 61 p = μ1 39 p
        · simp only [y, if_true]
        · simp only [y, if_false, show ¬ (1 : Int32) = 0 by decide]
      · rw [if_neg (by rw [eq_lit (by decide) (by omega)]; exact z), if_neg z]
        by_cases y : μ1 61 p = μ1 39 p
        · simp only [y, if_true]
        · simp only [y, if_false, show ¬ (1 : Int32) = 0 by decide]
    · rw [f_m_span_77, if_neg hi, e2, ob_e, inb_lit (by decide) (by decide), inb_lit (by decide) (by decide), n_lit (by decide), eu, n80, cr, ib_e]
      have h147 : ∀ y7 s0 : Int32, f_m_span_147 N (f_m_span_77 N n2) ν1 seed (ic many) (ic q) (ic m) (ic k) (ic p) y7 x9 (ic i) s0 = f_m_span_77 N n2 ν1 seed (ic many) (ic q) (ic m) (ic k) (ic p) y7 s0 (x9 + (if μ1 61 p = μ1 39 p then 0 else 1)) (ic (i + 1)) := by
        intro y7 s0
        unfold f_m_span_147 f_m_span_179
        rw [lit_add, inb_e (by omega) (by decide), inb_e (by omega) (by decide), ic_n (by omega), ea, eb, ib_e, ib_e, ic_1]
        split <;> rfl
      have h131 : ∀ s0 : Int32, f_m_span_131 N (f_m_span_77 N n2) ν1 seed (ic many) (ic q) (ic m) (ic k) (ic p) x8 x9 (ic i) (ic u) s0 = f_m_span_77 N n2 ν1 seed (ic many) (ic q) (ic m) (ic k) (ic p) s0 (if x8 < ic u then ic u else x8) (x9 + (if μ1 61 p = μ1 39 p then 0 else 1)) (ic (i + 1)) := by
        intro s0
        unfold f_m_span_131
        rw [h147, h147]
        by_cases z : ic u ≤ x8
        · rw [if_pos z, show (if x8 < ic u then ic u else x8) = x8 from if_neg (by grind)]
        · rw [if_neg z, show (if x8 < ic u then ic u else x8) = ic u from if_pos (by grind)]
      unfold f_m_span_124
      rw [h131, h131, ← g2, hf7]
      rcases h7 with ⟨z1, z2⟩ | ⟨z1, z2, w, hw, ew⟩
      · rw [if_pos z2, if_pos z1]
      · rw [if_neg (by rw [z2, ew, ic_m1 (by omega)]; exact id), z2, show (if i = 0 then ic u else if ic u < x7 then ic u else x7) = (if ic u < x7 then ic u else x7) from if_neg (by omega)]
        by_cases z : x7 ≤ ic u
        · rw [if_pos z, show (if ic u < x7 then ic u else x7) = x7 from if_neg (by grind)]
        · rw [if_neg z, show (if ic u < x7 then ic u else x7) = ic u from if_pos (by grind)]
theorem op_span {N : Nat} {μ : sw_M} (hN : 5000 ≤ N) (hI : Inv μ) (a1 a2 a3 a4 a5 a6 : Int32) : OpI (f_x_span N μ a1 a2 a3 a4 a5 a6) (fun μ1 => f_m_span N μ1 a1 a2 a3 a4 a5 a6) := by
  obtain ⟨F, W, T, P, K, O, nl, nb, n, m, hQ, hR⟩ := id hI
  have hC := hQ.1
  have hF' := hC.f8; have hW' := hC.w12; have hT' := hC.t6; have hP' := hC.p5
  have hX : XR μ μ := ⟨rfl, rfl, rfl, rfl, rfl, rfl, rfl, rfl⟩
  have x0 := hX.nF hC; have x1 := hX.nW hC; have x2 := hX.nT hC; have x3 := hX.nP hC
  have m21 := hQ.2.1.nF; have m22 := hQ.2.1.nW; have m23 := hQ.2.1.nT; have m24 := hQ.2.1.nP
  have z1 : ∀ i, (wr (xr μ i) 63 0 0) 63 0 = 0 := fun _ => rfl
  have n24 : ∀ i, (wr (xr μ i) 63 0 0) 63 24 = ic P := fun _ => m24
  rcases wn_one a2 (n := 20) (by decide) with ⟨mn, hmn, rfl, h2⟩ | h2
  · have h2 : 1 ≤ ic mn ∧ ic mn ≤ 20 := h2
    have hmn1 : 1 ≤ mn := by
      rcases Nat.lt_or_ge mn 1 with z | z
      · have : mn = 0 := by omega
        subst this; exact absurd h2.1 (by decide)
      · exact z
    rcases wn_dec2 a3 (n := 16) (by decide) with ⟨q, hq, rfl, h3⟩ | h3
    · have h3 : 0 ≤ ic q ∧ ic q ≤ 16 := h3
      rcases wn_one a4 (n := 96) (by decide) with ⟨m, hm, rfl, h4⟩ | h4
      · have h4 : 1 ≤ ic m ∧ ic m ≤ 96 := h4
        rcases wn_dec2 a5 (n := 2) (by decide) with ⟨k, hk, rfl, h5⟩ | h5
        · have h5 : 0 ≤ ic k ∧ ic k ≤ 2 := h5
          rcases wn_dec a6 (n := P) (by omega) with ⟨p, hp, rfl, h6⟩ | h6
          · left
            have gx := hQ.gx
            obtain ⟨v, μ1, -, e1, -, fx, -, -⟩ := sp_loop hN hC hQ.2.2.1 (q := q) hm hmn hp hk a1 mn 0 μ (wr μ 63 0 0) 0 (-1) 0 0 N N (by omega) (by omega) (by omega) gx (hQ.gm (SX.rf μ)) rfl (Or.inl ⟨rfl, rfl⟩) hmn1
            obtain ⟨v2, μ2, ν, e2, e3, -, fm, b6⟩ := sp_loop hN hC hQ.2.2.1 (q := q) hm hmn hp hk a1 mn 0 μ (wr μ1 63 0 0) 0 (-1) 0 0 N N (by omega) (by omega) (by omega) gx (hQ.gm fx) rfl (Or.inl ⟨rfl, rfl⟩) hmn1
            rw [e1] at e2
            have e4 : v = v2 ∧ μ1 = μ2 := by
              injection e2 with z; injection z with z; exact ⟨congrArg Prod.fst z, congrArg Prod.snd z⟩
            obtain ⟨rfl, rfl⟩ := e4
            have z0 : (wr μ1 63 0 0) 63 0 = 0 := rfl
            have q24 : (wr μ1 63 0 0) 63 24 = ic P := (hQ.sx fx).2.1.nP
            refine ⟨v, μ1, ν, ?_, ?_, b6, (hI.sx fx).sm (((SM.rf μ1).wr63 0 0 (Or.inl rfl)).tr fm)⟩
            · unfold f_x_span f_x_span_37
              rw [within_e, ob_e, b2_p h2, if_neg o1, within_e, ob_e, b2_p h3, if_neg o1, within_e, ob_e, b2_p h4, if_neg o1, nd_1 (by decide), tb_l, g_needWhat_1 h5, tb_l, within_e, ob_e, x3, b2_p h6, nd_1 (by decide), tb_l]
              exact e1
            · show f_m_span N μ1 a1 (ic mn) (ic q) (ic m) (ic k) (ic p) = _
              unfold f_m_span f_m_span_55
              rw [wb_e, withinm_e, ob_e, b2_p h2, if_neg o1, isAut_e, ob_e, b2_p ⟨h3, h4⟩, if_neg o1, withinm_e, ob_e, b2_p h5, if_neg o1, withinm_e, ob_e, q24, b2_p h6, if_neg o1, may_1 (by decide) z0, ob_e, if_neg o1]
              exact e3
          · right
            refine ⟨xr μ 1, 0, mr (xr μ 1) 1 1, ?_, ?_, rfl, hI.rr (by decide) 1⟩
            · unfold f_x_span f_x_span_37; rw [within_e, ob_e, b2_p h2, if_neg o1, within_e, ob_e, b2_p h3, if_neg o1, within_e, ob_e, b2_p h4, if_neg o1, nd_1 (by decide), tb_l, g_needWhat_1 h5, tb_l, within_e, ob_e, x3, b2_n h6, nd_0, tb_r]; rfl
            · show f_m_span N (xr μ 1) a1 (ic mn) (ic q) (ic m) (ic k) a6 = _
              unfold f_m_span f_m_span_54 f_m_span_55; rw [wb_e, withinm_e, ob_e, b2_p h2, if_neg o1, isAut_e, ob_e, b2_p ⟨h3, h4⟩, if_neg o1, withinm_e, ob_e, b2_p h5, if_neg o1, withinm_e, ob_e, n24 1, b2_n h6, if_pos rfl, may_i (by decide) (z1 1), ob_e, if_pos rfl]; rfl
        · right
          have h5 : ¬ (0 ≤ a5 ∧ a5 ≤ 2) := h5
          refine ⟨xr μ 1, 0, mr (xr μ 1) 1 1, ?_, ?_, rfl, hI.rr (by decide) 1⟩
          · unfold f_x_span f_x_span_37; rw [within_e, ob_e, b2_p h2, if_neg o1, within_e, ob_e, b2_p h3, if_neg o1, within_e, ob_e, b2_p h4, if_neg o1, nd_1 (by decide), tb_l, g_needWhat_0 h5, tb_r]; rfl
          · show f_m_span N (xr μ 1) a1 (ic mn) (ic q) (ic m) a5 a6 = _
            unfold f_m_span f_m_span_54 f_m_span_55; rw [wb_e, withinm_e, ob_e, b2_p h2, if_neg o1, isAut_e, ob_e, b2_p ⟨h3, h4⟩, if_neg o1, withinm_e, ob_e, b2_n h5, if_pos rfl, may_i (by decide) (z1 1), ob_e, if_pos rfl]; rfl
      · right
        have h4 : ¬ (1 ≤ a4 ∧ a4 ≤ 96) := h4
        refine ⟨xr μ 1, 0, mr (xr μ 1) 1 1, ?_, ?_, rfl, hI.rr (by decide) 1⟩
        · unfold f_x_span f_x_span_36 f_x_span_37; rw [within_e, ob_e, b2_p h2, if_neg o1, within_e, ob_e, b2_p h3, if_neg o1, within_e, ob_e, b2_n h4, if_pos rfl, nd_0, tb_r]; rfl
        · show f_m_span N (xr μ 1) a1 (ic mn) (ic q) a4 a5 a6 = _
          unfold f_m_span f_m_span_54 f_m_span_55; rw [wb_e, withinm_e, ob_e, b2_p h2, if_neg o1, isAut_e, ob_e, b2_n (fun z => h4 z.2), if_pos rfl, may_i (by decide) (z1 1), ob_e, if_pos rfl]; rfl
    · right
      have h3 : ¬ (0 ≤ a3 ∧ a3 ≤ 16) := h3
      refine ⟨xr μ 1, 0, mr (xr μ 1) 1 1, ?_, ?_, rfl, hI.rr (by decide) 1⟩
      · unfold f_x_span f_x_span_36 f_x_span_37; rw [within_e, ob_e, b2_p h2, if_neg o1, within_e, ob_e, b2_n h3, if_pos rfl, nd_0, tb_r]; rfl
      · show f_m_span N (xr μ 1) a1 (ic mn) a3 a4 a5 a6 = _
        unfold f_m_span f_m_span_54 f_m_span_55; rw [wb_e, withinm_e, ob_e, b2_p h2, if_neg o1, isAut_e, ob_e, b2_n (fun z => h3 z.1), if_pos rfl, may_i (by decide) (z1 1), ob_e, if_pos rfl]; rfl
  · right
    have h2 : ¬ (1 ≤ a2 ∧ a2 ≤ 20) := h2
    refine ⟨xr μ 1, 0, mr (xr μ 1) 1 1, ?_, ?_, rfl, hI.rr (by decide) 1⟩
    · unfold f_x_span f_x_span_36 f_x_span_37; rw [within_e, ob_e, b2_n h2, if_pos rfl, nd_0, tb_r]; rfl
    · show f_m_span N (xr μ 1) a1 a2 a3 a4 a5 a6 = _
      unfold f_m_span f_m_span_54 f_m_span_55; rw [wb_e, withinm_e, ob_e, b2_n h2, if_pos rfl, may_i (by decide) (z1 1), ob_e, if_pos rfl]; rfl
