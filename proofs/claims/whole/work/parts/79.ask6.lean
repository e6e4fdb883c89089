/-! ===== printed by wip/whole/gen79.py: haul, tingle, lean ===== -/
theorem bt_ic {k i : Nat} (hi : i < 32) : bt (ic k) i = k.testBit i := by
  unfold bt
  show (BitVec.ofNat 32 k).getLsbD i = _
  rw [BitVec.getLsbD_ofNat]; simp [hi]
theorem fo_add {α : Type} (g : Nat → α → α) : ∀ (a b k : Nat) (x : α), fo g k (a + b) x = fo g (k + a) b (fo g k a x)
  | 0, b, k, x => by rw [Nat.zero_add]; rfl
  | a + 1, b, k, x => by rw [show a + 1 + b = (a + b) + 1 by omega, fo_s, fo_add g a b (k + 1), fo_s, show k + 1 + a = k + (a + 1) by omega]
theorem fo_id {α : Type} {g : Nat → α → α} : ∀ (j k : Nat) (x : α), (∀ i y, k ≤ i → i < k + j → g i y = y) → fo g k j x = x
  | 0, _, _, _ => rfl
  | j + 1, k, x, H => by rw [fo_s, H k x (by omega) (by omega), fo_id j (k + 1) x (fun i y h1 h2 => H i y (by omega) (by omega))]
def hlF (T : Nat) (c : sw_M) (L fr : Int32) (k : Nat) (b : Int32) : Int32 := if ic k &&& (L ^^^ (-1)) = 0 ∧ ¬ fr < wtB T c (ic k) ∧ ¬ wtB T c (ic k) ≤ wtB T c b then ic k else b
theorem lp_haul {N : Nat} {μ c : sw_M} {F W T P : Nat} (hN : 5000 ≤ N) (hC : CW c F W T P) (hX : XR μ c) (L fr : Int32) : ∀ (j k : Nat) (b : Int32) (n : Nat), k + j = 64 → j < n → f_days_bestHaul_28 N μ n L fr b (wtB T c b) (ic k) = some (fo (hlF T c L fr) k j b)
  | 0, k, b, n, h, hn => by
    obtain ⟨n, rfl⟩ := fu_s hn
    rw [f_days_bestHaul_28, if_pos (by rw [lit_le (by decide) (by omega)]; omega), fo_0]
  | j + 1, k, b, n, h, hn => by
    obtain ⟨n, rfl⟩ := fu_s (show 0 < n by omega)
    have ih := fun b => lp_haul hN hC hX L fr j (k + 1) b n (by omega) (by omega)
    have e1 := e_land_weightOf hN hC hX (ic k)
    rw [f_days_bestHaul_28, if_neg (by rw [lit_le (by decide) (by omega)]; omega), e1, ob_e, ic_1, ih, ih, fo_s]
    by_cases a : ic k &&& (L ^^^ (-1)) = 0
    · by_cases d : fr < wtB T c (ic k)
      · rw [if_pos a, if_pos d, show hlF T c L fr k b = b by unfold hlF; rw [if_neg (fun z => z.2.1 d)]]
      · by_cases e : wtB T c (ic k) ≤ wtB T c b
        · rw [if_pos a, if_neg d, if_pos e, show hlF T c L fr k b = b by unfold hlF; rw [if_neg (fun z => z.2.2 e)]]
        · rw [if_pos a, if_neg d, if_neg e, show hlF T c L fr k b = ic k by unfold hlF; rw [if_pos ⟨a, d, e⟩]]
    · rw [if_neg a, show hlF T c L fr k b = b by unfold hlF; rw [if_neg (fun z => a z.1)]]
theorem sh_2 {W : Nat} (hW : W ≤ 12) : sh W = ic (2 ^ W) := by
  have : ∀ W, W ≤ 12 → sh W = ic (2 ^ W) := by decide +kernel
  exact this W hW
theorem lp_m_haul {N : Nat} {μ c : sw_M} {F W T P : Nat} (hN : 5000 ≤ N) (hC : CW c F W T P) (hM : MR μ c F W T P) (x2 L fr : Int32) : ∀ (j k : Nat) (b : Int32) (n : Nat), k + j = 2 ^ T → j < n → f_m_haul_73 N n μ x2 L fr b (ic k) = some (if x2 = 0 then wtB T c (fo (hlF T c L fr) k j b) else fo (hlF T c L fr) k j b, μ)
  | 0, k, b, n, h, hn => by
    have hT' := hC.t6; have nT := hM.nT
    have h2 : 2 ^ T ≤ 64 := Nat.pow_le_pow_right (n := 2) (by decide) (show T ≤ 6 from hT')
    obtain ⟨n, rfl⟩ := fu_s hn
    have e1 := e_m_weightOf hN hC hM b
    rw [f_m_haul_73, nT, sh_e, sh_2 (by omega), if_pos (by rw [ic_le (by omega) (by omega)]; omega), e1, ob_e, fo_0]
    split <;> rfl
  | j + 1, k, b, n, h, hn => by
    have hT' := hC.t6; have nT := hM.nT
    have h2 : 2 ^ T ≤ 64 := Nat.pow_le_pow_right (n := 2) (by decide) (show T ≤ 6 from hT')
    obtain ⟨n, rfl⟩ := fu_s (show 0 < n by omega)
    have ih := fun b => lp_m_haul hN hC hM x2 L fr j (k + 1) b n (by omega) (by omega)
    have e1 := e_m_weightOf hN hC hM (ic k)
    have e2 := e_m_weightOf hN hC hM b
    rw [f_m_haul_73, nT, sh_e, sh_2 (by omega), if_neg (by rw [ic_le (by omega) (by omega)]; omega), e1, ob_e, ob_e, e2, ob_e, ic_1, ih, ih, fo_s]
    by_cases a : ic k &&& (L ^^^ (-1)) = 0
    · by_cases d : fr < wtB T c (ic k)
      · rw [if_pos a, if_pos d, show hlF T c L fr k b = b by unfold hlF; rw [if_neg (fun z => z.2.1 d)]]
      · by_cases e : wtB T c (ic k) ≤ wtB T c b
        · rw [if_pos a, if_neg d, if_pos e, show hlF T c L fr k b = b by unfold hlF; rw [if_neg (fun z => z.2.2 e)]]
        · rw [if_pos a, if_neg d, if_neg e, show hlF T c L fr k b = ic k by unfold hlF; rw [if_pos ⟨a, d, e⟩]]
    · rw [if_neg a, show hlF T c L fr k b = b by unfold hlF; rw [if_neg (fun z => a z.1)]]
theorem hl_tail {T : Nat} {c : sw_M} {L fr : Int32} (hT : T ≤ 6) (hL : ∀ i, bt L i = true → i < T) (b : Int32) : fo (hlF T c L fr) 1 63 b = fo (hlF T c L fr) 1 (2 ^ T - 1) b := by
  have h2 : 2 ^ T ≤ 64 := Nat.pow_le_pow_right (n := 2) (by decide) (show T ≤ 6 from hT)
  have h1 : 1 ≤ 2 ^ T := Nat.one_le_two_pow
  rw [show 63 = (2 ^ T - 1) + (64 - 2 ^ T) by omega, fo_add]
  refine fo_id _ _ _ (fun i y q1 q2 => ?_)
  unfold hlF
  rw [if_neg]
  rintro ⟨z, -⟩
  have hlt : i < 2 ^ T := by
    refine Nat.lt_pow_two_of_testBit (n := T) _ (fun u hu => ?_)
    by_cases hu2 : u < 32
    · have := congrArg (fun y => bt y u) z
      simp only [b_and, b_xor, b_m1 u hu2, b_0, bt_ic hu2] at this
      have hl : bt L u = false := by
        cases h : bt L u
        · rfl
        · have := hL u h; omega
      rw [hl] at this
      simpa using this
    · exact Nat.testBit_lt_two_pow (Nat.lt_of_lt_of_le (show i < 2 ^ 6 by omega) (Nat.pow_le_pow_right (by decide) (by omega)))
  omega
theorem wt_0 (T : Nat) (c : sw_M) : wtB T c 0 = 0 := by
  unfold wtB
  exact fo_id T 0 0 (fun i y _ _ => by rw [if_neg]; rw [b_0]; decide)
theorem op_haul {N : Nat} {μ : sw_M} (hN : 5000 ≤ N) (hI : Inv μ) (a1 a2 : Int32) : OpB (f_x_haul N μ a1 a2) (fun μ1 => f_m_haul N μ1 a1 a2) := by
  obtain ⟨F, W, T, P, K, O, nl, nb, n, m, hQ, hR⟩ := id hI
  have hC := hQ.1
  have hF' := hC.f8; have hW' := hC.w12; have hT' := hC.t6; have hP' := hC.p5
  have hX : XR μ μ := ⟨rfl, rfl, rfl, rfl, rfl, rfl, rfl, rfl⟩
  have x0 := hX.nF hC; have x1 := hX.nW hC; have x2 := hX.nT hC; have x3 := hX.nP hC
  have m21 := hQ.2.1.nF; have m22 := hQ.2.1.nW; have m23 := hQ.2.1.nT; have m24 := hQ.2.1.nP
  have z1 : ∀ i, (wr (xr μ i) 63 0 0) 63 0 = 0 := fun _ => rfl
  rcases wn_dec a1 (n := P) (by omega) with ⟨p, hp, rfl, hg⟩ | hg
  · rcases wn_dec2 a2 (n := 1) (by decide) with ⟨k, hk, rfl, hz⟩ | hz
    · left
      have hz : 0 ≤ ic k ∧ ic k ≤ 1 := hz
      obtain ⟨-, -, hS, hD, hM, -, -⟩ := qm_ctx hQ
      have z0 : (wr μ 63 0 0) 63 0 = 0 := rfl
      have e1 := e_days_lyingBits hN hC hX hS hD (((qm μ) 81) (36 + p))
      have e2 := e_days_freeOf hN hC hX hS hD hp
      have e3 := lp_haul hN hC hX (lieB T ((qm μ) 81) (((qm μ) 81) (36 + p))) (μ 10 p - loadS T μ ((qm μ) 81) (ic p)) 63 1 0 N (by omega) (by omega)
      rw [wt_0] at e3
      have h1 : 1 ≤ 2 ^ T := Nat.one_le_two_pow
      have h2 : 2 ^ T ≤ 64 := Nat.pow_le_pow_right (n := 2) (by decide) (show T ≤ 6 from hT')
      have e4 := lp_m_haul hN hC hM (ic k) (lieB T ((qm μ) 81) (((qm μ) 81) (36 + p))) (μ 10 p - loadS T μ ((qm μ) 81) (ic p)) (2 ^ T - 1) 1 0 N (by omega) (by omega)
      have e5 := e_m_lyingIn hN hC hM hS (((qm μ) 81) (36 + p))
      have e6 := e_m_loadOf hN hC hM hS (ic p)
      have e7 := hM.p1 hp
      have hL : ∀ i, bt (lieB T ((qm μ) 81) (((qm μ) 81) (36 + p))) i = true → i < T := by
        intro i hi
        unfold lieB at hi
        rw [b_fo0 (fun t => ((qm μ) 81) (30 + t) = -1 ∧ ((qm μ) 81) (24 + t) = ((qm μ) 81) (36 + p)) (by omega) i] at hi
        simp only [decide_eq_true_eq] at hi
        exact hi.1
      rw [hl_tail hT' hL] at e3
      have e8 := e_land_weightOf hN hC hX (fo (hlF T μ (lieB T ((qm μ) 81) (((qm μ) 81) (36 + p))) (μ 10 p - loadS T μ ((qm μ) 81) (ic p))) 1 (2 ^ T - 1) 0)
      refine ⟨if ic k = 0 then wtB T μ (fo (hlF T μ (lieB T ((qm μ) 81) (((qm μ) 81) (36 + p))) (μ 10 p - loadS T μ ((qm μ) 81) (ic p))) 1 (2 ^ T - 1) 0) else fo (hlF T μ (lieB T ((qm μ) 81) (((qm μ) 81) (36 + p))) (μ 10 p - loadS T μ ((qm μ) 81) (ic p))) 1 (2 ^ T - 1) 0, μ, qm μ, ?_, ?_, qm_0 μ, hI.sm (qm_sm μ)⟩
      · unfold f_x_haul f_days_bestHaul
        rw [g_needPerson_1 x3 hg, tb_l, g_needWhat_1 hz, tb_l, at_e (show p < 5 by omega) (by decide), ob_e, hD.da hp, e1, ob_e, e2, ob_e]
        have e9 : f_days_bestHaul_28 N μ N (lieB T ((qm μ) 81) (((qm μ) 81) (36 + p))) (μ 10 p - loadS T μ ((qm μ) 81) (ic p)) 0 0 1 = _ := e3
        rw [e9, ob_e, e8, ob_e]
        split <;> rfl
      · show f_m_haul N μ (ic p) (ic k) = _
        unfold f_m_haul
        rw [wb_e, h_isPerson_1 (μ := wr μ 63 0 0) m24 rfl hg, ob_e, if_neg o1, withinm_e, ob_e, b2_p hz, may_1 (by decide) z0, ob_e, if_neg o1, e_q_take hN, ob_e]
        simp (disch := omega) only [e5, e6, e7, wb_e, ib_e, ibL_e, ob_e, nz4, inb_e, inb_lit, ic_n, n_lit, ic_1, lit_add, add_lit, lit_mul, mul_lit, ic_add, ic_mul, ic_le, ic_lt, ic_eq, lit_le, le_lit, lit_lt, lt_lit, lit_eq, eq_lit, ic_m1, m1_ic, ic_lt0, ic_0le, b2_0, b2_1, b2_bl, sh_e, Nat.not_lt_zero, Nat.zero_le, Nat.reduceEqDiff, Nat.reduceAdd, Nat.reduceMul, Nat.reduceSub, Nat.reduceLT, Nat.reduceLeDiff, reduceIte, ne_eq, not_false_eq_true, not_true_eq_false, if_true, if_false, Nat.zero_add]
        simp (disch := omega) only [eq_lit] at e4
        exact e4
    · right; right
      have hz : ¬ (0 ≤ a2 ∧ a2 ≤ 1) := hz
      refine ⟨xr μ 1, 0, mr (xr μ 1) 1 2, ?_, ?_, rfl, hI.rr (by decide) 2⟩
      · unfold f_x_haul; rw [g_needPerson_1 x3 hg, tb_l, g_needWhat_0 hz, tb_r]; rfl
      · show f_m_haul N (xr μ 1) (ic p) a2 = _
        unfold f_m_haul; rw [wb_e, h_isPerson_1 (μ := wr (xr μ 1) 63 0 0) m24 (z1 1) hg, ob_e, if_neg o1, withinm_e, ob_e, b2_n hz, may_i (by decide) (z1 1), ob_e, if_pos rfl]; rfl
  · right; left
    refine ⟨xr μ 0, 0, mr (xr μ 0) 0 1, ?_, ?_, rfl, hI.rr (by decide) 1⟩
    · unfold f_x_haul; rw [g_needPerson_0 x3 hg, tb_r]; rfl
    · show f_m_haul N (xr μ 0) a1 a2 = _
      unfold f_m_haul; rw [wb_e, h_isPerson_0 (μ := wr (xr μ 0) 63 0 0) m24 (z1 0) hg, ob_e, if_pos rfl]; rfl
/-! tingle -/
def pwr (a : Int64) : Nat → Int64
  | 0 => 1
  | k + 1 => pwr a k * a
theorem lp_power {N : Nat} {μ : sw_M} (x : Int32) {m : Nat} (hm : m ≤ 100) : ∀ (j k n : Nat), k + j = m → j < n → f_sx_power_5 N μ n x (ic m) (pwr x.toInt64 k) (ic k) = some (pwr x.toInt64 m)
  | 0, k, n, h, hn => by
    obtain ⟨n, rfl⟩ := fu_s hn
    rw [f_sx_power_5, if_pos (by rw [ic_le (by omega) (by omega)]; omega), show k = m by omega]
  | j + 1, k, n, h, hn => by
    obtain ⟨n, rfl⟩ := fu_s (show 0 < n by omega)
    rw [f_sx_power_5, if_neg (by rw [ic_le (by omega) (by omega)]; omega), ibL_e, ic_1]
    exact lp_power x hm j (k + 1) n (by omega) (by omega)
theorem e_power {N : Nat} {μ : sw_M} (hN : 5000 ≤ N) (x : Int32) {m : Nat} (hm : m ≤ 100) : f_sx_power N μ x (ic m) = some (pwr x.toInt64 m) := lp_power x hm m 0 N (by omega) (by omega)
/-- Euclid's steps -/
def gcs : Nat → Int64 → Int64 → Option Int64
  | 0, _, _ => none
  | n + 1, a, b => if b = 0 then some a else gcs n b (a - a / b * b)
theorem lgc (x : Int64) : (lg_cmp x 0 = 0) = (x = 0) := by
  unfold lg_cmp
  by_cases h : x > 0
  · rw [if_pos h]; simp; intro z; subst z; exact absurd h (by decide)
  · rw [if_neg h]; by_cases z : x = 0 <;> simp [z]
theorem lgp (x : Int64) : (0 < lg_cmp x 0) = (0 < x) := by
  unfold lg_cmp
  by_cases h : x > 0
  · rw [if_pos h]; simp; exact h
  · rw [if_neg h]
    have h2 : ¬ 0 < x := h
    by_cases z : x = 0 <;> simp [z, h2]
theorem lp_gd {N : Nat} {μ : sw_M} {g : Int64} : ∀ (j k n : Nat) (a b : Int64), k + j ≤ 128 → j < n → gcs j a b = some g → f_sx_greatestDivisor_9 N μ n a b (ic k) = some g
  | 0, k, n, a, b, h, hn, hg => by unfold gcs at hg; exact absurd hg (by simp)
  | j + 1, k, n, a, b, h, hn, hg => by
    obtain ⟨n, rfl⟩ := fu_s (show 0 < n by omega)
    unfold gcs at hg
    rw [f_sx_greatestDivisor_9, if_neg (by rw [lit_le (by decide) (by omega)]; omega)]
    by_cases q : b = 0
    · rw [if_pos q] at hg; rw [if_pos (by rw [lgc]; exact q), hg]
    · rw [if_neg q] at hg; rw [if_neg (by rw [lgc]; exact q), nzL_e q, ibL_e, ic_1]
      exact lp_gd j (k + 1) n _ _ (by omega) (by omega) hg
theorem lp_lst {N : Nat} {μ : sw_M} {g u v : Int64} {x : Int32} (h0 : g ≠ 0) : ∀ (j n : Nat) (a b : Int64), j < n → gcs j a b = some g → f_sm_least_6 N μ n u v x a b = some ((if x = 0 then u else v) / g)
  | 0, n, a, b, hn, hg => by unfold gcs at hg; exact absurd hg (by simp)
  | j + 1, n, a, b, hn, hg => by
    obtain ⟨n, rfl⟩ := fu_s (show 0 < n by omega)
    unfold gcs at hg
    rw [f_sm_least_6]
    by_cases q : b = 0
    · rw [if_pos q] at hg
      have hg : a = g := by injection hg
      subst hg
      rw [if_pos (by rw [lgc]; exact q)]
      unfold f_sm_least_41
      rw [nzL_e h0, nzL_e h0]
      split <;> rfl
    · rw [if_neg q] at hg; rw [if_neg (by rw [lgc]; exact q), nzL_e q, ibL_e]
      exact lp_lst h0 j n _ _ (by omega) hg
theorem lp_up {N : Nat} {μ : sw_M} {q : Nat} {x3 : Int32} {u0 b0 : Int64} {m : Nat} (hm : m ≤ 12) : ∀ (j k n : Nat), k + j = m - 1 → j < n → f_m_tingle_73 N n μ (ic m) (ic q) x3 (u0 * pwr ((16 : Int32) - ic q).toInt64 k) (b0 * pwr 16 k) (ic (k + 1)) = Option.bind (f_sm_least N μ (u0 * pwr ((16 : Int32) - ic q).toInt64 (m - 1)) (b0 * pwr 16 (m - 1)) x3) (fun r1 => some (r1, μ))
  | 0, k, n, h, hn => by
    obtain ⟨n, rfl⟩ := fu_s hn
    rw [f_m_tingle_73, if_pos (by rw [ic_le (by omega) (by omega)]; omega), show k = m - 1 by omega]
  | j + 1, k, n, h, hn => by
    obtain ⟨n, rfl⟩ := fu_s (show 0 < n by omega)
    rw [f_m_tingle_73, if_neg (by rw [ic_le (by omega) (by omega)]; omega), ibL_e, ibL_e, ic_1, Int64.mul_assoc, Int64.mul_assoc]
    exact lp_up hm j (k + 1) n (by omega) (by omega)
def tgU (m q : Nat) : Int64 := if m = 0 then 0 else (ic m).toInt64 * (ic q).toInt64 * pwr ((16 : Int32) - ic q).toInt64 (m - 1)
theorem tg_k : ∀ m, m < 13 → ∀ q, q < 17 → ((gcs 60 (tgU m q) (pwr 16 m)).any (fun g => decide (0 < g))) = true := by decide +kernel
theorem tg_b : ∀ m, m < 13 → (if m = 0 then (1 : Int64) else 16) * pwr 16 (m - 1) = pwr 16 m := by decide +kernel
theorem tg_16 : (16 : Int32).toInt64 = 16 := by decide
def OpL (X : Option ((Int64 × sw_M) ⊕ (String × sw_M))) (M : sw_M → Option (Int64 × sw_M)) : Prop :=
  (∃ v μ1 μ2, X = some (.inl (v, μ1)) ∧ M μ1 = some (v, μ2) ∧ μ2 63 0 = 0 ∧ Inv μ2) ∨
  (∃ μ1 b μ2, X = some (.inr ("java/lang/IllegalArgumentException", μ1)) ∧ M μ1 = some (b, μ2) ∧ μ2 63 0 = 1 ∧ Inv μ2)
theorem op_tingle {N : Nat} {μ : sw_M} (hN : 5000 ≤ N) (hI : Inv μ) (a1 a2 a3 : Int32) : OpL (f_x_tingle N μ a1 a2 a3) (fun μ1 => f_m_tingle N μ1 a1 a2 a3) := by
  have z1 : ∀ i, (wr (xr μ i) 63 0 0) 63 0 = 0 := fun _ => rfl
  rcases wn_dec2 a1 (n := 12) (by decide) with ⟨m, hm, rfl, h1⟩ | h1
  · have h1 : 0 ≤ ic m ∧ ic m ≤ 12 := h1
    rcases wn_dec2 a2 (n := 16) (by decide) with ⟨q, hq, rfl, h2⟩ | h2
    · have h2 : 0 ≤ ic q ∧ ic q ≤ 16 := h2
      rcases wn_dec2 a3 (n := 1) (by decide) with ⟨k, hk, rfl, h3⟩ | h3
      · have h3 : 0 ≤ ic k ∧ ic k ≤ 1 := h3
        left
        have z0 : (wr μ 63 0 0) 63 0 = 0 := rfl
        have hg := tg_k m (by omega) q (by omega)
        obtain ⟨g, hg1, hg2⟩ : ∃ g, gcs 60 (tgU m q) (pwr 16 m) = some g ∧ 0 < g := by
          cases h : gcs 60 (tgU m q) (pwr 16 m) with
          | none => rw [h] at hg; exact absurd hg (by simp)
          | some g => rw [h] at hg; exact ⟨g, rfl, by simpa using hg⟩
        have hne : g ≠ 0 := fun z => by subst z; exact absurd hg2 (by decide)
        have e16 := e_power (N := N) (μ := μ) hN 16 (m := m) (by omega)
        rw [tg_16] at e16
        have egd := lp_gd (N := N) (μ := μ) 60 0 N _ _ (by omega) (by omega) hg1
        have els := lp_lst (N := N) (μ := wr μ 63 0 0) (u := tgU m q) (v := pwr 16 m) (x := ic k) hne 60 N _ _ (by omega) hg1
        refine ⟨(if ic k = 0 then tgU m q else pwr 16 m) / g, μ, wr μ 63 0 0, ?_, ?_, rfl, hI.sm ((SM.rf μ).wr63 0 0 (Or.inl rfl))⟩
        · have h59 : f_x_tingle_59 N μ (ic m) (ic k) (tgU m q) = some (.inl ((if ic k = 0 then tgU m q else pwr 16 m) / g, μ)) := by
            have egd' : f_sx_greatestDivisor N μ (tgU m q) (pwr 16 m) = some g := egd
            unfold f_x_tingle_59
            rw [e16, ob_e, egd', ob_e, if_pos (by rw [lgp]; exact hg2), nzL_e hne, nzL_e hne]
            split <;> rfl
          unfold f_x_tingle f_x_tingle_26
          rw [within_e, ob_e, b2_p h1, if_neg o1, within_e, ob_e, b2_p h2, if_neg o1, nd_1 (by decide), tb_l, g_needWhat_1 h3, tb_l]
          by_cases z : m = 0
          · subst z
            rw [if_pos (show ic 0 = 0 from rfl)]; exact h59
          · have hne0 : ¬ ic m = 0 := by rw [eq_lit (by decide) (by omega)]; exact z
            have ep := e_power (N := N) (μ := μ) hN ((16 : Int32) - ic q) (m := m - 1) (by omega)
            have em : ic m - 1 = ic (m - 1) := ic_sub (a := m) (b := 1) (by omega)
            rw [if_neg hne0, em, ep, ob_e]
            unfold tgU at h59
            rw [if_neg z] at h59
            unfold tgU
            rw [if_neg z]; exact h59
        · show f_m_tingle N μ (ic m) (ic q) (ic k) = _
          unfold f_m_tingle f_m_tingle_40 f_m_tingle_68
          rw [wb_e, withinm_e, ob_e, b2_p h1, if_neg o1, withinm_e, ob_e, b2_p h2, if_neg o1, withinm_e, ob_e, b2_p h3, if_neg o1, may_1 (by decide) z0, ob_e, if_neg o1, ibL_e]
          have els' : f_sm_least N (wr μ 63 0 0) (tgU m q) (pwr 16 m) (ic k) = some ((if ic k = 0 then tgU m q else pwr 16 m) / g) := els
          have hu := fun (b0 : Int64) => lp_up (N := N) (μ := wr μ 63 0 0) (q := q) (x3 := ic k) (u0 := (ic m).toInt64 * (ic q).toInt64) (b0 := b0) (m := m) (by omega) (m - 1) 0 N (by omega) (by omega)
          have hp0 : ∀ x : Int64, pwr x 0 = 1 := fun _ => rfl
          simp only [hp0, Int64.mul_one, Nat.zero_add] at hu
          have hb := tg_b m (by omega)
          have hU : (ic m).toInt64 * (ic q).toInt64 * pwr ((16 : Int32) - ic q).toInt64 (m - 1) = tgU m q := by
            unfold tgU
            by_cases z : m = 0
            · subst z; rw [if_pos rfl, show (ic 0).toInt64 = 0 from rfl, Int64.zero_mul, Int64.zero_mul]
            · rw [if_neg z]
          by_cases z : m = 0
          · subst z
            rw [if_pos rfl] at hb
            rw [if_pos (show ic 0 = 0 from rfl)]
            have := hu 1
            rw [hU, hb, els', ob_e] at this
            exact this
          · rw [if_neg z] at hb
            have hne0 : ¬ ic m = 0 := by rw [eq_lit (by decide) (by omega)]; exact z
            rw [if_neg hne0]
            have := hu 16
            rw [hU, hb, els', ob_e] at this
            exact this
      · right
        have h3 : ¬ (0 ≤ a3 ∧ a3 ≤ 1) := h3
        refine ⟨xr μ 1, 0, mr (xr μ 1) 1 1, ?_, ?_, rfl, hI.rr (by decide) 1⟩
        · unfold f_x_tingle f_x_tingle_26; rw [within_e, ob_e, b2_p h1, if_neg o1, within_e, ob_e, b2_p h2, if_neg o1, nd_1 (by decide), tb_l, g_needWhat_0 h3, tb_r]; rfl
        · show f_m_tingle N (xr μ 1) (ic m) (ic q) a3 = _
          unfold f_m_tingle f_m_tingle_39 f_m_tingle_40; rw [wb_e, withinm_e, ob_e, b2_p h1, if_neg o1, withinm_e, ob_e, b2_p h2, if_neg o1, withinm_e, ob_e, b2_n h3, if_pos rfl, may_i (by decide) (z1 1), ob_e, if_pos rfl]; rfl
    · right
      have h2 : ¬ (0 ≤ a2 ∧ a2 ≤ 16) := h2
      refine ⟨xr μ 1, 0, mr (xr μ 1) 1 1, ?_, ?_, rfl, hI.rr (by decide) 1⟩
      · unfold f_x_tingle f_x_tingle_25 f_x_tingle_26; rw [within_e, ob_e, b2_p h1, if_neg o1, within_e, ob_e, b2_n h2, if_pos rfl, nd_0, tb_r]; rfl
      · show f_m_tingle N (xr μ 1) (ic m) a2 a3 = _
        unfold f_m_tingle f_m_tingle_39 f_m_tingle_40; rw [wb_e, withinm_e, ob_e, b2_p h1, if_neg o1, withinm_e, ob_e, b2_n h2, if_pos rfl, may_i (by decide) (z1 1), ob_e, if_pos rfl]; rfl
  · right
    have h1 : ¬ (0 ≤ a1 ∧ a1 ≤ 12) := h1
    refine ⟨xr μ 1, 0, mr (xr μ 1) 1 1, ?_, ?_, rfl, hI.rr (by decide) 1⟩
    · unfold f_x_tingle f_x_tingle_25 f_x_tingle_26; rw [within_e, ob_e, b2_n h1, if_pos rfl, nd_0, tb_r]; rfl
    · show f_m_tingle N (xr μ 1) a1 a2 a3 = _
      unfold f_m_tingle f_m_tingle_39 f_m_tingle_40; rw [wb_e, withinm_e, ob_e, b2_n h1, if_pos rfl, may_i (by decide) (z1 1), ob_e, if_pos rfl]; rfl
