/-! ===== printed by wip/whole/gen77.py: eight steps are enough; ground, parts ===== -/
def c1 (x : Int32) (i : Nat) : Nat := if bt x i = true then 1 else 0
def cd (x : Int32) : Nat := c1 x 0 + c1 x 1 + c1 x 2 + c1 x 3 + c1 x 4 + c1 x 5 + c1 x 6 + c1 x 7
theorem c1_le (x : Int32) (i : Nat) : c1 x i ≤ 1 := by unfold c1; split <;> omega
theorem c1_mono {x y : Int32} (h : SubB x y) (i : Nat) : c1 x i ≤ c1 y i := by
  unfold c1
  by_cases e : bt x i = true
  · rw [if_pos e, if_pos (h i e)]; exact Nat.le_refl 1
  · rw [if_neg e]; exact Nat.zero_le _
theorem c1_eq {x y : Int32} {i : Nat} (h : c1 x i = c1 y i) : bt x i = bt y i := by
  unfold c1 at h
  cases hx : bt x i <;> cases hy : bt y i <;> simp [hx, hy] at h <;> rfl
theorem cd_le (x : Int32) : cd x ≤ 8 := by
  have := c1_le x 0; have := c1_le x 1; have := c1_le x 2; have := c1_le x 3; have := c1_le x 4; have := c1_le x 5; have := c1_le x 6; have := c1_le x 7
  unfold cd; omega
theorem cd_lt {x y : Int32} (h : SubB x y) (hy : ∀ i, bt y i = true → i < 8) (hne : ¬ y = x) : cd x < cd y := by
  have m0 := c1_mono h 0; have m1 := c1_mono h 1; have m2 := c1_mono h 2; have m3 := c1_mono h 3; have m4 := c1_mono h 4; have m5 := c1_mono h 5; have m6 := c1_mono h 6; have m7 := c1_mono h 7
  rcases Nat.lt_or_ge (cd x) (cd y) with z | z
  · exact z
  · exfalso
    apply hne
    unfold cd at z
    refine b_ext (fun i hi => ?_)
    by_cases q : i < 8
    · have : i = 0 ∨ i = 1 ∨ i = 2 ∨ i = 3 ∨ i = 4 ∨ i = 5 ∨ i = 6 ∨ i = 7 := by omega
      rcases this with rfl | rfl | rfl | rfl | rfl | rfl | rfl | rfl <;> exact c1_eq (by omega)
    · have e1 : bt y i = false := by
        cases hb : bt y i
        · rfl
        · exact absurd (hy i hb) q
      have e2 : bt x i = false := by
        cases hb : bt x i
        · rfl
        · exact absurd (hy i (h i hb)) q
      rw [e1, e2]
theorem chain {X : Nat → Int32} (hs : ∀ k, SubB (X k) (X (k + 1))) (hst : ∀ k, X (k + 1) = X k → X (k + 2) = X (k + 1)) (h8 : ∀ k i, bt (X k) i = true → i < 8) (h0 : 1 ≤ cd (X 0)) : ∀ k, 7 ≤ k → X (k + 1) = X k := by
  have A : ∀ k, X (k + 1) = X k ∨ k + 2 ≤ cd (X (k + 1)) := by
    intro k
    induction k with
    | zero =>
      by_cases e : X 1 = X 0
      · exact Or.inl e
      · have z : cd (X 0) < cd (X 1) := cd_lt (hs 0) (h8 1) e
        exact Or.inr (by show 2 ≤ cd (X 1); omega)
    | succ k ih =>
      by_cases e : X (k + 1 + 1) = X (k + 1)
      · exact Or.inl e
      · rcases ih with z | z
        · exact absurd (hst k z) e
        · have y : cd (X (k + 1)) < cd (X (k + 2)) := cd_lt (hs (k + 1)) (h8 (k + 2)) e
          exact Or.inr (by show k + 3 ≤ cd (X (k + 2)); omega)
  intro k
  induction k with
  | zero => intro h; omega
  | succ k ih =>
    intro h
    by_cases e : k = 6
    · subst e
      rcases A 7 with z | z
      · exact z
      · have := cd_le (X (7 + 1)); omega
    · exact hst k (ih (by omega))
theorem cd_sh {f : Nat} (hf : f < 8) : 1 ≤ cd (sh f) := by
  have : f = 0 ∨ f = 1 ∨ f = 2 ∨ f = 3 ∨ f = 4 ∨ f = 5 ∨ f = 6 ∨ f = 7 := by omega
  rcases this with rfl | rfl | rfl | rfl | rfl | rfl | rfl | rfl <;> decide +kernel
theorem sh_8 {f : Nat} (hf : f < 8) : ∀ i, bt (sh f) i = true → i < 8 := by
  intro i hi; rw [b_sh' (by omega)] at hi; simp at hi; omega
theorem fo_k {α : Type} (g : Nat → α → α) (j : Nat) (a : α) : fo g 0 (j + 1) a = g j (fo g 0 j a) := by rw [fo_e, Nat.zero_add]
def grX (W : Nat) (c : sw_M) (S : Nat → Int32) (f k : Nat) : Int32 := fo (fun i x => spr W c S x (ic i) 0) 0 k (sh f)
theorem grX_s (W : Nat) (c : sw_M) (S : Nat → Int32) (f k : Nat) : grX W c S f (k + 1) = spr W c S (grX W c S f k) (ic k) 0 := fo_k _ _ _
theorem fo_8 {α : Type} {X : Nat → α} (h : ∀ k, 7 ≤ k → X (k + 1) = X k) : ∀ k, X (8 + k) = X 8
  | 0 => rfl
  | k + 1 => by rw [← fo_8 h k]; exact h (8 + k) (by omega)
theorem lv_up {F W T P : Nat} {S : Nat → Int32} (hS : WS F W T P S) {w n m : Nat} (hw : w < W) (h : n ≤ m) (hm : m ≤ 1000) (hl : lv S w (ic n) 0) : lv S w (ic m) 0 := by
  obtain ⟨a, b, hab⟩ := lv_e hS hw
  rw [show (0 : Int32) = ic 0 from rfl, hab _ _ (by omega) (by omega)] at hl ⊢
  exact ⟨hl.1, by omega⟩
def grY (W : Nat) (c : sw_M) (S : Nat → Int32) (f k : Nat) : Int32 := grX W c S f (if k ≤ 900 then k else 900)
theorem gr_st {c : sw_M} {F W T P : Nat} {S : Nat → Int32} (hC : CW c F W T P) (hS : WS F W T P S) {f : Nat} (hf : f < 8) : ∀ n, 8 ≤ n → n ≤ 900 → grX W c S f n = grX W c S f 8 := by
  have h8 : ∀ k i, bt (grX W c S f k) i = true → i < 8 := by
    intro k
    induction k with
    | zero => exact sh_8 hf
    | succ k ih => rw [grX_s]; exact spr_8 hC ih
  have key := chain (X := grY W c S f) (fun k => ?_) (fun k h => ?_) (fun k => h8 _) (by show 1 ≤ cd (grX W c S f 0); exact cd_sh hf)
  · intro n h1 h2
    have := fo_8 key (n - 8)
    unfold grY at this
    rw [show 8 + (n - 8) = n by omega, if_pos h2, if_pos (by omega)] at this
    exact this
  · unfold grY
    by_cases q : k + 1 ≤ 900
    · rw [if_pos q, if_pos (by omega), grX_s]; exact spr_sub hC _ _ _
    · rw [if_neg q]
      by_cases z : k ≤ 900
      · rw [if_pos z, show k = 900 by omega]; exact SubB.rf _
      · rw [if_neg z]; exact SubB.rf _
  · unfold grY at h ⊢
    by_cases q : k + 2 ≤ 900
    · rw [if_pos (by omega), if_pos (by omega)] at h
      rw [if_pos q, if_pos (by omega)]
      refine (SubB.an ?_ ?_)
      · rw [grX_s W c S f (k + 1), h]
        conv => rhs; rw [← h, grX_s]
        exact spr_mono hC (SubB.rf _) (fun w hw => lv_up hS hw (by omega) (by omega))
      · rw [grX_s W c S f (k + 1)]; exact spr_sub hC _ _ _
    · rw [if_neg q]
      by_cases z : k + 1 ≤ 900
      · rw [if_pos z, show k + 1 = 900 by omega]
      · rw [if_neg z]
theorem lp_ground {N : Nat} {μ c : sw_M} {F W T P : Nat} (hN : 5000 ≤ N) (hC : CW c F W T P) (hX : XR μ c) {S : Nat → Int32} (hS : WS F W T P S) (hD : DR μ 35 W T P S) {n : Nat} (hn : n ≤ 99) : ∀ (j k : Nat) (x : Int32) (u : Nat), k + j = (if n ≤ 8 then n else 8) → j < u → f_ways_fieldsWithin_7 N μ u (ic n) x (ic k) = some (fo (fun i x => spr W c S x (ic i) 0) k j x)
  | 0, k, x, u, h, hu => by
    obtain ⟨u, rfl⟩ := fu_s hu
    have hk9 : k < 1000 := by split at h <;> omega
    rw [f_ways_fieldsWithin_7, fo_0]
    simp (disch := omega) only [ic_le, lit_le]
    by_cases q : n ≤ 8
    · rw [if_pos q] at h; rw [if_pos (by omega)]
    · rw [if_neg q] at h; rw [if_neg (by omega), if_pos (by omega)]
  | j + 1, k, x, u, h, hu => by
    obtain ⟨u, rfl⟩ := fu_s (show 0 < u by omega)
    have hk : k < n ∧ k < 8 := by split at h <;> omega
    have ih := fun x => lp_ground hN hC hX hS hD hn j (k + 1) x u (by omega) (by omega)
    have e2 := e_ways_spread hN hC hX hS hD x (ic k) 0
    have dh := hD.dh
    rw [f_ways_fieldsWithin_7, if_neg (by rw [ic_le (by omega) (by omega)]; omega), if_neg (by rw [lit_le (by decide) (by omega)]; omega), dh, e2, ob_e, ic_1, ih, fo_s]
theorem lp_m_ground {N : Nat} {μ c : sw_M} {F W T P : Nat} (hN : 5000 ≤ N) (hC : CW c F W T P) (hM : MR μ c F W T P) (hS : WS F W T P (μ 81)) {n : Nat} (hn : n ≤ 99) : ∀ (j k : Nat) (x : Int32) (u : Nat), k + j = n → j < u → f_m_ground_43 N u μ (ic n) x (ic k) = some (fo (fun i x => spr W c (μ 81) x (ic i) 0) k j x, μ)
  | 0, k, x, u, h, hu => by
    obtain ⟨u, rfl⟩ := fu_s hu
    rw [f_m_ground_43, if_pos (by rw [ic_le (by omega) (by omega)]; omega), fo_0]
  | j + 1, k, x, u, h, hu => by
    obtain ⟨u, rfl⟩ := fu_s (show 0 < u by omega)
    have ih := fun x => lp_m_ground hN hC hM hS hn j (k + 1) x u (by omega) (by omega)
    have e2 := e_m_onFrom hN hC hM hS x (ic k) 0
    rw [f_m_ground_43, if_neg (by rw [ic_le (by omega) (by omega)]; omega), e2, ob_e, ic_1, ih, fo_s]
theorem op_ground {N : Nat} {μ : sw_M} (hN : 5000 ≤ N) (hI : Inv μ) (a1 a2 : Int32) : OpB (f_x_ground N μ a1 a2) (fun μ1 => f_m_ground N μ1 a1 a2) := by
  obtain ⟨F, W, T, P, K, O, nl, nb, n, m, hQ, hR⟩ := id hI
  have hC := hQ.1
  have hF' := hC.f8; have hW' := hC.w12; have hT' := hC.t6; have hP' := hC.p5
  have hX : XR μ μ := ⟨rfl, rfl, rfl, rfl, rfl, rfl, rfl, rfl⟩
  have x0 := hX.nF hC; have x1 := hX.nW hC; have x2 := hX.nT hC; have x3 := hX.nP hC
  have m21 := hQ.2.1.nF; have m22 := hQ.2.1.nW; have m23 := hQ.2.1.nT; have m24 := hQ.2.1.nP
  have z1 : ∀ i, (wr (xr μ i) 63 0 0) 63 0 = 0 := fun _ => rfl
  rcases wn_dec a1 (n := F) (by omega) with ⟨f, hf, rfl, hg⟩ | hg
  · rcases wn_dec2 a2 (n := 99) (by decide) with ⟨k, hk, rfl, hz⟩ | hz
    · left
      have hz : 0 ≤ ic k ∧ ic k ≤ 99 := hz
      obtain ⟨-, -, hS, hD, hM, -, -⟩ := qm_ctx hQ
      have e1 := lp_ground hN hC hX hS hD hk (if k ≤ 8 then k else 8) 0 (sh f) N (by omega) (by split <;> omega)
      have e2 := lp_m_ground hN hC hM hS hk k 0 (sh f) N (by omega) (by omega)
      have z0 : (wr μ 63 0 0) 63 0 = 0 := rfl
      refine ⟨fo (fun i x => spr W μ ((qm μ) 81) x (ic i) 0) 0 k (sh f), μ, qm μ, ?_, ?_, qm_0 μ, hI.sm (qm_sm μ)⟩
      rotate_left
      · show f_m_ground N μ (ic f) (ic k) = _
        unfold f_m_ground; rw [wb_e, h_isField_1 (μ := wr μ 63 0 0) m21 rfl hg, ob_e, if_neg o1, withinm_e, ob_e, b2_p hz, may_1 (by decide) z0, ob_e, if_neg o1, e_q_take hN, ob_e, ib_e, sh_e]; exact e2
      · unfold f_x_ground; rw [g_needField_1 x0 hg, tb_l, within_e, ob_e, b2_p hz, nd_1 (by decide), tb_l]
        unfold f_ways_fieldsWithin
        rw [ib_e, sh_e]
        have e4 : f_ways_fieldsWithin_7 N μ N (ic k) (sh f) 0 = _ := e1
        rw [e4, ob_e]
        by_cases q : k ≤ 8
        · rw [if_pos q]
        · rw [if_neg q]
          have := gr_st hC hS (f := f) (by omega) k (by omega) (by omega)
          unfold grX at this
          rw [this]
    · right; right
      have hz : ¬ (0 ≤ a2 ∧ a2 ≤ 99) := hz
      refine ⟨xr μ 1, 0, mr (xr μ 1) 1 2, ?_, ?_, rfl, hI.rr (by decide) 2⟩
      · unfold f_x_ground; rw [g_needField_1 x0 hg, tb_l, within_e, ob_e, b2_n hz, nd_0, tb_r]; rfl
      · show f_m_ground N (xr μ 1) (ic f) a2 = _
        unfold f_m_ground; rw [wb_e, h_isField_1 (μ := wr (xr μ 1) 63 0 0) m21 (z1 1) hg, ob_e, if_neg o1, withinm_e, ob_e, b2_n hz, may_i (by decide) (z1 1), ob_e, if_pos rfl]; rfl
  · right; left
    refine ⟨xr μ 0, 0, mr (xr μ 0) 0 1, ?_, ?_, rfl, hI.rr (by decide) 1⟩
    · unfold f_x_ground; rw [g_needField_0 x0 hg, tb_r]; rfl
    · show f_m_ground N (xr μ 0) a1 a2 = _
      unfold f_m_ground; rw [wb_e, h_isField_0 (μ := wr (xr μ 0) 63 0 0) m21 (z1 0) hg, ob_e, if_pos rfl]; rfl
/-! what hangs together by a set of wires -/
def stW (c : sw_M) (set : Int32) (w : Nat) (x : Int32) : Int32 := if bt set w = true ∧ (bt x (eA c w) = true ∨ bt x (eB c w) = true) then x ||| (sh (eA c w) ||| sh (eB c w)) else x
def rnd (W : Nat) (c : sw_M) (set x : Int32) : Int32 := fo (stW c set) 0 W x
def paX (W : Nat) (c : sw_M) (set : Int32) (f k : Nat) : Int32 := fo (fun _ x => rnd W c set x) 0 k (sh f)
theorem paX_s (W : Nat) (c : sw_M) (set : Int32) (f k : Nat) : paX W c set f (k + 1) = rnd W c set (paX W c set f k) := fo_k _ _ _
def Clo (W : Nat) (c : sw_M) (set x : Int32) : Prop := ∀ w, w < W → bt set w = true → (bt x (eA c w) = true ∨ bt x (eB c w) = true) → bt x (eA c w) = true ∧ bt x (eB c w) = true
theorem stW_sub (c : sw_M) (set : Int32) (w : Nat) (x : Int32) : SubB x (stW c set w x) := by
  intro i hi; unfold stW; split
  · rw [b_or, hi]; rfl
  · exact hi
theorem fo_stW_sub (c : sw_M) (set : Int32) : ∀ (j k : Nat) (x : Int32), SubB x (fo (stW c set) k j x)
  | 0, k, x => SubB.rf x
  | j + 1, k, x => by rw [fo_s]; exact (stW_sub c set k x).tr (fo_stW_sub c set j (k + 1) _)
theorem rnd_sub (W : Nat) (c : sw_M) (set x : Int32) : SubB x (rnd W c set x) := fo_stW_sub c set W 0 x
theorem stW_8 {c : sw_M} {F W T P : Nat} (hC : CW c F W T P) {set : Int32} {w : Nat} (hw : w < W) {x : Int32} (hx : ∀ i, bt x i = true → i < 8) : ∀ i, bt (stW c set w x) i = true → i < 8 := by
  obtain ⟨q1, q2, -⟩ := hC.eA8 hw
  intro i hi; unfold stW at hi; split at hi
  · rw [b_or, b_or, b_sh' (by omega), b_sh' (by omega)] at hi
    simp only [Bool.or_eq_true, decide_eq_true_eq] at hi
    rcases hi with hi | hi | hi
    · exact hx i hi
    · omega
    · omega
  · exact hx i hi
theorem rnd_8 {c : sw_M} {F W T P : Nat} (hC : CW c F W T P) {set x : Int32} (hx : ∀ i, bt x i = true → i < 8) : ∀ i, bt (rnd W c set x) i = true → i < 8 :=
  fo_inv (g := stW c set) (fun _ y => ∀ i, bt y i = true → i < 8) W 0 x hx (fun i b _ h2 hb => stW_8 hC (by omega) hb)
theorem stW_clo {W : Nat} {c : sw_M} {set y : Int32} (hy : Clo W c set y) {F T P : Nat} (hC : CW c F W T P) {w : Nat} (hw : w < W) {x : Int32} (hx : SubB x y) : SubB (stW c set w x) y := by
  obtain ⟨q1, q2, -⟩ := hC.eA8 hw
  intro i hi; unfold stW at hi; split at hi
  · next z =>
    have h2 := hy w hw z.1 (z.2.imp (hx _) (hx _))
    rw [b_or, b_or, b_sh' (by omega), b_sh' (by omega)] at hi
    simp only [Bool.or_eq_true, decide_eq_true_eq] at hi
    rcases hi with hi | rfl | rfl
    · exact hx i hi
    · exact h2.1
    · exact h2.2
  · exact hx i hi
theorem rnd_clo {W : Nat} {c : sw_M} {set y : Int32} (hy : Clo W c set y) {F T P : Nat} (hC : CW c F W T P) {x : Int32} (hx : SubB x y) : SubB (rnd W c set x) y :=
  fo_inv (g := stW c set) (fun _ z => SubB z y) W 0 x hx (fun i b _ h2 hb => stW_clo hy hC (by omega) hb)
theorem clo_of_rnd {W : Nat} {c : sw_M} {set x : Int32} {F T P : Nat} (hC : CW c F W T P) (h : rnd W c set x = x) : Clo W c set x := by
  have key : ∀ (j k : Nat) (y : Int32), k + j = W → SubB x y → SubB (fo (stW c set) k j y) x → ∀ w, k ≤ w → w < W → bt set w = true → (bt x (eA c w) = true ∨ bt x (eB c w) = true) → bt x (eA c w) = true ∧ bt x (eB c w) = true := by
    intro j
    induction j with
    | zero => intro k y hk h1 h2 w h3 h4; omega
    | succ j ih =>
      intro k y hk h1 h2 w h3 h4 h5 h6
      obtain ⟨q1, q2, -⟩ := hC.eA8 h4
      rw [fo_s] at h2
      by_cases e : w = k
      · subst e
        have h7 : SubB (stW c set w y) x := (fo_stW_sub c set j (w + 1) _).tr h2
        have h8 : stW c set w y = y ||| (sh (eA c w) ||| sh (eB c w)) := by unfold stW; rw [if_pos ⟨h5, h6.imp (h1 _) (h1 _)⟩]
        rw [h8] at h7
        refine ⟨h7 _ ?_, h7 _ ?_⟩
        · rw [b_or, b_or, b_sh' (by omega)]; simp
        · rw [b_or, b_or, b_sh' (show eB c w < 32 by omega)]; simp
      · exact ih (k + 1) _ (by omega) (h1.tr (stW_sub c set k y)) h2 w (by omega) h4 h5 h6
  intro w hw h5 h6
  exact key W 0 x (by omega) (SubB.rf x) (by rw [show fo (stW c set) 0 W x = x from h]; exact SubB.rf x) w (Nat.zero_le w) hw h5 h6
theorem pa_f {W : Nat} {c : sw_M} {set : Int32} {f : Nat} (hf : f < 8) (k : Nat) : bt (paX W c set f k) f = true := by
  induction k with
  | zero => show bt (sh f) f = true; rw [b_sh' (by omega)]; simp
  | succ k ih => rw [paX_s]; exact rnd_sub W c set _ f ih
theorem pa_clo {W : Nat} {c : sw_M} {set : Int32} {F T P : Nat} (hC : CW c F W T P) {f : Nat} (hf : f < 8) : Clo W c set (paX W c set f 8) := by
  have h8 : ∀ k i, bt (paX W c set f k) i = true → i < 8 := by
    intro k
    induction k with
    | zero => exact sh_8 hf
    | succ k ih => rw [paX_s]; exact rnd_8 hC ih
  have key := chain (X := paX W c set f) (fun k => by rw [paX_s]; exact rnd_sub W c set _) (fun k h => by rw [paX_s W c set f (k + 1), h, ← paX_s, h]) h8 (cd_sh hf)
  have := key 8 (by omega)
  rw [paX_s] at this
  exact clo_of_rnd hC this
theorem pa_min {W : Nat} {c : sw_M} {set y : Int32} {F T P : Nat} (hC : CW c F W T P) {f : Nat} (hf : f < 8) (hy : Clo W c set y) (h : bt y f = true) (k : Nat) : SubB (paX W c set f k) y := by
  induction k with
  | zero => intro i hi; rw [show paX W c set f 0 = sh f from rfl, b_sh' (by omega)] at hi; simp at hi; subst hi; exact h
  | succ k ih => rw [paX_s]; exact rnd_clo hy hC ih
theorem lp_partOf17 {N : Nat} {μ c : sw_M} {F W T P : Nat} (hN : 5000 ≤ N) (hC : CW c F W T P) (hM : MR μ c F W T P) (set : Int32) (x4 : Int32) (k7 : Int32 → Int32 → Int32 → Option Int32) : ∀ (j k : Nat) (x : Int32) (n : Nat), k + j = W → j < n → f_m_partOf_17 N μ k7 n set x x4 (ic k) = k7 set (fo (stW c set) k j x) (x4 + 1)
  | 0, k, x, n, h, hn => by
    have hW' := hC.w12; have nW := hM.nW
    obtain ⟨n, rfl⟩ := fu_s hn
    rw [f_m_partOf_17, nW, if_pos (by rw [ic_le (by omega) (by omega)]; omega), fo_0]
  | j + 1, k, x, n, h, hn => by
    have hW' := hC.w12; have nW := hM.nW
    obtain ⟨n, rfl⟩ := fu_s (show 0 < n by omega)
    obtain ⟨q1, q2, q3, q4, -⟩ := hC.eA8 (w := k) (by omega)
    have ih := fun x => lp_partOf17 hN hC hM set x4 k7 j (k + 1) x n (by omega) (by omega)
    have e0 : μ 69 (3 * k) = ic (eA c k) := (hM.w0 (w := k) (by omega)).trans q3
    have e1 : μ 69 (3 * k + 1) = ic (eB c k) := (hM.w1 (w := k) (by omega)).trans q4
    have e2 := an0 x (x := eA c k) (y := eB c k) (by omega) (by omega)
    have e3 := bit_1 set (k := k) (by omega)
    simp (disch := omega) only [f_m_partOf_17, nW, e0, e1, e2, e3, ih, wb_e, ib_e, ibL_e, ob_e, nz4, inb_e, inb_lit, ic_n, n_lit, ic_1, lit_add, add_lit, lit_mul, mul_lit, ic_add, ic_mul, ic_le, ic_lt, ic_eq, lit_le, le_lit, lit_lt, lt_lit, lit_eq, eq_lit, ic_m1, m1_ic, ic_lt0, ic_0le, b2_0, b2_1, b2_bl, sh_e, Nat.not_lt_zero, Nat.zero_le, Nat.reduceEqDiff, Nat.reduceAdd, Nat.reduceMul, Nat.reduceSub, Nat.reduceLT, Nat.reduceLeDiff, reduceIte, ne_eq, not_false_eq_true, not_true_eq_false, if_true, if_false, Nat.zero_add]
    rw [if_neg (by omega), fo_s]
    congr 2
    unfold stW
    by_cases a : bt set k = true <;> by_cases b : bt x (eA c k) = true ∨ bt x (eB c k) = true <;> simp [a, b]
theorem lp_partOf {N : Nat} {μ c : sw_M} {F W T P : Nat} (hN : 5000 ≤ N) (hC : CW c F W T P) (hM : MR μ c F W T P) (set : Int32) : ∀ (j k : Nat) (x : Int32) (n : Nat), k + j = 8 → j < n → f_m_partOf_7 N μ n set x (ic k) = some (fo (fun _ x => rnd W c set x) k j x)
  | 0, k, x, n, h, hn => by
    obtain ⟨n, rfl⟩ := fu_s hn
    rw [f_m_partOf_7, if_pos (by rw [lit_le (by decide) (by omega)]; omega), fo_0]
  | j + 1, k, x, n, h, hn => by
    have hW' := hC.w12
    obtain ⟨n, rfl⟩ := fu_s (show 0 < n by omega)
    have ih := fun x => lp_partOf hN hC hM set j (k + 1) x n (by omega) (by omega)
    have e1 := lp_partOf17 hN hC hM set (ic k) (f_m_partOf_7 N μ n) W 0 x N (by omega) (by omega)
    rw [f_m_partOf_7, if_neg (by rw [lit_le (by decide) (by omega)]; omega), show (0 : Int32) = ic 0 from rfl, e1, ic_1, ih, fo_s]; rfl
theorem e_m_partOf {N : Nat} {μ c : sw_M} {F W T P : Nat} (hN : 5000 ≤ N) (hC : CW c F W T P) (hM : MR μ c F W T P) (set : Int32) (f : Nat) : f_m_partOf N μ (ic f) set = some (paX W c set f 8) := by
  unfold f_m_partOf
  rw [ib_e, sh_e]
  exact lp_partOf hN hC hM set 8 0 (sh f) N (by omega) (by omega)
/-! parts -/
def saX (W : Nat) (c : sw_M) (S : Nat → Int32) (h : Int32) (f k : Nat) : Int32 := fo (fun _ x => spr W c S x h 0) 0 k (sh f)
theorem saX_s (W : Nat) (c : sw_M) (S : Nat → Int32) (h : Int32) (f k : Nat) : saX W c S h f (k + 1) = spr W c S (saX W c S h f k) h 0 := fo_k _ _ _
theorem spr_clo {W : Nat} {c : sw_M} {S : Nat → Int32} {set y x h : Int32} {F T P : Nat} (hC : CW c F W T P) (hset : ∀ w, w < W → (bt set w = true ↔ ¬ lv S w h 0)) (hy : Clo W c set y) (hx : SubB x y) : SubB (spr W c S x h 0) y := by
  intro i hi
  rw [b_spr hC] at hi
  rcases hi with hi | ⟨w, hw, h1, h2, h3⟩
  · exact hx i hi
  · have := hy w hw ((hset w hw).mpr h1) (h2.imp (hx _) (hx _))
    rcases h3 with rfl | rfl
    · exact this.1
    · exact this.2
theorem sa_pa {W : Nat} {c : sw_M} {S : Nat → Int32} {set h : Int32} {F T P : Nat} (hC : CW c F W T P) (hset : ∀ w, w < W → (bt set w = true ↔ ¬ lv S w h 0)) {f : Nat} (hf : f < 8) : saX W c S h f 8 = paX W c set f 8 := by
  have h8 : ∀ k i, bt (saX W c S h f k) i = true → i < 8 := by
    intro k
    induction k with
    | zero => exact sh_8 hf
    | succ k ih => rw [saX_s]; exact spr_8 hC ih
  have key := chain (X := saX W c S h f) (fun k => by rw [saX_s]; exact spr_sub hC _ _ _) (fun k h => by rw [saX_s W c S _ f (k + 1), h, ← saX_s, h]) h8 (cd_sh hf)
  have hcl : Clo W c set (saX W c S h f 8) := by
    have e := key 8 (by omega)
    rw [saX_s] at e
    intro w hw h1 h2
    have h3 := (hset w hw).mp h1
    refine ⟨?_, ?_⟩
    · rw [← e, b_spr hC]; exact Or.inr ⟨w, hw, h3, h2, Or.inl rfl⟩
    · rw [← e, b_spr hC]; exact Or.inr ⟨w, hw, h3, h2, Or.inr rfl⟩
  have hff : ∀ k, bt (saX W c S h f k) f = true := by
    intro k
    induction k with
    | zero => show bt (sh f) f = true; rw [b_sh' (by omega)]; simp
    | succ k ih => rw [saX_s]; exact spr_sub hC _ _ _ f ih
  have hmin : ∀ k, SubB (saX W c S h f k) (paX W c set f 8) := by
    intro k
    induction k with
    | zero => intro i hi; rw [show saX W c S h f 0 = sh f from rfl, b_sh' (by omega)] at hi; simp at hi; subst hi; exact pa_f hf 8
    | succ k ih => rw [saX_s]; exact spr_clo hC hset (pa_clo hC hf) ih
  exact (hmin 8).an (pa_min hC hf hcl (hff 8) 8)
theorem lp_setAround {N : Nat} {μ c : sw_M} {F W T P : Nat} (hN : 5000 ≤ N) (hC : CW c F W T P) (hX : XR μ c) {S : Nat → Int32} (hS : WS F W T P S) (hD : DR μ 35 W T P S) (h : Int32) : ∀ (j k : Nat) (x : Int32) (n : Nat), k + j = 8 → j < n → f_ways_setAround_7 N μ n (S 48 + h) x (ic k) = some (fo (fun _ x => spr W c S x h 0) k j x)
  | 0, k, x, n, hk, hn => by
    obtain ⟨n, rfl⟩ := fu_s hn
    rw [f_ways_setAround_7, if_pos (by rw [lit_le (by decide) (by omega)]; omega), fo_0]
  | j + 1, k, x, n, hk, hn => by
    obtain ⟨n, rfl⟩ := fu_s (show 0 < n by omega)
    have ih := fun x => lp_setAround hN hC hX hS hD h j (k + 1) x n (by omega) (by omega)
    have e1 := e_ways_spread hN hC hX hS hD x h 0
    rw [f_ways_setAround_7, if_neg (by rw [lit_le (by decide) (by omega)]; omega), e1, ob_e, ic_1, ih, fo_s]
def ptF (cp : Nat → Int32) (f : Nat) (s : Int32 × Int32) : Int32 × Int32 := if bt s.1 f = true then s else (s.1 ||| cp f, s.2 + 1)
theorem lp_sets {N : Nat} {μ c : sw_M} {F W T P : Nat} (hN : 5000 ≤ N) (hC : CW c F W T P) (hX : XR μ c) {S : Nat → Int32} (hS : WS F W T P S) (hD : DR μ 35 W T P S) (h : Int32) : ∀ (j k : Nat) (s : Int32 × Int32) (n : Nat), k + j = F → j < n → f_ways_setsOfFields_7 N μ n (S 48 + h) s.1 s.2 (ic k) = some (fo (ptF (fun f => saX W c S h f 8)) k j s).2
  | 0, k, s, n, hk, hn => by
    have hF' := hC.f8; have nF := hX.nF hC
    obtain ⟨n, rfl⟩ := fu_s hn
    rw [f_ways_setsOfFields_7, nF, if_pos (by rw [ic_le (by omega) (by omega)]; omega), fo_0]
  | j + 1, k, s, n, hk, hn => by
    have hF' := hC.f8; have nF := hX.nF hC
    obtain ⟨n, rfl⟩ := fu_s (show 0 < n by omega)
    have ih := fun s => lp_sets hN hC hX hS hD h j (k + 1) s n (by omega) (by omega)
    have e1 : f_ways_setAround N μ (ic k) (S 48 + h) = some (saX W c S h k 8) := by
      unfold f_ways_setAround; rw [ib_e, sh_e]; exact lp_setAround hN hC hX hS hD h 8 0 (sh k) N (by omega) (by omega)
    rw [f_ways_setsOfFields_7, nF, if_neg (by rw [ic_le (by omega) (by omega)]; omega), has_e _ (by omega), ob_e, e1, fo_s]
    simp only [b2_0]
    unfold ptF
    by_cases q : bt s.1 k = true
    · rw [if_neg (fun z => z q), if_pos q, ic_1]; exact ih s
    · rw [if_pos q, if_neg q, ib_e, ob_e, ib_e, ic_1]; exact ih (s.1 ||| saX W c S h k 8, s.2 + 1)
theorem lp_m_parts {N : Nat} {μ c : sw_M} {F W T P : Nat} (hN : 5000 ≤ N) (hC : CW c F W T P) (hM : MR μ c F W T P) (set : Int32) : ∀ (j k : Nat) (s : Int32 × Int32) (n : Nat), k + j = F → j < n → Clo W c set s.1 → f_m_parts_52 N n μ set s.1 s.2 (ic k) = some ((fo (ptF (fun f => paX W c set f 8)) k j s).2, μ)
  | 0, k, s, n, hk, hn, hs => by
    have hF' := hC.f8; have nF := hM.nF
    obtain ⟨n, rfl⟩ := fu_s hn
    rw [f_m_parts_52, nF, if_pos (by rw [ic_le (by omega) (by omega)]; omega), fo_0]
  | j + 1, k, s, n, hk, hn, hs => by
    have hF' := hC.f8; have nF := hM.nF
    obtain ⟨n, rfl⟩ := fu_s (show 0 < n by omega)
    have ih := fun s hs => lp_m_parts hN hC hM set j (k + 1) s n (by omega) (by omega) hs
    have e1 := e_m_partOf hN hC hM set k
    have hcl := pa_clo (set := set) hC (f := k) (by omega)
    rw [f_m_parts_52]
    unfold f_m_parts_77
    rw [nF, if_neg (by rw [ic_le (by omega) (by omega)]; omega), e1, fo_s]
    simp only [bit_0 _ (show k < 32 by omega)]
    unfold ptF
    by_cases q : bt s.1 k = true
    · have hm := pa_min hC (f := k) (by omega) hs q 8
      have hor : s.1 ||| paX W c set k 8 = s.1 := by
        refine b_ext (fun i _ => ?_)
        rw [b_or]
        cases h1 : bt s.1 i <;> cases h2 : bt (paX W c set k 8) i <;> simp
        have := hm i h2
        rw [h1] at this; exact absurd this (by decide)
      rw [if_neg (by rw [q]; decide), if_pos q, ib_e, ob_e, ib_e, ic_1, hor, Int32.add_zero]; exact ih s hs
    · have q2 : bt s.1 k = false := by cases h : bt s.1 k; rfl; exact absurd h q
      rw [if_pos q2, if_neg q, ib_e, ob_e, ib_e, ic_1]
      refine ih (s.1 ||| paX W c set k 8, s.2 + 1) ?_
      intro w hw h1 h2
      show bt (s.1 ||| _) _ = true ∧ bt (s.1 ||| _) _ = true
      have h2 : bt (s.1 ||| paX W c set k 8) (eA c w) = true ∨ bt (s.1 ||| paX W c set k 8) (eB c w) = true := h2
      rw [b_or, b_or] at h2 ⊢
      simp only [Bool.or_eq_true] at h2 ⊢
      have g1 := hs w hw h1
      have g2 := hcl w hw h1
      rcases h2 with (h2 | h2) | (h2 | h2)
      · exact ⟨Or.inl (g1 (Or.inl h2)).1, Or.inl (g1 (Or.inl h2)).2⟩
      · exact ⟨Or.inr (g2 (Or.inl h2)).1, Or.inr (g2 (Or.inl h2)).2⟩
      · exact ⟨Or.inl (g1 (Or.inr h2)).1, Or.inl (g1 (Or.inr h2)).2⟩
      · exact ⟨Or.inr (g2 (Or.inr h2)).1, Or.inr (g2 (Or.inr h2)).2⟩
theorem b_msk : ∀ W, W ≤ 12 → ∀ i, i < 32 → bt (sh W - 1) i = decide (i < W) := by decide +kernel
theorem op_parts {N : Nat} {μ : sw_M} (hN : 5000 ≤ N) (hI : Inv μ) (a1 : Int32) : OpI (f_x_parts N μ a1) (fun μ1 => f_m_parts N μ1 a1) := by
  obtain ⟨F, W, T, P, K, O, nl, nb, n, m, hQ, hR⟩ := id hI
  have hC := hQ.1
  have hF' := hC.f8; have hW' := hC.w12; have hT' := hC.t6; have hP' := hC.p5
  have hX : XR μ μ := ⟨rfl, rfl, rfl, rfl, rfl, rfl, rfl, rfl⟩
  have x0 := hX.nF hC; have x1 := hX.nW hC; have x2 := hX.nT hC; have x3 := hX.nP hC
  have m21 := hQ.2.1.nF; have m22 := hQ.2.1.nW; have m23 := hQ.2.1.nT; have m24 := hQ.2.1.nP
  have z1 : ∀ i, (wr (xr μ i) 63 0 0) 63 0 = 0 := fun _ => rfl
  rcases wn_dec2 a1 (n := 99) (by decide) with ⟨k, hk, rfl, hz⟩ | hz
  · left
    have hz : 0 ≤ ic k ∧ ic k ≤ 99 := hz
    obtain ⟨-, -, hS, hD, hM, -, -⟩ := qm_ctx hQ
    have e1 := lp_sets hN hC hX hS hD (ic k) F 0 (0, 0) N (by omega) (by omega)
    have e3 := e_m_liveIn hN hC hM hS (ic k)
    have z0 : (wr μ 63 0 0) 63 0 = 0 := rfl
    have hset : ∀ w, w < W → (bt ((sh W - 1) &&& (liveB W ((qm μ) 81) (ic k) ^^^ (-1))) w = true ↔ ¬ lv ((qm μ) 81) w (ic k) 0) := by
      intro w hw
      rw [b_and, b_xor, b_msk W hW' w (by omega), b_m1 w (by omega)]
      unfold liveB
      rw [b_fo0 (fun w => lv ((qm μ) 81) w (ic k) 0) (by omega) w]
      simp only [hw, true_and, decide_true, Bool.true_and, Bool.xor_true, Bool.not_eq_true', decide_eq_false_iff_not]
    have e2 := lp_m_parts hN hC hM ((sh W - 1) &&& (liveB W ((qm μ) 81) (ic k) ^^^ (-1))) F 0 (0, 0) N (by omega) (by omega) (fun w hw _ h => by rw [b_0, b_0] at h; simp at h)
    refine ⟨(fo (ptF (fun f => paX W μ ((sh W - 1) &&& (liveB W ((qm μ) 81) (ic k) ^^^ (-1))) f 8)) 0 F (0, 0)).2, μ, qm μ, ?_, ?_, qm_0 μ, hI.sm (qm_sm μ)⟩
    rotate_left
    · show f_m_parts N μ (ic k) = _
      unfold f_m_parts; rw [wb_e, withinm_e, ob_e, b2_p hz, may_1 (by decide) z0, ob_e, if_neg o1, e_q_take hN, ob_e, e3, ob_e, ib_e, show (qm μ) 63 22 = ic W from m22, sh_e]; exact e2
    · unfold f_x_parts; rw [within_e, ob_e, b2_p hz, nd_1 (by decide), tb_l, hD.dh]
      have e4 : f_ways_setsOfFields N μ ((qm μ) 81 48 + ic k) = some (fo (ptF (fun f => saX W μ ((qm μ) 81) (ic k) f 8)) 0 F (0, 0)).2 := e1
      rw [e4, ob_e]
      congr 4
      refine fo_cg F 0 _ (fun i _ h2 b => ?_)
      unfold ptF
      have e5 := sa_pa hC hset (f := i) (by omega)
      simp only [e5]
  · right
    have hz : ¬ (0 ≤ a1 ∧ a1 ≤ 99) := hz
    refine ⟨xr μ 1, 0, mr (xr μ 1) 1 1, ?_, ?_, rfl, hI.rr (by decide) 1⟩
    · unfold f_x_parts; rw [within_e, ob_e, b2_n hz, nd_0, tb_r]; rfl
    · show f_m_parts N (xr μ 1) a1 = _
      unfold f_m_parts; rw [wb_e, withinm_e, ob_e, b2_n hz, may_i (by decide) (z1 1), ob_e, if_pos rfl]; rfl
