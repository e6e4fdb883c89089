/-! ===== printed by wip/whole/gen79c.py: pliers ===== -/
def su (t : Nat → Nat) : Nat → Nat
  | 0 => 0
  | n + 1 => su t n + t n
theorem su_mono {t u : Nat → Nat} : ∀ n, (∀ i, i < n → t i ≤ u i) → su t n ≤ su u n
  | 0, _ => Nat.le_refl 0
  | n + 1, h => by
    have h1 := su_mono n (fun i hi => h i (by omega)); have h2 := h n (by omega)
    show su t n + t n ≤ su u n + u n; omega
theorem su_le_upd {t u : Nat → Nat} {w e : Nat} : ∀ n, w < n → (∀ i, i < n → i ≠ w → u i ≤ t i) → u w ≤ t w + e → su u n ≤ su t n + e
  | 0, h, _, _ => by omega
  | n + 1, h, h1, h2 => by
    show su u n + u n ≤ su t n + t n + e
    by_cases q : w = n
    · subst q
      have := su_mono (t := u) (u := t) w (fun i hi => h1 i (by omega) (by omega)); omega
    · have := su_le_upd n (by omega) (fun i hi => h1 i (by omega)) h2
      have := h1 n (by omega) (by omega); omega
theorem su_ge_upd {t u : Nat → Nat} {w e : Nat} : ∀ n, w < n → (∀ i, i < n → i ≠ w → t i ≤ u i) → t w + e ≤ u w → su t n + e ≤ su u n
  | 0, h, _, _ => by omega
  | n + 1, h, h1, h2 => by
    show su t n + t n + e ≤ su u n + u n
    by_cases q : w = n
    · subst q
      have := su_mono (t := t) (u := u) w (fun i hi => h1 i (by omega) (by omega)); omega
    · have := su_ge_upd n (by omega) (fun i hi => h1 i (by omega)) h2
      have := h1 n (by omega) (by omega); omega
def onN (k : Nat) : Nat := su (fun i => if k.testBit i = true then 1 else 0) 12
def csN (k : Nat) : Nat := su (fun i => if k.testBit i = true then 4096 + 2 ^ i else 0) 12
theorem cs_k : ∀ x y : Fin 64, csN (64 * x.val + y.val) = 4096 * onN (64 * x.val + y.val) + (64 * x.val + y.val) ∧ onN (64 * x.val + y.val) ≤ 12 := by decide +kernel
theorem cs_e {n : Nat} (hn : n < 4096) : csN n = 4096 * onN n + n ∧ onN n ≤ 12 := by
  have := cs_k ⟨n / 64, by omega⟩ ⟨n % 64, by omega⟩
  simp only [show 64 * (n / 64) + n % 64 = n by omega] at this
  exact this
def cw (S : Nat → Int32) (w : Nat) : Nat := if S (12 + w) = 1 then 0 else 4096 + 2 ^ w
def cc (S : Nat → Int32) (V : Int32) : Nat := su (fun w => if bt V w = true then cw S w else 0) 12
def chp (d : Nat → Nat) (a b k : Nat) : Nat → Nat := fun i => if i = b then (if d a + k < d b then d a + k else d b) else d i
def bfW (c : sw_M) (S : Nat → Int32) (w : Nat) (d : Nat → Nat) : Nat → Nat := chp (chp d (eA c w) (eB c w) (cw S w)) (eB c w) (eA c w) (cw S w)
theorem chp_le (d : Nat → Nat) (a b k i : Nat) : chp d a b k i ≤ d i := by
  unfold chp; split
  · next e => subst e; split <;> omega
  · omega
theorem chp_b (d : Nat → Nat) (a b k : Nat) : chp d a b k b ≤ d a + k := by
  unfold chp; rw [if_pos rfl]; split <;> omega
theorem bf_le (c : sw_M) (S : Nat → Int32) (w : Nat) (d : Nat → Nat) (i : Nat) : bfW c S w d i ≤ d i := Nat.le_trans (chp_le _ _ _ _ _) (chp_le _ _ _ _ _)
theorem bf_b (c : sw_M) (S : Nat → Int32) (w : Nat) (d : Nat → Nat) : bfW c S w d (eB c w) ≤ d (eA c w) + cw S w := Nat.le_trans (chp_le _ _ _ _ _) (chp_b _ _ _ _)
theorem bf_a (c : sw_M) (S : Nat → Int32) (w : Nat) (d : Nat → Nat) : bfW c S w d (eA c w) ≤ d (eB c w) + cw S w := by
  have h1 := chp_b (chp d (eA c w) (eB c w) (cw S w)) (eB c w) (eA c w) (cw S w)
  have h2 := chp_le d (eA c w) (eB c w) (cw S w) (eB c w)
  unfold bfW; omega
/-! the class -/
def CRw (g : Nat → Int32) (d : Nat → Nat) : Prop := (∀ i, i < 8 → g i = ic (d i)) ∧ ∀ i, d i ≤ 1073741824
theorem cw_le {S : Nat → Int32} {w : Nat} (hw : w < 12) : cw S w ≤ 8192 := by
  unfold cw; split
  · omega
  · have : 2 ^ w ≤ 2 ^ 11 := Nat.pow_le_pow_right (by decide) (by omega)
    omega
theorem e_cheapen {N : Nat} {μ : sw_M} {g : Nat → Int32} {d : Nat → Nat} {a b k : Nat} (h : CRw g d) (ha : a < 8) (hb : b < 8) (hk : k ≤ 8192) : ∃ g', f_ways_cheapen N (wrR μ 50 g) (ic a) (ic b) (ic k) = some (wrR μ 50 g') ∧ CRw g' (chp d a b k) := by
  refine ⟨up g b (ic (if d a + k < d b then d a + k else d b)), ?_, ?_, ?_⟩
  · unfold f_ways_cheapen
    rw [at_e hb (by decide), ob_e, at_e ha (by decide), ob_e, wrR_r, h.1 a ha, h.1 b hb, ic_add]
    have h1 := h.2 a; have h2 := h.2 b
    have e : (if ic (d a + k) < ic (d b) then ic (d a + k) else ic (d b)) = ic (if d a + k < d b then d a + k else d b) := by
      by_cases q : d a + k < d b
      · rw [if_pos (by rw [ic_lt (by omega) (by omega)]; exact q), if_pos q]
      · rw [if_neg (by rw [ic_lt (by omega) (by omega)]; exact q), if_neg q]
    rw [e, put_e hb (by decide), ob_e, wr_up, wrR_r, wrR_wrR]
  · intro i hi
    unfold chp
    by_cases q : i = b
    · subst q; rw [up_s, if_pos rfl]
    · rw [up_n q, if_neg q]; exact h.1 i hi
  · intro i; exact Nat.le_trans (chp_le _ _ _ _ _) (h.2 i)
theorem XR.c50 {μ c : sw_M} (h : XR μ c) (g : Nat → Int32) : XR (wrR μ 50 g) c := h.fr (fun a _ _ => wrR_nr (by omega))
theorem DR.c50 {μ : sw_M} {W T P : Nat} {S : Nat → Int32} (h : DR μ 35 W T P S) (g : Nat → Int32) : DR (wrR μ 50 g) 35 W T P S := h.fr (fun a _ _ => wrR_nr (by omega))
theorem lp_cut42 {N : Nat} {μ c : sw_M} {F W T P : Nat} (hN : 5000 ≤ N) (hC : CW c F W T P) (hX : XR μ c) {S : Nat → Int32} (hS : WS F W T P S) (hD : DR μ 35 W T P S) (x2 x3 : Int32) (K : sw_M → Int32 → Int32 → Option (Int32 × sw_M)) : ∀ (j k : Nat) (g : Nat → Int32) (d : Nat → Nat) (n : Nat), k + j = W → j < n → CRw g d → ∃ g', f_ways_fewestCuts_42 N K n (wrR μ 50 g) x2 x3 (ic k) = K (wrR μ 50 g') x2 (x3 + 1) ∧ CRw g' (fo (bfW c S) k j d)
  | 0, k, g, d, n, h, hn, hg => by
    have hW' := hC.w12; have nW := (hX.c50 g).nW hC
    obtain ⟨n, rfl⟩ := fu_s hn
    refine ⟨g, ?_, hg⟩
    rw [f_ways_fewestCuts_42, nW, if_pos (by rw [ic_le (by omega) (by omega)]; omega)]
  | j + 1, k, g, d, n, h, hn, hg => by
    have hW' := hC.w12; have nW := (hX.c50 g).nW hC
    obtain ⟨n, rfl⟩ := fu_s (show 0 < n by omega)
    obtain ⟨q1, q2, q3, q4, -⟩ := hC.eA8 (w := k) (by omega)
    have e1 := e_days_isCut hN hC (hX.c50 g) hS (hD.c50 g) (w := k) (by omega)
    have e4 : ∀ g, (wrR μ 50 g) 4 k = ic (eA c k) := fun g => by rw [(hX.c50 g).r4]; exact q3
    have e5 : ∀ g, (wrR μ 50 g) 5 k = ic (eB c k) := fun g => by rw [(hX.c50 g).r5]; exact q4
    obtain ⟨g1, h1, hg1⟩ := e_cheapen (N := N) (μ := μ) hg q1 q2 (cw_le (S := S) (w := k) (by omega))
    obtain ⟨g2, h2, hg2⟩ := e_cheapen (N := N) (μ := μ) hg1 q2 q1 (cw_le (S := S) (w := k) (by omega))
    obtain ⟨g3, h3, hg3⟩ := lp_cut42 hN hC hX hS hD x2 x3 K j (k + 1) g2 _ n (by omega) (by omega) hg2
    refine ⟨g3, ?_, by rw [fo_s]; exact hg3⟩
    have e78 : f_ways_fewestCuts_78 N K (f_ways_fewestCuts_42 N K n) (wrR μ 50 g) x2 x3 (ic k) (ic (cw S k)) = f_ways_fewestCuts_42 N K n (wrR μ 50 g2) x2 x3 (ic (k + 1)) := by
      unfold f_ways_fewestCuts_78
      simp only [inb_e (show k < 12 by omega) (show 12 < 2147483648 by decide), ic_n (show k < 2147483648 by omega), e4, e5, h1, h2, ob_e, ic_1]
    rw [← h3, ← e78, f_ways_fewestCuts_42, nW, if_neg (by rw [ic_le (by omega) (by omega)]; omega), e1, ob_e]
    simp only [b2_0]
    unfold cw
    by_cases q : S (12 + k) = 1
    · rw [if_neg (fun z => z q), if_pos q]; rfl
    · rw [if_pos q, if_neg q, sh_e, sh_2 (by omega), lit_add]
theorem lp_cut33 {N : Nat} {μ c : sw_M} {F W T P : Nat} (hN : 5000 ≤ N) (hC : CW c F W T P) (hX : XR μ c) {S : Nat → Int32} (hS : WS F W T P S) (hD : DR μ 35 W T P S) {o : Nat} (ho : o < 8) : ∀ (j k : Nat) (g : Nat → Int32) (d : Nat → Nat) (n : Nat), k + j = 8 → j < n → CRw g d → ∃ g', f_ways_fewestCuts_33 N n (wrR μ 50 g) (ic o) (ic k) = some (if fo (fun _ d => fo (bfW c S) 0 W d) k j d o < 1073741824 then ic (fo (fun _ d => fo (bfW c S) 0 W d) k j d o % 4096) else -1, wrR μ 50 g')
  | 0, k, g, d, n, h, hn, hg => by
    obtain ⟨n, rfl⟩ := fu_s hn
    have hb := hg.2 o
    refine ⟨g, ?_⟩
    rw [f_ways_fewestCuts_33, if_pos (by rw [lit_le (by decide) (by omega)]; omega), at_e ho (by decide), ob_e, wrR_r, hg.1 o ho, fo_0]
    by_cases q : d o < 1073741824
    · rw [if_pos (by rw [lt_lit (by decide) (by omega)]; exact q), if_pos q]
      congr 2
      exact pk_andN (n := d o) (by omega) (m := 4095) 12 (by decide)
    · rw [if_neg (by rw [lt_lit (by decide) (by omega)]; exact q), if_neg q]
  | j + 1, k, g, d, n, h, hn, hg => by
    have hW' := hC.w12
    obtain ⟨n, rfl⟩ := fu_s (show 0 < n by omega)
    obtain ⟨g1, h1, hg1⟩ := lp_cut42 hN hC hX hS hD (ic o) (ic k) (f_ways_fewestCuts_33 N n) W 0 g d N (by omega) (by omega) hg
    obtain ⟨g2, h2⟩ := lp_cut33 hN hC hX hS hD ho j (k + 1) g1 _ n (by omega) (by omega) hg1
    refine ⟨g2, ?_⟩
    rw [f_ways_fewestCuts_33, if_neg (by rw [lit_le (by decide) (by omega)]; omega)]
    have h1' : f_ways_fewestCuts_42 N (f_ways_fewestCuts_33 N n) N (wrR μ 50 g) (ic o) (ic k) 0 = _ := h1
    rw [h1', ic_1, h2, fo_s]
def d0 (f : Nat) : Nat → Nat := fun i => if i = f then 0 else 1073741824
theorem lp_cut2 {N : Nat} {μ c : sw_M} {F W T P : Nat} (hN : 5000 ≤ N) (hC : CW c F W T P) (hX : XR μ c) {S : Nat → Int32} (hS : WS F W T P S) (hD : DR μ 35 W T P S) {f o : Nat} (hf : f < 8) (ho : o < 8) : ∀ (j k : Nat) (g : Nat → Int32) (n : Nat), k + j = 8 → j < n → (∀ i, i < k → g i = ic (d0 f i)) → ∃ g', f_ways_fewestCuts_2 N n (wrR μ 50 g) (ic f) (ic o) (ic k) = some (if fo (fun _ d => fo (bfW c S) 0 W d) 0 8 (d0 f) o < 1073741824 then ic (fo (fun _ d => fo (bfW c S) 0 W d) 0 8 (d0 f) o % 4096) else -1, wrR μ 50 g')
  | 0, k, g, n, h, hn, hg => by
    obtain ⟨n, rfl⟩ := fu_s hn
    have hcr : CRw g (d0 f) := ⟨fun i hi => hg i (by omega), fun i => by unfold d0; split <;> omega⟩
    obtain ⟨g1, h1⟩ := lp_cut33 hN hC hX hS hD ho 8 0 g (d0 f) N (by omega) (by omega) hcr
    refine ⟨g1, ?_⟩
    rw [f_ways_fewestCuts_2, if_pos (by rw [lit_le (by decide) (by omega)]; omega)]
    exact h1
  | j + 1, k, g, n, h, hn, hg => by
    obtain ⟨n, rfl⟩ := fu_s (show 0 < n by omega)
    obtain ⟨g1, h1⟩ := lp_cut2 hN hC hX hS hD hf ho j (k + 1) (up g k (ic (d0 f k))) n (by omega) (by omega) (fun i hi => by
      by_cases q : i = k
      · subst q; rw [up_s]
      · rw [up_n q]; exact hg i (by omega))
    refine ⟨g1, ?_⟩
    rw [← h1, f_ways_fewestCuts_2, if_neg (by rw [lit_le (by decide) (by omega)]; omega)]
    unfold f_ways_fewestCuts_24
    simp only [inb_e (show k < 8 by omega) (show 8 < 2147483648 by decide), ic_n (show k < 2147483648 by omega), wb_e, wr_up, wrR_r, wrR_wrR, ic_1]
    unfold d0
    by_cases q : k = f
    · rw [if_pos (by rw [q]), if_pos q]; rfl
    · rw [if_neg (by rw [ic_eq (by omega) (by omega)]; exact q), if_neg q]; rfl
/-! the reference -/
theorem lp_ones {N : Nat} {μ : sw_M} {m : Nat} : ∀ (j k n : Nat), k + j = 12 → j < n → f_sm_ones_4 N μ n (ic m) (ic (su (fun i => if m.testBit i = true then 1 else 0) k)) (ic k) = some (ic (onN m))
  | 0, k, n, h, hn => by
    obtain ⟨n, rfl⟩ := fu_s hn
    rw [f_sm_ones_4, if_pos (by rw [lit_le (by decide) (by omega)]; omega), show k = 12 by omega]; rfl
  | j + 1, k, n, h, hn => by
    obtain ⟨n, rfl⟩ := fu_s (show 0 < n by omega)
    rw [f_sm_ones_4, if_neg (by rw [lit_le (by decide) (by omega)]; omega), ib_e, bit_v _ (show k < 32 by omega), bt_ic (by omega), ic_1, ← lp_ones j (k + 1) n (by omega) (by omega)]
    congr 1
    show _ = ic (su (fun i => if m.testBit i = true then 1 else 0) k + (if m.testBit k = true then 1 else 0))
    by_cases q : m.testBit k = true
    · rw [if_pos q, if_pos q, ic_1]
    · rw [if_neg q, if_neg q, Int32.add_zero, Nat.add_zero]
theorem e_ones {N : Nat} {μ : sw_M} (hN : 5000 ≤ N) (m : Nat) : f_sm_ones N μ (ic m) = some (ic (onN m)) := lp_ones 12 0 N (by omega) (by omega)
def plQ (W : Nat) (c : sw_M) (cut : Int32) (f o m : Nat) : Prop := ic m &&& cut = 0 ∧ bt (paX W c (ic m ||| cut) f 8) o = true
def plB (W : Nat) (c : sw_M) (cut : Int32) (f o k : Nat) (b : Int32) : Prop := (b = -1 ∧ ∀ m, m < k → ¬ plQ W c cut f o m) ∨ ∃ m, m < k ∧ b = ic m ∧ plQ W c cut f o m ∧ ∀ n, n < k → plQ W c cut f o n → csN m ≤ csN n
theorem lp_m_pliers {N : Nat} {μ c : sw_M} {F W T P : Nat} (hN : 5000 ≤ N) (hC : CW c F W T P) (hM : MR μ c F W T P) {f o : Nat} (ho : o < 8) (cut : Int32) : ∀ (j k : Nat) (b : Int32) (n : Nat), k + j = 2 ^ W → j < n → plB W c cut f o k b → ∃ v, f_m_pliers_40 N n μ (ic f) (ic o) cut b (ic k) = some (v, μ) ∧ plB W c cut f o (2 ^ W) v
  | 0, k, b, n, h, hn, hb => by
    have hW' := hC.w12; have nW := hM.nW
    have h2 : 2 ^ W ≤ 4096 := Nat.pow_le_pow_right (n := 2) (by decide) (show W ≤ 12 from hW')
    obtain ⟨n, rfl⟩ := fu_s hn
    refine ⟨b, ?_, by rw [← h]; exact hb⟩
    rw [f_m_pliers_40, nW, sh_e, sh_2 (by omega), if_pos (by rw [ic_le (by omega) (by omega)]; omega)]
  | j + 1, k, b, n, h, hn, hb => by
    have hW' := hC.w12; have nW := hM.nW
    have h2 : 2 ^ W ≤ 4096 := Nat.pow_le_pow_right (n := 2) (by decide) (show W ≤ 12 from hW')
    obtain ⟨n, rfl⟩ := fu_s (show 0 < n by omega)
    have e1 := e_m_partOf hN hC hM (ic k ||| cut) f
    have e2 := e_ones (N := N) (μ := μ) hN k
    obtain ⟨ck, ok⟩ := cs_e (n := k) (by omega)
    have e80 : f_m_pliers_80 N (f_m_pliers_40 N n) μ (ic f) (ic o) cut b (ic k) = if bt (paX W c (ic k ||| cut) f 8) o = true then f_m_pliers_40 N n μ (ic f) (ic o) cut (ic k) (ic (k + 1)) else f_m_pliers_40 N n μ (ic f) (ic o) cut b (ic (k + 1)) := by
      unfold f_m_pliers_80
      rw [e1, ob_e, ic_1]
      simp only [bit_1 _ (show o < 32 by omega)]
    have hnq : ¬ plQ W c cut f o k → plB W c cut f o (k + 1) b := by
      intro hq
      rcases hb with ⟨rfl, hb⟩ | ⟨m, hm, rfl, hQ, hb⟩
      · refine Or.inl ⟨rfl, fun m hm => ?_⟩
        by_cases e : m = k
        · subst e; exact hq
        · exact hb m (by omega)
      · refine Or.inr ⟨m, by omega, rfl, hQ, fun u hu hq2 => ?_⟩
        by_cases e : u = k
        · subst e; exact absurd hq2 hq
        · exact hb u (by omega) hq2
    have hyes : plQ W c cut f o k → (b = -1 ∨ ∃ m, b = ic m ∧ m < k ∧ onN k < onN m) → plB W c cut f o (k + 1) (ic k) := by
      intro hq hlt
      refine Or.inr ⟨k, by omega, rfl, hq, fun u hu hq2 => ?_⟩
      by_cases e : u = k
      · subst e; exact Nat.le_refl _
      · rcases hb with ⟨hb1, hb⟩ | ⟨m, hm, hb1, hQ, hb⟩
        · exact absurd hq2 (hb u (by omega))
        · have h3 := hb u (by omega) hq2
          obtain ⟨cm, om⟩ := cs_e (n := m) (by omega)
          rcases hlt with z | ⟨m2, z1, z2, z3⟩
          · rw [z] at hb1; exact absurd hb1.symm (by rw [ic_m1 (by omega)]; exact id)
          · rw [z1, ic_eq (by omega) (by omega)] at hb1
            subst hb1; omega
    rw [f_m_pliers_40, nW, sh_e, sh_2 (by omega), if_neg (by rw [ic_le (by omega) (by omega)]; omega), e80, ic_1]
    by_cases a1 : ic k &&& cut = 0
    · rw [if_pos a1]
      by_cases a2 : b = -1
      · rw [if_pos a2]
        by_cases a3 : bt (paX W c (ic k ||| cut) f 8) o = true
        · rw [if_pos a3]; exact lp_m_pliers hN hC hM ho cut j (k + 1) (ic k) n (by omega) (by omega) (hyes ⟨a1, a3⟩ (Or.inl a2))
        · rw [if_neg a3]; exact lp_m_pliers hN hC hM ho cut j (k + 1) b n (by omega) (by omega) (hnq (fun z => a3 z.2))
      · rw [if_neg a2]
        obtain ⟨m, hm, hbm⟩ : ∃ m, m < k ∧ b = ic m := by
          rcases hb with ⟨z, _⟩ | ⟨m, hm, z, _⟩
          · exact absurd z a2
          · exact ⟨m, hm, z⟩
        have e3 := e_ones (N := N) (μ := μ) hN m
        obtain ⟨cm, om⟩ := cs_e (n := m) (by omega)
        rw [e2, ob_e]
        conv => enter [1, v, 1, 1, 1]; rw [hbm]
        rw [e3, ob_e]
        by_cases a4 : onN k < onN m
        · rw [if_pos (by rw [ic_lt (by omega) (by omega)]; exact a4)]
          by_cases a3 : bt (paX W c (ic k ||| cut) f 8) o = true
          · rw [if_pos a3]; exact lp_m_pliers hN hC hM ho cut j (k + 1) (ic k) n (by omega) (by omega) (hyes ⟨a1, a3⟩ (Or.inr ⟨m, hbm, hm, a4⟩))
          · rw [if_neg a3]; exact lp_m_pliers hN hC hM ho cut j (k + 1) b n (by omega) (by omega) (hnq (fun z => a3 z.2))
        · rw [if_neg (by rw [ic_lt (by omega) (by omega)]; exact a4)]
          refine lp_m_pliers hN hC hM ho cut j (k + 1) b n (by omega) (by omega) ?_
          rcases hb with ⟨z, _⟩ | ⟨m2, hm2, z, hQ, hb⟩
          · exact absurd z a2
          · have : m2 = m := by rw [hbm, ic_eq (by omega) (by omega)] at z; exact z.symm
            subst this
            refine Or.inr ⟨m2, by omega, hbm, hQ, fun u hu hq2 => ?_⟩
            by_cases e : u = k
            · subst e; omega
            · exact hb u (by omega) hq2
    · rw [if_neg a1]; exact lp_m_pliers hN hC hM ho cut j (k + 1) b n (by omega) (by omega) (hnq (fun z => a1 z.1))
