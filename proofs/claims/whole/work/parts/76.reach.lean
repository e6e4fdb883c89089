/-! ===== printed by wip/whole/gen76.py: sets of fields that grow; waits, grant ===== -/
abbrev eA (c : sw_M) (w : Nat) : Nat := (c 4 w).toNatClampNeg
abbrev eB (c : sw_M) (w : Nat) : Nat := (c 5 w).toNatClampNeg
def SubB (x y : Int32) : Prop := ∀ i, bt x i = true → bt y i = true
theorem SubB.rf (x : Int32) : SubB x x := fun _ h => h
theorem SubB.tr {x y z : Int32} (h : SubB x y) (h2 : SubB y z) : SubB x z := fun i hi => h2 i (h i hi)
theorem SubB.an {x y : Int32} (h : SubB x y) (h2 : SubB y x) : x = y := b_ext (fun i _ => Bool.eq_iff_iff.mpr ⟨h i, h2 i⟩)
theorem CW.eA8 {c : sw_M} {F W T P : Nat} (hC : CW c F W T P) {w : Nat} (hw : w < W) : eA c w < 8 ∧ eB c w < 8 ∧ c 4 w = ic (eA c w) ∧ c 5 w = ic (eB c w) ∧ eA c w ≠ eB c w := by
  obtain ⟨a, b, h, ha, hb, hab, -, e4, e5, -⟩ := hC.2.2.1 w hw
  have hF := hC.f8
  unfold eA eB
  rw [e4, e5, ic_n (by omega), ic_n (by omega)]
  exact ⟨by omega, by omega, rfl, rfl, hab⟩
theorem b_sprF {c : sw_M} {F W T P : Nat} {S : Nat → Int32} (hC : CW c F W T P) (x h g : Int32) : ∀ (j k : Nat) (a : Int32) (i : Nat), k + j ≤ W → (bt (fo (fun w a => if lv S w h g then a else if bt x (c 4 w).toNatClampNeg = true ∨ bt x (c 5 w).toNatClampNeg = true then a ||| (sh (c 4 w).toNatClampNeg ||| sh (c 5 w).toNatClampNeg) else a) k j a) i = true ↔ bt a i = true ∨ ∃ w, k ≤ w ∧ w < k + j ∧ ¬ lv S w h g ∧ (bt x (eA c w) = true ∨ bt x (eB c w) = true) ∧ (i = eA c w ∨ i = eB c w))
  | 0, k, a, i, hk => by
    rw [fo_0]; exact ⟨Or.inl, fun z => z.elim id (fun ⟨w, h1, h2, _⟩ => by omega)⟩
  | j + 1, k, a, i, hk => by
    obtain ⟨q1, q2, -⟩ := hC.eA8 (w := k) (by omega)
    have q1' : (c 4 k).toNatClampNeg < 8 := q1
    have q2' : (c 5 k).toNatClampNeg < 8 := q2
    rw [fo_s, b_sprF hC x h g j (k + 1) _ i (by omega)]
    have ex : ∀ R : Nat → Prop, (∃ w, k ≤ w ∧ w < k + (j + 1) ∧ R w) ↔ (R k ∨ ∃ w, k + 1 ≤ w ∧ w < k + 1 + j ∧ R w) := by
      intro R
      refine ⟨fun ⟨w, h1, h2, h3⟩ => ?_, fun z => z.elim (fun z => ⟨k, Nat.le_refl k, by omega, z⟩) (fun ⟨w, h1, h2, h3⟩ => ⟨w, by omega, by omega, h3⟩)⟩
      by_cases e : w = k
      · subst e; exact Or.inl h3
      · exact Or.inr ⟨w, by omega, by omega, h3⟩
    rw [ex]
    by_cases a1 : lv S k h g
    · rw [if_pos a1]
      exact ⟨fun z => z.elim Or.inl (fun z => Or.inr (Or.inr z)), fun z => z.elim Or.inl (fun z => z.elim (fun z => absurd a1 z.1) Or.inr)⟩
    · rw [if_neg a1]
      by_cases a2 : bt x (c 4 k).toNatClampNeg = true ∨ bt x (c 5 k).toNatClampNeg = true
      · rw [if_pos a2, b_or, b_or, b_sh' (by omega), b_sh' (by omega)]
        simp only [Bool.or_eq_true, decide_eq_true_eq]
        exact ⟨fun z => z.elim (fun z => z.elim Or.inl (fun z => Or.inr (Or.inl ⟨a1, a2, z⟩))) (fun z => Or.inr (Or.inr z)), fun z => z.elim (fun z => Or.inl (Or.inl z)) (fun z => z.elim (fun z => Or.inl (Or.inr z.2.2)) Or.inr)⟩
      · rw [if_neg a2]
        exact ⟨fun z => z.elim Or.inl (fun z => Or.inr (Or.inr z)), fun z => z.elim Or.inl (fun z => z.elim (fun z => absurd z.2.1 a2) Or.inr)⟩
theorem b_spr {c : sw_M} {F W T P : Nat} {S : Nat → Int32} (hC : CW c F W T P) (x h g : Int32) (i : Nat) : bt (spr W c S x h g) i = true ↔ bt x i = true ∨ ∃ w, w < W ∧ ¬ lv S w h g ∧ (bt x (eA c w) = true ∨ bt x (eB c w) = true) ∧ (i = eA c w ∨ i = eB c w) := by
  unfold spr
  rw [b_sprF hC x h g W 0 x i (by omega)]
  exact ⟨fun z => z.elim Or.inl (fun ⟨w, _, h2, h3⟩ => Or.inr ⟨w, by omega, h3⟩), fun z => z.elim Or.inl (fun ⟨w, h2, h3⟩ => Or.inr ⟨w, Nat.zero_le w, by omega, h3⟩)⟩
theorem spr_sub {c : sw_M} {F W T P : Nat} {S : Nat → Int32} (hC : CW c F W T P) (x h g : Int32) : SubB x (spr W c S x h g) := fun i hi => (b_spr hC x h g i).mpr (Or.inl hi)
theorem spr_mono {c : sw_M} {F W T P : Nat} {S : Nat → Int32} (hC : CW c F W T P) {x y h g h' g' : Int32} (hs : SubB x y) (hl : ∀ w, w < W → lv S w h' g' → lv S w h g) : SubB (spr W c S x h g) (spr W c S y h' g') := by
  intro i hi
  rw [b_spr hC] at hi ⊢
  rcases hi with hi | ⟨w, hw, h1, h2, h3⟩
  · exact Or.inl (hs i hi)
  · exact Or.inr ⟨w, hw, fun z => h1 (hl w hw z), h2.imp (hs _) (hs _), h3⟩
theorem spr_8 {c : sw_M} {F W T P : Nat} {S : Nat → Int32} (hC : CW c F W T P) {x h g : Int32} (hx : ∀ i, bt x i = true → i < 8) : ∀ i, bt (spr W c S x h g) i = true → i < 8 := by
  intro i hi
  rw [b_spr hC] at hi
  rcases hi with hi | ⟨w, hw, h1, h2, h3⟩
  · exact hx i hi
  · obtain ⟨q1, q2, -⟩ := hC.eA8 hw
    rcases h3 with rfl | rfl
    · exact q1
    · exact q2
theorem lv_e {F W T P : Nat} {S : Nat → Int32} (hS : WS F W T P S) {w : Nat} (hw : w < W) : ∃ a b : Nat, ∀ n g : Nat, n ≤ 100000 → g ≤ 100000 → (lv S w (ic n) (ic g) ↔ ¬ S (12 + w) = 1 ∧ a + g ≤ b + n) := by
  obtain ⟨⟨a, ha, ea⟩, -⟩ := hS.2.2.1 w hw
  obtain ⟨b, hb, eb⟩ := hS.1
  refine ⟨a, b, fun n g hn hg => ?_⟩
  unfold lv
  rw [ea, eb, ic_add, ic_add, ic_le (by omega) (by omega)]
theorem cm_mono {c : sw_M} {F W T P : Nat} {S : Nat → Int32} (hC : CW c F W T P) {o : Nat} {h g h' g' : Int32} (hl : ∀ i w, w < W → i ≤ 8 → lv S w (h' + ic i) g' → lv S w (h + ic i) g) : ∀ (j k : Nat) (x y : Int32), k + j ≤ 8 → SubB x y → ¬ cmI W c S o h g j k x = -1 → ¬ cmI W c S o h' g' j k y = -1
  | 0, k, x, y, hk, hs, hn => absurd rfl hn
  | j + 1, k, x, y, hk, hs, hn => by
    rw [cmI_s] at hn ⊢
    by_cases e : bt y o = true
    · rw [if_pos e, ic_m1 (by omega)]; exact id
    · rw [if_neg e]
      rw [if_neg (fun z => e (hs o z))] at hn
      exact cm_mono hC hl j (k + 1) _ _ (by omega) (spr_mono hC hs (fun w hw => hl k w hw (by omega))) hn
def pW (W : Nat) (c : sw_M) (S : Nat → Int32) (f o n : Nat) : Prop := ¬ cmI W c S o (ic n) 0 8 0 (sh f) = -1
def pG (W : Nat) (c : sw_M) (S : Nat → Int32) (f o n : Nat) : Prop := ¬ cmI W c S o 0 (ic n) 8 0 (sh f) = -1
theorem pW_anti {c : sw_M} {F W T P : Nat} {S : Nat → Int32} (hC : CW c F W T P) (hS : WS F W T P S) {f o m n : Nat} (h : m ≤ n) (hn : n ≤ 1000) (hp : pW W c S f o n) : pW W c S f o m := by
  refine cm_mono hC (fun i w hw hi => ?_) 8 0 _ _ (by omega) (SubB.rf _) hp
  obtain ⟨a, b, hab⟩ := lv_e hS hw
  rw [ic_add, ic_add, show (0 : Int32) = ic 0 from rfl, hab _ _ (by omega) (by omega), hab _ _ (by omega) (by omega)]
  exact fun z => ⟨z.1, by omega⟩
theorem pG_mono {c : sw_M} {F W T P : Nat} {S : Nat → Int32} (hC : CW c F W T P) (hS : WS F W T P S) {f o m n : Nat} (h : m ≤ n) (hn : n ≤ 1000) (hp : pG W c S f o m) : pG W c S f o n := by
  refine cm_mono hC (fun i w hw hi => ?_) 8 0 _ _ (by omega) (SubB.rf _) hp
  obtain ⟨a, b, hab⟩ := lv_e hS hw
  rw [show (0 : Int32) = ic 0 from rfl, ic_add, hab _ _ (by omega) (by omega), hab _ _ (by omega) (by omega)]
  exact fun z => ⟨z.1, by omega⟩
def bitI : Nat → Int32
  | 0 => 0
  | e + 1 => ic (2 ^ e)
theorem bitI_s : ∀ e, e < 8 → ic (2 ^ e) >>> ((1 : Int32) &&& 31) = bitI e := by decide +kernel
theorem pw2 {e : Nat} (h : e < 8) : 2 ^ e ≤ 128 ∧ 1 ≤ 2 ^ e := ⟨Nat.pow_le_pow_right (n := 2) (by decide) (show e ≤ 7 by omega), Nat.one_le_two_pow⟩
theorem lp_wait {N : Nat} {μ c : sw_M} {F W T P : Nat} (hN : 5000 ≤ N) (hC : CW c F W T P) (hX : XR μ c) {S : Nat → Int32} (hS : WS F W T P S) (hD : DR μ 35 W T P S) {f o : Nat} (ho : o < 32) : ∀ (e wait n : Nat), e ≤ 8 → e < n → wait ≤ 200 → pW W c S f o wait → (∀ m, m ≤ 200 → pW W c S f o m → m < wait + 2 ^ e) → ∃ v : Nat, f_ways_longestWait_21 N μ n (ic f) (ic o) (ic wait) (bitI e) = some (ic v) ∧ v ≤ 200 ∧ pW W c S f o v ∧ ∀ m, m ≤ 200 → pW W c S f o m → m ≤ v
  | 0, wait, n, he, hn, hw, hp, hb => by
    obtain ⟨n, rfl⟩ := fu_s hn
    refine ⟨wait, ?_, hw, hp, fun m h1 h2 => by have := hb m h1 h2; omega⟩
    rw [f_ways_longestWait_21, show bitI 0 = 0 from rfl, if_pos (by decide)]
  | e + 1, wait, n, he, hn, hw, hp, hb => by
    obtain ⟨n, rfl⟩ := fu_s (show 0 < n by omega)
    obtain ⟨p1, p2⟩ := pw2 (show e < 8 by omega)
    have p3 : 2 ^ (e + 1) = 2 ^ e * 2 := rfl
    have ih := lp_wait hN hC hX hS hD (f := f) ho e
    have e1 := e_ways_hoursTo hN hC hX hS hD (f := f) ho (ic (wait + 2 ^ e)) 0
    have hst : f_ways_longestWait_21 N μ (n + 1) (ic f) (ic o) (ic wait) (bitI (e + 1)) = if 200 < wait + 2 ^ e then f_ways_longestWait_21 N μ n (ic f) (ic o) (ic wait) (bitI e) else if cmI W c S o (ic (wait + 2 ^ e)) 0 8 0 (sh f) = -1 then f_ways_longestWait_21 N μ n (ic f) (ic o) (ic wait) (bitI e) else f_ways_longestWait_21 N μ n (ic f) (ic o) (ic (wait + 2 ^ e)) (bitI e) := by
      rw [show bitI (e + 1) = ic (2 ^ e) from rfl]
      conv => lhs; rw [f_ways_longestWait_21]
      unfold f_ways_longestWait_56
      rw [if_neg (by rw [le_lit (by decide) (by omega)]; omega), ic_add, e1, ob_e]
      simp (disch := omega) only [lit_lt, ib_e, bitI_s e (by omega)]
    by_cases q : 200 < wait + 2 ^ e
    · rw [hst, if_pos q]
      exact ih wait n (by omega) (by omega) hw hp (fun m h1 h2 => by omega)
    · by_cases r : cmI W c S o (ic (wait + 2 ^ e)) 0 8 0 (sh f) = -1
      · rw [hst, if_neg q, if_pos r]
        refine ih wait n (by omega) (by omega) hw hp (fun m h1 h2 => ?_)
        rcases Nat.lt_or_ge m (wait + 2 ^ e) with z | z
        · exact z
        · exact absurd r (pW_anti hC hS z (by omega) h2)
      · rw [hst, if_neg q, if_neg r]
        exact ih (wait + 2 ^ e) n (by omega) (by omega) (by omega) r (fun m h1 h2 => by have := hb m h1 h2; omega)
theorem lp_m_waits {N : Nat} {μ c : sw_M} {F W T P : Nat} (hN : 5000 ≤ N) (hC : CW c F W T P) (hM : MR μ c F W T P) (hS : WS F W T P (μ 81)) {f o v : Nat} (ho : o < 32) (hv : pW W c (μ 81) f o v) : ∀ (j n : Nat), v + j ≤ 200 → j < n → (∀ m, m ≤ v + j → pW W c (μ 81) f o m → m ≤ v) → f_m_waits_33 N n μ (ic f) (ic o) (ic (v + j)) = some (ic v, μ)
  | 0, n, h2, hn, hb => by
    obtain ⟨n, rfl⟩ := fu_s hn
    have e1 := e_m_comesIn hN hC hM hS (f := f) ho (ic v) 0
    show f_m_waits_33 N (n + 1) μ (ic f) (ic o) (ic v) = _
    rw [f_m_waits_33, if_neg (by rw [ic_lt0 (by omega)]; exact id), e1, ob_e, if_neg hv]
  | j + 1, n, h2, hn, hb => by
    obtain ⟨n, rfl⟩ := fu_s (show 0 < n by omega)
    have e1 := e_m_comesIn hN hC hM hS (f := f) ho (ic (v + (j + 1))) 0
    rw [f_m_waits_33, if_neg (by rw [ic_lt0 (by omega)]; exact id), e1, ob_e]
    have : cmI W c (μ 81) o (ic (v + (j + 1))) 0 8 0 (sh f) = -1 := by
      by_cases q : cmI W c (μ 81) o (ic (v + (j + 1))) 0 8 0 (sh f) = -1
      · exact q
      · have := hb (v + (j + 1)) (Nat.le_refl _) q; omega
    rw [if_pos this, show v + (j + 1) = (v + j) + 1 by omega, ic_p1]
    exact lp_m_waits hN hC hM hS ho hv j n (by omega) (by omega) (fun m h1 h2 => hb m (by omega) h2)
theorem lp_m_waits0 {N : Nat} {μ c : sw_M} {F W T P : Nat} (hN : 5000 ≤ N) (hC : CW c F W T P) (hM : MR μ c F W T P) (hS : WS F W T P (μ 81)) {f o : Nat} (ho : o < 32) : ∀ (j n : Nat), j ≤ 200 → j < n → (∀ m, m ≤ j → ¬ pW W c (μ 81) f o m) → f_m_waits_33 N (n + 1) μ (ic f) (ic o) (ic j) = some (-1, μ)
  | 0, n, h2, hn, hb => by
    obtain ⟨n, rfl⟩ := fu_s hn
    have e1 := e_m_comesIn hN hC hM hS (f := f) ho (ic 0) 0
    have q : cmI W c (μ 81) o (ic 0) 0 8 0 (sh f) = -1 := by
      by_cases q : cmI W c (μ 81) o (ic 0) 0 8 0 (sh f) = -1
      · exact q
      · exact absurd q (hb 0 (Nat.le_refl _))
    rw [f_m_waits_33, if_neg (by rw [ic_lt0 (by omega)]; exact id), e1, ob_e, if_pos q]
    rw [f_m_waits_33, if_pos (by decide)]; rfl
  | j + 1, n, h2, hn, hb => by
    obtain ⟨n, rfl⟩ := fu_s (show 0 < n by omega)
    have e1 := e_m_comesIn hN hC hM hS (f := f) ho (ic (j + 1)) 0
    have q : cmI W c (μ 81) o (ic (j + 1)) 0 8 0 (sh f) = -1 := by
      by_cases q : cmI W c (μ 81) o (ic (j + 1)) 0 8 0 (sh f) = -1
      · exact q
      · exact absurd q (hb (j + 1) (Nat.le_refl _))
    rw [f_m_waits_33, if_neg (by rw [ic_lt0 (by omega)]; exact id), e1, ob_e, if_pos q, ic_p1]
    exact lp_m_waits0 hN hC hM hS ho j n (by omega) (by omega) (fun m h1 => hb m (by omega))
theorem q_waits {N : Nat} {μ ν c : sw_M} {F W T P : Nat} (hN : 5000 ≤ N) (hC : CW c F W T P) (hX : XR μ c) (hS : WS F W T P (ν 81)) (hD : DR μ 35 W T P (ν 81)) (hM : MR ν c F W T P) {f o : Nat} (ho : o < 32) : ∃ v, f_ways_longestWait N μ (ic f) (ic o) = some v ∧ f_m_waits_33 N N ν (ic f) (ic o) 200 = some (v, ν) := by
  have e1 := e_ways_hoursTo hN hC hX hS hD (f := f) ho 0 0
  unfold f_ways_longestWait
  rw [e1, ob_e]
  by_cases q : cmI W c (ν 81) o 0 0 8 0 (sh f) = -1
  · refine ⟨-1, by rw [if_pos q], ?_⟩
    have := lp_m_waits0 hN hC hM hS (f := f) ho 200 (N - 1) (by omega) (by omega) (fun m h1 h2 => absurd q (pW_anti (m := 0) hC hS (Nat.zero_le m) (by omega) h2))
    rw [show N - 1 + 1 = N by omega] at this
    exact this
  · rw [if_neg q]
    obtain ⟨v, h1, h2, h3, h4⟩ := lp_wait hN hC hX hS hD (f := f) ho 8 0 N (by omega) (by omega) (by omega) q (fun m h1 h2 => by omega)
    refine ⟨ic v, h1, ?_⟩
    have := lp_m_waits hN hC hM hS ho h3 (200 - v) N (by omega) (by omega) (fun m h5 h6 => h4 m (by omega) h6)
    rw [show v + (200 - v) = 200 by omega] at this
    exact this
theorem lp_grant {N : Nat} {μ c : sw_M} {F W T P : Nat} (hN : 5000 ≤ N) (hC : CW c F W T P) (hX : XR μ c) {S : Nat → Int32} (hS : WS F W T P S) (hD : DR μ 35 W T P S) {f o : Nat} (ho : o < 32) : ∀ (e few n : Nat), e ≤ 8 → e < n → few ≤ 200 → ¬ pG W c S f o few → (∀ m, m ≤ 200 → ¬ pG W c S f o m → m < few + 2 ^ e) → ∃ v : Nat, f_ways_leastGrant_21 N μ n (ic f) (ic o) (ic few) (bitI e) = some (if 200 ≤ v then -1 else ic (v + 1)) ∧ v ≤ 200 ∧ ¬ pG W c S f o v ∧ ∀ m, m ≤ 200 → ¬ pG W c S f o m → m ≤ v
  | 0, few, n, he, hn, hw, hp, hb => by
    obtain ⟨n, rfl⟩ := fu_s hn
    refine ⟨few, ?_, hw, hp, fun m h1 h2 => by have := hb m h1 h2; omega⟩
    rw [f_ways_leastGrant_21, show bitI 0 = 0 from rfl, if_pos (by decide), ic_1]
    simp (disch := omega) only [lit_le]
    split <;> rfl
  | e + 1, few, n, he, hn, hw, hp, hb => by
    obtain ⟨n, rfl⟩ := fu_s (show 0 < n by omega)
    obtain ⟨p1, p2⟩ := pw2 (show e < 8 by omega)
    have p3 : 2 ^ (e + 1) = 2 ^ e * 2 := rfl
    have ih := lp_grant hN hC hX hS hD (f := f) ho e
    have e1 := e_ways_hoursTo hN hC hX hS hD (f := f) ho 0 (ic (few + 2 ^ e))
    have hst : f_ways_leastGrant_21 N μ (n + 1) (ic f) (ic o) (ic few) (bitI (e + 1)) = if 200 < few + 2 ^ e then f_ways_leastGrant_21 N μ n (ic f) (ic o) (ic few) (bitI e) else if cmI W c S o 0 (ic (few + 2 ^ e)) 8 0 (sh f) = -1 then f_ways_leastGrant_21 N μ n (ic f) (ic o) (ic (few + 2 ^ e)) (bitI e) else f_ways_leastGrant_21 N μ n (ic f) (ic o) (ic few) (bitI e) := by
      rw [show bitI (e + 1) = ic (2 ^ e) from rfl]
      conv => lhs; rw [f_ways_leastGrant_21]
      unfold f_ways_leastGrant_56
      rw [if_neg (by rw [le_lit (by decide) (by omega)]; omega), ic_add, e1, ob_e]
      simp (disch := omega) only [lit_lt, ib_e, bitI_s e (by omega)]
    by_cases q : 200 < few + 2 ^ e
    · rw [hst, if_pos q]
      exact ih few n (by omega) (by omega) hw hp (fun m h1 h2 => by omega)
    · by_cases r : cmI W c S o 0 (ic (few + 2 ^ e)) 8 0 (sh f) = -1
      · rw [hst, if_neg q, if_pos r]
        exact ih (few + 2 ^ e) n (by omega) (by omega) (by omega) (fun z => z r) (fun m h1 h2 => by have := hb m h1 h2; omega)
      · rw [hst, if_neg q, if_neg r]
        refine ih few n (by omega) (by omega) hw hp (fun m h1 h2 => ?_)
        rcases Nat.lt_or_ge m (few + 2 ^ e) with z | z
        · exact z
        · exact absurd (pG_mono hC hS z (by omega) r) h2
theorem lp_m_grant {N : Nat} {μ c : sw_M} {F W T P : Nat} (hN : 5000 ≤ N) (hC : CW c F W T P) (hM : MR μ c F W T P) (hS : WS F W T P (μ 81)) {f o v : Nat} (ho : o < 32) (hv : v ≤ 200) (hp : pG W c (μ 81) f o v) : ∀ (j k n : Nat), k + j = v → j < n → (∀ m, k ≤ m → m < v → ¬ pG W c (μ 81) f o m) → f_m_grant_31 N n μ (ic f) (ic o) (ic k) = some (ic v, μ)
  | 0, k, n, h2, hn, hb => by
    obtain ⟨n, rfl⟩ := fu_s hn
    have e1 := e_m_comesIn hN hC hM hS (f := f) ho 0 (ic k)
    have hk : k = v := by omega
    subst hk
    rw [f_m_grant_31, if_neg (by rw [lit_lt (by decide) (by omega)]; omega), e1, ob_e, if_neg hp]
  | j + 1, k, n, h2, hn, hb => by
    obtain ⟨n, rfl⟩ := fu_s (show 0 < n by omega)
    have e1 := e_m_comesIn hN hC hM hS (f := f) ho 0 (ic k)
    have q : cmI W c (μ 81) o 0 (ic k) 8 0 (sh f) = -1 := by
      by_cases q : cmI W c (μ 81) o 0 (ic k) 8 0 (sh f) = -1
      · exact q
      · exact absurd q (hb k (Nat.le_refl _) (by omega))
    rw [f_m_grant_31, if_neg (by rw [lit_lt (by decide) (by omega)]; omega), e1, ob_e, if_pos q, ic_1]
    exact lp_m_grant hN hC hM hS ho hv hp j (k + 1) n (by omega) (by omega) (fun m h1 h2 => hb m (by omega) h2)
theorem lp_m_grant0 {N : Nat} {μ c : sw_M} {F W T P : Nat} (hN : 5000 ≤ N) (hC : CW c F W T P) (hM : MR μ c F W T P) (hS : WS F W T P (μ 81)) {f o : Nat} (ho : o < 32) : ∀ (j k n : Nat), k + j = 201 → j < n → (∀ m, m ≤ 200 → ¬ pG W c (μ 81) f o m) → f_m_grant_31 N n μ (ic f) (ic o) (ic k) = some (-1, μ)
  | 0, k, n, h2, hn, hb => by
    obtain ⟨n, rfl⟩ := fu_s hn
    rw [f_m_grant_31, if_pos (by rw [lit_lt (by decide) (by omega)]; omega)]
  | j + 1, k, n, h2, hn, hb => by
    obtain ⟨n, rfl⟩ := fu_s (show 0 < n by omega)
    have e1 := e_m_comesIn hN hC hM hS (f := f) ho 0 (ic k)
    have q : cmI W c (μ 81) o 0 (ic k) 8 0 (sh f) = -1 := by
      by_cases q : cmI W c (μ 81) o 0 (ic k) 8 0 (sh f) = -1
      · exact q
      · exact absurd q (hb k (by omega))
    rw [f_m_grant_31, if_neg (by rw [lit_lt (by decide) (by omega)]; omega), e1, ob_e, if_pos q, ic_1]
    exact lp_m_grant0 hN hC hM hS ho j (k + 1) n (by omega) (by omega) hb
theorem q_grant {N : Nat} {μ ν c : sw_M} {F W T P : Nat} (hN : 5000 ≤ N) (hC : CW c F W T P) (hX : XR μ c) (hS : WS F W T P (ν 81)) (hD : DR μ 35 W T P (ν 81)) (hM : MR ν c F W T P) {f o : Nat} (ho : o < 32) : ∃ v, f_ways_leastGrant N μ (ic f) (ic o) = some v ∧ f_m_grant_31 N N ν (ic f) (ic o) 0 = some (v, ν) := by
  have e1 := e_ways_hoursTo hN hC hX hS hD (f := f) ho 0 0
  unfold f_ways_leastGrant
  rw [e1, ob_e]
  by_cases q : cmI W c (ν 81) o 0 0 8 0 (sh f) = -1
  · rw [if_pos q]
    have q0 : ¬ pG W c (ν 81) f o 0 := fun z => z q
    obtain ⟨v, h1, h2, h3, h4⟩ := lp_grant hN hC hX hS hD (f := f) ho 8 0 N (by omega) (by omega) (by omega) q0 (fun m h1 h2 => by omega)
    refine ⟨_, h1, ?_⟩
    by_cases z : 200 ≤ v
    · rw [if_pos z]
      have : v = 200 := by omega
      subst this
      exact lp_m_grant0 hN hC hM hS ho 201 0 N (by omega) (by omega) (fun m h5 h6 => h3 (pG_mono hC hS h5 (by omega) h6))
    · rw [if_neg z]
      have hp : pG W c (ν 81) f o (v + 1) := by
        by_cases y : pG W c (ν 81) f o (v + 1)
        · exact y
        · have := h4 (v + 1) (by omega) y; omega
      exact lp_m_grant hN hC hM hS ho (by omega) hp (v + 1) 0 N (by omega) (by omega) (fun m _ h6 h7 => h3 (pG_mono hC hS (by omega) (by omega) h7))
  · rw [if_neg q]
    exact ⟨0, rfl, lp_m_grant hN hC hM hS ho (v := 0) (by omega) q 0 0 N (by omega) (by omega) (fun m _ h6 => by omega)⟩
theorem op_waits {N : Nat} {μ : sw_M} (hN : 5000 ≤ N) (hI : Inv μ) (a1 a2 : Int32) : OpN (f_x_waits N μ a1 a2) (fun μ1 => f_m_waits N μ1 a1 a2) := by
  obtain ⟨F, W, T, P, K, O, nl, nb, n, m, hQ, hR⟩ := id hI
  have hC := hQ.1
  have hF' := hC.f8; have hW' := hC.w12; have hT' := hC.t6; have hP' := hC.p5
  have hX : XR μ μ := ⟨rfl, rfl, rfl, rfl, rfl, rfl, rfl, rfl⟩
  have x0 := hX.nF hC; have x1 := hX.nW hC; have x2 := hX.nT hC; have x3 := hX.nP hC
  have m21 := hQ.2.1.nF; have m22 := hQ.2.1.nW; have m23 := hQ.2.1.nT; have m24 := hQ.2.1.nP
  have z1 : ∀ i, (wr (xr μ i) 63 0 0) 63 0 = 0 := fun _ => rfl
  rcases wn_dec a1 (n := F) (by omega) with ⟨f, hf, rfl, hg⟩ | hg
  · rcases wn_dec a2 (n := F) (by omega) with ⟨o, ho, rfl, hz⟩ | hz
    · left
      obtain ⟨-, -, hS, hD, hM, -, -⟩ := qm_ctx hQ
      obtain ⟨v, e1, e2⟩ := q_waits hN hC hX hS hD hM (f := f) (o := o) (by omega)
      refine ⟨v, μ, qm μ, ?_, ?_, qm_0 μ, hI.sm (qm_sm μ)⟩
      · unfold f_x_waits; rw [g_needField_1 x0 hg, tb_l, g_needField_1 x0 hz, tb_l, e1, ob_e]
      · show f_m_waits N μ (ic f) (ic o) = _
        unfold f_m_waits; rw [wb_e, h_isField_1 (μ := wr μ 63 0 0) m21 rfl hg, ob_e, if_neg o1, h_isField_1 (μ := wr μ 63 0 0) m21 rfl hz, ob_e, if_neg o1, e_q_take hN, ob_e, e2]
    · right
      refine ⟨xr μ 0, 0, mr (xr μ 0) 0 1, ?_, ?_, rfl, hI.rr (by decide) 1⟩
      · unfold f_x_waits; rw [g_needField_1 x0 hg, tb_l, g_needField_0 x0 hz, tb_r]; rfl
      · show f_m_waits N (xr μ 0) (ic f) a2 = _
        unfold f_m_waits; rw [wb_e, h_isField_1 (μ := wr (xr μ 0) 63 0 0) m21 (z1 0) hg, ob_e, if_neg o1, h_isField_0 (μ := wr (xr μ 0) 63 0 0) m21 (z1 0) hz, ob_e, if_pos rfl]; rfl
  · right
    refine ⟨xr μ 0, 0, mr (xr μ 0) 0 1, ?_, ?_, rfl, hI.rr (by decide) 1⟩
    · unfold f_x_waits; rw [g_needField_0 x0 hg, tb_r]; rfl
    · show f_m_waits N (xr μ 0) a1 a2 = _
      unfold f_m_waits; rw [wb_e, h_isField_0 (μ := wr (xr μ 0) 63 0 0) m21 (z1 0) hg, ob_e, if_pos rfl]; rfl
theorem op_grant {N : Nat} {μ : sw_M} (hN : 5000 ≤ N) (hI : Inv μ) (a1 a2 : Int32) : OpN (f_x_grant N μ a1 a2) (fun μ1 => f_m_grant N μ1 a1 a2) := by
  obtain ⟨F, W, T, P, K, O, nl, nb, n, m, hQ, hR⟩ := id hI
  have hC := hQ.1
  have hF' := hC.f8; have hW' := hC.w12; have hT' := hC.t6; have hP' := hC.p5
  have hX : XR μ μ := ⟨rfl, rfl, rfl, rfl, rfl, rfl, rfl, rfl⟩
  have x0 := hX.nF hC; have x1 := hX.nW hC; have x2 := hX.nT hC; have x3 := hX.nP hC
  have m21 := hQ.2.1.nF; have m22 := hQ.2.1.nW; have m23 := hQ.2.1.nT; have m24 := hQ.2.1.nP
  have z1 : ∀ i, (wr (xr μ i) 63 0 0) 63 0 = 0 := fun _ => rfl
  rcases wn_dec a1 (n := F) (by omega) with ⟨f, hf, rfl, hg⟩ | hg
  · rcases wn_dec a2 (n := F) (by omega) with ⟨o, ho, rfl, hz⟩ | hz
    · left
      obtain ⟨-, -, hS, hD, hM, -, -⟩ := qm_ctx hQ
      obtain ⟨v, e1, e2⟩ := q_grant hN hC hX hS hD hM (f := f) (o := o) (by omega)
      refine ⟨v, μ, qm μ, ?_, ?_, qm_0 μ, hI.sm (qm_sm μ)⟩
      · unfold f_x_grant; rw [g_needField_1 x0 hg, tb_l, g_needField_1 x0 hz, tb_l, e1, ob_e]
      · show f_m_grant N μ (ic f) (ic o) = _
        unfold f_m_grant; rw [wb_e, h_isField_1 (μ := wr μ 63 0 0) m21 rfl hg, ob_e, if_neg o1, h_isField_1 (μ := wr μ 63 0 0) m21 rfl hz, ob_e, if_neg o1, e_q_take hN, ob_e, e2]
    · right
      refine ⟨xr μ 0, 0, mr (xr μ 0) 0 1, ?_, ?_, rfl, hI.rr (by decide) 1⟩
      · unfold f_x_grant; rw [g_needField_1 x0 hg, tb_l, g_needField_0 x0 hz, tb_r]; rfl
      · show f_m_grant N (xr μ 0) (ic f) a2 = _
        unfold f_m_grant; rw [wb_e, h_isField_1 (μ := wr (xr μ 0) 63 0 0) m21 (z1 0) hg, ob_e, if_neg o1, h_isField_0 (μ := wr (xr μ 0) 63 0 0) m21 (z1 0) hz, ob_e, if_pos rfl]; rfl
  · right
    refine ⟨xr μ 0, 0, mr (xr μ 0) 0 1, ?_, ?_, rfl, hI.rr (by decide) 1⟩
    · unfold f_x_grant; rw [g_needField_0 x0 hg, tb_r]; rfl
    · show f_m_grant N (xr μ 0) a1 a2 = _
      unfold f_m_grant; rw [wb_e, h_isField_0 (μ := wr (xr μ 0) 63 0 0) m21 (z1 0) hg, ob_e, if_pos rfl]; rfl
