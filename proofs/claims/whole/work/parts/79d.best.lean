/-! ===== printed by wip/whole/gen79d.py: the cheapest way is the best set ===== -/
/-- no set is cheaper than the way that was found -/
def IA (W : Nat) (c : sw_M) (S : Nat → Int32) (X : Int32) (d : Nat → Nat) (x : Int32) : Prop := ∀ v, bt x v = true → ∃ V : Int32, (∀ w, bt V w = true → w < W ∧ bt X w = true ∧ bt x (eA c w) = true ∧ bt x (eB c w) = true) ∧ d v ≤ cc S V
theorem cc_add {S : Nat → Int32} {V : Int32} {w : Nat} (hw : w < 12) (h : bt V w = false) : cc S V + cw S w ≤ cc S (V ||| sh w) := by
  unfold cc
  refine su_ge_upd 12 hw (fun i hi hne => ?_) ?_
  · rw [b_or, b_sh' (by omega)]
    simp [hne]
  · rw [b_or, b_sh' (by omega), h]
    simp
theorem cc_or {S : Nat → Int32} {V : Int32} {w : Nat} (hw : w < 12) : cc S (V ||| sh w) ≤ cc S V + cw S w := by
  unfold cc
  refine su_le_upd 12 hw (fun i hi hne => ?_) ?_
  · rw [b_or, b_sh' (by omega)]
    simp [hne]
  · rw [b_or, b_sh' (by omega)]
    simp
section
variable {c : sw_M} {F W T P : Nat} {S : Nat → Int32}
theorem ia_st (hC : CW c F W T P) {X x : Int32} {d : Nat → Nat} {w : Nat} (hw : w < W) (h : IA W c S X d x) : IA W c S X (bfW c S w d) (stW c X w x) := by
  have hW' := hC.w12
  obtain ⟨q1, q2, -, -, q5⟩ := hC.eA8 hw
  have hsub := stW_sub c X w x
  have old : ∀ v, bt x v = true → ∃ V : Int32, (∀ u, bt V u = true → u < W ∧ bt X u = true ∧ bt (stW c X w x) (eA c u) = true ∧ bt (stW c X w x) (eB c u) = true) ∧ bfW c S w d v ≤ cc S V := by
    intro v hv
    obtain ⟨V, h1, h2⟩ := h v hv
    exact ⟨V, fun u hu => ⟨(h1 u hu).1, (h1 u hu).2.1, hsub _ (h1 u hu).2.2.1, hsub _ (h1 u hu).2.2.2⟩, Nat.le_trans (bf_le c S w d v) h2⟩
  intro v hv
  by_cases hx : bt x v = true
  · exact old v hx
  · by_cases hc : bt X w = true ∧ (bt x (eA c w) = true ∨ bt x (eB c w) = true)
    · have es : stW c X w x = x ||| (sh (eA c w) ||| sh (eB c w)) := by unfold stW; rw [if_pos hc]
      have ea : bt (stW c X w x) (eA c w) = true := by rw [es, b_or, b_or, b_sh' (by omega)]; simp
      have eb : bt (stW c X w x) (eB c w) = true := by rw [es, b_or, b_or, b_sh' (show eB c w < 32 by omega)]; simp
      have hvv : v = eA c w ∨ v = eB c w := by
        rw [es, b_or, b_or, b_sh' (by omega), b_sh' (by omega)] at hv
        simp only [Bool.or_eq_true, decide_eq_true_eq] at hv
        rcases hv with z | z
        · exact absurd z hx
        · exact z
      have key : ∀ a, bt x a = true → bfW c S w d v ≤ d a + cw S w → ∃ V : Int32, (∀ u, bt V u = true → u < W ∧ bt X u = true ∧ bt (stW c X w x) (eA c u) = true ∧ bt (stW c X w x) (eB c u) = true) ∧ bfW c S w d v ≤ cc S V := by
        intro a ha hle
        obtain ⟨V, h1, h2⟩ := h a ha
        have hvw : bt V w = false := by
          cases z : bt V w
          · rfl
          · obtain ⟨-, -, z3, z4⟩ := h1 w z
            rcases hvv with rfl | rfl
            · exact absurd z3 hx
            · exact absurd z4 hx
        refine ⟨V ||| sh w, fun u hu => ?_, ?_⟩
        · rw [b_or, b_sh' (by omega)] at hu
          simp only [Bool.or_eq_true, decide_eq_true_eq] at hu
          rcases hu with z | rfl
          · exact ⟨(h1 u z).1, (h1 u z).2.1, hsub _ (h1 u z).2.2.1, hsub _ (h1 u z).2.2.2⟩
          · exact ⟨hw, hc.1, ea, eb⟩
        · have := cc_add (S := S) (show w < 12 by omega) hvw; omega
      rcases hc.2 with z | z
      · rcases hvv with rfl | rfl
        · exact absurd z hx
        · exact key _ z (bf_b c S w d)
      · rcases hvv with rfl | rfl
        · exact key _ z (bf_a c S w d)
        · exact absurd z hx
    · have es : stW c X w x = x := by unfold stW; rw [if_neg hc]
      rw [es] at hv; exact absurd hv hx
theorem ia_rd (hC : CW c F W T P) {X : Int32} : ∀ (j k : Nat) (d : Nat → Nat) (x : Int32), k + j ≤ W → IA W c S X d x → IA W c S X (fo (bfW c S) k j d) (fo (stW c X) k j x)
  | 0, _, _, _, _, h => h
  | j + 1, k, d, x, hk, h => by rw [fo_s, fo_s]; exact ia_rd hC j (k + 1) _ _ (by omega) (ia_st hC (by omega) h)
theorem ia_all (hC : CW c F W T P) {X : Int32} : ∀ (j k : Nat) (d : Nat → Nat) (x : Int32), IA W c S X d x → IA W c S X (fo (fun _ d => fo (bfW c S) 0 W d) k j d) (fo (fun _ x => rnd W c X x) k j x)
  | 0, _, _, _, h => h
  | j + 1, k, d, x, h => by rw [fo_s, fo_s]; exact ia_all hC j (k + 1) _ _ (ia_rd hC W 0 _ _ (by omega) h)
theorem ia_0 {X : Int32} {f : Nat} (hf : f < 8) : IA W c S X (d0 f) (sh f) := by
  intro v hv
  rw [b_sh' (by omega)] at hv
  simp only [decide_eq_true_eq] at hv
  subst hv
  refine ⟨0, fun w hw => by rw [b_0] at hw; exact absurd hw (by decide), ?_⟩
  unfold d0; rw [if_pos rfl]; exact Nat.zero_le _
def dE (W : Nat) (c : sw_M) (S : Nat → Int32) (f : Nat) : Nat → Nat := fo (fun _ d => fo (bfW c S) 0 W d) 0 8 (d0 f)
theorem cs_A (hC : CW c F W T P) {f o m : Nat} (hf : f < 8) (hQ : plQ W c (cutS W S) f o m) : dE W c S f o ≤ csN m := by
  have hW' := hC.w12
  have h := ia_all (S := S) (X := ic m ||| cutS W S) hC 8 0 (d0 f) (sh f) (ia_0 hf)
  obtain ⟨V, h1, h2⟩ := h o hQ.2
  refine Nat.le_trans h2 ?_
  unfold cc csN
  refine su_mono 12 (fun w hw => ?_)
  by_cases z : bt V w = true
  · rw [if_pos z]
    obtain ⟨z1, z2, -⟩ := h1 w z
    rw [b_or, b_cutS hW', bt_ic (by omega)] at z2
    unfold cw
    by_cases y : S (12 + w) = 1
    · rw [if_pos y]; exact Nat.zero_le _
    · rw [if_neg y]
      simp only [y, and_false, decide_false, Bool.or_false] at z2
      rw [if_pos z2]; exact Nat.le_refl _
  · rw [if_neg z]; exact Nat.zero_le _
/-- the way that was found is a set's -/
def RB (W : Nat) (c : sw_M) (S : Nat → Int32) (f v n : Nat) : Prop := ∃ U : Int32, (∀ w, bt U w = true → w < W ∧ ¬ S (12 + w) = 1) ∧ (∀ y, Clo W c (U ||| cutS W S) y → bt y f = true → bt y v = true) ∧ cc S U ≤ n
def JB (W : Nat) (c : sw_M) (S : Nat → Int32) (f : Nat) (d : Nat → Nat) : Prop := ∀ v, d v < 1073741824 → RB W c S f v (d v)
theorem Clo.anti {x y z : Int32} (h : Clo W c y z) (hs : SubB x y) : Clo W c x z := fun w hw h1 h2 => h w hw (hs w h1) h2
theorem jb_chp (hC : CW c F W T P) {f a b w : Nat} {d : Nat → Nat} (hw : w < W) (hab : (a = eA c w ∧ b = eB c w) ∨ (a = eB c w ∧ b = eA c w)) (h : JB W c S f d) : JB W c S f (chp d a b (cw S w)) := by
  have hW' := hC.w12
  intro v hv
  unfold chp at hv ⊢
  by_cases e : v = b
  · subst e
    rw [if_pos rfl] at hv ⊢
    by_cases q : d a + cw S w < d v
    · rw [if_pos q] at hv ⊢
      obtain ⟨U, h1, h2, h3⟩ := h a (by omega)
      by_cases y : S (12 + w) = 1
      · have hcw : cw S w = 0 := by unfold cw; rw [if_pos y]
        refine ⟨U, h1, fun z hz hf => ?_, by omega⟩
        have ha := h2 z hz hf
        have := hz w hw (by rw [b_or, b_cutS hW']; simp [hw, y]) (by rcases hab with ⟨rfl, -⟩ | ⟨rfl, -⟩; exact Or.inl ha; exact Or.inr ha)
        rcases hab with ⟨-, rfl⟩ | ⟨-, rfl⟩
        · exact this.2
        · exact this.1
      · refine ⟨U ||| sh w, fun u hu => ?_, fun z hz hf => ?_, Nat.le_trans (cc_or (show w < 12 by omega)) (by omega)⟩
        · rw [b_or, b_sh' (by omega)] at hu
          simp only [Bool.or_eq_true, decide_eq_true_eq] at hu
          rcases hu with z | rfl
          · exact h1 u z
          · exact ⟨hw, y⟩
        · have ha := h2 z (hz.anti (fun i hi => by
            rw [b_or] at hi ⊢
            rw [b_or]
            simp only [Bool.or_eq_true] at hi ⊢
            rcases hi with hi | hi
            · exact Or.inl (Or.inl hi)
            · exact Or.inr hi)) hf
          have := hz w hw (by rw [b_or, b_or, b_sh' (by omega)]; simp) (by rcases hab with ⟨rfl, -⟩ | ⟨rfl, -⟩; exact Or.inl ha; exact Or.inr ha)
          rcases hab with ⟨-, rfl⟩ | ⟨-, rfl⟩
          · exact this.2
          · exact this.1
    · rw [if_neg q] at hv ⊢; exact h v hv
  · rw [if_neg e] at hv ⊢; exact h v hv
theorem jb_st (hC : CW c F W T P) {f w : Nat} {d : Nat → Nat} (hw : w < W) (h : JB W c S f d) : JB W c S f (bfW c S w d) := jb_chp hC hw (Or.inr ⟨rfl, rfl⟩) (jb_chp hC hw (Or.inl ⟨rfl, rfl⟩) h)
theorem jb_rd (hC : CW c F W T P) {f : Nat} {d : Nat → Nat} (h : JB W c S f d) : JB W c S f (fo (bfW c S) 0 W d) :=
  fo_inv (g := bfW c S) (fun _ d => JB W c S f d) W 0 d h (fun i b _ h2 hb => jb_st hC (by omega) hb)
theorem jb_0 {f : Nat} : JB W c S f (d0 f) := by
  intro v hv
  unfold d0 at hv
  by_cases e : v = f
  · subst e
    refine ⟨0, fun w hw => by rw [b_0] at hw; exact absurd hw (by decide), fun y _ hf => hf, ?_⟩
    have : cc S 0 = 0 := by
      unfold cc
      have := su_mono (t := fun w => if bt 0 w = true then cw S w else 0) (u := fun _ => 0) 12 (fun i _ => by rw [if_neg (by rw [b_0]; decide)]; exact Nat.le_refl 0)
      exact Nat.le_antisymm this (Nat.zero_le _)
    rw [this]; exact Nat.zero_le _
  · rw [if_neg e] at hv; omega
theorem jb_E (hC : CW c F W T P) (f : Nat) : JB W c S f (dE W c S f) :=
  fo_inv (g := fun _ d => fo (bfW c S) 0 W d) (fun _ d => JB W c S f d) 8 0 (d0 f) jb_0 (fun i b _ _ hb => jb_rd hC hb)
theorem cs_B (hC : CW c F W T P) {f o : Nat} (hf : f < 8) (h : dE W c S f o < 1073741824) : ∃ m, m < 2 ^ W ∧ plQ W c (cutS W S) f o m ∧ csN m ≤ dE W c S f o := by
  have hW' := hC.w12
  obtain ⟨U, h1, h2, h3⟩ := jb_E (S := S) hC f o h
  have hx : U = ic U.toBitVec.toNat := by
    refine Int32.toBitVec_inj.mp ?_
    show _ = BitVec.ofNat 32 U.toBitVec.toNat
    simp
  have hn : U.toBitVec.toNat < 2 ^ W := by
    refine Nat.lt_pow_two_of_testBit (n := W) _ (fun i hi => ?_)
    cases z : U.toBitVec.toNat.testBit i
    · rfl
    · have : bt U i = true := z
      have := (h1 i this).1; omega
  refine ⟨U.toBitVec.toNat, hn, ⟨?_, ?_⟩, ?_⟩
  · rw [← hx]
    refine b_ext (fun i _ => ?_)
    rw [b_and, b_cutS hW', b_0]
    cases z : bt U i
    · rfl
    · have := (h1 i z).2
      simp [this]
  · rw [← hx]
    exact h2 _ (pa_clo hC hf) (pa_f hf 8)
  · refine Nat.le_trans ?_ h3
    unfold cc csN
    refine su_mono 12 (fun w hw => ?_)
    by_cases z : U.toBitVec.toNat.testBit w = true
    · have z' : bt U w = true := z
      rw [if_pos z, if_pos z']
      unfold cw
      rw [if_neg (h1 w z').2]; exact Nat.le_refl _
    · rw [if_neg z]; exact Nat.zero_le _
theorem cs_M (hC : CW c F W T P) {f o : Nat} (hf : f < 8) {v : Int32} (hv : plB W c (cutS W S) f o (2 ^ W) v) : (if dE W c S f o < 1073741824 then ic (dE W c S f o % 4096) else -1) = v := by
  have hW' := hC.w12
  have h2 : 2 ^ W ≤ 4096 := Nat.pow_le_pow_right (n := 2) (by decide) (show W ≤ 12 from hW')
  rcases hv with ⟨rfl, hv⟩ | ⟨m, hm, rfl, hQ, hv⟩
  · rw [if_neg]
    intro z
    obtain ⟨m, hm, hQ, -⟩ := cs_B hC hf z
    exact hv m hm hQ
  · have hA := cs_A hC hf hQ
    obtain ⟨cm, om⟩ := cs_e (n := m) (by omega)
    have hlt : dE W c S f o < 1073741824 := by omega
    rw [if_pos hlt]
    obtain ⟨u, hu, hQ2, hle⟩ := cs_B hC hf hlt
    have := hv u hu hQ2
    congr 1
    omega
end
theorem op_pliers {N : Nat} {μ : sw_M} (hN : 5000 ≤ N) (hI : Inv μ) (a1 a2 : Int32) : OpN (f_x_pliers N μ a1 a2) (fun μ1 => f_m_pliers N μ1 a1 a2) := by
  obtain ⟨F, W, T, P, K, O, nl, nb, n, m, hQ, hR⟩ := id hI
  have hC := hQ.1
  have hF' := hC.f8; have hW' := hC.w12; have hT' := hC.t6; have hP' := hC.p5
  have hX : XR μ μ := ⟨rfl, rfl, rfl, rfl, rfl, rfl, rfl, rfl⟩
  have x0 := hX.nF hC; have x1 := hX.nW hC; have x2 := hX.nT hC; have x3 := hX.nP hC
  have m21 := hQ.2.1.nF; have m22 := hQ.2.1.nW; have m23 := hQ.2.1.nT; have m24 := hQ.2.1.nP
  have z1 : ∀ i, (wr (xr μ i) 63 0 0) 63 0 = 0 := fun _ => rfl
  rcases wn_dec a1 (n := F) (by omega) with ⟨f, hf, rfl, hg⟩ | hg
  · rcases wn_dec a2 (n := F) (by omega) with ⟨o, ho, rfl, hz⟩ | hz
    · left
      obtain ⟨-, -, hS, hD, -, -, -⟩ := qm_ctx hQ
      obtain ⟨g1, e1⟩ := lp_cut2 hN hC hX hS hD (f := f) (o := o) (by omega) (by omega) 8 0 (μ 50) N (by omega) (by omega) (fun i hi => by omega)
      rw [wrR_self] at e1
      have f1 : SX μ (wrR μ 50 g1) := (SX.rf μ).wrR g1 (by decide) (by decide)
      obtain ⟨hS', hM', hL'⟩ := qm_ctx2 hQ f1
      have hQ1 := hQ.sx f1
      have e3 := e_m_cutNow hN hC hM' hS'
      rw [qm_81 f1] at e3
      obtain ⟨v, e2, hv⟩ := lp_m_pliers hN hC hM' (f := f) (o := o) (by omega) (cutS W ((qm μ) 81)) (2 ^ W) 0 (-1) N (by omega) (by have := Nat.pow_le_pow_right (n := 2) (by decide) (show W ≤ 12 from hW'); omega) (Or.inl ⟨rfl, fun m hm => by omega⟩)
      have hv2 := cs_M hC (f := f) (by omega) hv
      unfold dE at hv2
      rw [hv2] at e1
      refine ⟨v, wrR μ 50 g1, qm (wrR μ 50 g1), ?_, ?_, qm_0 _, (hI.sx f1).sm (qm_sm _)⟩
      · have e1' : f_ways_fewestCuts N μ (ic f) (ic o) = some (v, wrR μ 50 g1) := e1
        unfold f_x_pliers; rw [g_needField_1 x0 hg, tb_l, g_needField_1 x0 hz, tb_l, e1', ob_e]
      · show f_m_pliers N (wrR μ 50 g1) (ic f) (ic o) = _
        unfold f_m_pliers; rw [wb_e, h_isField_1 (μ := wr (wrR μ 50 g1) 63 0 0) hQ1.2.1.nF rfl hg, ob_e, if_neg o1, h_isField_1 (μ := wr (wrR μ 50 g1) 63 0 0) hQ1.2.1.nF rfl hz, ob_e, if_neg o1, e_q_take hN, ob_e, e3, ob_e]
        exact e2
    · right
      refine ⟨xr μ 0, 0, mr (xr μ 0) 0 1, ?_, ?_, rfl, hI.rr (by decide) 1⟩
      · unfold f_x_pliers; rw [g_needField_1 x0 hg, tb_l, g_needField_0 x0 hz, tb_r]; rfl
      · show f_m_pliers N (xr μ 0) (ic f) a2 = _
        unfold f_m_pliers; rw [wb_e, h_isField_1 (μ := wr (xr μ 0) 63 0 0) m21 (z1 0) hg, ob_e, if_neg o1, h_isField_0 (μ := wr (xr μ 0) 63 0 0) m21 (z1 0) hz, ob_e, if_pos rfl]; rfl
  · right
    refine ⟨xr μ 0, 0, mr (xr μ 0) 0 1, ?_, ?_, rfl, hI.rr (by decide) 1⟩
    · unfold f_x_pliers; rw [g_needField_0 x0 hg, tb_r]; rfl
    · show f_m_pliers N (xr μ 0) a1 a2 = _
      unfold f_m_pliers; rw [wb_e, h_isField_0 (μ := wr (xr μ 0) 63 0 0) m21 (z1 0) hg, ob_e, if_pos rfl]; rfl
