/-! ===== printed by wip/whole/gen79f.py: fits, the reference's side ===== -/
def BR (ν : sw_M) (bk bv : Nat → Int32) (nb : Nat) : Prop := (∀ i, i < nb → ∃ k v : Nat, k ≤ 40 ∧ v ≤ 12 ∧ bk i = ic k ∧ bv i = ic v ∧ ν 84 k = ic v) ∧ (∀ k, k ≤ 40 → ν 84 k = -1 ∨ ∃ i, i < nb ∧ bk i = ic k)
theorem lp_isFit {N : Nat} {μ c : sw_M} {F W T P : Nat} (hN : 5000 ≤ N) (hC : CW c F W T P) (hM : MR μ c F W T P) (hS : WS F W T P (μ 81)) {w x : Nat} (hw : w < W) : ∀ (j k : Nat) (x3 : Int32) (n : Nat), k + j = 41 → j < n → (x3 = 0 ∨ x3 = 1) → ∃ r, f_m_isFit_21 N μ n (ic w) (ic x) x3 (ic k) = some r ∧ (r = 0 ∨ r = 1) ∧ (r = 1 ↔ (x3 = 1 ∧ ∀ i, k ≤ i → i ≤ 40 → (μ 84 i = -1 ∨ mvN W (μ 81) (ic i) w (ic x) = μ 84 i)))
  | 0, k, x3, n, hk, hn, hx => by
    obtain ⟨n, rfl⟩ := fu_s hn
    refine ⟨x3, ?_, hx, ⟨fun z => ⟨z, fun i h1 h2 => by omega⟩, fun z => z.1⟩⟩
    rw [f_m_isFit_21, if_pos (by rw [lit_lt (by decide) (by omega)]; omega)]
    rcases hx with rfl | rfl
    · rfl
    · rfl
  | j + 1, k, x3, n, hk, hn, hx => by
    obtain ⟨n, rfl⟩ := fu_s (show 0 < n by omega)
    have e1 := e_manyLive hN hC hM hS hw (ic k) (ic x)
    rcases hx with rfl | rfl
    · refine ⟨0, ?_, Or.inl rfl, ⟨fun z => absurd z (by decide), fun z => absurd z.1 (by decide)⟩⟩
      rw [f_m_isFit_21, if_neg (by rw [lit_lt (by decide) (by omega)]; omega), if_pos rfl]; rfl
    · have hst : f_m_isFit_21 N μ (n + 1) (ic w) (ic x) 1 (ic k) = if μ 84 k = -1 ∨ mvN W (μ 81) (ic k) w (ic x) = μ 84 k then f_m_isFit_21 N μ n (ic w) (ic x) 1 (ic (k + 1)) else f_m_isFit_21 N μ n (ic w) (ic x) 0 (ic (k + 1)) := by
        rw [f_m_isFit_21, if_neg (by rw [lit_lt (by decide) (by omega)]; omega), if_neg (by decide), inb_e (by omega) (by decide), ic_n (by omega), e1, ob_e, inb_e (by omega) (by decide)]
        unfold f_m_isFit_61 f_m_isFit_66
        rw [ic_1]
        by_cases a : μ 84 k = -1
        · rw [if_pos a, if_pos (Or.inl a)]
        · by_cases b : mvN W (μ 81) (ic k) w (ic x) = μ 84 k
          · rw [if_neg a, if_pos b, if_pos (Or.inr b)]
          · rw [if_neg a, if_neg b, if_neg (fun z => z.elim a b)]
      by_cases q : μ 84 k = -1 ∨ mvN W (μ 81) (ic k) w (ic x) = μ 84 k
      · obtain ⟨r, h1, h2, h3⟩ := lp_isFit hN hC hM hS (x := x) hw j (k + 1) 1 n (by omega) (by omega) (Or.inr rfl)
        refine ⟨r, by rw [hst, if_pos q, h1], h2, ?_⟩
        rw [h3]
        refine ⟨fun z => ⟨rfl, fun i h4 h5 => ?_⟩, fun z => ⟨rfl, fun i h4 h5 => z.2 i (by omega) h5⟩⟩
        by_cases e : i = k
        · subst e; exact q
        · exact z.2 i (by omega) h5
      · obtain ⟨r, h1, h2, h3⟩ := lp_isFit hN hC hM hS (x := x) hw j (k + 1) 0 n (by omega) (by omega) (Or.inl rfl)
        refine ⟨r, by rw [hst, if_neg q, h1], h2, ?_⟩
        rw [h3]
        exact ⟨fun z => absurd z.1 (by decide), fun z => absurd (z.2 k (Nat.le_refl k) (by omega)) q⟩
theorem e_isFit {N : Nat} {μ c : sw_M} {F W T P : Nat} (hN : 5000 ≤ N) (hC : CW c F W T P) (hM : MR μ c F W T P) (hS : WS F W T P (μ 81)) {bk bv : Nat → Int32} {nb : Nat} (hB : BR μ bk bv nb) {w x : Nat} (hw : w < W) : f_m_isFit N μ (ic w) (ic x) = some (b2 (fit W (μ 81) bk bv nb w x)) := by
  have hW' := hC.w12
  have heq : (∀ i, 0 ≤ i → i ≤ 40 → (μ 84 i = -1 ∨ mvN W (μ 81) (ic i) w (ic x) = μ 84 i)) ↔ ∀ i, i < nb → mvN W (μ 81) (bk i) w (ic x) = bv i := by
    refine ⟨fun z i hi => ?_, fun z k _ hk => ?_⟩
    · obtain ⟨k, v, h1, h2, h3, h4, h5⟩ := hB.1 i hi
      rcases z k (Nat.zero_le k) h1 with y | y
      · rw [h5, ic_m1 (by omega)] at y; exact y.elim
      · rw [h3, h4, y, h5]
    · rcases hB.2 k hk with y | ⟨i, hi, y⟩
      · exact Or.inl y
      · obtain ⟨k', v, h1, h2, h3, h4, h5⟩ := hB.1 i hi
        have : k = k' := by rw [h3, ic_eq (by omega) (by omega)] at y; exact y.symm
        subst this
        right; rw [h5, ← h4, ← z i hi, h3]
  unfold f_m_isFit f_m_isFit_17
  have ct := hS.ct0 hw
  rw [lit_add, inb_e (by omega) (by decide), ic_n (by omega)]
  by_cases hc : (μ 81) (12 + w) = 1
  · obtain ⟨r, h1, h2, h3⟩ := lp_isFit hN hC hM hS (x := x) hw 41 0 0 N (by omega) (by omega) (Or.inl rfl)
    rw [if_neg (by rw [ct]; exact fun z => z hc), b2_n (fun z => z.1 hc)]
    have hr : r = 0 := by
      rcases h2 with z | z
      · exact z
      · exact absurd (h3.mp z).1 (by decide)
    rw [hr] at h1; exact h1
  · obtain ⟨r, h1, h2, h3⟩ := lp_isFit hN hC hM hS (x := x) hw 41 0 1 N (by omega) (by omega) (Or.inr rfl)
    rw [if_pos (by rw [ct]; exact hc)]
    have h1' : f_m_isFit_21 N μ N (ic w) (ic x) 1 0 = some r := h1
    rw [h1']
    rw [heq] at h3
    by_cases y : fit W (μ 81) bk bv nb w x
    · rw [b2_p y, h3.mpr ⟨rfl, y.2⟩]
    · rw [b2_n y]
      rcases h2 with z | z
      · rw [z]
      · exact absurd ⟨hc, (h3.mp z).2⟩ y
def fsL : List (Nat × Nat) → Int32
  | [] => -1
  | p :: _ => ic (100 * p.1 + p.2)
def BdL (W : Nat) (l : List (Nat × Nat)) : Prop := ∀ p, p ∈ l → p.1 < W ∧ p.2 ≤ 20
theorem BdL.add {W : Nat} {l : List (Nat × Nat)} (h : BdL W l) {w x : Nat} (hw : w < W) (hx : x ≤ 20) : BdL W (l ++ [(w, x)]) := by
  intro p hp
  rw [List.mem_append] at hp
  rcases hp with z | z
  · exact h p z
  · rw [List.mem_singleton] at z; subst z; exact ⟨hw, hx⟩
theorem fsL_n {W : Nat} (hW : W ≤ 12) {l : List (Nat × Nat)} (h : BdL W l) (hne : l ≠ []) : ¬ fsL l = -1 := by
  cases l with
  | nil => exact absurd rfl hne
  | cons p l =>
    have := h p List.mem_cons_self
    show ¬ ic (100 * p.1 + p.2) = -1
    rw [ic_m1 (by omega)]; exact id
theorem fsL_a {l : List (Nat × Nat)} (hne : l ≠ []) (q : List (Nat × Nat)) : fsL (l ++ q) = fsL l := by
  cases l with
  | nil => exact absurd rfl hne
  | cons p l => rfl
theorem lp_fits45 {N : Nat} {μ c : sw_M} {F W T P : Nat} (hN : 5000 ≤ N) (hC : CW c F W T P) (hM : MR μ c F W T P) (hS : WS F W T P (μ 81)) {bk bv : Nat → Int32} {nb : Nat} (hB : BR μ bk bv nb) {w : Nat} (hw : w < W) (x1 : Int32) (K : sw_M → Int32 → Int32 → Int32 → Int32 → Option (Int32 × sw_M)) : ∀ (j k : Nat) (l : List (Nat × Nat)) (n : Nat), k + j = 21 → j < n → BdL W l → f_m_fits_45 N K n μ x1 (ic l.length) (fsL l) (ic w) (ic k) = K μ x1 (ic (fo (fun x l => pl W (μ 81) bk bv nb w x l) k j l).length) (fsL (fo (fun x l => pl W (μ 81) bk bv nb w x l) k j l)) (ic (w + 1)) ∧ BdL W (fo (fun x l => pl W (μ 81) bk bv nb w x l) k j l)
  | 0, k, l, n, hk, hn, hl => by
    obtain ⟨n, rfl⟩ := fu_s hn
    refine ⟨?_, hl⟩
    rw [f_m_fits_45, if_pos (by rw [lit_lt (by decide) (by omega)]; omega), ic_1, fo_0]
  | j + 1, k, l, n, hk, hn, hl => by
    have hW' := hC.w12
    obtain ⟨n, rfl⟩ := fu_s (show 0 < n by omega)
    have e1 := e_isFit hN hC hM hS hB (x := k) hw
    have ih := fun l hl => lp_fits45 hN hC hM hS hB hw x1 K j (k + 1) l n (by omega) (by omega) hl
    rw [f_m_fits_45, if_neg (by rw [lit_lt (by decide) (by omega)]; omega), e1, ob_e, fo_s]
    simp only [b2_0]
    by_cases q : fit W (μ 81) bk bv nb w k
    · have ep : pl W (μ 81) bk bv nb w k l = l ++ [(w, k)] := by unfold pl; rw [if_pos q]
      rw [if_neg (fun z => z q), ib_e, ep]
      have := ih (l ++ [(w, k)]) (hl.add hw (by omega))
      rw [List.length_append, show [(w, k)].length = 1 from rfl] at this
      unfold f_m_fits_86
      rw [ic_1, ic_1, lit_mul, ic_add]
      by_cases e : l = []
      · subst e
        rw [if_pos (show fsL [] = -1 from rfl)]
        exact this
      · rw [if_neg (fsL_n hW' hl e)]
        rw [fsL_a e] at this
        exact this
    · have ep : pl W (μ 81) bk bv nb w k l = l := by unfold pl; rw [if_neg q]
      rw [if_pos q, ep, ic_1]
      exact ih l hl
theorem lp_fits33 {N : Nat} {μ c : sw_M} {F W T P : Nat} (hN : 5000 ≤ N) (hC : CW c F W T P) (hM : MR μ c F W T P) (hS : WS F W T P (μ 81)) {bk bv : Nat → Int32} {nb : Nat} (hB : BR μ bk bv nb) (x1 : Int32) : ∀ (j k : Nat) (l : List (Nat × Nat)) (n : Nat), k + j = W → j < n → BdL W l → f_m_fits_33 N n μ x1 (ic l.length) (fsL l) (ic k) = some (if x1 = 0 then ic (fo (fun w l => plW W (μ 81) bk bv nb w l) k j l).length else fsL (fo (fun w l => plW W (μ 81) bk bv nb w l) k j l), μ)
  | 0, k, l, n, hk, hn, hl => by
    have hW' := hC.w12; have nW := hM.nW
    obtain ⟨n, rfl⟩ := fu_s hn
    rw [f_m_fits_33, nW, if_pos (by rw [ic_le (by omega) (by omega)]; omega), fo_0]
    split <;> rfl
  | j + 1, k, l, n, hk, hn, hl => by
    have hW' := hC.w12; have nW := hM.nW
    obtain ⟨n, rfl⟩ := fu_s (show 0 < n by omega)
    obtain ⟨h1, h2⟩ := lp_fits45 hN hC hM hS hB (w := k) (by omega) x1 (f_m_fits_33 N n) 20 1 l N (by omega) (by omega) hl
    rw [f_m_fits_33, nW, if_neg (by rw [ic_le (by omega) (by omega)]; omega), fo_s]
    have h1' : f_m_fits_45 N (f_m_fits_33 N n) N μ x1 (ic l.length) (fsL l) (ic k) 1 = _ := h1
    rw [h1']
    exact lp_fits33 hN hC hM hS hB x1 j (k + 1) _ n (by omega) (by omega) h2
theorem prs_bd {W : Nat} {S bk bv : Nat → Int32} {nb : Nat} : BdL W (prs W S bk bv nb) :=
  fo_inv (g := fun w l => plW W S bk bv nb w l) (fun _ l => BdL W l) W 0 [] (fun p hp => by simp at hp) (fun w l _ hw hl =>
    fo_inv (g := fun x l => pl W S bk bv nb w x l) (fun _ l => BdL W l) 20 1 l hl (fun x l _ hx hl => by
      unfold pl; split
      · exact hl.add (by omega) (by omega)
      · exact hl))
theorem prs_ft {W : Nat} {S bk bv : Nat → Int32} {nb : Nat} : ∀ p, p ∈ prs W S bk bv nb → ¬ S (12 + p.1) = 1 :=
  fo_inv (g := fun w l => plW W S bk bv nb w l) (fun _ l => ∀ p, p ∈ l → ¬ S (12 + p.1) = 1) W 0 [] (fun p hp => by simp at hp) (fun w l _ hw hl =>
    fo_inv (g := fun x l => pl W S bk bv nb w x l) (fun _ l => ∀ p, p ∈ l → ¬ S (12 + p.1) = 1) 20 1 l hl (fun x l _ hx hl => by
      unfold pl; split
      · next z =>
        intro p hp
        rw [List.mem_append] at hp
        rcases hp with y | y
        · exact hl p y
        · rw [List.mem_singleton] at y; subst y; exact z.1
      · exact hl))
theorem QI.br {μ μ' : sw_M} {F W T P : Nat} {K O : Nat → Int32} {nl nb : Nat} (h : QI μ F W T P K O nl nb) (r84 : μ' 84 = μ 84) : BR μ' (μ 30) (μ 31) nb := by
  unfold BR; rw [r84]; exact h.2.2.2.2.2.2.2.2.2
theorem op_fits {N : Nat} {μ : sw_M} (hN : 5000 ≤ N) (hI : Inv μ) (a1 : Int32) : OpI (f_x_fits N μ a1) (fun μ1 => f_m_fits N μ1 a1) := by
  obtain ⟨F, W, T, P, K, O, nl, nb, n, m, hQ, hR⟩ := id hI
  have hC := hQ.1
  have hF' := hC.f8; have hW' := hC.w12; have hT' := hC.t6; have hP' := hC.p5
  have hX : XR μ μ := ⟨rfl, rfl, rfl, rfl, rfl, rfl, rfl, rfl⟩
  have x0 := hX.nF hC; have x1 := hX.nW hC; have x2 := hX.nT hC; have x3 := hX.nP hC
  have m21 := hQ.2.1.nF; have m22 := hQ.2.1.nW; have m23 := hQ.2.1.nT; have m24 := hQ.2.1.nP
  have z1 : ∀ i, (wr (xr μ i) 63 0 0) 63 0 = 0 := fun _ => rfl
  rcases wn_dec2 a1 (n := 1) (by decide) with ⟨k, hk, rfl, hz⟩ | hz
  · left
    have hz : 0 ≤ ic k ∧ ic k ≤ 1 := hz
    obtain ⟨-, -, hS, hD, -, -, -⟩ := qm_ctx hQ
    obtain ⟨hb8, h29, h46, hb1, hb2⟩ := hQ.2.2.2.2.2.2
    obtain ⟨μ1, e1, f1, hp, hl⟩ := e_collect hN hC hX hS hD hb8 h29 (fun i hi => by obtain ⟨k, v, h1, -, h3, -⟩ := hb1 i hi; exact ⟨k, h1, h3⟩)
    have fx : SX μ μ1 := ⟨fun a _ _ _ h => f1 a (by omega), fun j _ => by rw [f1 19 (by decide)]⟩
    obtain ⟨hS', hM', hL'⟩ := qm_ctx2 hQ fx
    have hB : BR (qm μ1) (μ 30) (μ 31) nb := hQ.br (f1 84 (by decide))
    have e2 := lp_fits33 hN hC hM' hS' hB (ic k) W 0 [] N (by omega) (by omega) (fun p hp => by simp at hp)
    rw [qm_81 fx] at e2
    have z0 : (wr μ1 63 0 0) 63 0 = 0 := rfl
    have hbd := prs_bd (W := W) (S := (qm μ) 81) (bk := μ 30) (bv := μ 31) (nb := nb)
    refine ⟨if ic k = 0 then ic (prs W ((qm μ) 81) (μ 30) (μ 31) nb).length else fsL (prs W ((qm μ) 81) (μ 30) (μ 31) nb), μ1, qm μ1, ?_, ?_, qm_0 μ1, (hI.sx fx).sm (qm_sm μ1)⟩
    · have ef : f_guess_firstPair N μ1 = some (fsL (prs W ((qm μ) 81) (μ 30) (μ 31) nb)) := by
        unfold f_guess_firstPair
        rw [hp.1]
        generalize prs W ((qm μ) 81) (μ 30) (μ 31) nb = l at hp hl hbd
        cases l with
        | nil => rw [if_pos (show ic ([] : List (Nat × Nat)).length = 0 from rfl)]; rfl
        | cons p l =>
          have hb := hbd p List.mem_cons_self
          obtain ⟨g1, g2⟩ := hp.2 0 (by simp)
          rw [if_neg (by rw [eq_lit (by decide) (by omega)]; simp), inb_lit (by decide) (by decide), inb_lit (by decide) (by decide), n_lit (by decide), g1, g2, lit_mul, ic_add]
          rfl
      unfold f_x_fits
      rw [g_needWhat_1 hz, tb_l, e1, ob_e, ef, ob_e, hp.1]
      split <;> rfl
    · show f_m_fits N μ1 (ic k) = _
      unfold f_m_fits; rw [wb_e, withinm_e, ob_e, b2_p hz, may_1 (by decide) z0, ob_e, if_neg o1, e_q_take hN, ob_e]; exact e2
  · right
    have hz : ¬ (0 ≤ a1 ∧ a1 ≤ 1) := hz
    refine ⟨xr μ 1, 0, mr (xr μ 1) 1 1, ?_, ?_, rfl, hI.rr (by decide) 1⟩
    · unfold f_x_fits; rw [g_needWhat_0 hz, tb_r]; rfl
    · show f_m_fits N (xr μ 1) a1 = _
      unfold f_m_fits; rw [wb_e, withinm_e, ob_e, b2_n hz, may_i (by decide) (z1 1), ob_e, if_pos rfl]; rfl
