/-! ===== the run: brackets, and the run as a whole ===== -/
def RP (c : sw_M) (F W T P : Nat) (K O : Nat → Int32) (nl n x : Nat) (qs : sw_M → Int32 → Int32 → Int32 → Option sw_M) (q : sw_M → Int32 → Int32 → Option sw_M) : Prop :=
  ∀ μ ν a b g, WE μ ν x a b → b ≤ n → RS c μ ν F W T P K O nl n → RC μ ν F W T P g → ∃ μ' ν' g', qs μ (ic a) (ic b) (ic x) = some μ' ∧ q ν (ic (3 * a)) (ic (3 * b)) = some ν' ∧ XU μ μ' ∧ MU ν ν' ∧ RC μ' ν' F W T P g'
theorem WE.xm {μ ν μ' ν' : sw_M} {x a b : Nat} (h : WE μ ν x a b) (p : XU μ μ') (m : MU ν ν') : WE μ' ν' x a b := h.cg (fun i _ _ => ⟨by rw [p.1 42 (by decide) (by decide) (by decide) (by decide)], by rw [p.1 44 (by decide) (by decide) (by decide) (by decide)], by rw [m.1 78 (by decide) (by decide) (by decide) (by decide)]⟩)
theorem lp_again {N : Nat} {c : sw_M} {F W T P : Nat} {K O : Nat → Int32} {nl n x a e k : Nat} (qs qa : sw_M → Int32 → Int32 → Int32 → Option sw_M) (q k2 : sw_M → Int32 → Int32 → Option sw_M) (hf : RP c F W T P K O nl n (x + 1) qs q) (hk : k ≤ 40) (he : e ≤ n) (hn : n ≤ 40) (ha : a < n) (x2 : Int32) :
    ∀ (j i : Nat) (μ ν : sw_M) (g u u2 : Nat), i + j = k → j < u → j < u2 → WE μ ν (x + 1) (a + 1) e → RS c μ ν F W T P K O nl n → RC μ ν F W T P g → ν 79 (3 * a + 1) = ic k →
    ∃ μ' ν' g', f_work_runAgain_20 N qs qa u μ (ic a) (ic e) (ic x) (ic k) (ic i) = some μ' ∧ f_m_goesSteps_51 N q k2 u2 ν x2 (ic (3 * a)) (ic (3 * e)) (ic i) = k2 ν' x2 (ic (3 * e)) ∧ XU μ μ' ∧ MU ν ν' ∧ RC μ' ν' F W T P g' := by
  intro j
  induction j with
  | zero =>
    intro i μ ν g u u2 hi hu hu2 hW hS hR h79
    obtain ⟨u, rfl⟩ := fu_s hu
    obtain ⟨u2, rfl⟩ := fu_s hu2
    refine ⟨μ, ν, g, ?_, ?_, XU.rf μ, MU.rf ν, hR⟩
    · rw [f_work_runAgain_20, if_pos (show ic k ≤ ic i by rw [ic_le (by omega) (by omega)]; omega)]
    · rw [f_m_goesSteps_51, add_lit, inb_e (by omega) (by decide), ic_n (by omega), h79, if_pos (show ic k ≤ ic i by rw [ic_le (by omega) (by omega)]; omega)]; rfl
  | succ j ih =>
    intro i μ ν g u u2 hi hu hu2 hW hS hR h79
    obtain ⟨u, rfl⟩ := fu_s (show 0 < u by omega)
    obtain ⟨u2, rfl⟩ := fu_s (show 0 < u2 by omega)
    have hR' := hR
    obtain ⟨r1, r2, r3, r4, r5, r6, r7⟩ := hR
    have nl1 : ¬ ic k ≤ ic i := by rw [ic_le (by omega) (by omega)]; omega
    by_cases hg : g < 200
    · have ng : ¬ (200 : Int32) ≤ ic g := by rw [lit_le (by decide) (by omega)]; show ¬ 200 ≤ g; omega
      obtain ⟨μ1, ν1, g1, a1, a2, a3, a4, a5⟩ := hf μ ν (a + 1) e g hW he hS hR'
      obtain ⟨μ2, ν2, g2, b1, b2, b3, b4, b5⟩ := ih (i + 1) μ1 ν1 g1 u u2 (by omega) (by omega) (by omega) (hW.xm a3 a4) (hS.fr a3 a4) a5 (by rw [a4.1 79 (by decide) (by decide) (by decide) (by decide)]; exact h79)
      refine ⟨μ2, ν2, g2, ?_, ?_, a3.tr b3, a4.tr b4, b5⟩
      · rw [f_work_runAgain_20, if_neg nl1, r3, if_neg ng, ic_1 a, ic_1 x, a1, ob_e, ic_1 i, b1]
      · rw [f_m_goesSteps_51, add_lit, inb_e (by omega) (by decide), ic_n (by omega), h79, if_neg nl1, r4, if_neg ng, add_lit, show 3 * a + 3 = 3 * (a + 1) from rfl, a2, ob_e, ic_1 i, b2]
    · have hg2 : g = 200 := by omega
      subst hg2
      refine ⟨μ, ν, 200, ?_, ?_, XU.rf μ, MU.rf ν, hR'⟩
      · rw [f_work_runAgain_20, if_neg nl1, r3, if_pos (by decide)]
      · rw [f_m_goesSteps_51, add_lit, inb_e (by omega) (by decide), ic_n (by omega), h79, if_neg nl1, r4, if_pos (by decide)]; rfl
theorem lp_run {N : Nat} {c : sw_M} {F W T P : Nat} {K O : Nat → Int32} {nl n x b : Nat} (qs qs' qa' : sw_M → Int32 → Int32 → Int32 → Option sw_M) (q : sw_M → Int32 → Int32 → Option sw_M) (hN : 5000 ≤ N) (hC : CW c F W T P) (hn : n ≤ 40) (hb : b ≤ n) (hf : x < 6 → RP c F W T P K O nl n (x + 1) qs' q) :
    ∀ (f : Nat) (μ ν : sw_M) (a g u u2 : Nat), WF μ ν f x a b → b - a < u → b - a < u2 → RS c μ ν F W T P K O nl n → RC μ ν F W T P g →
    ∃ μ' ν' g', f_work_runSteps_3 N qs (f_work_runAgain_b N qs' qa') u μ (ic b) (ic x) (ic a) = some μ' ∧ f_m_goesSteps_2 N q u2 ν (ic (3 * b)) (ic (3 * a)) = some ν' ∧ XU μ μ' ∧ MU ν ν' ∧ RC μ' ν' F W T P g' := by
  have done : ∀ (μ ν : sw_M) (g u u2 : Nat), 0 < u → 0 < u2 → RC μ ν F W T P g → ∃ μ' ν' g', f_work_runSteps_3 N qs (f_work_runAgain_b N qs' qa') u μ (ic b) (ic x) (ic b) = some μ' ∧ f_m_goesSteps_2 N q u2 ν (ic (3 * b)) (ic (3 * b)) = some ν' ∧ XU μ μ' ∧ MU ν ν' ∧ RC μ' ν' F W T P g' := by
    intro μ ν g u u2 hu hu2 hR
    obtain ⟨u, rfl⟩ := fu_s hu
    obtain ⟨u2, rfl⟩ := fu_s hu2
    refine ⟨μ, ν, g, ?_, ?_, XU.rf μ, MU.rf ν, hR⟩
    · rw [f_work_runSteps_3, if_pos (show ic b ≤ ic b by rw [ic_le (by omega) (by omega)]; omega)]
    · rw [f_m_goesSteps_2, if_pos (show ic (3 * b) ≤ ic (3 * b) by rw [ic_le (by omega) (by omega)]; omega)]
  intro f
  induction f with
  | zero =>
    intro μ ν a g u u2 hF hu hu2 hS hR
    have hF : a = b := hF
    subst hF
    exact done μ ν g u u2 (by omega) (by omega) hR
  | succ f ih =>
    intro μ ν a g u u2 hF hu hu2 hS hR
    have hwe : WE μ ν x a b := ⟨_, hF⟩
    rcases WF.s.mp hF with hF | ⟨hlt, hF⟩
    · subst hF
      exact done μ ν g u u2 (by omega) (by omega) hR
    obtain ⟨u, rfl⟩ := fu_s (show 0 < u by omega)
    obtain ⟨u2, rfl⟩ := fu_s (show 0 < u2 by omega)
    have hR' := hR
    obtain ⟨r1, r2, r3, r4, r5, r6, r7⟩ := hR
    have nl1 : ¬ ic b ≤ ic a := by rw [ic_le (by omega) (by omega)]; omega
    have nl3 : ¬ ic (3 * b) ≤ ic (3 * a) := by rw [ic_le (by omega) (by omega)]; omega
    by_cases hg : g < 200
    rotate_left
    · have hg2 : g = 200 := by omega
      subst hg2
      refine ⟨μ, ν, 200, ?_, ?_, XU.rf μ, MU.rf ν, hR'⟩
      · rw [f_work_runSteps_3, if_neg nl1, r3, if_pos (by decide)]
      · rw [f_m_goesSteps_2, if_neg nl3, r4, if_pos (by decide)]
    rcases hF with ⟨h6, hF⟩ | ⟨h6, hx, e, e44, e78, hae, heb, hF1, hF2⟩
    · obtain ⟨μ1, ν1, a1, a2, a3, a4, a5⟩ := run_plain (x := x) (u := u) (u2 := u2) qs (f_work_runAgain_b N qs' qa') q hN hC hS hR' hg hlt hb hn h6
      have hF' : WF μ1 ν1 f x (a + 1) b := WF.cg f _ _ _ hF (fun i _ _ => ⟨by rw [a3.1 42 (by decide) (by decide) (by decide) (by decide)], by rw [a3.1 44 (by decide) (by decide) (by decide) (by decide)], by rw [a4.1 78 (by decide) (by decide) (by decide) (by decide)]⟩)
      obtain ⟨μ2, ν2, g2, b1, b2, b3, b4, b5⟩ := ih μ1 ν1 (a + 1) (g + 1) u u2 hF' (by omega) (by omega) (hS.fr a3 a4) a5
      exact ⟨μ2, ν2, g2, a1.trans b1, a2.trans b2, a3.tr b3, a4.tr b4, b5⟩
    · have ng : ¬ (200 : Int32) ≤ ic g := by rw [lit_le (by decide) (by omega)]; show ¬ 200 ≤ g; omega
      obtain ⟨μ1, hμ1⟩ : ∃ y : sw_M, y = wr μ 41 6 (ic (g + 1)) := ⟨_, rfl⟩
      obtain ⟨ν1, hν1⟩ : ∃ y : sw_M, y = wr ν 63 38 (ic (g + 1)) := ⟨_, rfl⟩
      have xu1 : XU μ μ1 := by rw [hμ1]; exact (XU.rf μ).w 6 _ (by decide)
      have mu1 : MU ν ν1 := by rw [hν1]; exact (MU.rf ν).w 38 _ (by decide)
      have hR1 : RC μ1 ν1 F W T P (g + 1) := by
        rw [hμ1, hν1]; exact ⟨r1, r2, rfl, rfl, by omega, r6, r7⟩
      have hS1 := hS.fr xu1 mu1
      obtain ⟨k, m, g1, g2, g3, g4, g5⟩ := hS1.2.2.2.2.1.2.2 a (by omega)
      have e42 : μ1 42 a = 6 := by rw [hμ1]; exact h6
      have e44' : μ1 44 a = ic e := by rw [hμ1]; exact e44
      have hk : k = 6 ∧ m ≤ 40 := by
        rcases g5 with z | ⟨bb, -, -, z⟩
        · exact z
        · exfalso
          have hk5 : k ≤ 5 := by unfold SA at z; omega
          rw [e42] at g1
          have q1 : ic 6 = ic k := g1
          rw [ic_eq (by omega) (by omega)] at q1; omega
      obtain ⟨rfl, hm⟩ := hk
      have e79 : ∀ j, j < 3 * n → ν1 79 j = ν1 78 j := hS1.2.2.2.2.2
      have v0 : ν1 79 (3 * a) = 6 := by rw [e79 _ (by omega)]; exact g3
      have v1 : ν1 79 (3 * a + 1) = ic m := by rw [e79 _ (by omega)]; exact g4
      have v2 : ν1 79 (3 * a + 2) = ic (3 * e) := by rw [e79 _ (by omega), hν1]; exact e78
      have hw1 : WE μ1 ν1 (x + 1) (a + 1) e := (show WE μ ν (x + 1) (a + 1) e from ⟨f, hF1⟩).xm xu1 mu1
      obtain ⟨μ2, ν2, g2', b1, b2, b3, b4, b5⟩ := lp_again (N := N) (x := x) (a := a) (e := e) (k := m) qs' qa' q (f_m_goesSteps_2 N q u2) (hf hx) hm (by omega) hn (by omega) (ic (3 * b)) m 0 μ1 ν1 (g + 1) N N (by omega) (by omega) (by omega) hw1 hS1 hR1 v1
      have hS2 := hS1.fr b3 b4
      have xu2 := xu1.tr b3
      have mu2 := mu1.tr b4
      have hF' : WF μ2 ν2 f x e b := WF.cg f _ _ _ hF2 (fun i _ _ => ⟨by rw [xu2.1 42 (by decide) (by decide) (by decide) (by decide)], by rw [xu2.1 44 (by decide) (by decide) (by decide) (by decide)], by rw [mu2.1 78 (by decide) (by decide) (by decide) (by decide)]⟩)
      obtain ⟨μ3, ν3, g3', d1, d2, d3, d4, d5⟩ := ih μ2 ν2 e g2' u u2 hF' (by omega) (by omega) hS2 b5
      refine ⟨μ3, ν3, g3', ?_, ?_, xu2.tr d3, mu2.tr d4, d5⟩
      · have hy : (if ic (a + 1) < ic e then ic e else ic (a + 1)) = ic e := by
          by_cases z : a + 1 < e
          · rw [if_pos (by rw [ic_lt (by omega) (by omega)]; exact z)]
          · rw [if_neg (by rw [ic_lt (by omega) (by omega)]; exact z), show a + 1 = e by omega]
        have hag : f_work_runAgain_b N qs' qa' μ1 (ic a) (ic e) (ic x) = some μ2 := by
          unfold f_work_runAgain_b
          rw [at_e (by omega) (by decide), ob_e, g2, if_pos (show ic x < 6 by rw [lt_lit (by decide) (by omega)]; exact hx)]
          exact b1
        rw [f_work_runSteps_3, if_neg nl1, r3, if_neg ng, wb_e, ic_1 g, ← hμ1, ic_1 a, ib_e, at_e (by omega) (by decide), ob_e, e42, if_pos rfl, at_e (by omega) (by decide), ob_e, e44', ib_e, hy, hag, ob_e]
        exact d1
      · rw [f_m_goesSteps_2, if_neg nl3, r4, if_neg ng, wb_e, ic_1 g, ← hν1, inb_e (by omega) (by decide), ic_n (by omega), v0, if_pos rfl, add_lit, inb_e (by omega) (by decide), ic_n (by omega), v2, ib_e]
        exact b2.trans d2
theorem run_rp {N : Nat} {c : sw_M} {F W T P : Nat} {K O : Nat → Int32} {nl n : Nat} (hN : 5000 ≤ N) (hC : CW c F W T P) (hn : n ≤ 40) : ∀ (t x d e : Nat), x + t = 6 → 2 * t + 2 ≤ d → t + 1 ≤ e → RP c F W T P K O nl n x (grp_work_runSteps N d).1 (grp_m_goesSteps N e) := by
  intro t
  induction t with
  | zero =>
    intro x d e hx hd he μ ν a b g hW hb hS hR
    obtain ⟨d, rfl⟩ : ∃ y, d = y + 1 + 1 := ⟨d - 2, by omega⟩
    obtain ⟨e, rfl⟩ : ∃ y, e = y + 1 := ⟨e - 1, by omega⟩
    obtain ⟨f, hW⟩ := hW
    exact lp_run (grp_work_runSteps N (d + 1)).1 (grp_work_runSteps N d).1 (grp_work_runSteps N d).2 (grp_m_goesSteps N e) hN hC hn hb (fun z => by omega) f μ ν a g N N hW (by omega) (by omega) hS hR
  | succ t ih =>
    intro x d e hx hd he μ ν a b g hW hb hS hR
    obtain ⟨d, rfl⟩ : ∃ y, d = y + 1 + 1 := ⟨d - 2, by omega⟩
    obtain ⟨e, rfl⟩ : ∃ y, e = y + 1 := ⟨e - 1, by omega⟩
    obtain ⟨f, hW⟩ := hW
    exact lp_run (grp_work_runSteps N (d + 1)).1 (grp_work_runSteps N d).1 (grp_work_runSteps N d).2 (grp_m_goesSteps N e) hN hC hn hb (fun _ => ih (x + 1) d e (by omega) (by omega) (by omega)) f μ ν a g N N hW (by omega) (by omega) hS hR
