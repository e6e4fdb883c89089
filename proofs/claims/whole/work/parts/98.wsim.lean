/-! ===== a work's text as a whole ===== -/
theorem ps_0 {N : Nat} {B : Nat → Nat} {L s : Nat} {ν : sw_M} {q : sw_M → Option sw_M} (hN : 5000 ≤ N) (hB : ∀ i, B i < 256) (hR : RT ν B L s) (hw : wv B L s = oc 0) : f_m_readStep_b N q (wr ν 63 4 (ic s)) = mAg N q (wr ν 63 4 (ic s)) := by
  have h1 := word_e hN hB hR.id
  rw [wr_wr] at h1
  unfold f_m_readStep_b
  rw [h1, ob_e, hw]
  simp only
  rw [of_e hN (by decide), ob_e, if_neg (ico (by decide) (by decide) (by decide)), of_e hN (by decide), ob_e, if_neg (ico (by decide) (by decide) (by decide)), of_e hN (by decide), ob_e, if_neg (ico (by decide) (by decide) (by decide)), of_e hN (by decide), ob_e, if_neg (ico (by decide) (by decide) (by decide)), of_e hN (by decide), ob_e, if_neg (ico (by decide) (by decide) (by decide)), of_e hN (by decide), ob_e, if_neg (ico (by decide) (by decide) (by decide)), of_e hN (by decide), ob_e, if_pos rfl]; rfl
theorem rd_Step {N : Nat} {B : Nat → Nat} {L W T P x : Nat} (qs qst qa : sw_M → Int32 → Option (Int32 × sw_M)) (q : sw_M → Option sw_M) (hN : 5000 ≤ N) (hB : ∀ i, B i < 256) (hL : L ≤ 150) (ha : RAg N B L W T P x qa q) : SP N B L W T P x (f_work_readStep_b N qs qst qa) (f_m_readStep_b N q) := by
  intro μ ν s n hA hR hC hQ hn h7
  obtain ⟨⟨c1, c2, c3⟩, ⟨d1, d2, d3⟩, hW, hT, hP⟩ := id hC
  have hsL := hA.2.2.1
  unfold f_work_readStep_b
  rw [isWord_e hN hB hA (show 7 < 19 by decide), ob_e]
  by_cases w7 : wv B L s = oc 7
  · rw [b2_p w7, if_neg (show ¬ (1 : Int32) = 0 by decide), ps_59 (y := T) hN hB hR d3 (Or.inl ⟨rfl, rfl, d2⟩) w7, c3, c2]
    exact st_sign hN hB (st_two hN hB hL hA hR hQ hn (show 7 < 19 by decide) w7 0 (by decide) (Y1 := P) (lo := 0) (y2 := T) (by omega) (by decide) (by omega) (ic P) 0 (ic T - 1) rfl rfl rfl (fun a b h1 _ h3 => Or.inl ⟨rfl, h1, h3⟩))
  rw [b2_n w7, if_pos (show (0 : Int32) = 0 from rfl), isWord_e hN hB hA (show 13 < 19 by decide), ob_e]
  by_cases w13 : wv B L s = oc 13
  · rw [b2_p w13, if_neg (show ¬ (1 : Int32) = 0 by decide), ps_59 (y := T) hN hB hR d3 (Or.inr (Or.inl ⟨rfl, rfl, d2⟩)) w13, c3, c2]
    exact st_sign hN hB (st_two hN hB hL hA hR hQ hn (show 13 < 19 by decide) w13 1 (by decide) (Y1 := P) (lo := 0) (y2 := T) (by omega) (by decide) (by omega) (ic P) 0 (ic T - 1) rfl rfl rfl (fun a b h1 _ h3 => Or.inr (Or.inl ⟨rfl, h1, h3⟩)))
  rw [b2_n w13, if_pos (show (0 : Int32) = 0 from rfl), isWord_e hN hB hA (show 1 < 19 by decide), ob_e]
  by_cases w1 : wv B L s = oc 1
  · rw [b2_p w1, if_neg (show ¬ (1 : Int32) = 0 by decide), ps_59 (y := W) hN hB hR d3 (Or.inr (Or.inr ⟨rfl, rfl, d1⟩)) w1, c3, c1]
    exact st_sign hN hB (st_two hN hB hL hA hR hQ hn (show 1 < 19 by decide) w1 2 (by decide) (Y1 := P) (lo := 0) (y2 := W) (by omega) (by decide) (by omega) (ic P) 0 (ic W - 1) rfl rfl rfl (fun a b h1 _ h3 => Or.inr (Or.inr (Or.inl ⟨rfl, h1, h3⟩))))
  rw [b2_n w1, if_pos (show (0 : Int32) = 0 from rfl), isWord_e hN hB hA (show 10 < 19 by decide), ob_e]
  by_cases w10 : wv B L s = oc 10
  · rw [b2_p w10, if_neg (show ¬ (1 : Int32) = 0 by decide), ps_10 hN hB hR d1 w10, c1]
    exact st_sign hN hB (st_two hN hB hL hA hR hQ hn (show 10 < 19 by decide) w10 3 (by decide) (Y1 := W) (lo := 1) (y2 := 21) (by omega) (by decide) (by decide) (ic W) 1 20 rfl rfl rfl (fun a b h1 h2 h3 => Or.inr (Or.inr (Or.inr (Or.inl ⟨rfl, h1, h2, by omega⟩)))))
  rw [b2_n w10, if_pos (show (0 : Int32) = 0 from rfl), isWord_e hN hB hA (show 2 < 19 by decide), ob_e]
  by_cases w2 : wv B L s = oc 2
  · rw [b2_p w2, if_neg (show ¬ (1 : Int32) = 0 by decide), ps_2 hN hB hR d1 w2]
    exact st_sign hN hB (st_one hN hB hL hA hR hQ hn (show 2 < 19 by decide) w2 c1 hW)
  rw [b2_n w2, if_pos (show (0 : Int32) = 0 from rfl), isWord_e hN hB hA (show 4 < 19 by decide), ob_e]
  by_cases w4 : wv B L s = oc 4
  · rw [b2_p w4, if_neg (show ¬ (1 : Int32) = 0 by decide), ps_4 hN hB hR w4]
    exact st_sign hN hB (st_none hN hB hL hA hR hQ hn (show 4 < 19 by decide) w4)
  rw [b2_n w4, if_pos (show (0 : Int32) = 0 from rfl), isWord_e hN hB hA (show 0 < 19 by decide), ob_e]
  by_cases w0 : wv B L s = oc 0
  · rw [b2_p w0, if_neg (show ¬ (1 : Int32) = 0 by decide), ps_0 hN hB hR w0]
    exact ha μ ν s n hA hR hC hQ hn h7 w0
  rw [b2_n w0, if_pos (show (0 : Int32) = 0 from rfl), fail_e hA.2.2.2.2.2.2.1, ob_e, bl_0, ps_no hN hB hR (fun j hj => by rcases hj with rfl | rfl | rfl | rfl | rfl | rfl | rfl <;> assumption)]
  have hbd := bad_mk μ (wr ν 63 4 (ic s)) (k := 1) (p := s) (by omega) (by decide)
  refine Or.inr ⟨_, _, ?_, rfl, hbd, (fb_fail μ _ _).xk, ((((FrR.rf ν).wr _ (Or.inl rfl)).wr _ (Or.inr (Or.inl rfl))).wr _ (Or.inr (Or.inr rfl))).mk⟩
  unfold SS; rw [ob_e, if_pos rfl]; rfl
/-- both groups -/
theorem work_sp {N : Nat} {B : Nat → Nat} {L W T P : Nat} (hN : 5000 ≤ N) (hB : ∀ i, B i < 256) (hL : L ≤ 150) : ∀ (t x d e : Nat), x + t = 6 → 3 * t + 2 ≤ d → t + 1 ≤ e → SP N B L W T P x (grp_work_readSteps N d).2.1 (grp_m_readStep N e) := by
  intro t
  induction t with
  | zero =>
    intro x d e hx hd he
    obtain ⟨d, rfl⟩ : ∃ y, d = y + 1 + 1 := ⟨d - 2, by omega⟩
    obtain ⟨e, rfl⟩ : ∃ y, e = y + 1 := ⟨e - 1, by omega⟩
    exact rd_Step (grp_work_readSteps N (d + 1)).1 (grp_work_readSteps N (d + 1)).2.1 (grp_work_readSteps N (d + 1)).2.2 (grp_m_readStep N e) hN hB hL (rd_Again (grp_work_readSteps N d).1 (grp_work_readSteps N d).2.1 (grp_work_readSteps N d).2.2 (grp_m_readStep N e) hN hB hL (by omega) (fun z => by omega))
  | succ t ih =>
    intro x d e hx hd he
    obtain ⟨d, rfl⟩ : ∃ y, d = y + 1 + 1 + 1 := ⟨d - 3, by omega⟩
    obtain ⟨e, rfl⟩ : ∃ y, e = y + 1 + 1 := ⟨e - 2, by omega⟩
    refine rd_Step (grp_work_readSteps N (d + 1 + 1)).1 (grp_work_readSteps N (d + 1 + 1)).2.1 (grp_work_readSteps N (d + 1 + 1)).2.2 (grp_m_readStep N (e + 1)) hN hB hL (rd_Again (grp_work_readSteps N (d + 1)).1 (grp_work_readSteps N (d + 1)).2.1 (grp_work_readSteps N (d + 1)).2.2 (grp_m_readStep N (e + 1)) hN hB hL (by omega) (fun _ => ?_))
    intro μ ν s n y hA hR hC hQ hn h7
    refine lp_steps (grp_work_readSteps N d).1 (grp_work_readSteps N d).2.1 (grp_work_readSteps N d).2.2 (grp_m_readStep N (e + 1)) (fun u ν => f_m_readStep_258 N (grp_m_readStep N (e + 1)) u ν y) _ _ hB hL ?_ ?_ ?_ ?_ (ih (x + 1) d (e + 1) (by omega) (by omega) (by omega)) ?_ L 0 s n N N μ ν (by omega) (by omega) (by omega) (by omega) hA hR hC hQ hn h7
    · intro u ν h
      show f_m_readStep_258 N _ (u + 1) ν y = _
      rw [f_m_readStep_258, fine_0 h, ob_e, if_pos rfl]
    · intro u ν s hR h
      show f_m_readStep_258 N _ (u + 1) ν y = _
      rw [f_m_readStep_258, fine_1 hR.2.2.2.2, ob_e, if_neg (show ¬ (1 : Int32) = 0 by decide), (here_e hN hB hR).1, ob_e, if_pos (show ic (ch B L s) = 93 from (ch_eq hB sg93).mpr h)]
    · intro u ν s hR h
      show f_m_readStep_258 N _ (u + 1) ν y = _
      rw [f_m_readStep_258, fine_1 hR.2.2.2.2, ob_e, if_neg (show ¬ (1 : Int32) = 0 by decide), (here_e hN hB hR).1, ob_e, if_neg (show ¬ ic (ch B L s) = 93 from fun z => h ((ch_eq hB sg93).mp z))]
    · intro s h z
      have := (kd_ch (L := L) (s := s) hB sg93).mpr h
      omega
    · intro ν s hR h
      exact ps_no hN hB hR (fun j hj => wv_no hB hR.sL h (by omega))
def WW (N : Nat) (W T P : Nat) (μ ν : sw_M) (X : Option (Int32 × sw_M)) (M : Option (Int32 × sw_M)) : Prop :=
  (∃ μ' ν' n, X = some (1, μ') ∧ M = f_m_work_89 N ν' ∧ WQ μ' ν' W T P n ∧ WE μ' ν' 0 0 n ∧ 4 * n ≤ 150 ∧ ν' 63 5 = -1 ∧ XK μ μ' ∧ μ' 1 8 = μ 1 8 ∧ MK ν ν') ∨
  (∃ μ' ν', X = some (0, μ') ∧ M = f_m_work_89 N ν' ∧ BAD μ' ν' ∧ XK μ μ' ∧ MK ν ν')
theorem work_sim {N : Nat} {μ : sw_M} {B : Nat → Nat} {n s W T P : Nat} (hN : 5000 ≤ N) (hB : ∀ i, B i < 256) (h6 : n ≤ 150) (hA : AT μ B n s) (hs : s = sk B n 0) (ν : sw_M) (hb : ∀ i, i < n → ν 65 i = ic (B i)) (hC : CM μ ν W T P) :
    ∃ ν1, f_m_begins N ν (ic n) = some ν1 ∧ WW N W T P μ (wr ν1 63 35 0) (f_work_read N μ) (f_m_work_68 N N (wr ν1 63 35 0)) := by
  obtain ⟨ν1, e1, e2, e3, e4, e5, e6, e7⟩ := begins_e (N := N) (show n ≤ 600 by omega) hb
  refine ⟨ν1, e1, ?_⟩
  subst hs
  have hA1 : AT (wr μ 41 5 0) B n (sk B n 0) := hA
  have hR1 : RT (wr ν1 63 35 0) B n (sk B n 0) := e2
  have hQ : WQ (wr μ 41 5 0) (wr ν1 63 35 0) W T P 0 := ⟨rfl, rfl, fun i hi => by omega⟩
  have x0 : XK μ (wr μ 41 5 0) := ⟨fun a _ q => wr_nr (by omega), rfl, fun j q => by rw [wr_ap, if_pos rfl, if_neg q]⟩
  have hC1 : CM (wr μ 41 5 0) (wr ν1 63 35 0) W T P := by
    obtain ⟨c1, ⟨d1, d2, d3⟩, c2⟩ := hC
    exact ⟨c1, ⟨(e4 22 (by decide)).trans d1, (e4 23 (by decide)).trans d2, (e4 24 (by decide)).trans d3⟩, c2⟩
  have hx : f_work_readSteps N (wr μ 41 5 0) 0 = f_work_readSteps_2 N (grp_work_readSteps N 39).1 (grp_work_readSteps N 39).2.1 (grp_work_readSteps N 39).2.2 N (wr μ 41 5 0) (ic 0) (ic 0) := rfl
  have hps : f_m_readStep N = f_m_readStep_b N (grp_m_readStep N 39) := rfl
  unfold f_work_read
  rw [wb_e, hx]
  have key := lp_steps (N := N) (W := W) (T := T) (P := P) (x := 0) (grp_work_readSteps N 39).1 (grp_work_readSteps N 39).2.1 (grp_work_readSteps N 39).2.2 (grp_m_readStep N 40) (fun u ν => f_m_work_68 N u ν) (f_m_work_89 N) (fun s => ¬ s < n) hB h6
    (fun u ν h => by
      show f_m_work_68 N (u + 1) ν = _
      rw [f_m_work_68, fine_0 h, ob_e, if_pos rfl])
    (fun u ν s hR h => by
      show f_m_work_68 N (u + 1) ν = _
      rw [f_m_work_68, fine_1 hR.2.2.2.2, ob_e, if_neg (show ¬ (1 : Int32) = 0 by decide), more_e hN hB hR, ob_e, b2_n h, if_pos rfl])
    (fun u ν s hR h => by
      show f_m_work_68 N (u + 1) ν = _
      rw [f_m_work_68, fine_1 hR.2.2.2.2, ob_e, if_neg (show ¬ (1 : Int32) = 0 by decide), more_e hN hB hR, ob_e, b2_p (Classical.not_not.mp h), if_neg (show ¬ (1 : Int32) = 0 by decide)]; rfl)
    (fun s h z => by have := (kd_end hB n s).mpr h; omega)
    (work_sp hN hB h6 6 0 39 40 (by omega) (by omega) (by omega))
    (fun ν s hR h => ps_no hN hB hR (fun j hj => wv_no hB hR.sL h (by omega)))
    n 0 (sk B n 0) 0 N N (wr μ 41 5 0) (wr ν1 63 35 0) (by omega) (by omega) (by omega) (by omega) hA1 hR1 hC1 hQ (by omega) e7
  rcases key with ⟨μ5, ν5, s5, n5, b1, b2, b3, b4, b5, b6, b7, b8, b9, b10, b11, b12, b13, b14, b15⟩ | ⟨μ5, ν5, s5, b1, b2, b3, b4, b5, b6, b7⟩ | ⟨μ5, ν5, b1, b2, b3, b4, b5⟩
  · have hl := b3.2.2.1
    have hkd : μ5 1 4 = 256 := by rw [b3.2.2.2.2.2.1, (kd_end hB n s5).mpr b5]; rfl
    rw [b1, ob_e, if_neg (show ¬ (1 : Int32) = 0 by decide), if_pos hkd]
    exact Or.inl ⟨μ5, ν5, n5, rfl, b2, b6, b7, by omega, b4.2.2.2.2, x0.tr b12, b13, b14⟩
  · have hkd : ¬ μ5 1 4 = 256 := fun z => b4 (by
      rw [b3.2.2.2.2.2.1, eq_lit (by decide) (by have := kd_lt hB n s5; omega)] at z
      exact (kd_end hB n s5).mp z)
    rw [b1, ob_e, if_neg (show ¬ (1 : Int32) = 0 by decide), if_neg hkd, fail_e b3.2.2.2.2.2.2.1, ob_e, if_pos rfl]
    exact Or.inr ⟨_, ν5, rfl, b2, b5, x0.tr (b6.tr (fb_fail μ5 _ _).xk), b7⟩
  · rw [b1, ob_e, if_pos rfl]
    exact Or.inr ⟨μ5, ν5, rfl, b2, b3, x0.tr b4, b5⟩
