/-! ===== steps after steps ===== -/
def SP (N : Nat) (B : Nat → Nat) (L W T P x : Nat) (qst : sw_M → Int32 → Option (Int32 × sw_M)) (pst : sw_M → Option sw_M) : Prop := ∀ μ ν s n, AT μ B L s → RT ν B L s → CM μ ν W T P → WQ μ ν W T P n → 4 * n ≤ s → ν 63 7 = ic x → WX B L W T P x 4 n μ ν s (SS N (qst μ (ic x))) (pst (wr ν 63 4 (ic s)))
def W3 {α : Type} (B : Nat → Nat) (L W T P x n : Nat) (stop : Nat → Prop) (done : sw_M → Option α) (μ ν : sw_M) (s : Nat) (X : Option (Int32 × sw_M)) (M : Option α) : Prop :=
  (∃ μ' ν' s' n', X = some (1, μ') ∧ M = done ν' ∧ AT μ' B L s' ∧ RT ν' B L s' ∧ stop s' ∧ WQ μ' ν' W T P n' ∧ WE μ' ν' x n n' ∧ (∀ i, i < n → μ' 42 i = μ 42 i ∧ μ' 43 i = μ 43 i ∧ μ' 44 i = μ 44 i) ∧ (∀ i, i < 3 * n → ν' 78 i = ν 78 i) ∧ s ≤ s' ∧ 4 * n' ≤ s' ∧ XK μ μ' ∧ μ' 1 8 = μ 1 8 ∧ MK ν ν' ∧ ν' 63 7 = ν 63 7) ∨
  (∃ μ' ν' s', X = some (1, μ') ∧ M = done ν' ∧ AT μ' B L s' ∧ ¬ stop s' ∧ BAD (wr (wr μ' 1 7 1) 1 8 (ic s')) ν' ∧ XK μ μ' ∧ MK ν ν') ∨
  (∃ μ' ν', X = some (0, μ') ∧ M = done ν' ∧ BAD μ' ν' ∧ XK μ μ' ∧ MK ν ν')
theorem cls_steps {N : Nat} (qs qst qa : sw_M → Int32 → Option (Int32 × sw_M)) (u : Nat) (μ : sw_M) (x2 x3 : Int32) : f_work_readSteps_2 N qs qst qa (u + 1) μ x2 x3 = if 150 ≤ x3 then some (1, μ) else if (μ 1 4) = 258 then Option.bind (SS N (qst μ x2)) (fun r => if r.1 = 0 then some (0, r.2) else f_work_readSteps_2 N qs qst qa u r.2 x2 (x3 + 1)) else some (1, μ) := by
  rw [f_work_readSteps_2]
  unfold SS
  rw [ob_as]
  congr 1
  congr 1
  refine ob_cg (fun r _ => ?_)
  by_cases z : r.1 = 0
  · rw [if_pos z, if_pos z, ob_e, if_pos rfl]
  · rw [if_neg z, if_neg z, ob_as]
    refine ob_cg (fun r3 _ => ?_)
    by_cases z3 : r3.1 = 0
    · rw [if_pos z3, if_pos z3, ob_e, if_pos rfl]
    · rw [if_neg z3, if_neg z3, ob_e, if_neg (show ¬ (1 : Int32) = 0 by decide)]
section
variable {N : Nat} {B : Nat → Nat} {L W T P x : Nat}
theorem kd258 {μ : sw_M} {s : Nat} (hB : ∀ i, B i < 256) (hA : AT μ B L s) : (μ 1 4 = 258) ↔ kd B L s = 258 := by
  rw [hA.2.2.2.2.2.1, eq_lit (by decide) (by have := kd_lt hB L s; omega)]
theorem wv_no {s : Nat} (hB : ∀ i, B i < 256) (hs : s ≤ L) (h : ¬ kd B L s = 258) {j : Nat} (hj : j < 19) : ¬ wv B L s = oc j := fun z => by
  obtain ⟨w1, w2, -, -⟩ := wv_w hs hj z
  apply h
  have := pL_e.mp w2
  unfold kd
  rw [if_pos w1, if_neg (fun y => by have := pD_e.mp y; omega), if_pos w2]
theorem steps_step {α : Type} (qs qst qa : sw_M → Int32 → Option (Int32 × sw_M)) (pst : sw_M → Option sw_M) (R : Nat → sw_M → Option α) (done : sw_M → Option α) (stop : Nat → Prop) (hB : ∀ i, B i < 256) (hL : L ≤ 150)
    (hbad : ∀ u ν, ¬ ν 63 5 = -1 → R (u + 1) ν = done ν) (hst : ∀ u ν s, RT ν B L s → stop s → R (u + 1) ν = done (wr ν 63 4 (ic s))) (hgo : ∀ u ν s, RT ν B L s → ¬ stop s → R (u + 1) ν = Option.bind (pst (wr ν 63 4 (ic s))) (R u))
    (hnl : ∀ s, stop s → ¬ kd B L s = 258) (hsp : SP N B L W T P x qst pst) (hno : ∀ ν s, RT ν B L s → ¬ kd B L s = 258 → pst (wr ν 63 4 (ic s)) = some (wr (wr (wr ν 63 4 (ic s)) 63 5 (ic s)) 63 6 1))
    {i s n u u2 : Nat} {μ ν : sw_M} (hi : i ≤ s) (hu2 : 0 < u2) (hA : AT μ B L s) (hR : RT ν B L s) (hC : CM μ ν W T P) (hQ : WQ μ ν W T P n) (hn : 4 * n ≤ s) (h7 : ν 63 7 = ic x)
    (ih : ∀ s' μ1 ν1 n1, s < s' → AT μ1 B L s' → RT ν1 B L s' → CM μ1 ν1 W T P → WQ μ1 ν1 W T P n1 → 4 * n1 ≤ s' → ν1 63 7 = ic x → W3 B L W T P x n1 stop done μ1 ν1 s' (f_work_readSteps_2 N qs qst qa u μ1 (ic x) (ic (i + 1))) (R u2 ν1)) :
    W3 B L W T P x n stop done μ ν s (f_work_readSteps_2 N qs qst qa (u + 1) μ (ic x) (ic i)) (R (u2 + 1) ν) := by
  have hsL := hA.2.2.1
  have f1 : FrR ν (wr ν 63 4 (ic s)) := (FrR.rf ν).wr _ (Or.inl rfl)
  obtain ⟨u3, rfl⟩ := fu_s hu2
  rw [cls_steps]
  by_cases hk : kd B L s = 258
  · have hlt : s < L := by
      unfold kd at hk
      by_cases q : s < L
      · exact q
      · rw [if_neg q] at hk; omega
    rw [if_neg (show ¬ (150 : Int32) ≤ ic i by rw [lit_le (by decide) (by omega)]; show ¬ 150 ≤ i; omega), if_pos ((kd258 hB hA).mpr hk), hgo _ ν s hR (fun z => hnl s z hk)]
    rcases hsp μ ν s n hA hR hC hQ hn h7 with ⟨μ', ν', s', n', a1, a2, a3, a4, a5, a6, a7, a8, a9, a10, a11, a12, a13, a14⟩ | ⟨μ', ν', a1, a2, a3, a4, a5⟩
    · rw [a1, ob_e, if_neg (show ¬ (1 : Int32) = 0 by decide), a2, ob_e, ic_1]
      simp only
      have hle : n ≤ n' := by obtain ⟨f, z⟩ := a6; exact WF.le _ _ _ _ z
      rcases ih s' μ' ν' n' (by omega) a3 a4 (hC.fr a11 a13) a5 (by omega) (a14.trans h7) with ⟨μ2, ν2, s2, n2, b1, b2, b3, b4, b5, b6, b7, b8, b9, b10, b11, b12, b13, b14, b15⟩ | ⟨μ2, ν2, s2, b1, b2, b3, b4, b5, b6, b7⟩ | ⟨μ2, ν2, b1, b2, b3, b4, b5⟩
      · refine Or.inl ⟨μ2, ν2, s2, n2, b1, b2, b3, b4, b5, b6, ?_, fun i hi => ?_, fun i hi => ?_, by omega, b11, a11.tr b12, b13.trans a12, a13.tr b14, b15.trans a14⟩
        · exact (a6.cg (fun i _ h2 => ⟨(b8 i h2).1, (b8 i h2).2.2, b9 _ (by omega)⟩)).ap b7
        · obtain ⟨c1, c2, c3⟩ := b8 i (by omega)
          rw [c1, c2, c3]; exact a7 i hi
        · rw [b9 i (by omega)]; exact a8 i hi
      · exact Or.inr (Or.inl ⟨μ2, ν2, s2, b1, b2, b3, b4, b5, a11.tr b6, a13.tr b7⟩)
      · exact Or.inr (Or.inr ⟨μ2, ν2, b1, b2, b3, a11.tr b4, a13.tr b5⟩)
    · rw [a1, ob_e, if_pos rfl, a2, ob_e, hbad u3 ν' a3.nf]
      exact Or.inr (Or.inr ⟨μ', ν', rfl, rfl, a3, a4, a5⟩)
  · have hx : (if (150 : Int32) ≤ ic i then some ((1 : Int32), μ) else if (μ 1 4) = 258 then Option.bind (SS N (qst μ (ic x))) (fun r => if r.1 = 0 then some (0, r.2) else f_work_readSteps_2 N qs qst qa u r.2 (ic x) (ic i + 1)) else some (1, μ)) = some (1, μ) := by
      rw [if_neg (fun z => hk ((kd258 hB hA).mp z)), ite_self]
    rw [hx]
    by_cases hs : stop s
    · rw [hst _ ν s hR hs]
      exact Or.inl ⟨μ, wr ν 63 4 (ic s), s, n, rfl, rfl, hA, hR.id, hs, hQ.fp (FrP.rf μ) f1, WE.rf _ _ _ _, fun _ _ => ⟨rfl, rfl, rfl⟩, fun _ _ => rfl, Nat.le_refl s, hn, XK.rf μ, rfl, f1.mk, rfl⟩
    · have hbd := bad_mk μ (wr ν 63 4 (ic s)) (k := 1) (p := s) (by omega) (by decide)
      have hb : ¬ (wr (wr (wr ν 63 4 (ic s)) 63 5 (ic s)) 63 6 1) 63 5 = -1 := hbd.nf
      rw [hgo _ ν s hR hs, hno ν s hR hk, ob_e, hbad u3 _ hb]
      exact Or.inr (Or.inl ⟨μ, _, s, rfl, rfl, hA, hs, hbd, XK.rf μ, ((f1.wr _ (Or.inr (Or.inl rfl))).wr _ (Or.inr (Or.inr rfl))).mk⟩)
theorem lp_steps {α : Type} (qs qst qa : sw_M → Int32 → Option (Int32 × sw_M)) (pst : sw_M → Option sw_M) (R : Nat → sw_M → Option α) (done : sw_M → Option α) (stop : Nat → Prop) (hB : ∀ i, B i < 256) (hL : L ≤ 150)
    (hbad : ∀ u ν, ¬ ν 63 5 = -1 → R (u + 1) ν = done ν) (hst : ∀ u ν s, RT ν B L s → stop s → R (u + 1) ν = done (wr ν 63 4 (ic s))) (hgo : ∀ u ν s, RT ν B L s → ¬ stop s → R (u + 1) ν = Option.bind (pst (wr ν 63 4 (ic s))) (R u))
    (hnl : ∀ s, stop s → ¬ kd B L s = 258) (hsp : SP N B L W T P x qst pst) (hno : ∀ ν s, RT ν B L s → ¬ kd B L s = 258 → pst (wr ν 63 4 (ic s)) = some (wr (wr (wr ν 63 4 (ic s)) 63 5 (ic s)) 63 6 1)) :
    ∀ (m i s n u u2 : Nat) (μ ν : sw_M), L ≤ s + m → m < u → m + 1 < u2 → i ≤ s → AT μ B L s → RT ν B L s → CM μ ν W T P → WQ μ ν W T P n → 4 * n ≤ s → ν 63 7 = ic x →
    W3 B L W T P x n stop done μ ν s (f_work_readSteps_2 N qs qst qa u μ (ic x) (ic i)) (R u2 ν) := by
  intro m
  induction m with
  | zero =>
    intro i s n u u2 μ ν hm hu hu2 hi hA hR hC hQ hn h7
    obtain ⟨u, rfl⟩ := fu_s hu
    obtain ⟨u2, rfl⟩ := fu_s (show 0 < u2 by omega)
    exact steps_step qs qst qa pst R done stop hB hL hbad hst hgo hnl hsp hno hi (by omega) hA hR hC hQ hn h7 (fun s' μ1 ν1 n1 q1 q2 => by have := q2.2.2.1; omega)
  | succ m ihm =>
    intro i s n u u2 μ ν hm hu hu2 hi hA hR hC hQ hn h7
    obtain ⟨u, rfl⟩ := fu_s (show 0 < u by omega)
    obtain ⟨u2, rfl⟩ := fu_s (show 0 < u2 by omega)
    exact steps_step qs qst qa pst R done stop hB hL hbad hst hgo hnl hsp hno hi (by omega) hA hR hC hQ hn h7 (fun s' μ1 ν1 n1 q1 q2 q3 q4 q5 q6 q7 => ihm (i + 1) s' n1 u u2 μ1 ν1 (by omega) (by omega) (by omega) (by omega) q2 q3 q4 q5 q6 q7)
end
