/-! ===== a step with its sign ===== -/
theorem ob_as {α β γ : Type} (a : Option α) (f : α → Option β) (g : β → Option γ) : Option.bind (Option.bind a f) g = Option.bind a (fun y => Option.bind (f y) g) := by cases a <;> rfl
theorem ob_cg {α β : Type} {o : Option α} {f g : α → Option β} (h : ∀ r, o = some r → f r = g r) : Option.bind o f = Option.bind o g := by
  cases o with
  | none => rfl
  | some r => exact h r rfl
theorem num_fr {N : Nat} {ν : sw_M} {B : Nat → Nat} {L s : Nat} {x y : Int32} {r : Int32 × sw_M} (hN : 5000 ≤ N) (hB : ∀ i, B i < 256) (hR : RT ν B L s) (h : f_m_readNumber N ν x y = some r) : FrR ν r.2 := by
  have h6 := hR.2.1; have hsL := hR.sL
  have c2 := ch_lt hB L s
  obtain ⟨e1, e2⟩ := here_e hN hB hR
  have e4 : (wr ν 63 4 (ic s)) 63 4 = ic s := rfl
  have h5 := hR.2.2.2.2
  have h5' : ∀ t, (wr ν 63 4 (ic t)) 63 5 = -1 := fun _ => h5
  unfold f_m_readNumber at h
  rw [fine_1 h5, ob_e, if_neg (by decide), e1, ob_e] at h
  simp only at h
  rw [e4, ib_e, digit_e c2, ob_e, wrong_1 (h5' s), ob_e] at h
  have e3 := lp_num (N := N) hB x y (ic s) (L - s) s 0 (wr ν 63 4 (ic s)) N (by omega) (by rw [show s + (L - s) = L by omega]; exact hR.1) (by omega) rfl (by omega) (fun i hi => hR.2.2.2.1 i (by omega))
  have e3' : f_m_readNumber_41 N N (wr ν 63 4 (ic s)) x y (ic s) 0 = _ := e3
  have h5r : ∀ t u, (wr (wr ν 63 4 (ic t)) 63 4 (ic u)) 63 5 = -1 := fun _ _ => h5
  rw [e3'] at h
  unfold f_m_readNumber_114 f_m_readNumber_126 at h
  rw [wrong_1 (h5r s _), ob_e] at h
  have fa : ∀ t, FrR ν (wr (wr ν 63 4 (ic s)) 63 4 (ic t)) := fun t => ((FrR.rf ν).wr _ (Or.inl rfl)).wr _ (Or.inl rfl)
  have fb : ∀ (m : sw_M) (p k : Int32), FrR ν m → FrR ν (wr (wr m 63 5 p) 63 6 k) := fun m p k f => (f.wr _ (Or.inr (Or.inl rfl))).wr _ (Or.inr (Or.inr rfl))
  split at h
  · cases h; exact fb _ _ _ ((FrR.rf ν).wr _ (Or.inl rfl))
  · split at h
    · cases h; exact fb _ _ _ (fa _)
    · split at h
      · cases h; exact fa _
      · cases h; exact fb _ _ _ (fa _)
def SS (N : Nat) (X : Option (Int32 × sw_M)) : Option (Int32 × sw_M) := Option.bind X (fun r1 => if r1.1 = 0 then some (0, r1.2) else Option.bind (f_tape_takeSign N r1.2 59) (fun r3 => if r3.1 = 0 then some (0, r3.2) else some (1, r3.2)))
section
variable {N : Nat} {B : Nat → Nat} {L s W T P x n : Nat} {μ ν : sw_M}
theorem st_sign {q : sw_M → Option sw_M} {X : Option (Int32 × sw_M)} {M : Option sw_M} (hN : 5000 ≤ N) (hB : ∀ i, B i < 256) (h : WX B L W T P x 3 n μ ν s X M) : WX B L W T P x 4 n μ ν s (SS N X) (Option.bind M (fun r => f_m_readStep_328 N q r)) := by
  unfold SS f_m_readStep_328
  rcases h with ⟨μ', ν', s', n', a1, a2, a3, a4, a5, a6, a7, a8, a9, a10, a11, a12, a13, a14⟩ | ⟨μ', ν', a1, a2, a3, a4, a5⟩
  · rw [a1, ob_e, if_neg (show ¬ (1 : Int32) = 0 by decide), a2, ob_e]
    simp only
    rcases j_sign hN hB a3 a4 sg59 with ⟨μ2, ν2, s2, x2, y2, hA2, hR2, hs2, fp, fr, -, -⟩ | ⟨μ2, ν2, x2, y2, hbd, fb, fr, -⟩
    · have x2' : f_tape_takeSign N μ' 59 = some (1, μ2) := x2
      have y2' : f_m_sign N ν' 59 = some ν2 := y2
      rw [x2', ob_e, if_neg (show ¬ (1 : Int32) = 0 by decide), y2', ob_e]
      refine Or.inl ⟨μ2, ν2, s2, n', rfl, rfl, hA2, hR2, a5.fp fp fr, a6.fp fp fr, fun i hi => ?_, fun i hi => ?_, by omega, by omega, a11.tr fp.xk, fp.2.2.trans a12, a13.tr fr.mk, fr.s7.trans a14⟩
      · rw [fp.1 42 (by decide), fp.1 43 (by decide), fp.1 44 (by decide)]; exact a7 i hi
      · rw [fr.1 78 (by decide)]; exact a8 i hi
    · have x2' : f_tape_takeSign N μ' 59 = some (0, μ2) := x2
      have y2' : f_m_sign N ν' 59 = some ν2 := y2
      rw [x2', ob_e, if_pos rfl, y2', ob_e]
      exact Or.inr ⟨μ2, ν2, rfl, rfl, hbd, a11.tr fb.xk, a13.tr fr.mk⟩
  · rw [a1, ob_e, if_pos rfl, a2, ob_e, sign_bad a3.nf, ob_e]
    exact Or.inr ⟨μ', ν', rfl, rfl, a3, a4, a5⟩
/-- the reference at a word it does not know -/
theorem ps_no {q : sw_M → Option sw_M} (hN : 5000 ≤ N) (hB : ∀ i, B i < 256) (hR : RT ν B L s) (h : ∀ j, (j = 4 ∨ j = 7 ∨ j = 13 ∨ j = 1 ∨ j = 10 ∨ j = 2 ∨ j = 0) → ¬ wv B L s = oc j) : f_m_readStep_b N q (wr ν 63 4 (ic s)) = some (wr (wr (wr ν 63 4 (ic s)) 63 5 (ic s)) 63 6 1) := by
  have hw := wv_lt (B := B) L s
  have hc : ∀ j, j < 19 → ¬ wv B L s = oc j → ¬ ic (wv B L s) = ic (oc j) := fun j hj z => by rw [ic_eq (by omega) (by have := oc_b j hj; omega)]; exact z
  have h1 := word_e hN hB hR.id
  rw [wr_wr] at h1
  have h51 : (wr ν 63 4 (ic s)) 63 5 = -1 := hR.2.2.2.2
  have h6 := hR.2.1; have hsL := hR.sL
  have hb : ¬ (wr (wr (wr ν 63 4 (ic s)) 63 5 (ic s)) 63 6 1) 63 5 = -1 := by show ¬ ic s = -1; rw [ic_m1 (by omega)]; exact id
  unfold f_m_readStep_b f_m_readStep_328
  rw [h1, ob_e]
  simp only
  rw [of_e hN (by decide), ob_e, if_neg (hc 4 (by decide) (h 4 (by decide))), of_e hN (by decide), ob_e, if_neg (hc 7 (by decide) (h 7 (by decide))), of_e hN (by decide), ob_e, if_neg (hc 13 (by decide) (h 13 (by decide))), of_e hN (by decide), ob_e, if_neg (hc 1 (by decide) (h 1 (by decide))), of_e hN (by decide), ob_e, if_neg (hc 10 (by decide) (h 10 (by decide))), of_e hN (by decide), ob_e, if_neg (hc 2 (by decide) (h 2 (by decide))), of_e hN (by decide), ob_e, if_neg (hc 0 (by decide) (h 0 (by decide))), wrong_1 h51, ob_e, show (wr ν 63 4 (ic s)) 63 4 = ic s from rfl, sign_bad hb, ob_e]
theorem ps_4 {q : sw_M → Option sw_M} (hN : 5000 ≤ N) (hB : ∀ i, B i < 256) (hR : RT ν B L s) (hw : wv B L s = oc 4) : f_m_readStep_b N q (wr ν 63 4 (ic s)) = Option.bind (f_m_tellsStep N (wr ν 63 4 (ic (re pL B L s))) 5 0 0) (fun r => f_m_readStep_328 N q r) := by
  have h1 := word_e hN hB hR.id
  rw [wr_wr] at h1
  unfold f_m_readStep_b
  rw [h1, ob_e, hw]
  simp only
  rw [of_e hN (by decide), ob_e, if_pos rfl, pass_e hN hB hR, ob_e]
theorem ps_2 {q : sw_M → Option sw_M} (hN : 5000 ≤ N) (hB : ∀ i, B i < 256) (hR : RT ν B L s) (hW : ν 63 22 = ic W) (hw : wv B L s = oc 2) : f_m_readStep_b N q (wr ν 63 4 (ic s)) = Option.bind (Option.bind (f_m_readNumber N (wr ν 63 4 (ic (re pL B L s))) 0 (ic W - 1)) (fun r30 => f_m_tellsStep N r30.2 4 r30.1 0)) (fun r => f_m_readStep_328 N q r) := by
  have h1 := word_e hN hB hR.id
  rw [wr_wr] at h1
  unfold f_m_readStep_b
  rw [h1, ob_e, hw]
  simp only
  rw [of_e hN (by decide), ob_e, if_neg (ico (by decide) (by decide) (by decide)), of_e hN (by decide), ob_e, if_neg (ico (by decide) (by decide) (by decide)), of_e hN (by decide), ob_e, if_neg (ico (by decide) (by decide) (by decide)), of_e hN (by decide), ob_e, if_neg (ico (by decide) (by decide) (by decide)), of_e hN (by decide), ob_e, if_neg (ico (by decide) (by decide) (by decide)), of_e hN (by decide), ob_e, if_pos rfl, pass_e hN hB hR, ob_e, show (wr ν 63 4 (ic (re pL B L s))) 63 22 = ic W from hW, ob_as]
theorem ps_10 {q : sw_M → Option sw_M} (hN : 5000 ≤ N) (hB : ∀ i, B i < 256) (hR : RT ν B L s) (hW : ν 63 22 = ic W) (hw : wv B L s = oc 10) : f_m_readStep_b N q (wr ν 63 4 (ic s)) = Option.bind (Option.bind (f_m_readNumber N (wr ν 63 4 (ic (re pL B L s))) 0 (ic W - 1)) (fun r3 => Option.bind (f_m_readNumber N r3.2 1 20) (fun r1 => f_m_tellsStep N r1.2 (ic 3) r3.1 r1.1))) (fun r => f_m_readStep_328 N q r) := by
  have h1 := word_e hN hB hR.id
  rw [wr_wr] at h1
  unfold f_m_readStep_b
  rw [h1, ob_e, hw]
  simp only
  rw [of_e hN (by decide), ob_e, if_neg (ico (by decide) (by decide) (by decide)), of_e hN (by decide), ob_e, if_neg (ico (by decide) (by decide) (by decide)), of_e hN (by decide), ob_e, if_neg (ico (by decide) (by decide) (by decide)), of_e hN (by decide), ob_e, if_neg (ico (by decide) (by decide) (by decide)), of_e hN (by decide), ob_e, if_pos rfl, pass_e hN hB hR, ob_e, show (wr ν 63 4 (ic (re pL B L s))) 63 22 = ic W from hW]
  simp only [ob_as]; rfl
/-- the three that name a person first -/
theorem ps_59 {q : sw_M → Option sw_M} {j k y : Nat} (hN : 5000 ≤ N) (hB : ∀ i, B i < 256) (hR : RT ν B L s) (hP : ν 63 24 = ic P) (hjk : (j = 7 ∧ k = 0 ∧ ν 63 23 = ic y) ∨ (j = 13 ∧ k = 1 ∧ ν 63 23 = ic y) ∨ (j = 1 ∧ k = 2 ∧ ν 63 22 = ic y)) (hw : wv B L s = oc j) : f_m_readStep_b N q (wr ν 63 4 (ic s)) = Option.bind (Option.bind (f_m_readNumber N (wr ν 63 4 (ic (re pL B L s))) 0 (ic P - 1)) (fun r3 => Option.bind (f_m_readNumber N r3.2 0 (ic y - 1)) (fun r1 => f_m_tellsStep N r1.2 (ic k) r3.1 r1.1))) (fun r => f_m_readStep_328 N q r) := by
  have h1 := word_e hN hB hR.id
  rw [wr_wr] at h1
  have hle : re pL B L s ≤ L := re_le hR.sL
  have hR1 : RT (wr ν 63 4 (ic (re pL B L s))) B L (sk B L (re pL B L s)) := hR.at hle
  have key : f_m_readStep_59 N q (wr ν 63 4 (ic s)) (ic (oc j)) = Option.bind (Option.bind (f_m_readNumber N (wr ν 63 4 (ic (re pL B L s))) 0 (ic P - 1)) (fun r3 => Option.bind (f_m_readNumber N r3.2 0 (ic y - 1)) (fun r1 => f_m_tellsStep N r1.2 (ic k) r3.1 r1.1))) (fun r => f_m_readStep_328 N q r) := by
    unfold f_m_readStep_59
    rw [pass_e hN hB hR, ob_e, show (wr ν 63 4 (ic (re pL B L s))) 63 24 = ic P from hP, ob_as]
    refine ob_cg (fun r hr => ?_)
    have fr := num_fr hN hB hR1 hr
    have e22 : r.2 63 22 = ν 63 22 := fr.2 22 (by decide) (by decide) (by decide)
    have e23 : r.2 63 23 = ν 63 23 := fr.2 23 (by decide) (by decide) (by decide)
    unfold f_m_readStep_105 f_m_readStep_129
    simp only [of_e hN (show 7 < 19 by decide), of_e hN (show 13 < 19 by decide), of_e hN (show 1 < 19 by decide), ob_e, e22, e23, ob_as]
    rcases hjk with ⟨rfl, rfl, z⟩ | ⟨rfl, rfl, z⟩ | ⟨rfl, rfl, z⟩
    · rw [if_pos rfl, if_neg (ico (by decide) (by decide) (by decide)), z]; rfl
    · rw [if_neg (ico (by decide) (by decide) (by decide)), if_pos rfl, if_neg (ico (by decide) (by decide) (by decide)), z]; rfl
    · rw [if_neg (ico (by decide) (by decide) (by decide)), if_neg (ico (by decide) (by decide) (by decide)), if_pos rfl, z]; rfl
  unfold f_m_readStep_b
  rw [h1, ob_e, hw]
  simp only
  rw [key]
  rcases hjk with ⟨rfl, rfl, z⟩ | ⟨rfl, rfl, z⟩ | ⟨rfl, rfl, z⟩
  · rw [of_e hN (by decide), ob_e, if_neg (ico (by decide) (by decide) (by decide)), of_e hN (by decide), ob_e, if_pos rfl]
  · rw [of_e hN (by decide), ob_e, if_neg (ico (by decide) (by decide) (by decide)), of_e hN (by decide), ob_e, if_neg (ico (by decide) (by decide) (by decide)), of_e hN (by decide), ob_e, if_pos rfl]
  · rw [of_e hN (by decide), ob_e, if_neg (ico (by decide) (by decide) (by decide)), of_e hN (by decide), ob_e, if_neg (ico (by decide) (by decide) (by decide)), of_e hN (by decide), ob_e, if_neg (ico (by decide) (by decide) (by decide)), of_e hN (by decide), ob_e, if_pos rfl]
end
