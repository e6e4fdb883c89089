/-! ===== the clauses of a country's text ===== -/
theorem wv_lt {B : Nat → Nat} (L s : Nat) : wv B L s < 1073741824 := by
  unfold wv
  by_cases h : wn B L s ≤ 6
  · rw [if_pos h]
    have h1 := pks_lt (B := B) (s := s) (wn B L s) (fun i hi => wn_l hi)
    have h2 : 32 ^ wn B L s ≤ 32 ^ 6 := Nat.pow_le_pow_right (by decide) h
    have h3 : (32 : Nat) ^ 6 = 1073741824 := by decide
    omega
  · rw [if_neg h]; decide
def LC (N : Nat) (μ ν : sw_M) (X : Option (Int32 × sw_M)) (M : Option (Int32 × sw_M)) : Prop :=
  (∃ μ' ν' F W T P l, X = some (1, μ') ∧ M = f_m_country_136 N ν' ∧ LR μ' ν' F W T P l ∧ ν' 63 5 = -1 ∧ XN μ μ' ∧ μ' 1 8 = μ 1 8 ∧ MN ν ν') ∨
  (∃ μ' ν', X = some (0, μ') ∧ M = f_m_country_136 N ν' ∧ BAD μ' ν' ∧ XN μ μ' ∧ MN ν ν')
def CL (N : Nat) (RX : sw_M → Option (Int32 × sw_M)) (μ : sw_M) : Option (Int32 × sw_M) := Option.bind (f_tape_takeUnless N μ 0) (fun r1 => if r1.1 = 0 then some (0, r1.2) else Option.bind (RX r1.2) (fun r3 => if r3.1 = 0 then some (0, r3.2) else some (1, r3.2)))
def ROW (B : Nat → Nat) (L s : Nat) : Prop := wv B L s = oc 3 ∨ wv B L s = oc 17 ∨ wv B L s = oc 15 ∨ wv B L s = oc 11 ∨ wv B L s = oc 12
section
variable {N : Nat} {B : Nat → Nat} {L s : Nat} {μ ν : sw_M} {F W T P l : Nat}
theorem tu_1 (h : μ 1 5 = ic s) : f_tape_takeUnless N μ 1 = some (0, wr (wr μ 1 7 3) 1 8 (ic s)) := by
  unfold f_tape_takeUnless
  rw [if_neg (by decide), fail_e h, ob_e, bl_0]
theorem rc_fail (hN : 5000 ≤ N) (hB : ∀ i, B i < 256) (hA : AT μ B L s) (hL : LR μ ν F W T P l) (a2 : Int32) (h1 : ¬ ROW B L s) : f_landR_readClause N μ a2 = some (0, wr (wr μ 1 7 1) 1 8 (ic s)) := by
  have g1 : ¬ wv B L s = oc 3 := fun z => h1 (Or.inl z)
  have g2 : ¬ wv B L s = oc 17 := fun z => h1 (Or.inr (Or.inl z))
  have g3 : ¬ wv B L s = oc 15 := fun z => h1 (Or.inr (Or.inr (Or.inl z)))
  have g4 : ¬ wv B L s = oc 11 := fun z => h1 (Or.inr (Or.inr (Or.inr (Or.inl z))))
  have g5 : ¬ wv B L s = oc 12 := fun z => h1 (Or.inr (Or.inr (Or.inr (Or.inr z))))
  unfold f_landR_readClause
  rw [isWord_e hN hB hA (by decide), ob_e, b2_n g1, if_pos rfl, isWord_e hN hB hA (by decide), ob_e, b2_n g2, if_pos rfl, isWord_e hN hB hA (by decide), ob_e, b2_n g3, if_pos rfl, isWord_e hN hB hA (by decide), ob_e, b2_n g4, if_pos rfl, isWord_e hN hB hA (by decide), ob_e, b2_n g5, if_pos rfl, fail_e hA.2.2.2.2.2.2.1, ob_e, bl_0]
theorem ocn {i j : Nat} {w : Nat} (h : w = oc i) (hi : i < 19) (hj : j < 19) (hn : i ≠ j) : ¬ w = oc j := fun z => hn (oc_d i hi j hj (h.symm.trans z))
theorem rc_3 (hN : 5000 ≤ N) (hB : ∀ i, B i < 256) (hA : AT μ B L s) (h : wv B L s = oc 3) : f_landR_readClause N μ 0 = CL N (f_landR_readFields N) μ ∧ f_landR_readClause N μ 1 = some (0, wr (wr μ 1 7 3) 1 8 (ic s)) := by
  constructor
  · unfold f_landR_readClause
    rw [isWord_e hN hB hA (by decide), ob_e, b2_p h, if_neg (by decide)]; rfl
  · unfold f_landR_readClause
    rw [isWord_e hN hB hA (by decide), ob_e, b2_p h, if_neg (by decide), tu_1 hA.2.2.2.2.2.2.1, ob_e, if_pos rfl]
theorem rc_12 (hN : 5000 ≤ N) (hB : ∀ i, B i < 256) (hA : AT μ B L s) (h : wv B L s = oc 12) : f_landR_readClause N μ 0 = CL N (f_landR_readPliers N) μ ∧ f_landR_readClause N μ 1 = some (0, wr (wr μ 1 7 3) 1 8 (ic s)) := by
  have g1 : ¬ wv B L s = oc 3 := ocn h (by decide) (by decide) (by decide)
  have g2 : ¬ wv B L s = oc 17 := ocn h (by decide) (by decide) (by decide)
  have g3 : ¬ wv B L s = oc 15 := ocn h (by decide) (by decide) (by decide)
  have g4 : ¬ wv B L s = oc 11 := ocn h (by decide) (by decide) (by decide)
  constructor
  · unfold f_landR_readClause
    rw [isWord_e hN hB hA (by decide), ob_e, b2_n g1, if_pos rfl, isWord_e hN hB hA (by decide), ob_e, b2_n g2, if_pos rfl, isWord_e hN hB hA (by decide), ob_e, b2_n g3, if_pos rfl, isWord_e hN hB hA (by decide), ob_e, b2_n g4, if_pos rfl, isWord_e hN hB hA (by decide), ob_e, b2_p h, if_neg (by decide)]; rfl
  · unfold f_landR_readClause
    rw [isWord_e hN hB hA (by decide), ob_e, b2_n g1, if_pos rfl, isWord_e hN hB hA (by decide), ob_e, b2_n g2, if_pos rfl, isWord_e hN hB hA (by decide), ob_e, b2_n g3, if_pos rfl, isWord_e hN hB hA (by decide), ob_e, b2_n g4, if_pos rfl, isWord_e hN hB hA (by decide), ob_e, b2_p h, if_neg (by decide), tu_1 hA.2.2.2.2.2.2.1, ob_e, if_pos rfl]
theorem rc_17 (hN : 5000 ≤ N) (hB : ∀ i, B i < 256) (hA : AT μ B L s) (hW : μ 11 1 = ic W) (hW2 : W ≤ 12) (h : wv B L s = oc 17) : f_landR_readClause N μ 0 = (if W < 12 then CL N (f_landR_readWire N) μ else some (0, wr (wr μ 1 7 3) 1 8 (ic s))) ∧ f_landR_readClause N μ 1 = some (0, wr (wr μ 1 7 3) 1 8 (ic s)) := by
  have g1 : ¬ wv B L s = oc 3 := ocn h (by decide) (by decide) (by decide)
  have e1 : f_landR_readClause_54 N μ = some (0, wr (wr μ 1 7 3) 1 8 (ic s)) := by
    unfold f_landR_readClause_54 f_landR_readClause_59
    rw [tu_1 hA.2.2.2.2.2.2.1, ob_e, if_pos rfl]
  constructor
  · unfold f_landR_readClause
    rw [isWord_e hN hB hA (by decide), ob_e, b2_n g1, if_pos rfl, isWord_e hN hB hA (by decide), ob_e, b2_p h, if_neg (by decide), if_pos rfl, hW, e1]
    by_cases q : W < 12
    · rw [if_pos (by rw [lt_lit (by decide) (by omega)]; exact q), if_pos q]; rfl
    · rw [if_neg (by rw [lt_lit (by decide) (by omega)]; exact q), if_neg q]
  · unfold f_landR_readClause
    rw [isWord_e hN hB hA (by decide), ob_e, b2_n g1, if_pos rfl, isWord_e hN hB hA (by decide), ob_e, b2_p h, if_neg (by decide), if_neg (by decide), e1]
theorem rc_15 (hN : 5000 ≤ N) (hB : ∀ i, B i < 256) (hA : AT μ B L s) (hT : μ 11 2 = ic T) (hT2 : T ≤ 6) (h : wv B L s = oc 15) : f_landR_readClause N μ 0 = (if T < 6 then CL N (f_landR_readThing N) μ else some (0, wr (wr μ 1 7 3) 1 8 (ic s))) ∧ f_landR_readClause N μ 1 = some (0, wr (wr μ 1 7 3) 1 8 (ic s)) := by
  have g1 : ¬ wv B L s = oc 3 := ocn h (by decide) (by decide) (by decide)
  have g2 : ¬ wv B L s = oc 17 := ocn h (by decide) (by decide) (by decide)
  have e1 : f_landR_readClause_102 N μ = some (0, wr (wr μ 1 7 3) 1 8 (ic s)) := by
    unfold f_landR_readClause_102 f_landR_readClause_107
    rw [tu_1 hA.2.2.2.2.2.2.1, ob_e, if_pos rfl]
  constructor
  · unfold f_landR_readClause
    rw [isWord_e hN hB hA (by decide), ob_e, b2_n g1, if_pos rfl, isWord_e hN hB hA (by decide), ob_e, b2_n g2, if_pos rfl, isWord_e hN hB hA (by decide), ob_e, b2_p h, if_neg (by decide), if_pos rfl, hT, e1]
    by_cases q : T < 6
    · rw [if_pos (by rw [lt_lit (by decide) (by omega)]; exact q), if_pos q]; rfl
    · rw [if_neg (by rw [lt_lit (by decide) (by omega)]; exact q), if_neg q]
  · unfold f_landR_readClause
    rw [isWord_e hN hB hA (by decide), ob_e, b2_n g1, if_pos rfl, isWord_e hN hB hA (by decide), ob_e, b2_n g2, if_pos rfl, isWord_e hN hB hA (by decide), ob_e, b2_p h, if_neg (by decide), if_neg (by decide), e1]
theorem rc_11 (hN : 5000 ≤ N) (hB : ∀ i, B i < 256) (hA : AT μ B L s) (hP : μ 11 3 = ic P) (hP2 : P ≤ 5) (h : wv B L s = oc 11) : f_landR_readClause N μ 0 = (if P < 5 then CL N (f_landR_readPerson N) μ else some (0, wr (wr μ 1 7 3) 1 8 (ic s))) ∧ f_landR_readClause N μ 1 = some (0, wr (wr μ 1 7 3) 1 8 (ic s)) := by
  have g1 : ¬ wv B L s = oc 3 := ocn h (by decide) (by decide) (by decide)
  have g2 : ¬ wv B L s = oc 17 := ocn h (by decide) (by decide) (by decide)
  have g3 : ¬ wv B L s = oc 15 := ocn h (by decide) (by decide) (by decide)
  have e1 : f_landR_readClause_149 N μ = some (0, wr (wr μ 1 7 3) 1 8 (ic s)) := by
    unfold f_landR_readClause_149 f_landR_readClause_154
    rw [tu_1 hA.2.2.2.2.2.2.1, ob_e, if_pos rfl]
  constructor
  · unfold f_landR_readClause
    rw [isWord_e hN hB hA (by decide), ob_e, b2_n g1, if_pos rfl, isWord_e hN hB hA (by decide), ob_e, b2_n g2, if_pos rfl, isWord_e hN hB hA (by decide), ob_e, b2_n g3, if_pos rfl, isWord_e hN hB hA (by decide), ob_e, b2_p h, if_neg (by decide), if_pos rfl, hP, e1]
    by_cases q : P < 5
    · rw [if_pos (by rw [lt_lit (by decide) (by omega)]; exact q), if_pos q]; rfl
    · rw [if_neg (by rw [lt_lit (by decide) (by omega)]; exact q), if_neg q]
  · unfold f_landR_readClause
    rw [isWord_e hN hB hA (by decide), ob_e, b2_n g1, if_pos rfl, isWord_e hN hB hA (by decide), ob_e, b2_n g2, if_pos rfl, isWord_e hN hB hA (by decide), ob_e, b2_n g3, if_pos rfl, isWord_e hN hB hA (by decide), ob_e, b2_p h, if_neg (by decide), if_neg (by decide), e1]
/-! the reference's rows -/
theorem row_1 (hN : 5000 ≤ N) {j : Nat} (hj : j = 3 ∨ j = 17 ∨ j = 15 ∨ j = 11 ∨ j = 12) : f_sm_isRow N ν (ic (oc j)) = some 1 := by
  unfold f_sm_isRow
  rw [of_e hN (by decide), ob_e, of_e hN (by decide), ob_e, of_e hN (by decide), ob_e, of_e hN (by decide), ob_e, of_e hN (by decide), ob_e]
  rcases hj with rfl | rfl | rfl | rfl | rfl <;> simp
theorem row_0 (hN : 5000 ≤ N) (h1 : ¬ ROW B L s) : f_sm_isRow N ν (ic (wv B L s)) = some 0 := by
  have hw := wv_lt (B := B) L s
  have hc : ∀ j, j < 19 → ¬ wv B L s = oc j → ¬ ic (wv B L s) = ic (oc j) := fun j hj h => by rw [ic_eq (by omega) (by have := oc_b j hj; omega)]; exact h
  unfold f_sm_isRow
  rw [of_e hN (by decide), ob_e, of_e hN (by decide), ob_e, of_e hN (by decide), ob_e, of_e hN (by decide), ob_e, of_e hN (by decide), ob_e,
    if_neg (hc 3 (by decide) (fun z => h1 (Or.inl z))), if_neg (hc 17 (by decide) (fun z => h1 (Or.inr (Or.inl z)))), if_neg (hc 15 (by decide) (fun z => h1 (Or.inr (Or.inr (Or.inl z))))), if_neg (hc 11 (by decide) (fun z => h1 (Or.inr (Or.inr (Or.inr (Or.inl z)))))), if_neg (hc 12 (by decide) (fun z => h1 (Or.inr (Or.inr (Or.inr (Or.inr z))))))]
theorem ico {i j : Nat} (hi : i < 19) (hj : j < 19) (hn : i ≠ j) : ¬ ic (oc i) = ic (oc j) := by
  rw [ic_eq (by have := oc_b i hi; omega) (by have := oc_b j hj; omega)]; exact fun z => hn (oc_d i hi j hj z)
theorem rr_3 (hN : 5000 ≤ N) : f_m_readRow N ν (ic (oc 3)) = mFields N ν := by
  unfold f_m_readRow
  rw [of_e hN (by decide), ob_e, if_pos rfl]; rfl
theorem rr_17 (hN : 5000 ≤ N) : f_m_readRow N ν (ic (oc 17)) = f_m_readWire N ν := by
  unfold f_m_readRow
  rw [of_e hN (by decide), ob_e, if_neg (ico (by decide) (by decide) (by decide)), of_e hN (by decide), ob_e, if_pos rfl]
  cases f_m_readWire N ν <;> rfl
theorem rr_15 (hN : 5000 ≤ N) : f_m_readRow N ν (ic (oc 15)) = mThing N ν := by
  unfold f_m_readRow
  rw [of_e hN (by decide), ob_e, if_neg (ico (by decide) (by decide) (by decide)), of_e hN (by decide), ob_e, if_neg (ico (by decide) (by decide) (by decide)), of_e hN (by decide), ob_e, if_pos rfl]; rfl
theorem rr_11 (hN : 5000 ≤ N) : f_m_readRow N ν (ic (oc 11)) = mPerson N ν := by
  unfold f_m_readRow
  rw [of_e hN (by decide), ob_e, if_neg (ico (by decide) (by decide) (by decide)), of_e hN (by decide), ob_e, if_neg (ico (by decide) (by decide) (by decide)), of_e hN (by decide), ob_e, if_neg (ico (by decide) (by decide) (by decide)), of_e hN (by decide), ob_e, if_pos rfl]; rfl
theorem rr_12 (hN : 5000 ≤ N) : f_m_readRow N ν (ic (oc 12)) = mPliers N ν := by
  unfold f_m_readRow
  rw [of_e hN (by decide), ob_e, if_neg (ico (by decide) (by decide) (by decide)), of_e hN (by decide), ob_e, if_neg (ico (by decide) (by decide) (by decide)), of_e hN (by decide), ob_e, if_neg (ico (by decide) (by decide) (by decide)), of_e hN (by decide), ob_e, if_neg (ico (by decide) (by decide) (by decide))]; rfl
theorem fu_17 (hN : 5000 ≤ N) (h : ν 63 17 = ic W) (hW : W ≤ 12) : f_m_isFull N ν (ic (oc 17)) = some (if W < 12 then 0 else 1) := by
  unfold f_m_isFull
  rw [of_e hN (by decide), ob_e, if_pos rfl, h]
  by_cases q : W < 12
  · rw [if_neg (by rw [eq_lit (by decide) (by omega)]; show ¬ W = 12; omega), if_pos q]
  · rw [if_pos (by rw [eq_lit (by decide) (by omega)]; show W = 12; omega), if_neg q]
theorem fu_15 (hN : 5000 ≤ N) (h : ν 63 18 = ic T) (hT : T ≤ 6) : f_m_isFull N ν (ic (oc 15)) = some (if T < 6 then 0 else 1) := by
  unfold f_m_isFull
  rw [of_e hN (by decide), ob_e, if_neg (ico (by decide) (by decide) (by decide)), of_e hN (by decide), ob_e, if_pos rfl, h]
  by_cases q : T < 6
  · rw [if_neg (by rw [eq_lit (by decide) (by omega)]; show ¬ T = 6; omega), if_pos q]
  · rw [if_pos (by rw [eq_lit (by decide) (by omega)]; show T = 6; omega), if_neg q]
theorem fu_11 (hN : 5000 ≤ N) (h : ν 63 19 = ic P) (hP : P ≤ 5) : f_m_isFull N ν (ic (oc 11)) = some (if P < 5 then 0 else 1) := by
  unfold f_m_isFull
  rw [of_e hN (by decide), ob_e, if_neg (ico (by decide) (by decide) (by decide)), of_e hN (by decide), ob_e, if_neg (ico (by decide) (by decide) (by decide)), of_e hN (by decide), ob_e, if_pos rfl, h]
  by_cases q : P < 5
  · rw [if_neg (by rw [eq_lit (by decide) (by omega)]; show ¬ P = 5; omega), if_pos q]
  · rw [if_pos (by rw [eq_lit (by decide) (by omega)]; show P = 5; omega), if_neg q]
theorem fu_no (hN : 5000 ≤ N) {j : Nat} (hj : j = 3 ∨ j = 12) : f_m_isFull N ν (ic (oc j)) = some 0 := by
  unfold f_m_isFull
  rw [of_e hN (by decide), ob_e, of_e hN (by decide), ob_e, of_e hN (by decide), ob_e, if_neg (ico (by omega) (by decide) (by omega)), if_neg (ico (by omega) (by decide) (by omega)), if_neg (ico (by omega) (by decide) (by omega))]
/-! a fault that stands ends the reference's reading -/
theorem c44_bad (h : ¬ ν 63 5 = -1) (u : Nat) (x : Int32) : f_m_country_44 N (u + 1) ν x = f_m_country_136 N ν := by
  rw [f_m_country_44, fine_0 h, ob_e, if_pos rfl]
theorem c105_bad (h : ¬ ν 63 5 = -1) (k : sw_M → Int32 → Option (Int32 × sw_M)) (x y : Int32) : f_m_country_105 N k ν x y = f_m_country_136 N ν := by
  unfold f_m_country_105
  rw [fine_0 h, ob_e, if_pos rfl]
/-- one clause that is taken -/
theorem clause_go {k u u2 j : Nat} (hN : 5000 ≤ N) (hB : ∀ i, B i < 256) (hA : AT μ B L s) (hR : RT ν B L s) (hL : LR μ ν F W T P l) (hj : j < 19) (hwj : wv B L s = oc j) (RX : sw_M → Option (Int32 × sw_M)) (MX : sw_M → Option sw_M)
    (hrow : ∀ ν, f_m_readRow N ν (ic (oc j)) = MX ν) (hro : ∀ μ1 ν1 s1, AT μ1 B L s1 → RT ν1 B L s1 → LR μ1 ν1 F W T P l → RO B L μ1 ν1 s1 (RX μ1) (MX ν1)) (hu2 : 0 < u2) (hrc : f_landR_readClause N μ 0 = CL N RX μ)
    (ih : ∀ s' μ1 ν1 F W T P l, AT μ1 B L s' → RT ν1 B L s' → LR μ1 ν1 F W T P l → LC N μ1 ν1 (f_landR_read_27 N u μ1 (ic (k + 1))) (f_m_country_44 N u2 ν1 (ic (k + 1)))) :
    LC N μ ν (f_landR_read_58 N (f_landR_read_27 N u) μ (ic k) 0) (f_m_country_105 N (f_m_country_44 N u2) (wr ν 63 4 (ic s)) (ic k) (ic (wv B L s))) := by
  obtain ⟨u2, rfl⟩ := fu_s hu2
  obtain ⟨w1, w2, w3, w4⟩ := wv_w hA.2.2.1 hj hwj
  obtain ⟨μ1, a1, a2, a3⟩ := adv_e hN hB hA
  have hle : re pL B L s ≤ L := re_le hA.2.2.1
  have hp := pass_e hN hB hR
  have hR1 : RT (wr ν 63 4 (ic (re pL B L s))) B L (sk B L (nx B L s)) := by rw [w3, w4]; exact hR.at (by omega)
  have f1 : FrR ν (wr ν 63 4 (ic (re pL B L s))) := (FrR.rf ν).wr _ (Or.inl rfl)
  have h5 : (wr ν 63 4 (ic s)) 63 5 = -1 := hR.2.2.2.2
  have hX : f_landR_read_58 N (f_landR_read_27 N u) μ (ic k) 0 = Option.bind (Option.bind (RX μ1) (fun r3 => if r3.1 = 0 then some ((0 : Int32), r3.2) else some ((1 : Int32), r3.2))) (fun r1 => if r1.1 = 0 then some (0, r1.2) else Option.bind (f_tape_takeSign N r1.2 59) (fun r3 => if r3.1 = 0 then some (0, r3.2) else f_landR_read_27 N u r3.2 (ic (k + 1)))) := by
    unfold f_landR_read_58
    rw [hrc]
    unfold CL f_tape_takeUnless
    rw [if_pos rfl, a1, ob_e, ob_e, if_neg (show ¬ (1 : Int32) = 0 by decide), ic_1]
  have hM : f_m_country_105 N (f_m_country_44 N (u2 + 1)) (wr ν 63 4 (ic s)) (ic k) (ic (wv B L s)) = Option.bind (MX (wr ν 63 4 (ic (re pL B L s)))) (fun r5 => Option.bind (f_m_sign N r5 59) (fun r7 => f_m_country_44 N (u2 + 1) r7 (ic (k + 1)))) := by
    unfold f_m_country_105
    rw [fine_1 h5, ob_e, if_neg (by decide), hp, ob_e, hwj, hrow, ic_1]
  rcases hro _ _ _ a2 hR1 (hL.fp a3 f1) with ⟨μ2, ν2, s2, F', W', T', P', l', x1, y1, hA2, hR2, hs2, hL2, xn, x8, mn⟩ | ⟨μ2, ν2, x1, y1, hbd, xn, mn⟩
  · simp only [x1, ob_e, if_neg o1] at hX
    rw [y1, ob_e] at hM
    rcases j_sign hN hB hA2 hR2 sg59 with ⟨μ3, ν3, s3, x2, y2, hA3, hR3, hs3, fp, fr, -, -⟩ | ⟨μ3, ν3, x2, y2, hbd, fb, fr, -⟩
    · have x2' : f_tape_takeSign N μ2 59 = some (1, μ3) := x2
      have y2' : f_m_sign N ν2 59 = some ν3 := y2
      rw [x2', ob_e, if_neg (show ¬ (1 : Int32) = 0 by decide)] at hX
      rw [y2', ob_e] at hM
      rw [hX, hM]
      have xx : XN μ μ3 := a3.xn.tr (xn.tr fp.xn)
      have mm : MN ν ν3 := f1.mn.tr (mn.tr fr.mn)
      rcases ih s3 μ3 ν3 F' W' T' P' l' hA3 hR3 (hL2.fp fp fr) with ⟨μ4, ν4, F4, W4, T4, P4, l4, g1, g2, g3, g4, g5, g6, g7⟩ | ⟨μ4, ν4, g1, g2, g3, g5, g7⟩
      · exact Or.inl ⟨μ4, ν4, F4, W4, T4, P4, l4, g1, g2, g3, g4, xx.tr g5, by rw [g6, fp.2.2, x8, a3.2.2], mm.tr g7⟩
      · exact Or.inr ⟨μ4, ν4, g1, g2, g3, xx.tr g5, mm.tr g7⟩
    · have x2' : f_tape_takeSign N μ2 59 = some (0, μ3) := x2
      have y2' : f_m_sign N ν2 59 = some ν3 := y2
      rw [x2', ob_e, if_pos rfl] at hX
      rw [y2', ob_e, c44_bad hbd.nf] at hM
      exact Or.inr ⟨μ3, ν3, hX, hM, hbd, a3.xn.tr (xn.tr fb.xn), f1.mn.tr (mn.tr fr.mn)⟩
  · rw [x1, ob_e, if_pos rfl, ob_e, if_pos rfl] at hX
    rw [y1, ob_e, sign_bad hbd.nf, ob_e, c44_bad hbd.nf] at hM
    exact Or.inr ⟨μ2, ν2, hX, hM, hbd, a3.xn.tr xn, f1.mn.tr mn⟩
theorem lp_land_step {k u u2 : Nat} (hN : 5000 ≤ N) (hB : ∀ i, B i < 256) (hA : AT μ B L s) (hR : RT ν B L s) (hL : LR μ ν F W T P l) (hk : k ≤ 60) (hu2 : 0 < u2)
    (ih : k < 60 → ∀ s' μ1 ν1 F W T P l, AT μ1 B L s' → RT ν1 B L s' → LR μ1 ν1 F W T P l → LC N μ1 ν1 (f_landR_read_27 N u μ1 (ic (k + 1))) (f_m_country_44 N u2 ν1 (ic (k + 1)))) :
    LC N μ ν (f_landR_read_27 N (u + 1) μ (ic k)) (f_m_country_44 N (u2 + 1) ν (ic k)) := by
  obtain ⟨⟨l0, l1, l2, l3, l4⟩, ⟨n0, n1, n2, n3, n4⟩, ⟨hF, hW, hT, hP, hl⟩, -⟩ := id hL
  have h5 := hR.2.2.2.2
  have f1 : FrR ν (wr ν 63 4 (ic s)) := (FrR.rf ν).wr _ (Or.inl rfl)
  have hR1 := hR.id
  have hkd : (μ 1 4 = 256) ↔ ¬ s < L := by rw [hA.2.2.2.2.2.1, eq_lit (by decide) (by have := kd_lt hB L s; omega)]; exact kd_end hB L s
  have hX0 : f_landR_read_27 N (u + 1) μ (ic k) = if (μ 1 4) = 256 then some (1, μ) else if k < 60 then f_landR_read_58 N (f_landR_read_27 N u) μ (ic k) 0 else f_landR_read_58 N (f_landR_read_27 N u) μ (ic k) 1 := by
    rw [f_landR_read_27, if_neg (by rw [lit_lt (by decide) (by omega)]; show ¬ 60 < k; omega)]
    by_cases q : k < 60
    · rw [if_pos (show ic k < 60 by rw [lt_lit (by decide) (by omega)]; exact q), if_pos q]
    · rw [if_neg (show ¬ ic k < 60 by rw [lt_lit (by decide) (by omega)]; exact q), if_neg q]
  have hM0 : f_m_country_44 N (u2 + 1) ν (ic k) = if b2 (s < L) = 0 then f_m_country_136 N (wr ν 63 4 (ic s)) else Option.bind (f_m_word N (wr ν 63 4 (ic s))) (fun r5 => Option.bind (f_sm_isRow N r5.2 r5.1) (fun r7 => if r7 = 0 then Option.bind (f_m_wrong N r5.2 1 (r5.2 63 4)) (fun r11 => f_m_country_105 N (f_m_country_44 N u2) r11 (ic k) r5.1) else if ic k = 60 then f_m_country_96 N (f_m_country_44 N u2) r5.2 (ic k) r5.1 else Option.bind (f_m_isFull N r5.2 r5.1) (fun r9 => if r9 = 0 then f_m_country_105 N (f_m_country_44 N u2) r5.2 (ic k) r5.1 else f_m_country_96 N (f_m_country_44 N u2) r5.2 (ic k) r5.1))) := by
    rw [f_m_country_44, fine_1 h5, ob_e, if_neg (by decide), more_e hN hB hR, ob_e]
  by_cases hs : s < L
  rotate_left
  · left
    rw [hX0, if_pos (hkd.mpr hs), hM0, b2_n hs, if_pos rfl]
    exact ⟨μ, wr ν 63 4 (ic s), F, W, T, P, l, rfl, rfl, hL.fp (FrP.rf μ) f1, h5, XN.rf μ, rfl, f1.mn⟩
  rw [if_neg (fun z => hkd.mp z hs)] at hX0
  rw [b2_p hs, if_neg (show ¬ (1 : Int32) = 0 by decide), word_e hN hB hR1, wr_wr, ob_e] at hM0
  simp only at hM0
  have s6 : s ≤ 600 := by have := hA.2.1; have := hA.2.2.1; omega
  have t4 : (wr ν 63 4 (ic s)) 63 4 = ic s := rfl
  have h51 : (wr ν 63 4 (ic s)) 63 5 = -1 := h5
  -- failing
  have hfail : ∀ e : Nat, e ≤ 3 → f_landR_read_27 N (u + 1) μ (ic k) = some (0, wr (wr μ 1 7 (ic e)) 1 8 (ic s)) → f_m_country_44 N (u2 + 1) ν (ic k) = f_m_country_105 N (f_m_country_44 N u2) (wr (wr (wr ν 63 4 (ic s)) 63 5 (ic s)) 63 6 (ic e)) (ic k) (ic (wv B L s)) → LC N μ ν (f_landR_read_27 N (u + 1) μ (ic k)) (f_m_country_44 N (u2 + 1) ν (ic k)) := by
    intro e he q1 q2
    have hbd := bad_mk μ (wr ν 63 4 (ic s)) (k := e) (p := s) s6 he
    rw [c105_bad hbd.nf] at q2
    exact Or.inr ⟨_, _, q1, q2, hbd, (fb_fail μ _ _).xn, (f1.mn.w63 5 _ (by decide)).w63 6 _ (by decide)⟩
  have h58 : ∀ (x : Int32) (e : Int32), f_landR_readClause N μ x = some (0, wr (wr μ 1 7 e) 1 8 (ic s)) → f_landR_read_58 N (f_landR_read_27 N u) μ (ic k) x = some (0, wr (wr μ 1 7 e) 1 8 (ic s)) := by
    intro x e h
    unfold f_landR_read_58
    rw [h, ob_e, if_pos rfl]
  have h96 : f_m_country_96 N (f_m_country_44 N u2) (wr ν 63 4 (ic s)) (ic k) (ic (wv B L s)) = f_m_country_105 N (f_m_country_44 N u2) (wr (wr (wr ν 63 4 (ic s)) 63 5 (ic s)) 63 6 (ic 3)) (ic k) (ic (wv B L s)) := by
    unfold f_m_country_96
    rw [wrong_1 h51, ob_e, t4]; rfl
  by_cases hrow : ROW B L s
  rotate_left
  · refine hfail 1 (by decide) ?_ ?_
    · rw [hX0]
      have e1 := h58 0 1 (rc_fail hN hB hA hL 0 hrow)
      have e2 := h58 1 1 (rc_fail hN hB hA hL 1 hrow)
      rw [e1, e2, ite_self]; rfl
    · rw [hM0, row_0 hN hrow, ob_e, if_pos rfl, wrong_1 h51, ob_e, t4]; rfl
  -- a row
  have main : ∀ (j : Nat) (hj : j < 19) (hjr : j = 3 ∨ j = 17 ∨ j = 15 ∨ j = 11 ∨ j = 12) (hwj : wv B L s = oc j) (cap : Prop) [Decidable cap] (RX : sw_M → Option (Int32 × sw_M)) (MX : sw_M → Option sw_M)
      (_ : ∀ ν, f_m_readRow N ν (ic (oc j)) = MX ν) (_ : cap → ∀ μ1 ν1 s1, AT μ1 B L s1 → RT ν1 B L s1 → LR μ1 ν1 F W T P l → RO B L μ1 ν1 s1 (RX μ1) (MX ν1))
      (_ : f_landR_readClause N μ 0 = (if cap then CL N RX μ else some (0, wr (wr μ 1 7 3) 1 8 (ic s)))) (_ : f_landR_readClause N μ 1 = some (0, wr (wr μ 1 7 3) 1 8 (ic s))) (_ : f_m_isFull N (wr ν 63 4 (ic s)) (ic (oc j)) = some (if cap then 0 else 1)),
      LC N μ ν (f_landR_read_27 N (u + 1) μ (ic k)) (f_m_country_44 N (u2 + 1) ν (ic k)) := by
    intro j hj hjr hwj cap _ RX MX q1 q2 q3 q4 q5
    rw [show f_sm_isRow N (wr ν 63 4 (ic s)) (ic (wv B L s)) = some 1 by rw [hwj]; exact row_1 hN hjr, ob_e, if_neg (show ¬ (1 : Int32) = 0 by decide)] at hM0
    by_cases hk6 : k < 60
    · rw [if_pos hk6] at hX0
      rw [if_neg (show ¬ ic k = 60 by rw [eq_lit (by decide) (by omega)]; show ¬ k = 60; omega), show f_m_isFull N (wr ν 63 4 (ic s)) (ic (wv B L s)) = some (if cap then 0 else 1) by rw [hwj]; exact q5, ob_e] at hM0
      by_cases hc : cap
      · rw [if_pos hc] at q3
        rw [if_pos hc, if_pos rfl] at hM0
        rw [hX0, hM0]
        exact clause_go hN hB hA hR hL hj hwj RX MX q1 (q2 hc) hu2 q3 (ih hk6)
      · rw [if_neg hc] at q3
        rw [if_neg hc, if_neg (show ¬ (1 : Int32) = 0 by decide), h96] at hM0
        exact hfail 3 (by decide) (by rw [hX0]; exact h58 0 3 q3) hM0
    · rw [if_neg hk6, h58 1 3 q4] at hX0
      rw [if_pos (show ic k = 60 by rw [show k = 60 by omega]; rfl), h96] at hM0
      exact hfail 3 (by decide) hX0 hM0
  rcases hrow with h | h | h | h | h
  · obtain ⟨c0, c1⟩ := rc_3 hN hB hA h
    exact main 3 (by decide) (by decide) h True _ _ (fun ν => rr_3 hN) (fun _ μ1 ν1 s1 a r q => ro_fields hN hB a r q) (by rw [if_pos trivial]; exact c0) c1 (by rw [if_pos trivial]; exact fu_no hN (by decide))
  · obtain ⟨c0, c1⟩ := rc_17 hN hB hA l1 hW h
    exact main 17 (by decide) (by decide) h (W < 12) _ _ (fun ν => rr_17 hN) (fun c μ1 ν1 s1 a r q => ro_wire hN hB a r q c) c0 c1 (fu_17 hN (by exact n1) hW)
  · obtain ⟨c0, c1⟩ := rc_15 hN hB hA l2 hT h
    exact main 15 (by decide) (by decide) h (T < 6) _ _ (fun ν => rr_15 hN) (fun c μ1 ν1 s1 a r q => ro_Thing hN hB a r q c) c0 c1 (fu_15 hN (by exact n2) hT)
  · obtain ⟨c0, c1⟩ := rc_11 hN hB hA l3 hP h
    exact main 11 (by decide) (by decide) h (P < 5) _ _ (fun ν => rr_11 hN) (fun c μ1 ν1 s1 a r q => ro_Person hN hB a r q c) c0 c1 (fu_11 hN (by exact n3) hP)
  · obtain ⟨c0, c1⟩ := rc_12 hN hB hA h
    exact main 12 (by decide) (by decide) h True _ _ (fun ν => rr_12 hN) (fun _ μ1 ν1 s1 a r q => ro_pliers hN hB a r q) (by rw [if_pos trivial]; exact c0) c1 (by rw [if_pos trivial]; exact fu_no hN (by decide))
end
theorem lp_land {N : Nat} {B : Nat → Nat} {L : Nat} (hN : 5000 ≤ N) (hB : ∀ i, B i < 256) : ∀ (j k s : Nat) (μ ν : sw_M) (F W T P l : Nat) (u u2 : Nat), k + j = 60 → j < u → j + 1 < u2 → AT μ B L s → RT ν B L s → LR μ ν F W T P l → LC N μ ν (f_landR_read_27 N u μ (ic k)) (f_m_country_44 N u2 ν (ic k)) := by
  intro j
  induction j with
  | zero =>
    intro k s μ ν F W T P l u u2 hk hu hu2 hA hR hL
    obtain ⟨u, rfl⟩ := fu_s hu
    obtain ⟨u2, rfl⟩ := fu_s (show 0 < u2 by omega)
    exact lp_land_step hN hB hA hR hL (by omega) (by omega) (fun z => absurd z (by omega))
  | succ j ih =>
    intro k s μ ν F W T P l u u2 hk hu hu2 hA hR hL
    obtain ⟨u, rfl⟩ := fu_s (show 0 < u by omega)
    obtain ⟨u2, rfl⟩ := fu_s (show 0 < u2 by omega)
    exact lp_land_step hN hB hA hR hL (by omega) (by omega) (fun _ s' μ1 ν1 F W T P l a r q => ih (k + 1) s' μ1 ν1 F W T P l u u2 (by omega) (by omega) (by omega) a r q)
theorem land_sim {N : Nat} {μ : sw_M} {B : Nat → Nat} {n s : Nat} (hN : 5000 ≤ N) (hB : ∀ i, B i < 256) (h6 : n ≤ 600) (hA : AT μ B n s) (hs : s = sk B n 0) (ν : sw_M) (hb : ∀ i, i < n → ν 65 i = ic (B i)) :
    ∃ ν1 ν2, f_m_begins N ν (ic n) = some ν1 ∧ f_m_clears N ν1 = some ν2 ∧ MN ν1 ν2 ∧ LC N μ ν2 (f_landR_read N μ) (f_m_country_44 N N ν2 0) := by
  obtain ⟨ν1, e1, e2, e3, e4, -⟩ := begins_e (N := N) h6 hb
  subst hs
  obtain ⟨μ0, hμ0⟩ : ∃ x : sw_M, x = wr (wr (wr (wr (wr μ 11 0 0) 11 1 0) 11 2 0) 11 3 0) 11 4 2 := ⟨_, rfl⟩
  obtain ⟨ν2, hν2⟩ : ∃ x : sw_M, x = wr (wr (wr (wr (wr ν1 63 16 0) 63 17 0) 63 18 0) 63 19 0) 63 20 2 := ⟨_, rfl⟩
  have hA1 : AT μ0 B n (sk B n 0) := by rw [hμ0]; exact hA
  have hR1 : RT ν2 B n (sk B n 0) := by rw [hν2]; exact e2
  have hL : LR μ0 ν2 0 0 0 0 2 := by
    refine ⟨?_, ?_, by decide, fun w h => by omega, fun w h => by omega, fun w h => by omega⟩
    · rw [hμ0]; exact ⟨rfl, rfl, rfl, rfl, rfl⟩
    · rw [hν2]; exact ⟨rfl, rfl, rfl, rfl, rfl⟩
  have x0 : XN μ μ0 := by rw [hμ0]; exact (((((XN.rf μ).w3 11 _ _ (by decide) (by decide)).w3 11 _ _ (by decide) (by decide)).w3 11 _ _ (by decide) (by decide)).w3 11 _ _ (by decide) (by decide)).w3 11 _ _ (by decide) (by decide)
  have m0 : MN ν1 ν2 := by rw [hν2]; exact (((((MN.rf ν1).w63 16 _ (by decide)).w63 17 _ (by decide)).w63 18 _ (by decide)).w63 19 _ (by decide)).w63 20 _ (by decide)
  refine ⟨ν1, ν2, e1, by rw [hν2]; rfl, m0, ?_⟩
  have hx : f_landR_read N μ = f_landR_read_27 N N μ0 (ic 0) := by rw [hμ0]; rfl
  have x8 : μ0 1 8 = μ 1 8 := by rw [hμ0]; rfl
  rw [hx]
  rcases lp_land hN hB 60 0 _ μ0 ν2 _ _ _ _ _ N N (by omega) (by omega) (by omega) hA1 hR1 hL with ⟨μ4, ν4, F4, W4, T4, P4, l4, g1, g2, g3, g4, g5, g6, g7⟩ | ⟨μ4, ν4, g1, g2, g3, g5, g7⟩
  · exact Or.inl ⟨μ4, ν4, F4, W4, T4, P4, l4, g1, g2, g3, g4, x0.tr g5, g6.trans x8, g7⟩
  · exact Or.inr ⟨μ4, ν4, g1, g2, g3, x0.tr g5, g7⟩
