/-! ===== printed by wip/whole/gen85.py: a country's text ===== -/
def XN (μ μ' : sw_M) : Prop := (∀ a, a ≠ 1 → (a < 11 ∨ 18 < a) → μ' a = μ a) ∧ μ' 1 3 = μ 1 3
def MN (ν ν' : sw_M) : Prop := (∀ a, a ≠ 63 → (a < 66 ∨ 68 < a) → ν' a = ν a) ∧ ∀ j, (j < 4 ∨ 6 < j) → (j < 16 ∨ 20 < j) → ν' 63 j = ν 63 j
theorem XN.rf (μ : sw_M) : XN μ μ := ⟨fun _ _ _ => rfl, rfl⟩
theorem MN.rf (μ : sw_M) : MN μ μ := ⟨fun _ _ _ => rfl, fun _ _ _ => rfl⟩
theorem XN.tr {a b c : sw_M} (h : XN a b) (h2 : XN b c) : XN a c := ⟨fun x q1 q2 => (h2.1 x q1 q2).trans (h.1 x q1 q2), h2.2.trans h.2⟩
theorem MN.tr {a b c : sw_M} (h : MN a b) (h2 : MN b c) : MN a c := ⟨fun x q1 q2 => (h2.1 x q1 q2).trans (h.1 x q1 q2), fun j q1 q2 => (h2.2 j q1 q2).trans (h.2 j q1 q2)⟩
theorem FrB.xn {a b : sw_M} (h : FrB a b) : XN a b := ⟨fun x q1 _ => h.1 x q1, h.2⟩
theorem FrP.xn {a b : sw_M} (h : FrP a b) : XN a b := h.fb.xn
theorem FrR.mn {a b : sw_M} (h : FrR a b) : MN a b := ⟨fun x q1 _ => h.1 x q1, fun j q1 _ => h.2 j (by omega) (by omega) (by omega)⟩
theorem XN.w3 {a b : sw_M} (h : XN a b) (k : Nat) (j : Nat) (v : Int32) (h1 : 11 ≤ k) (h2 : k ≤ 18) : XN a (wr b k j v) := ⟨fun x q1 q2 => by rw [wr_nr (by omega)]; exact h.1 x q1 q2, by rw [wr_nr (by omega)]; exact h.2⟩
theorem MN.w3 {a b : sw_M} (h : MN a b) (k : Nat) (j : Nat) (v : Int32) (h1 : 66 ≤ k) (h2 : k ≤ 68) : MN a (wr b k j v) := ⟨fun x q1 q2 => by rw [wr_nr (by omega)]; exact h.1 x q1 q2, fun i q1 q2 => by rw [wr_nr (by omega)]; exact h.2 i q1 q2⟩
theorem MN.w63 {a b : sw_M} (h : MN a b) (j : Nat) (v : Int32) (h1 : (4 ≤ j ∧ j ≤ 6) ∨ (16 ≤ j ∧ j ≤ 20)) : MN a (wr b 63 j v) := ⟨fun x q1 q2 => by rw [wr_nr q1]; exact h.1 x q1 q2, fun i q1 q2 => by rw [wr_ap, if_pos rfl, if_neg (by omega)]; exact h.2 i q1 q2⟩
def LR (μ ν : sw_M) (F W T P l : Nat) : Prop := (μ 11 0 = ic F ∧ μ 11 1 = ic W ∧ μ 11 2 = ic T ∧ μ 11 3 = ic P ∧ μ 11 4 = ic l) ∧ (ν 63 16 = ic F ∧ ν 63 17 = ic W ∧ ν 63 18 = ic T ∧ ν 63 19 = ic P ∧ ν 63 20 = ic l) ∧ (F ≤ 8 ∧ W ≤ 12 ∧ T ≤ 6 ∧ P ≤ 5 ∧ l ≤ 9) ∧
  (∀ w, w < W → ∃ a b h : Nat, (a < F ∧ b < F ∧ a ≠ b ∧ h ≤ 99) ∧ (μ 12 w = ic a ∧ μ 13 w = ic b ∧ μ 14 w = ic h) ∧ ν 66 (3 * w) = ic a ∧ ν 66 (3 * w + 1) = ic b ∧ ν 66 (3 * w + 2) = ic h) ∧
  (∀ t, t < T → ∃ a h : Nat, (a < F ∧ 1 ≤ h ∧ h ≤ 30) ∧ (μ 15 t = ic a ∧ μ 16 t = ic h) ∧ ν 67 (2 * t) = ic a ∧ ν 67 (2 * t + 1) = ic h) ∧
  (∀ t, t < P → ∃ a h : Nat, (a < F ∧ 1 ≤ h ∧ h ≤ 40) ∧ (μ 17 t = ic a ∧ μ 18 t = ic h) ∧ ν 68 (2 * t) = ic a ∧ ν 68 (2 * t + 1) = ic h)
theorem LR.fr {μ ν μ' ν' : sw_M} {F W T P l : Nat} (h : LR μ ν F W T P l) (f : ∀ a, 11 ≤ a → a ≤ 18 → μ' a = μ a) (g : ∀ a, 66 ≤ a → a ≤ 68 → ν' a = ν a) (k : ∀ j, 16 ≤ j → j ≤ 20 → ν' 63 j = ν 63 j) : LR μ' ν' F W T P l := by
  unfold LR at h ⊢
  rw [f 11 (by decide) (by decide), f 12 (by decide) (by decide), f 13 (by decide) (by decide), f 14 (by decide) (by decide), f 15 (by decide) (by decide), f 16 (by decide) (by decide), f 17 (by decide) (by decide), f 18 (by decide) (by decide), g 66 (by decide) (by decide), g 67 (by decide) (by decide), g 68 (by decide) (by decide), k 16 (by decide) (by decide), k 17 (by decide) (by decide), k 18 (by decide) (by decide), k 19 (by decide) (by decide), k 20 (by decide) (by decide)]
  exact h
theorem LR.fp {μ ν μ' ν' : sw_M} {F W T P l : Nat} (h : LR μ ν F W T P l) (f : FrP μ μ') (g : FrR ν ν') : LR μ' ν' F W T P l := h.fr (fun a _ _ => f.1 a (by omega)) (fun a _ _ => g.1 a (by omega)) (fun j _ _ => g.2 j (by omega) (by omega) (by omega))
/-- what a clause comes to -/
def RO (B : Nat → Nat) (L : Nat) (μ ν : sw_M) (s : Nat) (X : Option (Int32 × sw_M)) (M : Option sw_M) : Prop :=
  (∃ μ' ν' s' F W T P l, X = some (1, μ') ∧ M = some ν' ∧ AT μ' B L s' ∧ RT ν' B L s' ∧ s ≤ s' ∧ LR μ' ν' F W T P l ∧ XN μ μ' ∧ μ' 1 8 = μ 1 8 ∧ MN ν ν') ∨
  (∃ μ' ν', X = some (0, μ') ∧ M = some ν' ∧ BAD μ' ν' ∧ XN μ μ' ∧ MN ν ν')
section
variable {N : Nat} {B : Nat → Nat} {L s : Nat} {μ ν : sw_M} {F W T P l : Nat}
def mFields (N : Nat) (ν : sw_M) : Option sw_M := Option.bind (f_m_here N ν) (fun r32 => ib (r32.2 63 4) (fun y34 => Option.bind (f_m_readNumber N r32.2 1 8) (fun r35 => Option.bind (f_m_fine N r35.2) (fun r37 => if r37 = 0 then f_m_readRow_51 N r35.2 r35.1 else if ((r35.2 63 16) + r35.1) ≤ 8 then f_m_readRow_51 N r35.2 r35.1 else Option.bind (f_m_wrong N r35.2 2 y34) (fun r39 => f_m_readRow_51 N r39 r35.1)))))
theorem ro_fields (hN : 5000 ≤ N) (hB : ∀ i, B i < 256) (hA : AT μ B L s) (hR : RT ν B L s) (hL : LR μ ν F W T P l) : RO B L μ ν s (f_landR_readFields N μ) (mFields N ν) := by
  obtain ⟨⟨l0, l1, l2, l3, l4⟩, ⟨n0, n1, n2, n3, n4⟩, ⟨hF, hW, hT, hP, hl⟩, hw, ht, hp⟩ := id hL
  have hR1 := hR.id
  have f1 : FrR ν (wr ν 63 4 (ic s)) := (FrR.rf ν).wr _ (Or.inl rfl)
  have t4 : (wr ν 63 4 (ic s)) 63 4 = ic s := rfl
  have ex : (8 : Int32) - μ 11 0 = ic (9 - F) - 1 := by
    rw [l0, show (8 : Int32) - ic F = ic (8 - F) from ic_sub (a := 8) (by omega), show ic (9 - F) - 1 = ic (9 - F - 1) from ic_sub (a := 9 - F) (b := 1) (by omega), show 9 - F - 1 = 8 - F by omega]
  have hM : ∀ (r : Int32) (ν1 : sw_M), f_m_readNumber N (wr ν 63 4 (ic s)) 1 8 = some (r, ν1) → mFields N ν = Option.bind (f_m_fine N ν1) (fun r37 => if r37 = 0 then f_m_readRow_51 N ν1 r else if ((ν1 63 16) + r) ≤ 8 then f_m_readRow_51 N ν1 r else Option.bind (f_m_wrong N ν1 2 (ic s)) (fun r39 => f_m_readRow_51 N r39 r)) := by
    intro r ν1 hr
    unfold mFields
    rw [(here_e hN hB hR).1, ob_e]
    simp only [t4, ib_e]
    rw [hr, ob_e]
  have h51 : ∀ (ν1 : sw_M) (r : Int32), ¬ ν1 63 5 = -1 → f_m_readRow_51 N ν1 r = some ν1 := by
    intro ν1 r hb
    unfold f_m_readRow_51
    rw [fine_0 hb, ob_e, if_pos rfl]
  rcases jn2 hN hB hA hR1 (lo := 1) (y1 := 9 - F) (y2 := 9) (by decide) (by omega) (by decide) 1 (8 - μ 11 0) 8 rfl ex rfl with ⟨μ1, ν1, s1, v, x1, y1, hA1, hR2, hs1, fp, fr, hv1, hv, -, -⟩ | ⟨ν1, v, x1, y1, h5, fr, hv1, hv2, hv3, -, -⟩ | ⟨μ1, ν1, x1, y1, hbd, fb, fr, -⟩
  · left
    have q16 : ν1 63 16 = ic F := by rw [fr.2 16 (by decide) (by decide) (by decide)]; exact n0
    have q11 : μ1 11 0 = ic F := by rw [fp.1 11 (by decide)]; exact l0
    refine ⟨wr μ1 11 0 (ic (F + v)), wr ν1 63 16 (ic (F + v)), s1, F + v, W, T, P, l, ?_, ?_, hA1, hR2, by omega, ?_, fp.xn.w3 11 0 _ (by decide) (by decide), fp.2.2, (f1.mn.tr fr.mn).w63 16 _ (by decide)⟩
    · unfold f_landR_readFields
      rw [x1, ob_e, if_neg (by rw [ic_m1 (by omega)]; exact id)]
      simp only
      rw [q11, wb_e, ic_add]
    · rw [hM _ _ y1, fine_1 hR2.2.2.2.2, ob_e, if_neg (by decide), q16, ic_add, if_pos (by rw [le_lit (by decide) (by omega)]; omega)]
      unfold f_m_readRow_51
      rw [fine_1 hR2.2.2.2.2, ob_e, if_neg (by decide), q16, wb_e, ic_add]
    · have r1 : ∀ a, 12 ≤ a → a ≤ 18 → (wr μ1 11 0 (ic (F + v))) a = μ a := fun a _ _ => by rw [wr_nr (by omega), fp.1 a (by omega)]
      have r2 : ∀ a, 66 ≤ a → a ≤ 68 → (wr ν1 63 16 (ic (F + v))) a = ν a := fun a _ _ => by rw [wr_nr (by omega), fr.1 a (by omega), wr_nr (by omega)]
      have r3 : ∀ j, 17 ≤ j → j ≤ 20 → (wr ν1 63 16 (ic (F + v))) 63 j = ν 63 j := fun j _ _ => by rw [wr_ap, if_pos rfl, if_neg (by omega), fr.2 j (by omega) (by omega) (by omega), wr_ap, if_pos rfl, if_neg (by omega)]
      have r4 : ∀ j, 1 ≤ j → (wr μ1 11 0 (ic (F + v))) 11 j = μ 11 j := fun j _ => by rw [wr_ap, if_pos rfl, if_neg (by omega), fp.1 11 (by decide)]
      unfold LR
      rw [r1 12 (by decide) (by decide), r1 13 (by decide) (by decide), r1 14 (by decide) (by decide), r1 15 (by decide) (by decide), r1 16 (by decide) (by decide), r1 17 (by decide) (by decide), r1 18 (by decide) (by decide), r2 66 (by decide) (by decide), r2 67 (by decide) (by decide), r2 68 (by decide) (by decide), r3 17 (by decide) (by decide), r3 18 (by decide) (by decide), r3 19 (by decide) (by decide), r3 20 (by decide) (by decide), r4 1 (by decide), r4 2 (by decide), r4 3 (by decide), r4 4 (by decide)]
      refine ⟨⟨rfl, l1, l2, l3, l4⟩, ⟨rfl, n1, n2, n3, n4⟩, ⟨by omega, hW, hT, hP, hl⟩, fun w h => ?_, fun t h => ?_, fun p h => ?_⟩
      · obtain ⟨a, b, h', ⟨g1, g2, g3⟩, g4⟩ := hw w h; exact ⟨a, b, h', ⟨by omega, by omega, g3⟩, g4⟩
      · obtain ⟨a, h', ⟨g1, g3⟩, g4⟩ := ht t h; exact ⟨a, h', ⟨by omega, g3⟩, g4⟩
      · obtain ⟨a, h', ⟨g1, g3⟩, g4⟩ := hp p h; exact ⟨a, h', ⟨by omega, g3⟩, g4⟩
  · right
    have q16 : ν1 63 16 = ic F := by rw [fr.2 16 (by decide) (by decide) (by decide)]; exact n0
    have hbd := bad_mk μ ν1 (k := 2) (p := s) (by have := hA.2.1; have := hA.2.2.1; omega) (by decide)
    refine ⟨_, _, ?_, ?_, hbd, (fb_fail μ _ _).xn, ((f1.mn.tr fr.mn).w63 5 _ (by decide)).w63 6 _ (by decide)⟩
    · unfold f_landR_readFields
      rw [x1, ob_e, if_pos rfl]; rfl
    · rw [hM _ _ y1, fine_1 h5, ob_e, if_neg (by decide), q16, ic_add, if_neg (by rw [le_lit (by decide) (by omega)]; omega), wrong_1 h5, ob_e]
      exact h51 _ _ hbd.nf
  · right
    refine ⟨μ1, ν1, ?_, ?_, hbd, fb.xn, f1.mn.tr fr.mn⟩
    · unfold f_landR_readFields
      rw [x1, ob_e, if_pos rfl]
    · rw [hM _ _ y1, fine_0 hbd.nf, ob_e, if_pos rfl, h51 _ _ hbd.nf]
def mPliers (N : Nat) (ν : sw_M) : Option sw_M := Option.bind (f_m_readNumber N ν 0 9) (fun r9 => wb (wr r9.2 63 20 r9.1) (fun μ11 => some μ11))
theorem ro_pliers (hN : 5000 ≤ N) (hB : ∀ i, B i < 256) (hA : AT μ B L s) (hR : RT ν B L s) (hL : LR μ ν F W T P l) : RO B L μ ν s (f_landR_readPliers N μ) (mPliers N ν) := by
  rcases jn hN hB hA hR (lo := 0) (y := 10) (by decide) (by decide) 0 9 rfl rfl with ⟨μ1, ν1, s1, v, x1, y1, hA1, hR2, hs1, fp, fr, hv1, hv, -, -⟩ | ⟨μ1, ν1, x1, y1, hbd, fb, fr, -⟩
  · left
    obtain ⟨⟨l0, l1, l2, l3, l4⟩, ⟨n0, n1, n2, n3, n4⟩, ⟨hF, hW, hT, hP, hl⟩, hh⟩ := hL.fp fp fr
    refine ⟨wr μ1 11 4 (ic v), wr ν1 63 20 (ic v), s1, F, W, T, P, v, ?_, ?_, hA1, hR2, by omega, ?_, fp.xn.w3 11 4 _ (by decide) (by decide), fp.2.2, fr.mn.w63 20 _ (by decide)⟩
    · unfold f_landR_readPliers
      rw [x1, ob_e, if_neg (by rw [ic_m1 (by omega)]; exact id), wb_e]
    · unfold mPliers; rw [y1, ob_e, wb_e]
    · exact ⟨⟨l0, l1, l2, l3, rfl⟩, ⟨n0, n1, n2, n3, rfl⟩, ⟨hF, hW, hT, hP, by omega⟩, hh⟩
  · right
    refine ⟨μ1, wr ν1 63 20 0, ?_, ?_, hbd.w rfl rfl rfl rfl, fb.xn, fr.mn.w63 20 _ (by decide)⟩
    · unfold f_landR_readPliers
      rw [x1, ob_e, if_pos rfl]
    · unfold mPliers; rw [y1, ob_e, wb_e]
def mThing (N : Nat) (ν : sw_M) : Option sw_M := Option.bind (f_m_readField N ν) (fun r21 => inb ((2 : Int32) * (ν 63 18)) 12 (wb (wr r21.2 67 ((2 : Int32) * (ν 63 18)).toNatClampNeg r21.1) (fun μ24 => Option.bind (f_m_readNumber N μ24 1 30) (fun r25 => inb (((2 : Int32) * (μ24 63 18)) + 1) 12 (wb (wr r25.2 67 (((2 : Int32) * (μ24 63 18)) + 1).toNatClampNeg r25.1) (fun μ28 => wb (wr μ28 63 18 ((μ28 63 18) + 1)) (fun μ29 => some μ29)))))))
theorem ro_Thing (hN : 5000 ≤ N) (hB : ∀ i, B i < 256) (hA : AT μ B L s) (hR : RT ν B L s) (hL : LR μ ν F W T P l) (hcap : T < 6) : RO B L μ ν s (f_landR_readThing N μ) (mThing N ν) := by
  obtain ⟨⟨l0, l1, l2, l3, l4⟩, ⟨n0, n1, n2, n3, n4⟩, ⟨hF, hW, hT, hP, hl⟩, hw, ht, hp⟩ := id hL
  have hM : ∀ (r r2 : Int32) (ν1 ν2 : sw_M), f_m_readNumber N ν 0 (ic F - 1) = some (r, ν1) → ν1 63 18 = ic T → f_m_readNumber N (wr ν1 67 (2 * T) r) 1 30 = some (r2, ν2) → ν2 63 18 = ic T → mThing N ν = some (wr (wr ν2 67 (2 * T + 1) r2) 63 18 (ic (T + 1))) := by
    intro r r2 ν1 ν2 h1 h2 h3 h4
    have e3 : (wr ν1 67 (2 * T) r) 63 18 = ic T := h2
    have e4 : (wr ν2 67 (2 * T + 1) r2) 63 18 = ic T := h4
    unfold mThing f_m_readField
    rw [n0, h1, ob_e, ob_e, n2, lit_mul, inb_e (by omega) (by decide), ic_n (by omega), wb_e, h3, ob_e, e3, lit_mul, add_lit, inb_e (by omega) (by decide), ic_n (by omega), wb_e, e4, wb_e, ic_1]
  rcases jn hN hB hA hR (lo := 0) (y := F) (by decide) (by omega) 0 (μ 11 0 - 1) rfl (by rw [l0]) with ⟨μ1, ν1, s1, v, x1, y1, hA1, hR2, hs1, fp, fr, hv1, hv, -, -⟩ | ⟨μ1, ν1, x1, y1, hbd, fb, fr, -⟩
  · rw [l0] at y1
    have q1 : ν1 63 18 = ic T := by rw [fr.2 18 (by decide) (by decide) (by decide)]; exact n2
    have hR3 : RT (wr ν1 67 (2 * T) (ic v)) B L s1 := hR2
    rcases jn hN hB hA1 hR3 (lo := 1) (y := 31) (by decide) (by decide) 1 30 rfl rfl with ⟨μ2, ν2, s2, v2, x2, y2, hA2, hR4, hs2, fp2, fr2, hw1, hw2, -, -⟩ | ⟨μ2, ν2, x2, y2, hbd, fb2, fr2, -⟩
    · left
      have q2 : ν2 63 18 = ic T := by rw [fr2.2 18 (by decide) (by decide) (by decide)]; exact q1
      have k2 : μ2 11 2 = ic T := by rw [fp2.1 11 (by decide), fp.1 11 (by decide)]; exact l2
      refine ⟨wr (wr (wr μ2 15 T (ic v)) 16 T (ic v2)) 11 2 (ic (T + 1)), wr (wr ν2 67 (2 * T + 1) (ic v2)) 63 18 (ic (T + 1)), s2, F, W, T + 1, P, l, ?_, hM _ _ _ _ y1 q1 y2 q2, hA2, hR4, by omega, ?_, (((fp.xn.tr fp2.xn).w3 15 _ _ (by decide) (by decide)).w3 16 _ _ (by decide) (by decide)).w3 11 _ _ (by decide) (by decide), ?_, ((((fr.mn.w3 67 _ _ (by decide) (by decide)).tr fr2.mn).w3 67 _ _ (by decide) (by decide)).w63 18 _ (by decide))⟩
      · unfold f_landR_readThing
        rw [x1, ob_e, if_neg (by rw [ic_m1 (by omega)]; exact id)]
        simp only
        rw [x2, ob_e, if_neg (by rw [ic_m1 (by omega)]; exact id)]
        simp only
        rw [k2, put_e (by omega) (by decide), ob_e, show (wr μ2 15 T (ic v)) 11 2 = ic T from k2, put_e (by omega) (by decide), ob_e, show (wr (wr μ2 15 T (ic v)) 16 T (ic v2)) 11 2 = ic T from k2, wb_e, ic_1]
      · have r1 : ∀ a, 12 ≤ a → a ≤ 18 → a ≠ 15 → a ≠ 16 → (wr (wr (wr μ2 15 T (ic v)) 16 T (ic v2)) 11 2 (ic (T + 1))) a = μ a := fun a _ _ _ _ => by rw [wr_nr (by omega), wr_nr (by omega), wr_nr (by omega), fp2.1 a (by omega), fp.1 a (by omega)]
        have r2 : ∀ a, 66 ≤ a → a ≤ 68 → a ≠ 67 → (wr (wr ν2 67 (2 * T + 1) (ic v2)) 63 18 (ic (T + 1))) a = ν a := fun a _ _ _ => by rw [wr_nr (by omega), wr_nr (by omega), fr2.1 a (by omega), wr_nr (by omega), fr.1 a (by omega)]
        have r3 : ∀ j, 16 ≤ j → j ≤ 20 → j ≠ 18 → (wr (wr ν2 67 (2 * T + 1) (ic v2)) 63 18 (ic (T + 1))) 63 j = ν 63 j := fun j _ _ _ => by rw [wr_ap, if_pos rfl, if_neg (by omega), wr_nr (by decide), fr2.2 j (by omega) (by omega) (by omega), wr_nr (by decide), fr.2 j (by omega) (by omega) (by omega)]
        have r4 : ∀ j, j ≠ 2 → (wr (wr (wr μ2 15 T (ic v)) 16 T (ic v2)) 11 2 (ic (T + 1))) 11 j = μ 11 j := fun j _ => by rw [wr_ap, if_pos rfl, if_neg (by omega), wr_nr (by decide), wr_nr (by decide), fp2.1 11 (by decide), fp.1 11 (by decide)]
        have ra : ∀ t, (wr (wr (wr μ2 15 T (ic v)) 16 T (ic v2)) 11 2 (ic (T + 1))) 15 t = if t = T then ic v else μ 15 t := fun t => by rw [wr_nr (by decide), wr_nr (by decide), wr_ap, if_pos rfl, fp2.1 15 (by decide), fp.1 15 (by decide)]
        have rb : ∀ t, (wr (wr (wr μ2 15 T (ic v)) 16 T (ic v2)) 11 2 (ic (T + 1))) 16 t = if t = T then ic v2 else μ 16 t := fun t => by rw [wr_nr (by decide), wr_ap, if_pos rfl, wr_nr (by decide), fp2.1 16 (by decide), fp.1 16 (by decide)]
        have rm : ∀ t, (wr (wr ν2 67 (2 * T + 1) (ic v2)) 63 18 (ic (T + 1))) 67 t = if t = 2 * T + 1 then ic v2 else if t = 2 * T then ic v else ν 67 t := fun t => by rw [wr_nr (by decide), wr_ap, if_pos rfl, fr2.1 67 (by decide), wr_ap, if_pos rfl, fr.1 67 (by decide)]
        have hnew : ∀ t, t < T + 1 → ∃ a h : Nat, (a < F ∧ 1 ≤ h ∧ h ≤ 30) ∧ ((wr (wr (wr μ2 15 T (ic v)) 16 T (ic v2)) 11 2 (ic (T + 1))) 15 t = ic a ∧ (wr (wr (wr μ2 15 T (ic v)) 16 T (ic v2)) 11 2 (ic (T + 1))) 16 t = ic h) ∧ (wr (wr ν2 67 (2 * T + 1) (ic v2)) 63 18 (ic (T + 1))) 67 (2 * t) = ic a ∧ (wr (wr ν2 67 (2 * T + 1) (ic v2)) 63 18 (ic (T + 1))) 67 (2 * t + 1) = ic h := by
          intro t htt
          rw [ra, rb, rm, rm]
          by_cases e : t = T
          · subst e
            exact ⟨v, v2, ⟨hv, hw1, by omega⟩, ⟨if_pos rfl, if_pos rfl⟩, by rw [if_neg (by omega), if_pos rfl], by rw [if_pos rfl]⟩
          · obtain ⟨a, h', g1, ⟨g2, g3⟩, g4, g5⟩ := ht t (by omega)
            exact ⟨a, h', g1, ⟨by rw [if_neg e]; exact g2, by rw [if_neg e]; exact g3⟩, by rw [if_neg (by omega), if_neg (by omega)]; exact g4, by rw [if_neg (by omega), if_neg (by omega)]; exact g5⟩
        unfold LR
        rw [r1 12 (by decide) (by decide) (by decide) (by decide), r1 13 (by decide) (by decide) (by decide) (by decide), r1 14 (by decide) (by decide) (by decide) (by decide), r1 17 (by decide) (by decide) (by decide) (by decide), r1 18 (by decide) (by decide) (by decide) (by decide), r2 66 (by decide) (by decide) (by decide), r2 68 (by decide) (by decide) (by decide), r3 16 (by decide) (by decide) (by decide), r3 17 (by decide) (by decide) (by decide), r3 19 (by decide) (by decide) (by decide), r3 20 (by decide) (by decide) (by decide), r4 0 (by decide), r4 1 (by decide), r4 3 (by decide), r4 4 (by decide)]
        exact ⟨⟨l0, l1, rfl, l3, l4⟩, ⟨n0, n1, rfl, n3, n4⟩, ⟨hF, hW, by omega, by omega, hl⟩, hw, hnew, hp⟩
      · show μ2 1 8 = _; rw [fp2.2.2, fp.2.2]
    · right
      have q2 : ν2 63 18 = ic T := by rw [fr2.2 18 (by decide) (by decide) (by decide)]; exact q1
      refine ⟨μ2, _, ?_, hM _ _ _ _ y1 q1 y2 q2, hbd.w rfl rfl rfl rfl, fp.xn.tr fb2.xn, ((((fr.mn.w3 67 _ _ (by decide) (by decide)).tr fr2.mn).w3 67 _ _ (by decide) (by decide)).w63 18 _ (by decide))⟩
      unfold f_landR_readThing
      rw [x1, ob_e, if_neg (by rw [ic_m1 (by omega)]; exact id)]
      simp only
      rw [x2, ob_e, if_pos rfl]
  · right
    rw [l0] at y1
    have q1 : ν1 63 18 = ic T := by rw [fr.2 18 (by decide) (by decide) (by decide)]; exact n2
    have hb2 : ¬ (wr ν1 67 (2 * T) 0) 63 5 = -1 := hbd.nf
    refine ⟨μ1, _, ?_, hM _ _ _ _ y1 q1 (num_bad hb2 1 30) q1, hbd.w rfl rfl rfl rfl, fb.xn, (((fr.mn.w3 67 _ _ (by decide) (by decide)).w3 67 _ _ (by decide) (by decide)).w63 18 _ (by decide))⟩
    unfold f_landR_readThing
    rw [x1, ob_e, if_pos rfl]
def mPerson (N : Nat) (ν : sw_M) : Option sw_M := Option.bind (f_m_readField N ν) (fun r21 => inb ((2 : Int32) * (ν 63 19)) 10 (wb (wr r21.2 68 ((2 : Int32) * (ν 63 19)).toNatClampNeg r21.1) (fun μ24 => Option.bind (f_m_readNumber N μ24 1 40) (fun r25 => inb (((2 : Int32) * (μ24 63 19)) + 1) 10 (wb (wr r25.2 68 (((2 : Int32) * (μ24 63 19)) + 1).toNatClampNeg r25.1) (fun μ28 => wb (wr μ28 63 19 ((μ28 63 19) + 1)) (fun μ29 => some μ29)))))))
theorem ro_Person (hN : 5000 ≤ N) (hB : ∀ i, B i < 256) (hA : AT μ B L s) (hR : RT ν B L s) (hL : LR μ ν F W T P l) (hcap : P < 5) : RO B L μ ν s (f_landR_readPerson N μ) (mPerson N ν) := by
  obtain ⟨⟨l0, l1, l2, l3, l4⟩, ⟨n0, n1, n2, n3, n4⟩, ⟨hF, hW, hT, hP, hl⟩, hw, ht, hp⟩ := id hL
  have hM : ∀ (r r2 : Int32) (ν1 ν2 : sw_M), f_m_readNumber N ν 0 (ic F - 1) = some (r, ν1) → ν1 63 19 = ic P → f_m_readNumber N (wr ν1 68 (2 * P) r) 1 40 = some (r2, ν2) → ν2 63 19 = ic P → mPerson N ν = some (wr (wr ν2 68 (2 * P + 1) r2) 63 19 (ic (P + 1))) := by
    intro r r2 ν1 ν2 h1 h2 h3 h4
    have e3 : (wr ν1 68 (2 * P) r) 63 19 = ic P := h2
    have e4 : (wr ν2 68 (2 * P + 1) r2) 63 19 = ic P := h4
    unfold mPerson f_m_readField
    rw [n0, h1, ob_e, ob_e, n3, lit_mul, inb_e (by omega) (by decide), ic_n (by omega), wb_e, h3, ob_e, e3, lit_mul, add_lit, inb_e (by omega) (by decide), ic_n (by omega), wb_e, e4, wb_e, ic_1]
  rcases jn hN hB hA hR (lo := 0) (y := F) (by decide) (by omega) 0 (μ 11 0 - 1) rfl (by rw [l0]) with ⟨μ1, ν1, s1, v, x1, y1, hA1, hR2, hs1, fp, fr, hv1, hv, -, -⟩ | ⟨μ1, ν1, x1, y1, hbd, fb, fr, -⟩
  · rw [l0] at y1
    have q1 : ν1 63 19 = ic P := by rw [fr.2 19 (by decide) (by decide) (by decide)]; exact n3
    have hR3 : RT (wr ν1 68 (2 * P) (ic v)) B L s1 := hR2
    rcases jn hN hB hA1 hR3 (lo := 1) (y := 41) (by decide) (by decide) 1 40 rfl rfl with ⟨μ2, ν2, s2, v2, x2, y2, hA2, hR4, hs2, fp2, fr2, hw1, hw2, -, -⟩ | ⟨μ2, ν2, x2, y2, hbd, fb2, fr2, -⟩
    · left
      have q2 : ν2 63 19 = ic P := by rw [fr2.2 19 (by decide) (by decide) (by decide)]; exact q1
      have k2 : μ2 11 3 = ic P := by rw [fp2.1 11 (by decide), fp.1 11 (by decide)]; exact l3
      refine ⟨wr (wr (wr μ2 17 P (ic v)) 18 P (ic v2)) 11 3 (ic (P + 1)), wr (wr ν2 68 (2 * P + 1) (ic v2)) 63 19 (ic (P + 1)), s2, F, W, T, P + 1, l, ?_, hM _ _ _ _ y1 q1 y2 q2, hA2, hR4, by omega, ?_, (((fp.xn.tr fp2.xn).w3 17 _ _ (by decide) (by decide)).w3 18 _ _ (by decide) (by decide)).w3 11 _ _ (by decide) (by decide), ?_, ((((fr.mn.w3 68 _ _ (by decide) (by decide)).tr fr2.mn).w3 68 _ _ (by decide) (by decide)).w63 19 _ (by decide))⟩
      · unfold f_landR_readPerson
        rw [x1, ob_e, if_neg (by rw [ic_m1 (by omega)]; exact id)]
        simp only
        rw [x2, ob_e, if_neg (by rw [ic_m1 (by omega)]; exact id)]
        simp only
        rw [k2, put_e (by omega) (by decide), ob_e, show (wr μ2 17 P (ic v)) 11 3 = ic P from k2, put_e (by omega) (by decide), ob_e, show (wr (wr μ2 17 P (ic v)) 18 P (ic v2)) 11 3 = ic P from k2, wb_e, ic_1]
      · have r1 : ∀ a, 12 ≤ a → a ≤ 18 → a ≠ 17 → a ≠ 18 → (wr (wr (wr μ2 17 P (ic v)) 18 P (ic v2)) 11 3 (ic (P + 1))) a = μ a := fun a _ _ _ _ => by rw [wr_nr (by omega), wr_nr (by omega), wr_nr (by omega), fp2.1 a (by omega), fp.1 a (by omega)]
        have r2 : ∀ a, 66 ≤ a → a ≤ 68 → a ≠ 68 → (wr (wr ν2 68 (2 * P + 1) (ic v2)) 63 19 (ic (P + 1))) a = ν a := fun a _ _ _ => by rw [wr_nr (by omega), wr_nr (by omega), fr2.1 a (by omega), wr_nr (by omega), fr.1 a (by omega)]
        have r3 : ∀ j, 16 ≤ j → j ≤ 20 → j ≠ 19 → (wr (wr ν2 68 (2 * P + 1) (ic v2)) 63 19 (ic (P + 1))) 63 j = ν 63 j := fun j _ _ _ => by rw [wr_ap, if_pos rfl, if_neg (by omega), wr_nr (by decide), fr2.2 j (by omega) (by omega) (by omega), wr_nr (by decide), fr.2 j (by omega) (by omega) (by omega)]
        have r4 : ∀ j, j ≠ 3 → (wr (wr (wr μ2 17 P (ic v)) 18 P (ic v2)) 11 3 (ic (P + 1))) 11 j = μ 11 j := fun j _ => by rw [wr_ap, if_pos rfl, if_neg (by omega), wr_nr (by decide), wr_nr (by decide), fp2.1 11 (by decide), fp.1 11 (by decide)]
        have ra : ∀ t, (wr (wr (wr μ2 17 P (ic v)) 18 P (ic v2)) 11 3 (ic (P + 1))) 17 t = if t = P then ic v else μ 17 t := fun t => by rw [wr_nr (by decide), wr_nr (by decide), wr_ap, if_pos rfl, fp2.1 17 (by decide), fp.1 17 (by decide)]
        have rb : ∀ t, (wr (wr (wr μ2 17 P (ic v)) 18 P (ic v2)) 11 3 (ic (P + 1))) 18 t = if t = P then ic v2 else μ 18 t := fun t => by rw [wr_nr (by decide), wr_ap, if_pos rfl, wr_nr (by decide), fp2.1 18 (by decide), fp.1 18 (by decide)]
        have rm : ∀ t, (wr (wr ν2 68 (2 * P + 1) (ic v2)) 63 19 (ic (P + 1))) 68 t = if t = 2 * P + 1 then ic v2 else if t = 2 * P then ic v else ν 68 t := fun t => by rw [wr_nr (by decide), wr_ap, if_pos rfl, fr2.1 68 (by decide), wr_ap, if_pos rfl, fr.1 68 (by decide)]
        have hnew : ∀ t, t < P + 1 → ∃ a h : Nat, (a < F ∧ 1 ≤ h ∧ h ≤ 40) ∧ ((wr (wr (wr μ2 17 P (ic v)) 18 P (ic v2)) 11 3 (ic (P + 1))) 17 t = ic a ∧ (wr (wr (wr μ2 17 P (ic v)) 18 P (ic v2)) 11 3 (ic (P + 1))) 18 t = ic h) ∧ (wr (wr ν2 68 (2 * P + 1) (ic v2)) 63 19 (ic (P + 1))) 68 (2 * t) = ic a ∧ (wr (wr ν2 68 (2 * P + 1) (ic v2)) 63 19 (ic (P + 1))) 68 (2 * t + 1) = ic h := by
          intro t htt
          rw [ra, rb, rm, rm]
          by_cases e : t = P
          · subst e
            exact ⟨v, v2, ⟨hv, hw1, by omega⟩, ⟨if_pos rfl, if_pos rfl⟩, by rw [if_neg (by omega), if_pos rfl], by rw [if_pos rfl]⟩
          · obtain ⟨a, h', g1, ⟨g2, g3⟩, g4, g5⟩ := hp t (by omega)
            exact ⟨a, h', g1, ⟨by rw [if_neg e]; exact g2, by rw [if_neg e]; exact g3⟩, by rw [if_neg (by omega), if_neg (by omega)]; exact g4, by rw [if_neg (by omega), if_neg (by omega)]; exact g5⟩
        unfold LR
        rw [r1 12 (by decide) (by decide) (by decide) (by decide), r1 13 (by decide) (by decide) (by decide) (by decide), r1 14 (by decide) (by decide) (by decide) (by decide), r1 15 (by decide) (by decide) (by decide) (by decide), r1 16 (by decide) (by decide) (by decide) (by decide), r2 66 (by decide) (by decide) (by decide), r2 67 (by decide) (by decide) (by decide), r3 16 (by decide) (by decide) (by decide), r3 17 (by decide) (by decide) (by decide), r3 18 (by decide) (by decide) (by decide), r3 20 (by decide) (by decide) (by decide), r4 0 (by decide), r4 1 (by decide), r4 2 (by decide), r4 4 (by decide)]
        exact ⟨⟨l0, l1, l2, rfl, l4⟩, ⟨n0, n1, n2, rfl, n4⟩, ⟨hF, hW, by omega, by omega, hl⟩, hw, ht, hnew⟩
      · show μ2 1 8 = _; rw [fp2.2.2, fp.2.2]
    · right
      have q2 : ν2 63 19 = ic P := by rw [fr2.2 19 (by decide) (by decide) (by decide)]; exact q1
      refine ⟨μ2, _, ?_, hM _ _ _ _ y1 q1 y2 q2, hbd.w rfl rfl rfl rfl, fp.xn.tr fb2.xn, ((((fr.mn.w3 68 _ _ (by decide) (by decide)).tr fr2.mn).w3 68 _ _ (by decide) (by decide)).w63 19 _ (by decide))⟩
      unfold f_landR_readPerson
      rw [x1, ob_e, if_neg (by rw [ic_m1 (by omega)]; exact id)]
      simp only
      rw [x2, ob_e, if_pos rfl]
  · right
    rw [l0] at y1
    have q1 : ν1 63 19 = ic P := by rw [fr.2 19 (by decide) (by decide) (by decide)]; exact n3
    have hb2 : ¬ (wr ν1 68 (2 * P) 0) 63 5 = -1 := hbd.nf
    refine ⟨μ1, _, ?_, hM _ _ _ _ y1 q1 (num_bad hb2 1 40) q1, hbd.w rfl rfl rfl rfl, fb.xn, (((fr.mn.w3 68 _ _ (by decide) (by decide)).w3 68 _ _ (by decide) (by decide)).w63 19 _ (by decide))⟩
    unfold f_landR_readPerson
    rw [x1, ob_e, if_pos rfl]
end
