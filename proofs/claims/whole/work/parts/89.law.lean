/-! ===== printed by wip/whole/gen89.py: a law's text ===== -/
def XW (μ μ' : sw_M) : Prop := (∀ a, a ≠ 1 → (a < 24 ∨ 28 < a) → μ' a = μ a) ∧ μ' 1 3 = μ 1 3
def MW (ν ν' : sw_M) : Prop := (∀ a, a ≠ 63 → a ≠ 72 → a ≠ 73 → ν' a = ν a) ∧ ∀ j, (j < 4 ∨ 7 < j) → j ≠ 30 → ν' 63 j = ν 63 j
theorem XW.rf (μ : sw_M) : XW μ μ := ⟨fun _ _ _ => rfl, rfl⟩
theorem MW.rf (μ : sw_M) : MW μ μ := ⟨fun _ _ _ _ => rfl, fun _ _ _ => rfl⟩
theorem XW.tr {a b c : sw_M} (h : XW a b) (h2 : XW b c) : XW a c := ⟨fun x q1 q2 => (h2.1 x q1 q2).trans (h.1 x q1 q2), h2.2.trans h.2⟩
theorem MW.tr {a b c : sw_M} (h : MW a b) (h2 : MW b c) : MW a c := ⟨fun x q1 q2 q3 => (h2.1 x q1 q2 q3).trans (h.1 x q1 q2 q3), fun j q1 q2 => (h2.2 j q1 q2).trans (h.2 j q1 q2)⟩
theorem FrB.xw {a b : sw_M} (h : FrB a b) : XW a b := ⟨fun x q1 _ => h.1 x q1, h.2⟩
theorem FrP.xw {a b : sw_M} (h : FrP a b) : XW a b := h.fb.xw
theorem FrR.mw {a b : sw_M} (h : FrR a b) : MW a b := ⟨fun x q1 _ _ => h.1 x q1, fun j q1 _ => h.2 j (by omega) (by omega) (by omega)⟩
theorem FrR.s7 {a b : sw_M} (h : FrR a b) : b 63 7 = a 63 7 := h.2 7 (by decide) (by decide) (by decide)
theorem MW.w7 {a b : sw_M} (h : MW a b) (v : Int32) : MW a (wr b 63 7 v) := ⟨fun x q1 q2 q3 => by rw [wr_nr q1]; exact h.1 x q1 q2 q3, fun j q1 q2 => by rw [wr_ap, if_pos rfl, if_neg (by omega)]; exact h.2 j q1 q2⟩
theorem dep_cg {K K' : Nat → Int32} : ∀ k, (∀ i, i < k → K i = K' i) → dep K k = dep K' k
  | 0, _ => rfl
  | k + 1, h => by rw [dep, dep, h k (by omega), dep_cg k (fun i hi => h i (by omega))]
def LQ (μ ν : sw_M) (n d : Nat) : Prop := μ 24 4 = ic n ∧ ν 63 30 = ic n ∧ (∀ i, i < n → μ 25 i = cx (ν 72 i) ∧ μ 26 i = ν 73 i) ∧ dep (ν 72) n = d ∧ ∀ k, k < n → ν 72 k = 0 ∨ (ν 72 k = 1 ∧ ∃ i : Nat, i < 7 ∧ ν 73 k = ic i) ∨ ∃ q : Nat, 2 ≤ q ∧ q ≤ 8 ∧ ν 72 k = ic q ∧ 2 ≤ dep (ν 72) k
theorem LQ.fr {μ ν μ' ν' : sw_M} {n d : Nat} (h : LQ μ ν n d) (a : μ' 24 4 = μ 24 4) (b : μ' 25 = μ 25) (c : μ' 26 = μ 26) (e : ν' 63 30 = ν 63 30) (f : ν' 72 = ν 72) (g : ν' 73 = ν 73) : LQ μ' ν' n d := by
  unfold LQ at h ⊢; rw [a, b, c, e, f, g]; exact h
theorem LQ.fp {μ ν μ' ν' : sw_M} {n d : Nat} (h : LQ μ ν n d) (f : FrP μ μ') (g : FrR ν ν') : LQ μ' ν' n d := h.fr (by rw [f.1 24 (by decide)]) (f.1 25 (by decide)) (f.1 26 (by decide)) (g.2 30 (by decide) (by decide) (by decide)) (g.1 72 (by decide)) (g.1 73 (by decide))
def xe (μ : sw_M) (n : Nat) (v o : Int32) : sw_M := wr (wr (wr μ 25 n v) 26 n o) 24 4 (ic (n + 1))
def me (ν : sw_M) (n : Nat) (v o : Int32) : sw_M := wr (wr (wr ν 72 n v) 73 n o) 63 30 (ic (n + 1))
theorem xe_w (μ : sw_M) (n : Nat) (v o : Int32) : XW μ (xe μ n v o) := ⟨fun a q1 q2 => by unfold xe; rw [wr_nr (by omega), wr_nr (by omega), wr_nr (by omega)], rfl⟩
theorem me_w (ν : sw_M) (n : Nat) (v o : Int32) : MW ν (me ν n v o) := ⟨fun a q1 q2 q3 => by unfold me; rw [wr_nr q1, wr_nr q3, wr_nr q2], fun j q1 q2 => by unfold me; rw [wr_ap, if_pos rfl, if_neg q2, wr_nr (by decide), wr_nr (by decide)]⟩
theorem radd_e {N : Nat} {μ : sw_M} {n : Nat} (h : μ 24 4 = ic n) (hn : n < 150) (v o : Int32) : f_lawR_add N μ v o = some (1, xe μ n v o) := by
  have e1 : (wr μ 25 n v) 24 4 = ic n := h
  have e2 : (wr (wr μ 25 n v) 26 n o) 24 4 = ic n := h
  unfold f_lawR_add xe
  rw [h, put_e (by omega) (by decide), ob_e, e1, put_e (by omega) (by decide), ob_e, e2, ic_1, if_neg (by rw [lit_lt (by decide) (by omega)]; show ¬ 150 < n + 1; omega), wb_e]
theorem emit_e {N : Nat} {ν : sw_M} {n : Nat} (h : ν 63 30 = ic n) (hn : n < 150) (h5 : ν 63 5 = -1) (v o : Int32) : f_m_emit N ν v o = some (me ν n v o) := by
  have e1 : (wr ν 72 n v) 63 30 = ic n := h
  have e2 : (wr (wr ν 72 n v) 73 n o) 63 30 = ic n := h
  unfold f_m_emit me
  rw [fine_1 h5, ob_e, if_neg (by decide), h, inb_e (by omega) (by decide), ic_n (by omega), wb_e, e1, inb_e (by omega) (by decide), ic_n (by omega), wb_e, e2, wb_e, ic_1]
theorem emit_bad {N : Nat} {ν : sw_M} (h : ¬ ν 63 5 = -1) (v o : Int32) : f_m_emit N ν v o = some ν := by unfold f_m_emit; rw [fine_0 h, ob_e, if_pos rfl]
theorem LQ.em {μ ν : sw_M} {n d : Nat} (h : LQ μ ν n d) (v o : Int32) (d' : Nat) (hv : (v = 0 ∧ d' = d + 1) ∨ (v = 1 ∧ (∃ i : Nat, i < 7 ∧ o = ic i) ∧ d' = d + 1) ∨ (∃ q : Nat, 2 ≤ q ∧ q ≤ 8 ∧ v = ic q ∧ 2 ≤ d ∧ d' = d - 1)) : LQ (xe μ n (cx v) o) (me ν n v o) (n + 1) d' := by
  obtain ⟨h1, h2, h3, h4, h5⟩ := h
  have m72 : ∀ i, (me ν n v o) 72 i = if i = n then v else ν 72 i := fun i => rfl
  have m73 : ∀ i, (me ν n v o) 73 i = if i = n then o else ν 73 i := fun i => rfl
  have x25 : ∀ i, (xe μ n (cx v) o) 25 i = if i = n then cx v else μ 25 i := fun i => rfl
  have x26 : ∀ i, (xe μ n (cx v) o) 26 i = if i = n then o else μ 26 i := fun i => rfl
  have hd : ∀ k, k ≤ n → dep ((me ν n v o) 72) k = dep (ν 72) k := fun k hk => dep_cg k (fun i hi => by rw [m72, if_neg (by omega)])
  refine ⟨rfl, rfl, fun i hi => ?_, ?_, fun k hk => ?_⟩
  · rw [m72, m73, x25, x26]
    by_cases e : i = n
    · rw [if_pos e, if_pos e, if_pos e, if_pos e]; exact ⟨rfl, rfl⟩
    · rw [if_neg e, if_neg e, if_neg e, if_neg e]; exact h3 i (by omega)
  · rw [dep, m72, if_pos rfl, hd n (by omega), h4]
    rcases hv with ⟨z, w⟩ | ⟨z, -, w⟩ | ⟨q, z1, z2, z, z3, w⟩
    · rw [if_pos (Or.inl z), w]
    · rw [if_pos (Or.inr z), w]
    · rw [if_neg, w]
      rw [z, eq_lit (by decide) (by omega), eq_lit (by decide) (by omega)]
      show ¬ (q = 0 ∨ q = 1); omega
  · rw [hd k (by omega)]
    by_cases e : k = n
    · subst e
      rw [m72, m73, if_pos rfl, if_pos rfl, h4]
      rcases hv with ⟨z, w⟩ | ⟨z, z2, w⟩ | ⟨q, z1, z2, z, z3, w⟩
      · exact Or.inl z
      · exact Or.inr (Or.inl ⟨z, z2⟩)
      · exact Or.inr (Or.inr ⟨q, z1, z2, z, z3⟩)
    · rw [m72, m73, if_neg e, if_neg e]; exact h5 k (by omega)
/-- what a piece of a law's text comes to -/
def LX (B : Nat → Nat) (L : Nat) (μ ν : sw_M) (s n d : Nat) (X : Option (Int32 × sw_M)) (M : Option sw_M) : Prop :=
  (∃ μ' ν' s' n', X = some (1, μ') ∧ M = some ν' ∧ AT μ' B L s' ∧ RT ν' B L s' ∧ LQ μ' ν' n' d ∧ s ≤ s' ∧ n' + s ≤ n + s' ∧ XW μ μ' ∧ μ' 1 8 = μ 1 8 ∧ MW ν ν' ∧ ν' 63 7 = ν 63 7) ∨
  (∃ μ' ν', X = some (0, μ') ∧ M = some ν' ∧ BAD μ' ν' ∧ XW μ μ' ∧ MW ν ν')
theorem LX.tr {B : Nat → Nat} {L : Nat} {μ ν μ1 ν1 : sw_M} {s s1 n n1 d : Nat} {X : Option (Int32 × sw_M)} {M : Option sw_M} (h : LX B L μ1 ν1 s1 n1 d X M) (hs : s ≤ s1) (hn : n1 + s ≤ n + s1) (x : XW μ μ1) (x8 : μ1 1 8 = μ 1 8) (m : MW ν ν1) (m7 : ν1 63 7 = ν 63 7) : LX B L μ ν s n d X M := by
  rcases h with ⟨μ', ν', s', n', a1, a2, a3, a4, a5, a6, a7, a8, a9, a10, a11⟩ | ⟨μ', ν', a1, a2, a3, a4, a5⟩
  · exact Or.inl ⟨μ', ν', s', n', a1, a2, a3, a4, a5, by omega, by omega, x.tr a8, a9.trans x8, m.tr a10, a11.trans m7⟩
  · exact Or.inr ⟨μ', ν', a1, a2, a3, x.tr a4, m.tr a5⟩
def RD (B : Nat → Nat) (L k x : Nat) (f : sw_M → Int32 → Option (Int32 × sw_M)) (g : sw_M → Option sw_M) : Prop := ∀ μ ν s n d, AT μ B L s → RT ν B L s → LQ μ ν n d → n ≤ s → ν 63 7 = ic x → LX B L μ ν s n (d + k) (f μ (ic x)) (g ν)
def RQ (g : sw_M → Option sw_M) : Prop := ∀ ν : sw_M, ¬ ν 63 5 = -1 → g ν = some ν
theorem kd_eq {B : Nat → Nat} {L s c : Nat} {μ : sw_M} (hB : ∀ i, B i < 256) (hA : AT μ B L s) (hc : SG c) : (μ 1 4 = ic c) ↔ ch B L s = c := by
  rw [hA.2.2.2.2.2.1, ic_eq (by have := kd_lt hB L s; omega) (by have := hc.2.1; omega)]; exact kd_ch hB hc
theorem ch_eq {B : Nat → Nat} {L s c : Nat} (hB : ∀ i, B i < 256) (hc : SG c) : (ic (ch B L s) = ic c) ↔ ch B L s = c := by
  rw [ic_eq (by have := ch_lt hB L s; omega) (by have := hc.2.1; omega)]
/-- one sign, one piece, one code -/
theorem op_step {N : Nat} {B : Nat → Nat} {L x c q i : Nat} {f : sw_M → Int32 → Option (Int32 × sw_M)} {g : sw_M → Option sw_M} (hN : 5000 ≤ N) (hB : ∀ i, B i < 256) (hL : L ≤ 150) (hf : RD B L 1 x f g) (hc : SG c) (hq : 2 ≤ q) (hq2 : q ≤ 8) (hcx : cx (ic q) = ic c)
    (k13 : sw_M → Int32 → Int32 → Option (Int32 × sw_M)) (k4 : sw_M → Option sw_M) (hk : RQ k4) {μ ν : sw_M} {s n d : Nat} (hA : AT μ B L s) (hR : RT ν B L s) (hQ : LQ μ ν n d) (hd : 1 ≤ d) (hn : n ≤ s) (h7 : ν 63 7 = ic x) (hch : ch B L s = c)
    (ih : ∀ s' μ1 ν1 n1, s < s' → AT μ1 B L s' → RT ν1 B L s' → LQ μ1 ν1 n1 d → n1 ≤ s' → ν1 63 7 = ic x → LX B L μ1 ν1 s' n1 d (k13 μ1 (ic x) (ic (i + 1))) (k4 ν1)) :
    LX B L μ ν s n d (Option.bind (f_tape_advance N μ) (fun r1 => Option.bind (f r1 (ic x)) (fun r3 => if r3.1 = 0 then some (0, r3.2) else Option.bind (f_lawR_add N r3.2 (ic c) 0) (fun r5 => k13 r5.2 (ic x) (ic i + 1)))))
      (wb (wr (wr ν 63 4 (ic s)) 63 4 ((wr ν 63 4 (ic s)) 63 4 + 1)) (fun μ1 => Option.bind (g μ1) (fun r2 => Option.bind (f_m_emit N r2 (ic q) 0) (fun r4 => k4 r4)))) := by
  obtain ⟨w1, w2⟩ := ch_nx hc hch
  obtain ⟨μ1, a1, a2, a3⟩ := adv_e hN hB hA
  have hsk : nx B L s ≤ sk B L (nx B L s) := re_ge
  have e1 : wr (wr ν 63 4 (ic s)) 63 4 ((wr ν 63 4 (ic s)) 63 4 + 1) = wr ν 63 4 (ic (s + 1)) := by
    rw [wr_wr, show (wr ν 63 4 (ic s)) 63 4 = ic s from rfl, ic_1]
  have f1 : FrR ν (wr ν 63 4 (ic (s + 1))) := (FrR.rf ν).wr _ (Or.inl rfl)
  have hR1 : RT (wr ν 63 4 (ic (s + 1))) B L (sk B L (nx B L s)) := by rw [w2]; exact hR.at (by omega)
  rw [a1, ob_e, e1, wb_e]
  rcases hf μ1 _ _ n d a2 hR1 (hQ.fp a3 f1) (by omega) h7 with ⟨μ2, ν2, s2, n2, x1, y1, hA2, hR2, hQ2, hs2, hn2, xw, x8, mw, m7⟩ | ⟨μ2, ν2, x1, y1, hbd, xw, mw⟩
  · have hl2 := hA2.2.2.1
    have hlt : n2 < 150 := by omega
    rw [x1, ob_e, if_neg (show ¬ (1 : Int32) = 0 by decide), y1, ob_e]
    simp only
    rw [radd_e hQ2.1 hlt, ob_e, emit_e hQ2.2.1 hlt hR2.2.2.2.2, ob_e, ic_1, ← hcx]
    have hQ3 := hQ2.em (ic q) 0 d (Or.inr (Or.inr ⟨q, hq, hq2, rfl, by omega, by omega⟩))
    have r := ih s2 _ _ (n2 + 1) (by omega) (show AT (xe μ2 n2 (cx (ic q)) 0) B L s2 from hA2) (show RT (me ν2 n2 (ic q) 0) B L s2 from hR2) hQ3 (by omega) (m7.trans h7)
    exact r.tr (by omega) (by omega) (a3.xw.tr (xw.tr (xe_w _ _ _ _))) (show μ2 1 8 = μ 1 8 by rw [x8, a3.2.2]) (f1.mw.tr (mw.tr (me_w _ _ _ _))) (show ν2 63 7 = ν 63 7 from m7)
  · rw [x1, ob_e, if_pos rfl, y1, ob_e, emit_bad hbd.nf, ob_e, hk ν2 hbd.nf]
    exact Or.inr ⟨μ2, ν2, rfl, rfl, hbd, a3.xw.tr xw, f1.mw.tr mw⟩
theorem sg43 : SG 43 := ⟨by decide, by decide, by decide, by decide⟩
theorem sg45 : SG 45 := ⟨by decide, by decide, by decide, by decide⟩
theorem sg42 : SG 42 := ⟨by decide, by decide, by decide, by decide⟩
theorem sg47 : SG 47 := ⟨by decide, by decide, by decide, by decide⟩
theorem sg37 : SG 37 := ⟨by decide, by decide, by decide, by decide⟩
theorem sg40 : SG 40 := ⟨by decide, by decide, by decide, by decide⟩
theorem sg91 : SG 91 := ⟨by decide, by decide, by decide, by decide⟩
theorem sg93 : SG 93 := ⟨by decide, by decide, by decide, by decide⟩
theorem sg44 : SG 44 := ⟨by decide, by decide, by decide, by decide⟩
theorem sg41 : SG 41 := ⟨by decide, by decide, by decide, by decide⟩
theorem rb_Sum4 {N : Nat} (ps pp pu : sw_M → Option sw_M) (pt : sw_M → Int32 → Int32 → Option sw_M) (u : Nat) : RQ (f_m_readSum_4 N ps pp pu pt (u + 1)) := fun ν h => by
  rw [f_m_readSum_4, fine_0 h, ob_e, if_pos rfl]
theorem lp_Sum {N : Nat} {B : Nat → Nat} {L x : Nat} (qs qp qu qc : sw_M → Int32 → Option (Int32 × sw_M)) (ps pp pu : sw_M → Option sw_M) (pt : sw_M → Int32 → Int32 → Option sw_M) (hN : 5000 ≤ N) (hB : ∀ i, B i < 256) (hL : L ≤ 150) (hf : RD B L 1 x qp pp) : ∀ (m i s : Nat) (μ ν : sw_M) (n d u u2 : Nat), L ≤ s + m → m < u → m + 1 < u2 → i ≤ s → AT μ B L s → RT ν B L s → LQ μ ν n d → 1 ≤ d → n ≤ s → ν 63 7 = ic x → LX B L μ ν s n d (f_lawR_readSum_13 N qs qp qu qc u μ (ic x) (ic i)) (f_m_readSum_4 N ps pp pu pt u2 ν) := by
  intro m
  induction m with
  | zero =>
    intro i s μ ν n d u u2 hm hu hu2 hi hA hR hQ hd hn h7
    obtain ⟨u, rfl⟩ := fu_s hu
    obtain ⟨u2, rfl⟩ := fu_s (show 0 < u2 by omega)
    have hsL := hA.2.2.1
    have hc0 : ch B L s = 0 := by unfold ch; rw [if_neg (by omega)]
    have f1 : FrR ν (wr ν 63 4 (ic s)) := (FrR.rf ν).wr _ (Or.inl rfl)
    refine Or.inl ⟨μ, wr ν 63 4 (ic s), s, n, ?_, ?_, hA, hR.id, hQ.fp (FrP.rf μ) f1, Nat.le_refl s, Nat.le_refl _, XW.rf μ, rfl, f1.mw, rfl⟩
    · rw [f_lawR_readSum_13]
      by_cases q : 150 ≤ i
      · rw [if_pos (by rw [lit_le (by decide) (by omega)]; exact q)]
      · rw [if_neg (by rw [lit_le (by decide) (by omega)]; exact q), ib_e, if_neg (show ¬ μ 1 4 = 43 from fun z => absurd ((kd_eq hB hA sg43).mp z) (by rw [hc0]; decide)), if_neg (show ¬ μ 1 4 = 45 from fun z => absurd ((kd_eq hB hA sg45).mp z) (by rw [hc0]; decide))]
    · rw [f_m_readSum_4, fine_1 hR.2.2.2.2, ob_e, if_neg (by decide), (here_e hN hB hR).1, ob_e, hc0]
      simp only
      rw [if_neg (by decide), (here_e hN hB hR.id).1, wr_wr, ob_e, hc0]
      simp only
      rw [if_neg (by decide)]
  | succ m ihm =>
    intro i s μ ν n d u u2 hm hu hu2 hi hA hR hQ hd hn h7
    obtain ⟨u, rfl⟩ := fu_s (show 0 < u by omega)
    obtain ⟨u2, rfl⟩ := fu_s (show 0 < u2 by omega)
    obtain ⟨u3, hu3⟩ := fu_s (show 0 < u2 by omega)
    have hsL := hA.2.2.1
    have f1 : FrR ν (wr ν 63 4 (ic s)) := (FrR.rf ν).wr _ (Or.inl rfl)
    have hk : RQ (f_m_readSum_4 N ps pp pu pt u2) := by rw [hu3]; exact rb_Sum4 ps pp pu pt u3
    have hX0 : f_lawR_readSum_13 N qs qp qu qc (u + 1) μ (ic x) (ic i) = if 150 ≤ ic i then some (1, μ) else if μ 1 4 = 43 then f_lawR_readSum_42 N qs qp qu qc (f_lawR_readSum_13 N qs qp qu qc u) μ (ic x) (ic i) (μ 1 4) else if μ 1 4 = 45 then f_lawR_readSum_42 N qs qp qu qc (f_lawR_readSum_13 N qs qp qu qc u) μ (ic x) (ic i) (μ 1 4) else some (1, μ) := by
      rw [f_lawR_readSum_13]; rfl
    have hM0 : f_m_readSum_4 N ps pp pu pt (u2 + 1) ν = if ic (ch B L s) = 43 ∨ ic (ch B L s) = 45 then (if ic (ch B L s) = 43 then f_m_readSum_43 N ps pp pu pt (f_m_readSum_4 N ps pp pu pt u2) (wr ν 63 4 (ic s)) 2 else f_m_readSum_43 N ps pp pu pt (f_m_readSum_4 N ps pp pu pt u2) (wr ν 63 4 (ic s)) 3) else some (wr ν 63 4 (ic s)) := by
      rw [f_m_readSum_4, fine_1 hR.2.2.2.2, ob_e, if_neg (by decide), (here_e hN hB hR).1, ob_e]
      simp only
      unfold f_m_readSum_29
      rw [(here_e hN hB hR.id).1, wr_wr, ob_e]
      simp only
      rw [ob_e]
      simp only
      rw [(here_e hN hB hR.id).1, wr_wr, ob_e]
      simp only
      by_cases z1 : ic (ch B L s) = 43
      · rw [if_pos z1, if_pos (Or.inl z1), if_pos z1]
      · rw [if_neg z1]
        by_cases z2 : ic (ch B L s) = 45
        · rw [if_pos z2, if_pos (Or.inr z2), if_neg z1]
        · rw [if_neg z2, if_neg (fun z => z.elim z1 z2)]
    have ih2 : ∀ s' μ1 ν1 n1, s < s' → AT μ1 B L s' → RT ν1 B L s' → LQ μ1 ν1 n1 d → n1 ≤ s' → ν1 63 7 = ic x → LX B L μ1 ν1 s' n1 d (f_lawR_readSum_13 N qs qp qu qc u μ1 (ic x) (ic (i + 1))) (f_m_readSum_4 N ps pp pu pt u2 ν1) :=
      fun s' μ1 ν1 n1 q1 q2 q3 q4 q5 q6 => ihm (i + 1) s' μ1 ν1 n1 d u u2 (by omega) (by omega) (by omega) (by omega) q2 q3 q4 hd q5 q6
    have hi' : ∀ c, SG c → ch B L s = c → ¬ (150 : Int32) ≤ ic i := fun c hc z => by
      have := (ch_nx hc z).1
      rw [lit_le (by decide) (by omega)]; show ¬ 150 ≤ i; omega
    by_cases z43 : ch B L s = 43
    · have e4 : μ 1 4 = 43 := (kd_eq hB hA sg43).mpr z43
      rw [hX0, if_neg (hi' 43 sg43 z43), if_pos e4, hM0, if_pos (show ic (ch B L s) = 43 ∨ ic (ch B L s) = 45 from (Or.inl ((ch_eq hB sg43).mpr z43))), if_pos (show ic (ch B L s) = 43 from (ch_eq hB sg43).mpr z43)]
      unfold f_lawR_readSum_42 f_m_readSum_43
      rw [e4]
      exact op_step (q := 2) (c := 43) hN hB hL hf sg43 (by decide) (by decide) rfl _ _ hk hA hR hQ hd hn h7 z43 ih2
    by_cases z45 : ch B L s = 45
    · have e4 : μ 1 4 = 45 := (kd_eq hB hA sg45).mpr z45
      rw [hX0, if_neg (hi' 45 sg45 z45), if_neg (show ¬ μ 1 4 = 43 from fun z => z43 ((kd_eq hB hA sg43).mp z)), if_pos e4, hM0, if_pos (show ic (ch B L s) = 43 ∨ ic (ch B L s) = 45 from (Or.inr ((ch_eq hB sg45).mpr z45))), if_neg (show ¬ ic (ch B L s) = 43 from fun z => z43 ((ch_eq hB sg43).mp z))]
      unfold f_lawR_readSum_42 f_m_readSum_43
      rw [e4]
      exact op_step (q := 3) (c := 45) hN hB hL hf sg45 (by decide) (by decide) rfl _ _ hk hA hR hQ hd hn h7 z45 ih2
    refine Or.inl ⟨μ, wr ν 63 4 (ic s), s, n, ?_, ?_, hA, hR.id, hQ.fp (FrP.rf μ) f1, Nat.le_refl s, Nat.le_refl _, XW.rf μ, rfl, f1.mw, rfl⟩
    · rw [hX0, if_neg (show ¬ μ 1 4 = 43 from fun z => z43 ((kd_eq hB hA sg43).mp z)), if_neg (show ¬ μ 1 4 = 45 from fun z => z45 ((kd_eq hB hA sg45).mp z)), ite_self]
    · rw [hM0, if_neg (show ¬ (ic (ch B L s) = 43 ∨ ic (ch B L s) = 45) from fun z => z.elim (fun z => z43 ((ch_eq hB sg43).mp z)) (fun z => z45 ((ch_eq hB sg45).mp z)))]
theorem rd_Sum {N : Nat} {B : Nat → Nat} {L x : Nat} (qs qp qu qc : sw_M → Int32 → Option (Int32 × sw_M)) (ps pp pu : sw_M → Option sw_M) (pt : sw_M → Int32 → Int32 → Option sw_M) (hN : 5000 ≤ N) (hB : ∀ i, B i < 256) (hL : L ≤ 150) (hf : RD B L 1 x qp pp) : RD B L 1 x (f_lawR_readSum_b N qs qp qu qc) (f_m_readSum_b N ps pp pu pt) := by
  intro μ ν s n d hA hR hQ hn h7
  unfold f_lawR_readSum_b f_m_readSum_b
  rcases hf μ ν s n d hA hR hQ hn h7 with ⟨μ2, ν2, s2, n2, x1, y1, hA2, hR2, hQ2, hs2, hn2, xw, x8, mw, m7⟩ | ⟨μ2, ν2, x1, y1, hbd, xw, mw⟩
  · rw [x1, ob_e, if_neg (show ¬ (1 : Int32) = 0 by decide), y1, ob_e]
    exact (lp_Sum qs qp qu qc ps pp pu pt hN hB hL hf L 0 s2 μ2 ν2 n2 (d + 1) N N (by omega) (by omega) (by omega) (by omega) hA2 hR2 hQ2 (by omega) (by omega) (m7.trans h7)).tr hs2 hn2 xw x8 mw m7
  · obtain ⟨N', hN'⟩ := fu_s (show 0 < N by omega)
    have hb : f_m_readSum_4 N ps pp pu pt N ν2 = some ν2 := by rw [show f_m_readSum_4 N ps pp pu pt N = f_m_readSum_4 N ps pp pu pt (N' + 1) by rw [← hN']]; exact rb_Sum4 ps pp pu pt N' ν2 hbd.nf
    rw [x1, ob_e, if_pos rfl, y1, ob_e, hb]
    exact Or.inr ⟨μ2, ν2, rfl, rfl, hbd, xw, mw⟩
theorem rb_Sum {N : Nat} (ps pp pu : sw_M → Option sw_M) (pt : sw_M → Int32 → Int32 → Option sw_M) (hN : 5000 ≤ N) (hg : RQ pp) : RQ (f_m_readSum_b N ps pp pu pt) := by
  intro ν h
  obtain ⟨N', hN'⟩ := fu_s (show 0 < N by omega)
  unfold f_m_readSum_b
  rw [hg ν h, ob_e, show f_m_readSum_4 N ps pp pu pt N = f_m_readSum_4 N ps pp pu pt (N' + 1) by rw [← hN']]
  exact rb_Sum4 ps pp pu pt N' ν h
theorem rb_Product4 {N : Nat} (ps pp pu : sw_M → Option sw_M) (pt : sw_M → Int32 → Int32 → Option sw_M) (u : Nat) : RQ (f_m_readProduct_4 N ps pp pu pt (u + 1)) := fun ν h => by
  rw [f_m_readProduct_4, fine_0 h, ob_e, if_pos rfl]
theorem lp_Product {N : Nat} {B : Nat → Nat} {L x : Nat} (qs qp qu qc : sw_M → Int32 → Option (Int32 × sw_M)) (ps pp pu : sw_M → Option sw_M) (pt : sw_M → Int32 → Int32 → Option sw_M) (hN : 5000 ≤ N) (hB : ∀ i, B i < 256) (hL : L ≤ 150) (hf : RD B L 1 x qu pu) : ∀ (m i s : Nat) (μ ν : sw_M) (n d u u2 : Nat), L ≤ s + m → m < u → m + 1 < u2 → i ≤ s → AT μ B L s → RT ν B L s → LQ μ ν n d → 1 ≤ d → n ≤ s → ν 63 7 = ic x → LX B L μ ν s n d (f_lawR_readProduct_13 N qs qp qu qc u μ (ic x) (ic i)) (f_m_readProduct_4 N ps pp pu pt u2 ν) := by
  intro m
  induction m with
  | zero =>
    intro i s μ ν n d u u2 hm hu hu2 hi hA hR hQ hd hn h7
    obtain ⟨u, rfl⟩ := fu_s hu
    obtain ⟨u2, rfl⟩ := fu_s (show 0 < u2 by omega)
    have hsL := hA.2.2.1
    have hc0 : ch B L s = 0 := by unfold ch; rw [if_neg (by omega)]
    have f1 : FrR ν (wr ν 63 4 (ic s)) := (FrR.rf ν).wr _ (Or.inl rfl)
    refine Or.inl ⟨μ, wr ν 63 4 (ic s), s, n, ?_, ?_, hA, hR.id, hQ.fp (FrP.rf μ) f1, Nat.le_refl s, Nat.le_refl _, XW.rf μ, rfl, f1.mw, rfl⟩
    · rw [f_lawR_readProduct_13]
      by_cases q : 150 ≤ i
      · rw [if_pos (by rw [lit_le (by decide) (by omega)]; exact q)]
      · rw [if_neg (by rw [lit_le (by decide) (by omega)]; exact q), ib_e, if_neg (show ¬ μ 1 4 = 42 from fun z => absurd ((kd_eq hB hA sg42).mp z) (by rw [hc0]; decide)), if_neg (show ¬ μ 1 4 = 47 from fun z => absurd ((kd_eq hB hA sg47).mp z) (by rw [hc0]; decide)), if_neg (show ¬ μ 1 4 = 37 from fun z => absurd ((kd_eq hB hA sg37).mp z) (by rw [hc0]; decide))]
    · rw [f_m_readProduct_4, fine_1 hR.2.2.2.2, ob_e, if_neg (by decide), (here_e hN hB hR).1, ob_e, hc0]
      simp only
      rw [if_neg (by decide), (here_e hN hB hR.id).1, wr_wr, ob_e, hc0]
      simp only
      rw [if_neg (by decide), (here_e hN hB hR.id).1, wr_wr, ob_e, hc0]
      simp only
      rw [if_neg (by decide)]
  | succ m ihm =>
    intro i s μ ν n d u u2 hm hu hu2 hi hA hR hQ hd hn h7
    obtain ⟨u, rfl⟩ := fu_s (show 0 < u by omega)
    obtain ⟨u2, rfl⟩ := fu_s (show 0 < u2 by omega)
    obtain ⟨u3, hu3⟩ := fu_s (show 0 < u2 by omega)
    have hsL := hA.2.2.1
    have f1 : FrR ν (wr ν 63 4 (ic s)) := (FrR.rf ν).wr _ (Or.inl rfl)
    have hk : RQ (f_m_readProduct_4 N ps pp pu pt u2) := by rw [hu3]; exact rb_Product4 ps pp pu pt u3
    have hX0 : f_lawR_readProduct_13 N qs qp qu qc (u + 1) μ (ic x) (ic i) = if 150 ≤ ic i then some (1, μ) else if μ 1 4 = 42 then f_lawR_readProduct_49 N qs qp qu qc (f_lawR_readProduct_13 N qs qp qu qc u) μ (ic x) (ic i) (μ 1 4) else if μ 1 4 = 47 then f_lawR_readProduct_49 N qs qp qu qc (f_lawR_readProduct_13 N qs qp qu qc u) μ (ic x) (ic i) (μ 1 4) else if μ 1 4 = 37 then f_lawR_readProduct_49 N qs qp qu qc (f_lawR_readProduct_13 N qs qp qu qc u) μ (ic x) (ic i) (μ 1 4) else some (1, μ) := by
      rw [f_lawR_readProduct_13]; rfl
    have hM0 : f_m_readProduct_4 N ps pp pu pt (u2 + 1) ν = if ic (ch B L s) = 42 ∨ ic (ch B L s) = 47 ∨ ic (ch B L s) = 37 then (if ic (ch B L s) = 42 then f_m_readProduct_66 N ps pp pu pt (f_m_readProduct_4 N ps pp pu pt u2) (wr ν 63 4 (ic s)) 4 else if ic (ch B L s) = 47 then f_m_readProduct_66 N ps pp pu pt (f_m_readProduct_4 N ps pp pu pt u2) (wr ν 63 4 (ic s)) 5 else f_m_readProduct_66 N ps pp pu pt (f_m_readProduct_4 N ps pp pu pt u2) (wr ν 63 4 (ic s)) 8) else some (wr ν 63 4 (ic s)) := by
      have h2 := (here_e (N := N) hN hB hR.id).1
      rw [wr_wr] at h2
      rw [f_m_readProduct_4, fine_1 hR.2.2.2.2, ob_e, if_neg (by decide), (here_e hN hB hR).1, ob_e]
      unfold f_m_readProduct_38
      simp only [h2, ob_e]
      by_cases z1 : ic (ch B L s) = 42
      · rw [if_pos z1, if_pos z1, if_pos (Or.inl z1)]
      · rw [if_neg z1]
        by_cases z2 : ic (ch B L s) = 47
        · rw [if_pos z2, if_neg z1, if_pos z2, if_pos (Or.inr (Or.inl z2))]
        · rw [if_neg z2]
          by_cases z3 : ic (ch B L s) = 37
          · rw [if_pos z3, if_neg z1, if_neg z2, if_pos (Or.inr (Or.inr z3))]
          · rw [if_neg z3, if_neg (fun z => z.elim z1 (fun z => z.elim z2 z3))]
    have ih2 : ∀ s' μ1 ν1 n1, s < s' → AT μ1 B L s' → RT ν1 B L s' → LQ μ1 ν1 n1 d → n1 ≤ s' → ν1 63 7 = ic x → LX B L μ1 ν1 s' n1 d (f_lawR_readProduct_13 N qs qp qu qc u μ1 (ic x) (ic (i + 1))) (f_m_readProduct_4 N ps pp pu pt u2 ν1) :=
      fun s' μ1 ν1 n1 q1 q2 q3 q4 q5 q6 => ihm (i + 1) s' μ1 ν1 n1 d u u2 (by omega) (by omega) (by omega) (by omega) q2 q3 q4 hd q5 q6
    have hi' : ∀ c, SG c → ch B L s = c → ¬ (150 : Int32) ≤ ic i := fun c hc z => by
      have := (ch_nx hc z).1
      rw [lit_le (by decide) (by omega)]; show ¬ 150 ≤ i; omega
    by_cases z42 : ch B L s = 42
    · have e4 : μ 1 4 = 42 := (kd_eq hB hA sg42).mpr z42
      rw [hX0, if_neg (hi' 42 sg42 z42), if_pos e4, hM0, if_pos (show ic (ch B L s) = 42 ∨ ic (ch B L s) = 47 ∨ ic (ch B L s) = 37 from (Or.inl ((ch_eq hB sg42).mpr z42))), if_pos (show ic (ch B L s) = 42 from (ch_eq hB sg42).mpr z42)]
      unfold f_lawR_readProduct_49 f_m_readProduct_66
      rw [e4]
      exact op_step (q := 4) (c := 42) hN hB hL hf sg42 (by decide) (by decide) rfl _ _ hk hA hR hQ hd hn h7 z42 ih2
    by_cases z47 : ch B L s = 47
    · have e4 : μ 1 4 = 47 := (kd_eq hB hA sg47).mpr z47
      rw [hX0, if_neg (hi' 47 sg47 z47), if_neg (show ¬ μ 1 4 = 42 from fun z => z42 ((kd_eq hB hA sg42).mp z)), if_pos e4, hM0, if_pos (show ic (ch B L s) = 42 ∨ ic (ch B L s) = 47 ∨ ic (ch B L s) = 37 from (Or.inr (Or.inl ((ch_eq hB sg47).mpr z47)))), if_neg (show ¬ ic (ch B L s) = 42 from fun z => z42 ((ch_eq hB sg42).mp z)), if_pos (show ic (ch B L s) = 47 from (ch_eq hB sg47).mpr z47)]
      unfold f_lawR_readProduct_49 f_m_readProduct_66
      rw [e4]
      exact op_step (q := 5) (c := 47) hN hB hL hf sg47 (by decide) (by decide) rfl _ _ hk hA hR hQ hd hn h7 z47 ih2
    by_cases z37 : ch B L s = 37
    · have e4 : μ 1 4 = 37 := (kd_eq hB hA sg37).mpr z37
      rw [hX0, if_neg (hi' 37 sg37 z37), if_neg (show ¬ μ 1 4 = 42 from fun z => z42 ((kd_eq hB hA sg42).mp z)), if_neg (show ¬ μ 1 4 = 47 from fun z => z47 ((kd_eq hB hA sg47).mp z)), if_pos e4, hM0, if_pos (show ic (ch B L s) = 42 ∨ ic (ch B L s) = 47 ∨ ic (ch B L s) = 37 from (Or.inr (Or.inr ((ch_eq hB sg37).mpr z37)))), if_neg (show ¬ ic (ch B L s) = 42 from fun z => z42 ((ch_eq hB sg42).mp z)), if_neg (show ¬ ic (ch B L s) = 47 from fun z => z47 ((ch_eq hB sg47).mp z))]
      unfold f_lawR_readProduct_49 f_m_readProduct_66
      rw [e4]
      exact op_step (q := 8) (c := 37) hN hB hL hf sg37 (by decide) (by decide) rfl _ _ hk hA hR hQ hd hn h7 z37 ih2
    refine Or.inl ⟨μ, wr ν 63 4 (ic s), s, n, ?_, ?_, hA, hR.id, hQ.fp (FrP.rf μ) f1, Nat.le_refl s, Nat.le_refl _, XW.rf μ, rfl, f1.mw, rfl⟩
    · rw [hX0, if_neg (show ¬ μ 1 4 = 42 from fun z => z42 ((kd_eq hB hA sg42).mp z)), if_neg (show ¬ μ 1 4 = 47 from fun z => z47 ((kd_eq hB hA sg47).mp z)), if_neg (show ¬ μ 1 4 = 37 from fun z => z37 ((kd_eq hB hA sg37).mp z)), ite_self]
    · rw [hM0, if_neg (show ¬ (ic (ch B L s) = 42 ∨ ic (ch B L s) = 47 ∨ ic (ch B L s) = 37) from fun z => z.elim (fun z => z42 ((ch_eq hB sg42).mp z)) (fun z => z.elim (fun z => z47 ((ch_eq hB sg47).mp z)) (fun z => z37 ((ch_eq hB sg37).mp z))))]
theorem rd_Product {N : Nat} {B : Nat → Nat} {L x : Nat} (qs qp qu qc : sw_M → Int32 → Option (Int32 × sw_M)) (ps pp pu : sw_M → Option sw_M) (pt : sw_M → Int32 → Int32 → Option sw_M) (hN : 5000 ≤ N) (hB : ∀ i, B i < 256) (hL : L ≤ 150) (hf : RD B L 1 x qu pu) : RD B L 1 x (f_lawR_readProduct_b N qs qp qu qc) (f_m_readProduct_b N ps pp pu pt) := by
  intro μ ν s n d hA hR hQ hn h7
  unfold f_lawR_readProduct_b f_m_readProduct_b
  rcases hf μ ν s n d hA hR hQ hn h7 with ⟨μ2, ν2, s2, n2, x1, y1, hA2, hR2, hQ2, hs2, hn2, xw, x8, mw, m7⟩ | ⟨μ2, ν2, x1, y1, hbd, xw, mw⟩
  · rw [x1, ob_e, if_neg (show ¬ (1 : Int32) = 0 by decide), y1, ob_e]
    exact (lp_Product qs qp qu qc ps pp pu pt hN hB hL hf L 0 s2 μ2 ν2 n2 (d + 1) N N (by omega) (by omega) (by omega) (by omega) hA2 hR2 hQ2 (by omega) (by omega) (m7.trans h7)).tr hs2 hn2 xw x8 mw m7
  · obtain ⟨N', hN'⟩ := fu_s (show 0 < N by omega)
    have hb : f_m_readProduct_4 N ps pp pu pt N ν2 = some ν2 := by rw [show f_m_readProduct_4 N ps pp pu pt N = f_m_readProduct_4 N ps pp pu pt (N' + 1) by rw [← hN']]; exact rb_Product4 ps pp pu pt N' ν2 hbd.nf
    rw [x1, ob_e, if_pos rfl, y1, ob_e, hb]
    exact Or.inr ⟨μ2, ν2, rfl, rfl, hbd, xw, mw⟩
theorem rb_Product {N : Nat} (ps pp pu : sw_M → Option sw_M) (pt : sw_M → Int32 → Int32 → Option sw_M) (hN : 5000 ≤ N) (hg : RQ pu) : RQ (f_m_readProduct_b N ps pp pu pt) := by
  intro ν h
  obtain ⟨N', hN'⟩ := fu_s (show 0 < N by omega)
  unfold f_m_readProduct_b
  rw [hg ν h, ob_e, show f_m_readProduct_4 N ps pp pu pt N = f_m_readProduct_4 N ps pp pu pt (N' + 1) by rw [← hN']]
  exact rb_Product4 ps pp pu pt N' ν h
