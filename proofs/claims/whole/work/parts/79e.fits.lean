/-! ===== printed by wip/whole/gen79e.py: fits ===== -/
def lvN (W : Nat) (S : Nat → Int32) (h : Int32) : Int32 := fo (fun w a => if lv S w h 0 then a + 1 else a) 0 W 0
def mvN (W : Nat) (S : Nat → Int32) (h : Int32) (m : Nat) (x : Int32) : Int32 := fo (fun w a => if lv S w h (if w = m then x else 0) then a + 1 else a) 0 W 0
abbrev lo (S : Nat → Int32) (w : Nat) (x h : Int32) : Prop := S w ≤ S 48 + h ∧ S 48 + h < S w + x
theorem cn_sh (p : Nat → Prop) [DecidablePred p] (d : Int32) : ∀ (j k : Nat) (a : Int32), fo (fun w a => if p w then a + 1 else a) k j (a + d) = fo (fun w a => if p w then a + 1 else a) k j a + d
  | 0, k, a => rfl
  | j + 1, k, a => by
    rw [fo_s, fo_s]
    by_cases h : p k
    · rw [if_pos h, if_pos h, ← cn_sh p d j (k + 1) (a + 1), Int32.add_assoc, Int32.add_assoc, Int32.add_comm d 1]
    · rw [if_neg h, if_neg h, cn_sh p d j (k + 1) a]
theorem cn_upd (p q : Nat → Prop) [DecidablePred p] [DecidablePred q] {m : Nat} (hne : ∀ i, i ≠ m → (p i ↔ q i)) (hpq : q m → p m) : ∀ (j k : Nat) (a : Int32), k ≤ m → m < k + j → fo (fun w a => if p w then a + 1 else a) k j a = fo (fun w a => if q w then a + 1 else a) k j a + (if p m ∧ ¬ q m then 1 else 0)
  | 0, k, a, h1, h2 => by omega
  | j + 1, k, a, h1, h2 => by
    rw [fo_s, fo_s]
    by_cases e : k = m
    · subst e
      have hcg : ∀ b : Int32, fo (fun w a => if p w then a + 1 else a) (k + 1) j b = fo (fun w a => if q w then a + 1 else a) (k + 1) j b := fun b => fo_cg j (k + 1) b (fun i h3 h4 b => by
        have := hne i (by omega)
        by_cases z : p i
        · rw [if_pos z, if_pos (this.mp z)]
        · rw [if_neg z, if_neg (fun y => z (this.mpr y))])
      rw [hcg]
      by_cases z : p k
      · by_cases y : q k
        · rw [if_pos z, if_pos y, if_neg (fun u => u.2 y), Int32.add_zero]
        · rw [if_pos z, if_neg y, if_pos ⟨z, y⟩, cn_sh q 1]
      · rw [if_neg z, if_neg (fun y => z (hpq y)), if_neg (fun u => z u.1), Int32.add_zero]
    · have := hne k e
      by_cases z : p k
      · rw [if_pos z, if_pos (this.mp z)]; exact cn_upd p q hne hpq j (k + 1) _ (by omega) (by omega)
      · rw [if_neg z, if_neg (fun y => z (this.mpr y))]; exact cn_upd p q hne hpq j (k + 1) _ (by omega) (by omega)
theorem mv_e {F W T P : Nat} {S : Nat → Int32} (hS : WS F W T P S) {w h x : Nat} (hw : w < W) (hh : h ≤ 1000) (hx : x ≤ 1000) (hc : ¬ S (12 + w) = 1) : lvN W S (ic h) = mvN W S (ic h) w (ic x) + (if lo S w (ic x) (ic h) then 1 else 0) := by
  obtain ⟨a, b, hab⟩ := lv_e hS hw
  have h0 := hab h 0 (by omega) (by omega)
  have h1 := hab h x (by omega) (by omega)
  have := cn_upd (fun i => lv S i (ic h) 0) (fun i => lv S i (ic h) (if i = w then ic x else 0)) (m := w) (fun i hi => by rw [if_neg hi]) (fun z => by
    rw [if_pos rfl, h1] at z
    show lv S w (ic h) (ic 0)
    rw [h0]; exact ⟨z.1, by omega⟩) W 0 0 (Nat.zero_le w) (by omega)
  unfold lvN mvN
  rw [this]
  congr 1
  have e1 : lv S w (ic h) 0 ∧ ¬ lv S w (ic h) (if w = w then ic x else 0) ↔ lo S w (ic x) (ic h) := by
    rw [if_pos rfl]
    unfold lv lo
    rw [Int32.add_zero]
    refine ⟨fun ⟨⟨_, z1⟩, z2⟩ => ⟨z1, ?_⟩, fun ⟨z1, z2⟩ => ⟨⟨hc, z1⟩, fun z => ?_⟩⟩
    · rcases Int32.lt_or_le (S 48 + ic h) (S w + ic x) with y | y
      · exact y
      · exact absurd ⟨hc, y⟩ z2
    · have := z.2; grind
  by_cases z : lo S w (ic x) (ic h)
  · rw [if_pos (e1.mpr z), if_pos z]
  · rw [if_neg (fun y => z (e1.mp y)), if_neg z]
theorem e_lost {N : Nat} {μ c : sw_M} {F W T P : Nat} (hN : 5000 ≤ N) (hC : CW c F W T P) (hX : XR μ c) {S : Nat → Int32} (hS : WS F W T P S) (hD : DR μ 35 W T P S) {w : Nat} (hw : w < W) (x h : Int32) : f_guess_lost N μ (ic w) x h = some (b2 (lo S w x h)) := by
  have hW' := hC.w12
  unfold f_guess_lost
  rw [at_e (show w < 12 by omega) (by decide), ob_e, hD.dl hw, hD.dh, ib_e]
  unfold b2 lo
  by_cases q : S 48 + h < S w
  · rw [if_pos q, if_neg (by grind)]
  · rw [if_neg q]
    by_cases r : S w + x ≤ S 48 + h
    · rw [if_pos r, if_neg (by grind)]
    · rw [if_neg r, if_pos (by grind)]
theorem lp_manyLive {N : Nat} {μ c : sw_M} {F W T P : Nat} (hN : 5000 ≤ N) (hC : CW c F W T P) (hM : MR μ c F W T P) (hS : WS F W T P (μ 81)) {m : Nat} (hm : m < W) (h x : Int32) : ∀ (j k : Nat) (a : Int32) (n : Nat), k + j = W → j < n → f_m_manyLive_6 N μ n h (ic m) x a (ic k) = some (fo (fun w a => if lv (μ 81) w h (if w = m then x else 0) then a + 1 else a) k j a)
  | 0, k, a, n, hk, hn => by
    have hW' := hC.w12; have nW := hM.nW
    obtain ⟨n, rfl⟩ := fu_s hn
    rw [f_m_manyLive_6, nW, if_pos (by rw [ic_le (by omega) (by omega)]; omega), fo_0]
  | j + 1, k, a, n, hk, hn => by
    have hW' := hC.w12; have nW := hM.nW
    obtain ⟨n, rfl⟩ := fu_s (show 0 < n by omega)
    have ih := fun a => lp_manyLive hN hC hM hS hm h x j (k + 1) a n (by omega) (by omega)
    have e1 := fun g => e_m_isLive hN hC hM hS h g (w := k) (by omega)
    rw [f_m_manyLive_6, nW, if_neg (by rw [ic_le (by omega) (by omega)]; omega), fo_s]
    unfold f_m_manyLive_32 f_m_manyLive_43
    rw [e1, e1, ob_e, ob_e]
    simp only [b2_0, ib_e, ic_1, ih, Int32.add_zero, ic_eq (show k < 2147483648 by omega) (show m < 2147483648 by omega)]
    by_cases e : k = m
    · rw [if_pos e, if_pos e]
      by_cases z : lv (μ 81) k h x
      · rw [if_neg (fun y => y z), if_pos z]
      · rw [if_pos z, if_neg z]
    · rw [if_neg e, if_neg e]
      by_cases z : lv (μ 81) k h 0
      · rw [if_neg (fun y => y z), if_pos z]
      · rw [if_pos z, if_neg z]
theorem e_manyLive {N : Nat} {μ c : sw_M} {F W T P : Nat} (hN : 5000 ≤ N) (hC : CW c F W T P) (hM : MR μ c F W T P) (hS : WS F W T P (μ 81)) {m : Nat} (hm : m < W) (h x : Int32) : f_m_manyLive N μ h (ic m) x = some (mvN W (μ 81) h m x) := by
  have hW' := hC.w12
  exact lp_manyLive hN hC hM hS hm h x W 0 0 N (by omega) (by omega)
/-- a pair that the book leaves -/
abbrev fit (W : Nat) (S bk bv : Nat → Int32) (nb w x : Nat) : Prop := ¬ S (12 + w) = 1 ∧ ∀ i, i < nb → mvN W S (bk i) w (ic x) = bv i
/-! the class -/
def FW (μ : sw_M) (W nb : Nat) (S : Nat → Int32) : Prop := ∀ i, i < nb → μ 54 i = lvN W S (μ 30 i) - μ 31 i
theorem lp_agrees {N : Nat} {μ c : sw_M} {F W T P : Nat} (hN : 5000 ≤ N) (hC : CW c F W T P) (hX : XR μ c) {S : Nat → Int32} (hS : WS F W T P S) (hD : DR μ 35 W T P S) {nb : Nat} (hb8 : nb ≤ 8) (h29 : μ 29 0 = ic nb) (hbk : ∀ i, i < nb → ∃ k, k ≤ 40 ∧ μ 30 i = ic k) (hfw : FW μ W nb S) {w x : Nat} (hw : w < W) (hx : x ≤ 20) (hc : ¬ S (12 + w) = 1) : ∀ (j k n : Nat), k + j = nb → j < n → ∃ r, f_guess_agrees_2 N μ n (ic w) (ic x) (ic k) = some r ∧ (r = 0 ∨ r = 1) ∧ (r = 1 ↔ ∀ i, k ≤ i → i < nb → mvN W S (μ 30 i) w (ic x) = μ 31 i)
  | 0, k, n, hk, hn => by
    obtain ⟨n, rfl⟩ := fu_s hn
    refine ⟨1, ?_, Or.inr rfl, ⟨fun _ i h1 h2 => by omega, fun _ => rfl⟩⟩
    rw [f_guess_agrees_2, h29, if_pos (by rw [ic_le (by omega) (by omega)]; omega)]
  | j + 1, k, n, hk, hn => by
    obtain ⟨n, rfl⟩ := fu_s (show 0 < n by omega)
    obtain ⟨h, hh, eh⟩ := hbk k (by omega)
    have e1 := e_lost hN hC hX hS hD hw (ic x) (μ 30 k)
    have e2 := mv_e hS hw (h := h) (x := x) (by omega) (by omega) hc
    have e3 := hfw k (by omega)
    rw [← eh] at e2
    have hst : f_guess_agrees_2 N μ (n + 1) (ic w) (ic x) (ic k) = if b2 (lo S w (ic x) (μ 30 k)) = μ 54 k then f_guess_agrees_2 N μ n (ic w) (ic x) (ic (k + 1)) else some 0 := by
      rw [f_guess_agrees_2, h29, if_neg (by rw [ic_le (by omega) (by omega)]; omega), inb_e (by omega) (by decide), ic_n (by omega), e1, ob_e, inb_e (by omega) (by decide), ic_1]
    have key : b2 (lo S w (ic x) (μ 30 k)) = μ 54 k ↔ mvN W S (μ 30 k) w (ic x) = μ 31 k := by
      rw [e3, e2]
      unfold b2
      generalize mvN W S (μ 30 k) w (ic x) = M
      generalize μ 31 k = v
      generalize (if lo S w (ic x) (μ 30 k) then (1 : Int32) else 0) = l
      refine ⟨fun z => ?_, fun z => ?_⟩
      · have : M = v + (M + l - v - l) := by grind
        rw [← z] at this; grind
      · subst z; grind
    by_cases q : b2 (lo S w (ic x) (μ 30 k)) = μ 54 k
    · obtain ⟨r, h1, h2, h3⟩ := lp_agrees hN hC hX hS hD hb8 h29 hbk hfw hw hx hc j (k + 1) n (by omega) (by omega)
      refine ⟨r, by rw [hst, if_pos q, h1], h2, ?_⟩
      rw [h3]
      refine ⟨fun z i h4 h5 => ?_, fun z i h4 h5 => z i (by omega) h5⟩
      by_cases e : i = k
      · subst e; exact key.mp q
      · exact z i (by omega) h5
    · refine ⟨0, by rw [hst, if_neg q], Or.inl rfl, ⟨fun z => absurd z (by decide), fun z => absurd (key.mpr (z k (Nat.le_refl k) (by omega))) q⟩⟩
def pl (W : Nat) (S bk bv : Nat → Int32) (nb w x : Nat) (l : List (Nat × Nat)) : List (Nat × Nat) := if fit W S bk bv nb w x then l ++ [(w, x)] else l
def plW (W : Nat) (S bk bv : Nat → Int32) (nb w : Nat) (l : List (Nat × Nat)) : List (Nat × Nat) := fo (fun x l => pl W S bk bv nb w x l) 1 20 l
def prs (W : Nat) (S bk bv : Nat → Int32) (nb : Nat) : List (Nat × Nat) := fo (fun w l => plW W S bk bv nb w l) 0 W []
def PRm (μ : sw_M) (l : List (Nat × Nat)) : Prop := μ 51 5 = ic l.length ∧ ∀ i, i < l.length → μ 52 i = ic (l.getD i (0, 0)).1 ∧ μ 53 i = ic (l.getD i (0, 0)).2
def FrG (μ μ' : sw_M) : Prop := ∀ a, a ≠ 51 → a ≠ 52 → a ≠ 53 → μ' a = μ a
theorem PRm.add {μ : sw_M} {l : List (Nat × Nat)} (h : PRm μ l) (w x : Nat) : PRm (wr (wr (wr μ 52 l.length (ic w)) 53 l.length (ic x)) 51 5 (ic (l.length + 1))) (l ++ [(w, x)]) := by
  refine ⟨?_, fun i hi => ?_⟩
  · rw [List.length_append]; rfl
  · rw [List.length_append] at hi
    have hi : i < l.length + 1 := hi
    show (if i = l.length then ic w else μ 52 i) = _ ∧ (if i = l.length then ic x else μ 53 i) = _
    by_cases e : i = l.length
    · subst e
      rw [if_pos rfl, if_pos rfl]
      simp
    · rw [if_neg e, if_neg e]
      have := h.2 i (by omega)
      have e9 : (l ++ [(w, x)]).getD i (0, 0) = l.getD i (0, 0) := by rw [List.getD_eq_getElem?_getD, List.getD_eq_getElem?_getD, List.getElem?_append_left (by omega)]
      rw [e9]
      exact this
theorem lp_coll77 {N : Nat} {μ c : sw_M} {F W T P : Nat} (hN : 5000 ≤ N) (hC : CW c F W T P) (hX : XR μ c) {S : Nat → Int32} (hS : WS F W T P S) (hD : DR μ 35 W T P S) {nb : Nat} (hb8 : nb ≤ 8) (h29 : μ 29 0 = ic nb) (hbk : ∀ i, i < nb → ∃ k, k ≤ 40 ∧ μ 30 i = ic k) (hfw : FW μ W nb S) {w : Nat} (hw : w < W) (K : sw_M → Int32 → Option sw_M) : ∀ (j k : Nat) (μ1 : sw_M) (l : List (Nat × Nat)) (n : Nat), k + j = 21 → 1 ≤ k → j < n → FrG μ μ1 → PRm μ1 l → l.length ≤ 20 * w + k - 1 → ∃ μ2, f_guess_collect_77 N K n μ1 (ic w) (ic k) = K μ2 (ic (w + 1)) ∧ FrG μ μ2 ∧ PRm μ2 (fo (fun x l => pl W S (μ 30) (μ 31) nb w x l) k j l) ∧ (fo (fun x l => pl W S (μ 30) (μ 31) nb w x l) k j l).length ≤ 20 * w + 20
  | 0, k, μ1, l, n, hk, hk1, hn, hf, hp, hl => by
    have hW' := hC.w12
    obtain ⟨n, rfl⟩ := fu_s hn
    refine ⟨μ1, ?_, hf, hp, by rw [fo_0]; omega⟩
    rw [f_guess_collect_77, if_pos (by rw [lit_lt (by decide) (by omega)]; omega), ic_1]
  | j + 1, k, μ1, l, n, hk, hk1, hn, hf, hp, hl => by
    have hW' := hC.w12
    obtain ⟨n, rfl⟩ := fu_s (show 0 < n by omega)
    have hX1 : XR μ1 c := hX.fr (fun a _ _ => hf a (by omega) (by omega) (by omega))
    have hD1 : DR μ1 35 W T P S := hD.fr (fun a _ _ => hf a (by omega) (by omega) (by omega))
    have r30 := hf 30 (by decide) (by decide) (by decide); have r31 := hf 31 (by decide) (by decide) (by decide)
    have r29 := hf 29 (by decide) (by decide) (by decide); have r54 := hf 54 (by decide) (by decide) (by decide)
    have e1 := e_days_isCut hN hC hX1 hS hD1 hw
    have go := fun μ1 l => lp_coll77 hN hC hX hS hD hb8 h29 hbk hfw hw K j (k + 1) μ1 l n (by omega) (by omega) (by omega)
    rw [f_guess_collect_77, if_neg (by rw [lit_lt (by decide) (by omega)]; omega), e1, ob_e, fo_s]
    simp only [b2_0]
    by_cases hc : S (12 + w) = 1
    · rw [if_neg (fun z => z hc), ic_1, show pl W S (μ 30) (μ 31) nb w k l = l by unfold pl; rw [if_neg (fun z => z.1 hc)]]
      exact go μ1 l hf hp (by omega)
    · rw [if_pos hc]
      obtain ⟨r, h1, h2, h3⟩ := lp_agrees hN hC hX1 hS hD1 hb8 (by rw [r29]; exact h29) (by rw [r30]; exact hbk) (by intro i hi; rw [r54, r30, r31]; exact hfw i hi) hw (x := k) (by omega) hc nb 0 N (by omega) (by omega)
      have h1' : f_guess_agrees N μ1 (ic w) (ic k) = some r := h1
      rw [h1', ob_e]
      rw [r30, r31] at h3
      by_cases q : r = 0
      · have hnf : ¬ fit W S (μ 30) (μ 31) nb w k := fun z => by
          have := h3.mpr (fun i _ h => z.2 i h)
          rw [q] at this; exact absurd this (by decide)
        rw [if_pos q, ic_1, show pl W S (μ 30) (μ 31) nb w k l = l by unfold pl; rw [if_neg hnf]]
        exact go μ1 l hf hp (by omega)
      · have hr : r = 1 := by rcases h2 with z | z; exact absurd z q; exact z
        have hyf : fit W S (μ 30) (μ 31) nb w k := ⟨hc, fun i h => h3.mp hr i (Nat.zero_le i) h⟩
        rw [if_neg q, hp.1, if_neg (by rw [lit_le (by decide) (by omega)]; omega), inb_e (by omega) (by decide), ic_n (by omega), wb_e]
        have e51 : (wr μ1 52 l.length (ic w)) 51 5 = ic l.length := hp.1
        have e51' : (wr (wr μ1 52 l.length (ic w)) 53 l.length (ic k)) 51 5 = ic l.length := hp.1
        rw [e51, inb_e (by omega) (by decide), ic_n (by omega), wb_e, e51', wb_e, ic_1, ic_1, show pl W S (μ 30) (μ 31) nb w k l = l ++ [(w, k)] by unfold pl; rw [if_pos hyf]]
        refine go _ _ ?_ (hp.add w k) (by rw [List.length_append]; show l.length + 1 ≤ _; omega)
        intro a h4 h5 h6
        rw [wr_nr h4, wr_nr h6, wr_nr h5]; exact hf a h4 h5 h6
theorem lp_coll61 {N : Nat} {μ c : sw_M} {F W T P : Nat} (hN : 5000 ≤ N) (hC : CW c F W T P) (hX : XR μ c) {S : Nat → Int32} (hS : WS F W T P S) (hD : DR μ 35 W T P S) {nb : Nat} (hb8 : nb ≤ 8) (h29 : μ 29 0 = ic nb) (hbk : ∀ i, i < nb → ∃ k, k ≤ 40 ∧ μ 30 i = ic k) (hfw : FW μ W nb S) : ∀ (j k : Nat) (μ1 : sw_M) (l : List (Nat × Nat)) (n : Nat), k + j = W → j < n → FrG μ μ1 → PRm μ1 l → l.length ≤ 20 * k → ∃ μ2, f_guess_collect_61 N n μ1 (ic k) = some μ2 ∧ FrG μ μ2 ∧ PRm μ2 (fo (fun w l => plW W S (μ 30) (μ 31) nb w l) k j l) ∧ (fo (fun w l => plW W S (μ 30) (μ 31) nb w l) k j l).length ≤ 240
  | 0, k, μ1, l, n, hk, hn, hf, hp, hl => by
    have hW' := hC.w12
    have nW := (hX.fr (fun a _ _ => hf a (by omega) (by omega) (by omega)) : XR μ1 c).nW hC
    obtain ⟨n, rfl⟩ := fu_s hn
    refine ⟨μ1, ?_, hf, hp, by rw [fo_0]; omega⟩
    rw [f_guess_collect_61, nW, if_pos (by rw [ic_le (by omega) (by omega)]; omega)]
  | j + 1, k, μ1, l, n, hk, hn, hf, hp, hl => by
    have hW' := hC.w12
    have nW := (hX.fr (fun a _ _ => hf a (by omega) (by omega) (by omega)) : XR μ1 c).nW hC
    obtain ⟨n, rfl⟩ := fu_s (show 0 < n by omega)
    obtain ⟨μ2, h1, h2, h3, h4⟩ := lp_coll77 hN hC hX hS hD hb8 h29 hbk hfw (w := k) (by omega) (f_guess_collect_61 N n) 20 1 μ1 l N (by omega) (by omega) (by omega) hf hp (by omega)
    obtain ⟨μ3, g1, g2, g3, g4⟩ := lp_coll61 hN hC hX hS hD hb8 h29 hbk hfw j (k + 1) μ2 _ n (by omega) (by omega) h2 h3 (by omega)
    refine ⟨μ3, ?_, g2, by rw [fo_s]; exact g3, by rw [fo_s]; exact g4⟩
    rw [f_guess_collect_61, nW, if_neg (by rw [ic_le (by omega) (by omega)]; omega)]
    have h1' : f_guess_collect_77 N (f_guess_collect_61 N n) N μ1 (ic k) 1 = _ := h1
    rw [h1', g1]
theorem lp_coll7 {N : Nat} {c : sw_M} {F W T P : Nat} (hN : 5000 ≤ N) (hC : CW c F W T P) {S : Nat → Int32} (hS : WS F W T P S) {nb : Nat} (hb8 : nb ≤ 8) : ∀ (j k : Nat) (μ : sw_M) (n : Nat), k + j = nb → j < n → XR μ c → DR μ 35 W T P S → μ 29 0 = ic nb → (∀ i, i < k → μ 54 i = lvN W S (μ 30 i) - μ 31 i) → ∃ g, f_guess_collect_7 N n μ (ic k) = f_guess_collect_61 N N (wrR μ 54 g) 0 ∧ FW (wrR μ 54 g) W nb S
  | 0, k, μ, n, hk, hn, hX, hD, h29, hf => by
    obtain ⟨n, rfl⟩ := fu_s hn
    refine ⟨μ 54, ?_, ?_⟩
    · rw [wrR_self, f_guess_collect_7, h29, if_pos (by rw [ic_le (by omega) (by omega)]; omega)]
    · rw [wrR_self]; intro i hi; exact hf i (by omega)
  | j + 1, k, μ, n, hk, hn, hX, hD, h29, hf => by
    have hW' := hC.w12
    obtain ⟨n, rfl⟩ := fu_s (show 0 < n by omega)
    have e1 := e_days_liveBits hN hC hX hS hD (μ 30 k)
    have e2 := bc_e hW' (fun w => lv S w (μ 30 k) 0) N μ
    obtain ⟨g, h1, h2⟩ := lp_coll7 hN hC hS hb8 j (k + 1) (wr μ 54 k (lvN W S (μ 30 k) - μ 31 k)) n (by omega) (by omega) (hX.fr (fun a _ _ => wr_nr (by omega))) (hD.fr (fun a _ _ => wr_nr (by omega))) h29 (fun i hi => by
      rw [wr_nr (show 30 ≠ 54 by decide), wr_nr (show 31 ≠ 54 by decide), wr_up, wrR_r]
      by_cases e : i = k
      · subst e; rw [up_s]
      · rw [up_n e]; exact hf i (by omega))
    rw [wr_up, wrR_wrR] at h1 h2
    refine ⟨g, ?_, h2⟩
    rw [← h1, f_guess_collect_7, h29, if_neg (by rw [ic_le (by omega) (by omega)]; omega), inb_e (by omega) (by decide), ic_n (by omega), e1, ob_e]
    unfold liveB
    rw [e2, ob_e, inb_e (by omega) (by decide), inb_e (by omega) (by decide), wb_e, ic_1, wr_up]
    rfl
theorem e_collect {N : Nat} {μ c : sw_M} {F W T P : Nat} (hN : 5000 ≤ N) (hC : CW c F W T P) (hX : XR μ c) {S : Nat → Int32} (hS : WS F W T P S) (hD : DR μ 35 W T P S) {nb : Nat} (hb8 : nb ≤ 8) (h29 : μ 29 0 = ic nb) (hbk : ∀ i, i < nb → ∃ k, k ≤ 40 ∧ μ 30 i = ic k) : ∃ μ2, f_guess_collect N μ = some μ2 ∧ (∀ a, (a < 51 ∨ 54 < a) → μ2 a = μ a) ∧ PRm μ2 (prs W S (μ 30) (μ 31) nb) ∧ (prs W S (μ 30) (μ 31) nb).length ≤ 240 := by
  have hW' := hC.w12
  obtain ⟨g, h1, h2⟩ := lp_coll7 hN hC hS hb8 nb 0 (wr μ 51 5 0) N (by omega) (by omega) (hX.fr (fun a _ _ => wr_nr (by omega))) (hD.fr (fun a _ _ => wr_nr (by omega))) h29 (fun i hi => by omega)
  have fr : ∀ a, a < 51 ∨ 54 < a → (wrR (wr μ 51 5 0) 54 g) a = μ a := fun a ha => by rw [wrR_nr (by omega), wr_nr (by omega)]
  have r30 := fr 30 (by decide); have r31 := fr 31 (by decide)
  obtain ⟨μ2, g1, g2, g3, g4⟩ := lp_coll61 hN hC (hX.fr (fun a _ _ => fr a (by omega)) : XR (wrR (wr μ 51 5 0) 54 g) c) hS (hD.fr (fun a _ _ => fr a (by omega))) hb8 h29 (by rw [r30]; exact hbk) h2 W 0 (wrR (wr μ 51 5 0) 54 g) [] N (by omega) (by omega) (fun _ _ _ _ => rfl) ⟨rfl, fun i hi => by simp at hi⟩ (by simp)
  rw [r30, r31] at g3 g4
  refine ⟨μ2, ?_, fun a ha => ?_, g3, g4⟩
  · unfold f_guess_collect
    have h1' : f_guess_collect_7 N N (wr μ 51 5 0) 0 = _ := h1
    rw [wb_e, h1']; exact g1
  · rw [g2 a (by omega) (by omega) (by omega), fr a ha]
