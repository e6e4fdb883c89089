/-! ===== a work's text: what is kept of it ===== -/
def XK (μ μ' : sw_M) : Prop := (∀ a, a ≠ 1 → (a < 41 ∨ 44 < a) → μ' a = μ a) ∧ μ' 1 3 = μ 1 3 ∧ ∀ j, j ≠ 5 → μ' 41 j = μ 41 j
def MK (ν ν' : sw_M) : Prop := (∀ a, a ≠ 63 → a ≠ 78 → ν' a = ν a) ∧ ∀ j, (j < 4 ∨ 7 < j) → j ≠ 35 → ν' 63 j = ν 63 j
theorem XK.rf (μ : sw_M) : XK μ μ := ⟨fun _ _ _ => rfl, rfl, fun _ _ => rfl⟩
theorem MK.rf (μ : sw_M) : MK μ μ := ⟨fun _ _ _ => rfl, fun _ _ _ => rfl⟩
theorem XK.tr {a b c : sw_M} (h : XK a b) (h2 : XK b c) : XK a c := ⟨fun x q1 q2 => (h2.1 x q1 q2).trans (h.1 x q1 q2), h2.2.1.trans h.2.1, fun j q => (h2.2.2 j q).trans (h.2.2 j q)⟩
theorem MK.tr {a b c : sw_M} (h : MK a b) (h2 : MK b c) : MK a c := ⟨fun x q1 q2 => (h2.1 x q1 q2).trans (h.1 x q1 q2), fun j q1 q2 => (h2.2 j q1 q2).trans (h.2 j q1 q2)⟩
theorem FrB.xk {a b : sw_M} (h : FrB a b) : XK a b := ⟨fun x q1 _ => h.1 x q1, h.2, fun j _ => by rw [h.1 41 (by decide)]⟩
theorem FrP.xk {a b : sw_M} (h : FrP a b) : XK a b := h.fb.xk
theorem FrR.mk {a b : sw_M} (h : FrR a b) : MK a b := ⟨fun x q1 _ => h.1 x q1, fun j q1 _ => h.2 j (by omega) (by omega) (by omega)⟩
theorem MK.w7 {a b : sw_M} (h : MK a b) (v : Int32) : MK a (wr b 63 7 v) := ⟨fun x q1 q2 => by rw [wr_nr q1]; exact h.1 x q1 q2, fun j q1 q2 => by rw [wr_ap, if_pos rfl, if_neg (by omega)]; exact h.2 j q1 q2⟩
theorem MK.w78 {a b : sw_M} (h : MK a b) (j : Nat) (v : Int32) : MK a (wr b 78 j v) := ⟨fun x q1 q2 => by rw [wr_nr q2]; exact h.1 x q1 q2, fun i q1 q2 => by rw [wr_nr (by decide)]; exact h.2 i q1 q2⟩
/-- arguments of a step -/
def SA (W T P k a b : Nat) : Prop := (k = 0 ∧ a < P ∧ b < T) ∨ (k = 1 ∧ a < P ∧ b < T) ∨ (k = 2 ∧ a < P ∧ b < W) ∨ (k = 3 ∧ a < W ∧ 1 ≤ b ∧ b ≤ 20) ∨ (k = 4 ∧ a < W) ∨ k = 5
def SQ (μ ν : sw_M) (W T P i : Nat) : Prop := ∃ k a : Nat, μ 42 i = ic k ∧ μ 43 i = ic a ∧ ν 78 (3 * i) = ic k ∧ ν 78 (3 * i + 1) = ic a ∧ ((k = 6 ∧ a ≤ 40) ∨ ∃ b : Nat, μ 44 i = ic b ∧ ν 78 (3 * i + 2) = ic b ∧ SA W T P k a b)
def WQ (μ ν : sw_M) (W T P n : Nat) : Prop := μ 41 5 = ic n ∧ ν 63 35 = ic (3 * n) ∧ ∀ i, i < n → SQ μ ν W T P i
def WF (μ ν : sw_M) : Nat → Nat → Nat → Nat → Prop
  | 0, _, a, b => a = b
  | f + 1, x, a, b => a = b ∨ (a < b ∧ ((¬ μ 42 a = 6 ∧ WF μ ν f x (a + 1) b) ∨ (μ 42 a = 6 ∧ x < 6 ∧ ∃ e, μ 44 a = ic e ∧ ν 78 (3 * a + 2) = ic (3 * e) ∧ a + 1 ≤ e ∧ e ≤ b ∧ WF μ ν f (x + 1) (a + 1) e ∧ WF μ ν f x e b)))
theorem WF.s {μ ν : sw_M} {f x a b : Nat} : WF μ ν (f + 1) x a b ↔ (a = b ∨ (a < b ∧ ((¬ μ 42 a = 6 ∧ WF μ ν f x (a + 1) b) ∨ (μ 42 a = 6 ∧ x < 6 ∧ ∃ e, μ 44 a = ic e ∧ ν 78 (3 * a + 2) = ic (3 * e) ∧ a + 1 ≤ e ∧ e ≤ b ∧ WF μ ν f (x + 1) (a + 1) e ∧ WF μ ν f x e b)))) := Iff.rfl
theorem WF.le {μ ν : sw_M} : ∀ f x a b, WF μ ν f x a b → a ≤ b
  | 0, _, _, _, h => Nat.le_of_eq h
  | f + 1, x, a, b, h => by
    rcases WF.s.mp h with h | ⟨h, -⟩ <;> omega
theorem WF.up {μ ν : sw_M} : ∀ f x a b, WF μ ν f x a b → WF μ ν (f + 1) x a b
  | 0, _, _, _, h => Or.inl h
  | f + 1, x, a, b, h => by
    rcases WF.s.mp h with h | ⟨h, ⟨h1, h2⟩ | ⟨h1, h2, e, h3, h4, h5, h6, h7, h8⟩⟩
    · exact Or.inl h
    · exact Or.inr ⟨h, Or.inl ⟨h1, WF.up f _ _ _ h2⟩⟩
    · exact Or.inr ⟨h, Or.inr ⟨h1, h2, e, h3, h4, h5, h6, WF.up f _ _ _ h7, WF.up f _ _ _ h8⟩⟩
theorem WF.ups {μ ν : sw_M} {f x a b : Nat} (h : WF μ ν f x a b) : ∀ g, WF μ ν (f + g) x a b
  | 0 => h
  | g + 1 => WF.up _ _ _ _ (WF.ups h g)
theorem WF.cg {μ ν μ' ν' : sw_M} : ∀ f x a b, WF μ ν f x a b → (∀ i, a ≤ i → i < b → μ' 42 i = μ 42 i ∧ μ' 44 i = μ 44 i ∧ ν' 78 (3 * i + 2) = ν 78 (3 * i + 2)) → WF μ' ν' f x a b
  | 0, _, _, _, h, _ => h
  | f + 1, x, a, b, h, q => by
    rcases WF.s.mp h with h | ⟨h, ⟨h1, h2⟩ | ⟨h1, h2, e, h3, h4, h5, h6, h7, h8⟩⟩
    · exact Or.inl h
    · obtain ⟨q1, q2, q3⟩ := q a (by omega) h
      exact Or.inr ⟨h, Or.inl ⟨by rw [q1]; exact h1, WF.cg f _ _ _ h2 (fun i g1 g2 => q i (by omega) (by omega))⟩⟩
    · obtain ⟨q1, q2, q3⟩ := q a (by omega) h
      exact Or.inr ⟨h, Or.inr ⟨by rw [q1]; exact h1, h2, e, by rw [q2]; exact h3, by rw [q3]; exact h4, h5, h6, WF.cg f _ _ _ h7 (fun i g1 g2 => q i (by omega) (by omega)), WF.cg f _ _ _ h8 (fun i g1 g2 => q i (by omega) (by omega))⟩⟩
theorem WF.ap {μ ν : sw_M} : ∀ f g x a b c, WF μ ν f x a b → WF μ ν g x b c → WF μ ν (f + g) x a c
  | 0, g, x, a, b, c, h, h2 => by
    have h : a = b := h
    subst h; rw [Nat.zero_add]; exact h2
  | f + 1, g, x, a, b, c, h, k => by
    have hbc := WF.le _ _ _ _ k
    rcases WF.s.mp h with h | ⟨h, ⟨h1, h2⟩ | ⟨h1, h2, e, h3, h4, h5, h6, h7, h8⟩⟩
    · subst h; rw [Nat.add_comm]; exact WF.ups k _
    · rw [show f + 1 + g = f + g + 1 by omega]
      exact Or.inr ⟨by omega, Or.inl ⟨h1, WF.ap f g _ _ _ _ h2 k⟩⟩
    · rw [show f + 1 + g = f + g + 1 by omega]
      exact Or.inr ⟨by omega, Or.inr ⟨h1, h2, e, h3, h4, h5, by omega, WF.ups h7 g, WF.ap f g _ _ _ _ h8 k⟩⟩
def WE (μ ν : sw_M) (x a b : Nat) : Prop := ∃ f, WF μ ν f x a b
theorem WE.rf (μ ν : sw_M) (x a : Nat) : WE μ ν x a a := ⟨0, rfl⟩
theorem WE.ap {μ ν : sw_M} {x a b c : Nat} (h : WE μ ν x a b) (k : WE μ ν x b c) : WE μ ν x a c := by
  obtain ⟨f, h⟩ := h; obtain ⟨g, k⟩ := k
  exact ⟨f + g, WF.ap f g _ _ _ _ h k⟩
theorem WE.cg {μ ν μ' ν' : sw_M} {x a b : Nat} (h : WE μ ν x a b) (q : ∀ i, a ≤ i → i < b → μ' 42 i = μ 42 i ∧ μ' 44 i = μ 44 i ∧ ν' 78 (3 * i + 2) = ν 78 (3 * i + 2)) : WE μ' ν' x a b := by
  obtain ⟨f, h⟩ := h; exact ⟨f, WF.cg f _ _ _ h q⟩
theorem WE.one {μ ν : sw_M} {x a : Nat} (h : ¬ μ 42 a = 6) : WE μ ν x a (a + 1) := ⟨1, Or.inr ⟨by omega, Or.inl ⟨h, rfl⟩⟩⟩
theorem WE.nest {μ ν : sw_M} {x a e : Nat} (h : μ 42 a = 6) (hx : x < 6) (h3 : μ 44 a = ic e) (h4 : ν 78 (3 * a + 2) = ic (3 * e)) (k : WE μ ν (x + 1) (a + 1) e) : WE μ ν x a e := by
  obtain ⟨f, k⟩ := k
  have hl := WF.le _ _ _ _ k
  refine ⟨f + 1, Or.inr ⟨by omega, Or.inr ⟨h, hx, e, h3, h4, hl, Nat.le_refl e, k, ?_⟩⟩⟩
  cases f with
  | zero => rfl
  | succ f => exact Or.inl rfl
theorem WQ.fr {μ ν μ' ν' : sw_M} {W T P n : Nat} (h : WQ μ ν W T P n) (a : μ' 41 5 = μ 41 5) (b : μ' 42 = μ 42) (c : μ' 43 = μ 43) (d : μ' 44 = μ 44) (e : ν' 63 35 = ν 63 35) (f : ν' 78 = ν 78) : WQ μ' ν' W T P n := by
  unfold WQ SQ at h ⊢; rw [a, b, c, d, e, f]; exact h
theorem WQ.fp {μ ν μ' ν' : sw_M} {W T P n : Nat} (h : WQ μ ν W T P n) (f : FrP μ μ') (g : FrR ν ν') : WQ μ' ν' W T P n := h.fr (by rw [f.1 41 (by decide)]) (f.1 42 (by decide)) (f.1 43 (by decide)) (f.1 44 (by decide)) (g.2 35 (by decide) (by decide) (by decide)) (g.1 78 (by decide))
theorem WE.fp {μ ν μ' ν' : sw_M} {x a b : Nat} (h : WE μ ν x a b) (f : FrP μ μ') (g : FrR ν ν') : WE μ' ν' x a b := h.cg (fun i _ _ => ⟨by rw [f.1 42 (by decide)], by rw [f.1 44 (by decide)], by rw [g.1 78 (by decide)]⟩)
/-! one step more -/
def xs (μ : sw_M) (n : Nat) (k a b : Int32) : sw_M := wr (wr (wr (wr μ 42 n k) 43 n a) 44 n b) 41 5 (ic (n + 1))
def ms (ν : sw_M) (n : Nat) (k a b : Int32) : sw_M := wr (wr (wr (wr ν 78 (3 * n) k) 78 (3 * n + 1) a) 78 (3 * n + 2) b) 63 35 (ic (3 * (n + 1)))
theorem xs_k (μ : sw_M) (n : Nat) (k a b : Int32) : XK μ (xs μ n k a b) := ⟨fun x q1 q2 => by unfold xs; rw [wr_nr (by omega), wr_nr (by omega), wr_nr (by omega), wr_nr (by omega)], rfl, fun j q => by unfold xs; rw [wr_ap, if_pos rfl, if_neg q, wr_nr (by decide), wr_nr (by decide), wr_nr (by decide)]⟩
theorem ms_k (ν : sw_M) (n : Nat) (k a b : Int32) : MK ν (ms ν n k a b) := ⟨fun x q1 q2 => by unfold ms; rw [wr_nr q1, wr_nr q2, wr_nr q2, wr_nr q2], fun j q1 q2 => by unfold ms; rw [wr_ap, if_pos rfl, if_neg q2, wr_nr (by decide), wr_nr (by decide), wr_nr (by decide)]⟩
theorem wadd_e {N : Nat} {μ : sw_M} {n : Nat} (h : μ 41 5 = ic n) (hn : n < 150) (k a b : Int32) : f_work_add N μ k a b = some (1, xs μ n k a b) := by
  have e1 : (wr μ 42 n k) 41 5 = ic n := h
  have e2 : (wr (wr μ 42 n k) 43 n a) 41 5 = ic n := h
  have e3 : (wr (wr (wr μ 42 n k) 43 n a) 44 n b) 41 5 = ic n := h
  unfold f_work_add xs
  rw [h, put_e (by omega) (by decide), ob_e, e1, put_e (by omega) (by decide), ob_e, e2, put_e (by omega) (by decide), ob_e, e3, ic_1, if_neg (by rw [lit_lt (by decide) (by omega)]; show ¬ 150 < n + 1; omega), wb_e]
theorem tells_e {N : Nat} {ν : sw_M} {n : Nat} (h : ν 63 35 = ic (3 * n)) (hn : 3 * n + 2 < 150) (h5 : ν 63 5 = -1) (k a b : Int32) : f_m_tellsStep N ν k a b = some (ms ν n k a b) := by
  have e1 : (wr ν 78 (3 * n) k) 63 35 = ic (3 * n) := h
  have e2 : (wr (wr ν 78 (3 * n) k) 78 (3 * n + 1) a) 63 35 = ic (3 * n) := h
  have e3 : (wr (wr (wr ν 78 (3 * n) k) 78 (3 * n + 1) a) 78 (3 * n + 2) b) 63 35 = ic (3 * n) := h
  unfold f_m_tellsStep ms
  rw [fine_1 h5, ob_e, if_neg (by decide), h, inb_e (by omega) (by decide), ic_n (by omega), wb_e, e1, add_lit, inb_e (by omega) (by decide), ic_n (by omega), wb_e, e2, add_lit, inb_e (by omega) (by decide), ic_n (by omega), wb_e, e3, wb_e, add_lit, show 3 * (n + 1) = 3 * n + 3 by omega]
theorem tells_bad {N : Nat} {ν : sw_M} (h : ¬ ν 63 5 = -1) (k a b : Int32) : f_m_tellsStep N ν k a b = some ν := by unfold f_m_tellsStep; rw [fine_0 h, ob_e, if_pos rfl]
section
variable {μ ν : sw_M} {n : Nat} {k a b c : Int32}
theorem xs42 (i : Nat) : (xs μ n k a b) 42 i = if i = n then k else μ 42 i := rfl
theorem xs43 (i : Nat) : (xs μ n k a b) 43 i = if i = n then a else μ 43 i := rfl
theorem xs44 (i : Nat) : (xs μ n k a b) 44 i = if i = n then b else μ 44 i := rfl
theorem ms78 (i : Nat) : (ms ν n k a c) 78 i = if i = 3 * n + 2 then c else if i = 3 * n + 1 then a else if i = 3 * n then k else ν 78 i := rfl
theorem xs_old {i : Nat} (h : i < n) : (xs μ n k a b) 42 i = μ 42 i ∧ (xs μ n k a b) 43 i = μ 43 i ∧ (xs μ n k a b) 44 i = μ 44 i := by
  rw [xs42, xs43, xs44, if_neg (by omega), if_neg (by omega), if_neg (by omega)]; exact ⟨rfl, rfl, rfl⟩
theorem ms_old {i : Nat} (h : i < 3 * n) : (ms ν n k a c) 78 i = ν 78 i := by
  rw [ms78, if_neg (by omega), if_neg (by omega), if_neg (by omega)]
end
theorem WQ.em {μ ν : sw_M} {W T P n : Nat} (h : WQ μ ν W T P n) {k a : Nat} (b c : Int32) (hk : (k = 6 ∧ a ≤ 40) ∨ ∃ b' : Nat, b = ic b' ∧ c = ic b' ∧ SA W T P k a b') : WQ (xs μ n (ic k) (ic a) b) (ms ν n (ic k) (ic a) c) W T P (n + 1) := by
  refine ⟨rfl, rfl, fun i hi => ?_⟩
  by_cases e : i = n
  · subst e
    refine ⟨k, a, by rw [xs42, if_pos rfl], by rw [xs43, if_pos rfl], by rw [ms78, if_neg (by omega), if_neg (by omega), if_pos rfl], by rw [ms78, if_neg (by omega), if_pos rfl], ?_⟩
    rcases hk with z | ⟨b', z1, z2, z3⟩
    · exact Or.inl z
    · exact Or.inr ⟨b', by rw [xs44, if_pos rfl]; exact z1, by rw [ms78, if_pos rfl]; exact z2, z3⟩
  · obtain ⟨k', a', g1, g2, g3, g4, g5⟩ := h.2.2 i (by omega)
    obtain ⟨o1, o2, o3⟩ := xs_old (μ := μ) (k := ic k) (a := ic a) (b := b) (show i < n by omega)
    refine ⟨k', a', by rw [o1]; exact g1, by rw [o2]; exact g2, by rw [ms_old (by omega)]; exact g3, by rw [ms_old (by omega)]; exact g4, ?_⟩
    rw [o3, ms_old (by omega)]; exact g5
theorem WE.em {μ ν : sw_M} {x a n : Nat} (h : WE μ ν x a n) (k p b c : Int32) : WE (xs μ n k p b) (ms ν n k p c) x a n := h.cg (fun i _ h2 => by
  obtain ⟨o1, -, o3⟩ := xs_old (μ := μ) (k := k) (a := p) (b := b) h2
  exact ⟨o1, o3, ms_old (by omega)⟩)
/-! what a piece comes to -/
def CM (μ ν : sw_M) (W T P : Nat) : Prop := (μ 3 1 = ic W ∧ μ 3 2 = ic T ∧ μ 3 3 = ic P) ∧ (ν 63 22 = ic W ∧ ν 63 23 = ic T ∧ ν 63 24 = ic P) ∧ W ≤ 12 ∧ T ≤ 6 ∧ P ≤ 5
theorem CM.fr {μ ν μ' ν' : sw_M} {W T P : Nat} (h : CM μ ν W T P) (x : XK μ μ') (m : MK ν ν') : CM μ' ν' W T P := by
  unfold CM at h ⊢
  rw [x.1 3 (by decide) (by decide), m.2 22 (by decide) (by decide), m.2 23 (by decide) (by decide), m.2 24 (by decide) (by decide)]; exact h
/-- read on: from n steps to n' steps, well formed at nesting x; z bytes at least -/
def WX (B : Nat → Nat) (L W T P x z n0 : Nat) (μ ν : sw_M) (s : Nat) (X : Option (Int32 × sw_M)) (M : Option sw_M) : Prop :=
  (∃ μ' ν' s' n', X = some (1, μ') ∧ M = some ν' ∧ AT μ' B L s' ∧ RT ν' B L s' ∧ WQ μ' ν' W T P n' ∧ WE μ' ν' x n0 n' ∧ (∀ i, i < n0 → μ' 42 i = μ 42 i ∧ μ' 43 i = μ 43 i ∧ μ' 44 i = μ 44 i) ∧ (∀ i, i < 3 * n0 → ν' 78 i = ν 78 i) ∧ s + z ≤ s' ∧ 4 * n' ≤ s' + 4 - z ∧ XK μ μ' ∧ μ' 1 8 = μ 1 8 ∧ MK ν ν' ∧ ν' 63 7 = ν 63 7) ∨
  (∃ μ' ν', X = some (0, μ') ∧ M = some ν' ∧ BAD μ' ν' ∧ XK μ μ' ∧ MK ν ν')
