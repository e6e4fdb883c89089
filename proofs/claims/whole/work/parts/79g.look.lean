/-! ===== printed by wip/whole/gen79g.py: look ===== -/
theorem su_cg {t u : Nat → Nat} : ∀ n, (∀ i, i < n → t i = u i) → su t n = su u n
  | 0, _ => rfl
  | n + 1, h => by show su t n + t n = su u n + u n; rw [su_cg n (fun i hi => h i (by omega)), h n (by omega)]
theorem su_le {t : Nat → Nat} : ∀ n, (∀ i, i < n → t i ≤ 1) → su t n ≤ n
  | 0, _ => Nat.le_refl 0
  | n + 1, h => by have h1 := su_le n (fun i hi => h i (by omega)); have h2 := h n (by omega); show su t n + t n ≤ n + 1; omega
theorem su_two {t u : Nat → Nat} : ∀ n, (∀ i, i < n → t i + u i = 1) → su t n + su u n = n
  | 0, _ => rfl
  | n + 1, h => by have h1 := su_two n (fun i hi => h i (by omega)); have h2 := h n (by omega); show su t n + t n + (su u n + u n) = n + 1; omega
theorem su_zero {t : Nat → Nat} : ∀ n, (∀ i, i < n → t i = 0) → su t n = 0
  | 0, _ => rfl
  | n + 1, h => by show su t n + t n = 0; rw [su_zero n (fun i hi => h i (by omega)), h n (by omega)]
abbrev gP (l : List (Nat × Nat)) (i : Nat) : Nat × Nat := l.getD i (0, 0)
theorem gP_a {l : List (Nat × Nat)} {i : Nat} (h : i < l.length) (q : List (Nat × Nat)) : gP (l ++ q) i = gP l i := by
  unfold gP; rw [List.getD_eq_getElem?_getD, List.getD_eq_getElem?_getD, List.getElem?_append_left h]
theorem gP_l (l : List (Nat × Nat)) (p : Nat × Nat) : gP (l ++ [p]) l.length = p := by unfold gP; simp
theorem gP_m {l : List (Nat × Nat)} {i : Nat} (h : i < l.length) : gP l i ∈ l := by
  unfold gP; rw [List.getD_eq_getElem?_getD, List.getElem?_eq_getElem h]; exact List.getElem_mem h
/-- how many pairs leave v live, k hours later -/
def cnt (W : Nat) (S : Nat → Int32) (l : List (Nat × Nat)) (k v : Nat) : Nat := su (fun i => if mvN W S (ic k) (gP l i).1 (ic (gP l i).2) = ic v then 1 else 0) l.length
def one (S : Nat → Int32) (l : List (Nat × Nat)) (k n : Nat) : Nat := su (fun i => if lo S (gP l i).1 (ic (gP l i).2) (ic k) then 1 else 0) n
theorem cnt_a {W : Nat} {S : Nat → Int32} (l : List (Nat × Nat)) (w x k v : Nat) : cnt W S (l ++ [(w, x)]) k v = cnt W S l k v + (if mvN W S (ic k) w (ic x) = ic v then 1 else 0) := by
  unfold cnt
  rw [List.length_append, show [(w, x)].length = 1 from rfl]
  show su _ l.length + (if mvN W S (ic k) (gP (l ++ [(w, x)]) l.length).1 (ic (gP (l ++ [(w, x)]) l.length).2) = ic v then 1 else 0) = _
  rw [gP_l]
  congr 1
  refine su_cg _ (fun i hi => ?_)
  rw [gP_a hi]
theorem mv_b {W : Nat} (hW : W ≤ 12) (S : Nat → Int32) (h : Int32) (m : Nat) (x : Int32) : ∃ k : Nat, k ≤ W ∧ mvN W S h m x = ic k := by
  have := fo_inv (g := fun w a => if lv S w h (if w = m then x else 0) then a + 1 else a) (fun i (a : Int32) => ∃ k : Nat, k ≤ i ∧ a = ic k) W 0 0 ⟨0, Nat.le_refl 0, rfl⟩ (by
    rintro i b - - ⟨k, hk, rfl⟩
    by_cases z : lv S i h (if i = m then x else 0)
    · rw [if_pos z]; exact ⟨k + 1, by omega, ic_1 k⟩
    · rw [if_neg z]; exact ⟨k, by omega, rfl⟩)
  rwa [Nat.zero_add] at this
theorem lvN_b {W : Nat} (hW : W ≤ 12) (S : Nat → Int32) (h : Int32) : ∃ k : Nat, k ≤ W ∧ lvN W S h = ic k := by
  have := fo_inv (g := fun w a => if lv S w h 0 then a + 1 else a) (fun i (a : Int32) => ∃ k : Nat, k ≤ i ∧ a = ic k) W 0 0 ⟨0, Nat.le_refl 0, rfl⟩ (by
    rintro i b - - ⟨k, hk, rfl⟩
    by_cases z : lv S i h 0
    · rw [if_pos z]; exact ⟨k + 1, by omega, ic_1 k⟩
    · rw [if_neg z]; exact ⟨k, by omega, rfl⟩)
  rwa [Nat.zero_add] at this
def mx (t : Nat → Nat) (n : Nat) : Nat → Nat := fun a => fo (fun v a => if t v ≤ a then a else t v) 0 n a
theorem mx_ge {t : Nat → Nat} : ∀ (j k a : Nat), a ≤ fo (fun v a => if t v ≤ a then a else t v) k j a ∧ ∀ v, k ≤ v → v < k + j → t v ≤ fo (fun v a => if t v ≤ a then a else t v) k j a
  | 0, k, a => ⟨Nat.le_refl a, fun v h1 h2 => by omega⟩
  | j + 1, k, a => by
    rw [fo_s]
    obtain ⟨h1, h2⟩ := mx_ge (t := t) j (k + 1) (if t k ≤ a then a else t k)
    have h3 : a ≤ (if t k ≤ a then a else t k) := by split <;> omega
    have h4 : t k ≤ (if t k ≤ a then a else t k) := by split <;> omega
    refine ⟨by omega, fun v h5 h6 => ?_⟩
    by_cases e : v = k
    · subst e; omega
    · exact h2 v (by omega) (by omega)
theorem mx_le {t : Nat → Nat} {b : Nat} : ∀ (j k a : Nat), a ≤ b → (∀ v, k ≤ v → v < k + j → t v ≤ b) → fo (fun v a => if t v ≤ a then a else t v) k j a ≤ b
  | 0, k, a, h, _ => h
  | j + 1, k, a, h, H => by
    rw [fo_s]
    refine mx_le j (k + 1) _ ?_ (fun v h1 h2 => H v (by omega) (by omega))
    have := H k (by omega) (by omega)
    split <;> omega
/-- two counts tell all -/
theorem mx_two {F W T P : Nat} {S : Nat → Int32} (hW : W ≤ 12) (hS : WS F W T P S) {l : List (Nat × Nat)} (hb : BdL W l) (hc : ∀ p, p ∈ l → ¬ S (12 + p.1) = 1) {k : Nat} (hk : k ≤ 40) : mx (fun v => cnt W S l k v) 13 0 = if one S l k l.length < l.length - one S l k l.length then l.length - one S l k l.length else one S l k l.length := by
  obtain ⟨L, hL, eL⟩ := lvN_b hW S (ic k)
  have hv : ∀ i, i < l.length → ∃ m, m ≤ W ∧ mvN W S (ic k) (gP l i).1 (ic (gP l i).2) = ic m ∧ ((lo S (gP l i).1 (ic (gP l i).2) (ic k) ∧ m + 1 = L) ∨ (¬ lo S (gP l i).1 (ic (gP l i).2) (ic k) ∧ m = L)) := by
    intro i hi
    have hm := gP_m hi
    obtain ⟨b1, b2⟩ := hb _ hm
    obtain ⟨m, hm1, hm2⟩ := mv_b hW S (ic k) (gP l i).1 (ic (gP l i).2)
    refine ⟨m, hm1, hm2, ?_⟩
    have e := mv_e hS b1 (h := k) (x := (gP l i).2) (by omega) (by omega) (hc _ hm)
    rw [eL, hm2] at e
    by_cases z : lo S (gP l i).1 (ic (gP l i).2) (ic k)
    · rw [if_pos z, ic_1, ic_eq (by omega) (by omega)] at e
      exact Or.inl ⟨z, e.symm⟩
    · rw [if_neg z, Int32.add_zero, ic_eq (by omega) (by omega)] at e
      exact Or.inr ⟨z, e.symm⟩
  have one_le : one S l k l.length ≤ l.length := su_le _ (fun i _ => by split <;> omega)
  have c1 : cnt W S l k L = l.length - one S l k l.length := by
    have : cnt W S l k L + one S l k l.length = l.length := by
      unfold cnt one
      refine su_two _ (fun i hi => ?_)
      obtain ⟨m, h1, h2, h3⟩ := hv i hi
      rw [h2]
      rcases h3 with ⟨z, e⟩ | ⟨z, e⟩
      · rw [if_pos z, if_neg (by rw [ic_eq (by omega) (by omega)]; omega)]
      · rw [if_neg z, if_pos (by rw [e])]
    omega
  have c2 : ∀ v, v + 1 = L → cnt W S l k v = one S l k l.length := by
    intro v hvL
    unfold cnt one
    refine su_cg _ (fun i hi => ?_)
    obtain ⟨m, h1, h2, h3⟩ := hv i hi
    rw [h2]
    rcases h3 with ⟨z, e⟩ | ⟨z, e⟩
    · rw [if_pos z, if_pos (by rw [show m = v by omega])]
    · rw [if_neg z, if_neg (by rw [ic_eq (by omega) (by omega)]; omega)]
  have c3 : ∀ v, v ≤ 12 → v ≠ L → v + 1 ≠ L → cnt W S l k v = 0 := by
    intro v hv12 hv1 hv2
    unfold cnt
    refine su_zero _ (fun i hi => ?_)
    obtain ⟨m, h1, h2, h3⟩ := hv i hi
    rw [h2, if_neg]
    rw [ic_eq (by omega) (by omega)]
    rcases h3 with ⟨z, e⟩ | ⟨z, e⟩ <;> omega
  have c4 : L = 0 → one S l k l.length = 0 := by
    intro h0
    unfold one
    refine su_zero _ (fun i hi => ?_)
    obtain ⟨m, h1, h2, h3⟩ := hv i hi
    rcases h3 with ⟨z, e⟩ | ⟨z, e⟩
    · omega
    · rw [if_neg z]
  obtain ⟨g0, g1⟩ := mx_ge (t := fun v => cnt W S l k v) 13 0 0
  have gL := g1 L (by omega) (by omega)
  have gle := mx_le (t := fun v => cnt W S l k v) (b := if one S l k l.length < l.length - one S l k l.length then l.length - one S l k l.length else one S l k l.length) 13 0 0 (by omega) (fun v h1 h2 => by
    show cnt W S l k v ≤ _
    by_cases e1 : v = L
    · subst e1; rw [c1]; split <;> omega
    · by_cases e2 : v + 1 = L
      · rw [c2 v e2]; split <;> omega
      · rw [c3 v (by omega) e1 e2]; omega)
  unfold mx
  refine Nat.le_antisymm gle ?_
  have gL' : l.length - one S l k l.length ≤ fo (fun v a => if cnt W S l k v ≤ a then a else cnt W S l k v) 0 13 0 := by rw [← c1]; exact gL
  have gO : one S l k l.length ≤ fo (fun v a => if cnt W S l k v ≤ a then a else cnt W S l k v) 0 13 0 := by
    by_cases e : L = 0
    · rw [c4 e]; omega
    · have := g1 (L - 1) (by omega) (by omega)
      rw [← c2 (L - 1) (by omega)]; exact this
  split
  · exact gL'
  · exact gO
def wst (S : Nat → Int32) (l : List (Nat × Nat)) (k : Nat) : Nat := if one S l k l.length < l.length - one S l k l.length then l.length - one S l k l.length else one S l k l.length
abbrev tls (bk : Nat → Int32) (nb k : Nat) : Prop := ∃ i, i < nb ∧ bk i = ic k
def lkF (S : Nat → Int32) (l : List (Nat × Nat)) (nt : Nat → Prop) [DecidablePred nt] (k : Nat) (s : Int32 × Int32) : Int32 × Int32 := if nt k ∧ (s.1 = -1 ∨ ic (wst S l k) < s.2) then (ic k, ic (wst S l k)) else s
/-! the class -/
theorem lp_worst {N : Nat} {μ c : sw_M} {F W T P : Nat} (hN : 5000 ≤ N) (hC : CW c F W T P) (hX : XR μ c) {S : Nat → Int32} (hS : WS F W T P S) (hD : DR μ 35 W T P S) {l : List (Nat × Nat)} (hp : PRm μ l) (hl : l.length ≤ 240) (hb : BdL W l) {k : Nat} : ∀ (j i n : Nat), i + j = l.length → j < n → f_guess_worstAt_4 N μ n (ic k) (ic (one S l k i)) (ic i) = some (ic (wst S l k))
  | 0, i, n, h, hn => by
    obtain ⟨n, rfl⟩ := fu_s hn
    have h1 : one S l k l.length ≤ l.length := su_le _ (fun i _ => by split <;> omega)
    rw [f_guess_worstAt_4, hp.1, if_pos (by rw [ic_le (by omega) (by omega)]; omega), show i = l.length by omega, ic_sub (by omega)]
    unfold wst
    by_cases q : one S l k l.length < l.length - one S l k l.length
    · rw [if_pos (by rw [ic_lt (by omega) (by omega)]; exact q), if_pos q]
    · rw [if_neg (by rw [ic_lt (by omega) (by omega)]; exact q), if_neg q]
  | j + 1, i, n, h, hn => by
    obtain ⟨n, rfl⟩ := fu_s (show 0 < n by omega)
    obtain ⟨g1, g2⟩ := hp.2 i (by omega)
    have hm := hb _ (gP_m (l := l) (i := i) (by omega))
    have e1 := e_lost hN hC hX hS hD hm.1 (ic (gP l i).2) (ic k)
    have ih := lp_worst hN hC hX hS hD hp hl hb (k := k) j (i + 1) n (by omega) (by omega)
    rw [f_guess_worstAt_4, hp.1, if_neg (by rw [ic_le (by omega) (by omega)]; omega), inb_e (by omega) (by decide), inb_e (by omega) (by decide), ic_n (by omega), g1, g2, e1, ob_e, ib_e, ic_1, ← ih]
    congr 1
    show _ = ic (one S l k i + (if lo S (gP l i).1 (ic (gP l i).2) (ic k) then 1 else 0))
    unfold b2
    by_cases z : lo S (gP l i).1 (ic (gP l i).2) (ic k)
    · rw [if_pos z, if_pos z, ic_1]
    · rw [if_neg z, if_neg z, Int32.add_zero, Nat.add_zero]
theorem lp_tells {N : Nat} {μ : sw_M} {nb : Nat} (hb8 : nb ≤ 8) (h29 : μ 29 0 = ic nb) (x : Int32) : ∀ (j k n : Nat), k + j = nb → j < n → ∃ r, f_book_tells_2 N μ n x (ic k) = some r ∧ (r = 0 ↔ ∀ i, k ≤ i → i < nb → ¬ μ 30 i = x)
  | 0, k, n, hk, hn => by
    obtain ⟨n, rfl⟩ := fu_s hn
    refine ⟨0, ?_, ⟨fun _ i h1 h2 => by omega, fun _ => rfl⟩⟩
    rw [f_book_tells_2, h29, if_pos (by rw [ic_le (by omega) (by omega)]; omega)]
  | j + 1, k, n, hk, hn => by
    obtain ⟨n, rfl⟩ := fu_s (show 0 < n by omega)
    obtain ⟨r, h1, h2⟩ := lp_tells hb8 h29 x j (k + 1) n (by omega) (by omega)
    have hst : f_book_tells_2 N μ (n + 1) x (ic k) = if μ 30 k = x then some 1 else f_book_tells_2 N μ n x (ic (k + 1)) := by
      rw [f_book_tells_2, h29, if_neg (by rw [ic_le (by omega) (by omega)]; omega), inb_e (by omega) (by decide), ic_n (by omega), ic_1]
    by_cases q : μ 30 k = x
    · exact ⟨1, by rw [hst, if_pos q], ⟨fun z => absurd z (by decide), fun z => absurd q (z k (Nat.le_refl k) (by omega))⟩⟩
    · refine ⟨r, by rw [hst, if_neg q, h1], ?_⟩
      rw [h2]
      refine ⟨fun z i h3 h4 => ?_, fun z i h3 h4 => z i (by omega) h4⟩
      by_cases e : i = k
      · subst e; exact q
      · exact z i (by omega) h4
theorem lp_choose {N : Nat} {μ c : sw_M} {F W T P : Nat} (hN : 5000 ≤ N) (hC : CW c F W T P) (hX : XR μ c) {S : Nat → Int32} (hS : WS F W T P S) (hD : DR μ 35 W T P S) {l : List (Nat × Nat)} (hp : PRm μ l) (hl : l.length ≤ 240) (hb : BdL W l) {nb : Nat} (hb8 : nb ≤ 8) (h29 : μ 29 0 = ic nb) (nt : Nat → Prop) [DecidablePred nt] (hnt : ∀ k, k ≤ 40 → (nt k ↔ ∀ i, i < nb → ¬ μ 30 i = ic k)) : ∀ (j k : Nat) (s : Int32 × Int32) (n : Nat), k + j = 41 → j < n → f_guess_chooseLook_12 N n (wr (wr μ 51 6 s.1) 51 7 s.2) (ic k) = some (wr (wr μ 51 6 (fo (lkF S l nt) k j s).1) 51 7 (fo (lkF S l nt) k j s).2)
  | 0, k, s, n, hk, hn => by
    obtain ⟨n, rfl⟩ := fu_s hn
    rw [f_guess_chooseLook_12, if_pos (by rw [lit_lt (by decide) (by omega)]; omega), fo_0]
  | j + 1, k, s, n, hk, hn => by
    obtain ⟨n, rfl⟩ := fu_s (show 0 < n by omega)
    have ih := fun s => lp_choose hN hC hX hS hD hp hl hb hb8 h29 nt hnt j (k + 1) s n (by omega) (by omega)
    obtain ⟨r, h1, h2⟩ := lp_tells (N := N) (μ := wr (wr μ 51 6 s.1) 51 7 s.2) hb8 h29 (ic k) nb 0 N (by omega) (by omega)
    have h1' : f_book_tells N (wr (wr μ 51 6 s.1) 51 7 s.2) (ic k) = some r := h1
    have fr : ∀ a, a ≠ 51 → (wr (wr μ 51 6 s.1) 51 7 s.2) a = μ a := fun a ha => by rw [wr_nr ha, wr_nr ha]
    have hp1 : PRm (wr (wr μ 51 6 s.1) 51 7 s.2) l := ⟨hp.1, fun i hi => by rw [fr 52 (by decide), fr 53 (by decide)]; exact hp.2 i hi⟩
    have e1 := lp_worst hN hC (hX.fr (fun a _ _ => fr a (by omega))) hS (hD.fr (fun a _ _ => fr a (by omega))) hp1 hl hb (k := k) l.length 0 N (by omega) (by omega)
    have e1' : f_guess_worstAt N (wr (wr μ 51 6 s.1) 51 7 s.2) (ic k) = some (ic (wst S l k)) := e1
    have hr : r = 0 ↔ nt k := by
      rw [h2, hnt k (by omega), fr 30 (by decide)]
      exact ⟨fun z i h => z i (Nat.zero_le i) h, fun z i _ h => z i h⟩
    have ww : ∀ a b : Int32, wr (wr (wr (wr μ 51 6 s.1) 51 7 s.2) 51 6 a) 51 7 b = wr (wr μ 51 6 a) 51 7 b := by
      intro a b
      funext x y
      simp only [wr_ap]
      by_cases e1 : x = 51
      · by_cases e2 : y = 7
        · simp [e1, e2]
        · by_cases e3 : y = 6 <;> simp [e1, e2, e3]
      · simp [e1]
    have t6 : (wr (wr μ 51 6 s.1) 51 7 s.2) 51 6 = s.1 := rfl
    have t7 : (wr (wr μ 51 6 s.1) 51 7 s.2) 51 7 = s.2 := rfl
    rw [f_guess_chooseLook_12, if_neg (by rw [lit_lt (by decide) (by omega)]; omega), h1', ob_e, e1', ob_e, t6, t7, fo_s]
    unfold f_guess_chooseLook_51
    rw [wb_e, wb_e, ww, ic_1]
    by_cases q : r = 0
    · rw [if_pos q]
      have qn := hr.mp q
      by_cases a : s.1 = -1
      · rw [if_pos a, show lkF S l nt k s = (ic k, ic (wst S l k)) by unfold lkF; rw [if_pos ⟨qn, Or.inl a⟩]]
        exact ih (ic k, ic (wst S l k))
      · rw [if_neg a]
        by_cases b : s.2 ≤ ic (wst S l k)
        · rw [if_pos b, show lkF S l nt k s = s by unfold lkF; rw [if_neg (fun z => z.2.elim a (fun y => by grind))]]
          exact ih s
        · rw [if_neg b, show lkF S l nt k s = (ic k, ic (wst S l k)) by unfold lkF; rw [if_pos ⟨qn, Or.inr (by grind)⟩]]
          exact ih (ic k, ic (wst S l k))
    · rw [if_neg q, show lkF S l nt k s = s by unfold lkF; rw [if_neg (fun z => q (hr.mpr z.1))]]
      exact ih s
/-! the reference -/
theorem lp_look28 {N : Nat} (x1 : Int32) : ∀ (j k : Nat) (ν : sw_M) (n : Nat), k + j = 533 → j < n → (∀ i, i < k → ν 85 i = 0) → ∃ g, f_m_look_28 N n ν x1 (ic k) = f_m_look_50 N N (wrR ν 85 g) x1 0 ∧ ∀ i, i < 533 → g i = 0
  | 0, k, ν, n, hk, hn, hz => by
    obtain ⟨n, rfl⟩ := fu_s hn
    refine ⟨ν 85, ?_, fun i hi => hz i (by omega)⟩
    rw [wrR_self, f_m_look_28, if_pos (by rw [lit_le (by decide) (by omega)]; omega)]
  | j + 1, k, ν, n, hk, hn, hz => by
    obtain ⟨n, rfl⟩ := fu_s (show 0 < n by omega)
    obtain ⟨g, h1, h2⟩ := lp_look28 x1 j (k + 1) (wr ν 85 k 0) n (by omega) (by omega) (fun i hi => by
      rw [wr_up, wrR_r]
      by_cases e : i = k
      · subst e; rw [up_s]
      · rw [up_n e]; exact hz i (by omega))
    rw [wr_up, wrR_wrR] at h1
    refine ⟨g, ?_, h2⟩
    rw [← h1, f_m_look_28, if_neg (by rw [lit_le (by decide) (by omega)]; omega), inb_e (by omega) (by decide), ic_n (by omega), wb_e, ic_1, wr_up]
/-- what stands there once the first k0 hours of one pair more are told -/
def LB (W : Nat) (S : Nat → Int32) (g : Nat → Int32) (l l' : List (Nat × Nat)) (k0 : Nat) : Prop := ∀ i v, i ≤ 40 → v ≤ 12 → g (13 * i + v) = ic (cnt W S (if i < k0 then l' else l) i v)
theorem lp_look81 {N : Nat} {μ c : sw_M} {F W T P : Nat} (hN : 5000 ≤ N) (hC : CW c F W T P) (hM : MR μ c F W T P) (hS : WS F W T P (μ 81)) {w x : Nat} (hw : w < W) (x1 : Int32) (K50 : sw_M → Int32 → Int32 → Option (Int32 × sw_M)) (K60 : sw_M → Int32 → Int32 → Int32 → Option (Int32 × sw_M)) {l : List (Nat × Nat)} : ∀ (j k : Nat) (g : Nat → Int32) (n : Nat), k + j = 41 → j < n → LB W (μ 81) g l (l ++ [(w, x)]) k → ∃ g', f_m_look_81 N K50 K60 n (wrR μ 85 g) x1 (ic w) (ic x) (ic k) = K60 (wrR μ 85 g') x1 (ic w) (ic (x + 1)) ∧ LB W (μ 81) g' (l ++ [(w, x)]) [] 0
  | 0, k, g, n, hk, hn, hg => by
    obtain ⟨n, rfl⟩ := fu_s hn
    refine ⟨g, ?_, fun i v h1 h2 => ?_⟩
    · rw [f_m_look_81, if_pos (by rw [lit_lt (by decide) (by omega)]; omega), ic_1]
    · rw [hg i v h1 h2, if_pos (by omega), if_neg (by omega)]
  | j + 1, k, g, n, hk, hn, hg => by
    have hW' := hC.w12
    obtain ⟨n, rfl⟩ := fu_s (show 0 < n by omega)
    have hM1 : MR (wrR μ 85 g) c F W T P := hM.fr (fun j _ _ => rfl) rfl rfl rfl
    have e1 := e_manyLive hN hC hM1 hS hw (ic k) (ic x)
    have e1 : f_m_manyLive N (wrR μ 85 g) (ic k) (ic w) (ic x) = some (mvN W (μ 81) (ic k) w (ic x)) := e1
    obtain ⟨m, hm, em⟩ := mv_b hW' (μ 81) (ic k) w (ic x)
    obtain ⟨g', h1, h2⟩ := lp_look81 hN hC hM hS hw x1 K50 K60 (l := l) j (k + 1) (up g (13 * k + m) (g (13 * k + m) + 1)) n (by omega) (by omega) (fun i v h3 h4 => by
      have hgi := hg i v h3 h4
      by_cases e : i = k
      · subst e
        rw [if_pos (by omega), cnt_a, em]
        rw [if_neg (by omega)] at hgi
        by_cases e2 : v = m
        · subst e2; rw [up_s, if_pos rfl, hgi, ic_1]
        · rw [up_n (by omega), if_neg (by rw [ic_eq (by omega) (by omega)]; omega), Nat.add_zero, hgi]
      · rw [up_n (by omega), hgi]
        by_cases e3 : i < k
        · rw [if_pos e3, if_pos (by omega)]
        · rw [if_neg e3, if_neg (by omega)])
    refine ⟨g', ?_, h2⟩
    rw [← h1, f_m_look_81, if_neg (by rw [lit_lt (by decide) (by omega)]; omega), e1, ob_e, em, lit_mul, ic_add, inb_e (by omega) (by decide), inb_e (by omega) (by decide), ic_n (by omega), wb_e, ic_1, wrR_r, wr_up, wrR_r, wrR_wrR]
theorem lp_look60 {N : Nat} {μ c : sw_M} {F W T P : Nat} (hN : 5000 ≤ N) (hC : CW c F W T P) (hM : MR μ c F W T P) (hS : WS F W T P (μ 81)) {bk bv : Nat → Int32} {nb : Nat} (hB : BR μ bk bv nb) {w : Nat} (hw : w < W) (x1 : Int32) (K50 : sw_M → Int32 → Int32 → Option (Int32 × sw_M)) : ∀ (j k : Nat) (g : Nat → Int32) (l : List (Nat × Nat)) (n : Nat), k + j = 21 → j < n → LB W (μ 81) g l [] 0 → ∃ g', f_m_look_60 N K50 n (wrR μ 85 g) x1 (ic w) (ic k) = K50 (wrR μ 85 g') x1 (ic (w + 1)) ∧ LB W (μ 81) g' (fo (fun x l => pl W (μ 81) bk bv nb w x l) k j l) [] 0
  | 0, k, g, l, n, hk, hn, hg => by
    obtain ⟨n, rfl⟩ := fu_s hn
    refine ⟨g, ?_, hg⟩
    rw [f_m_look_60, if_pos (by rw [lit_lt (by decide) (by omega)]; omega), ic_1]
  | j + 1, k, g, l, n, hk, hn, hg => by
    obtain ⟨n, rfl⟩ := fu_s (show 0 < n by omega)
    have hM1 : MR (wrR μ 85 g) c F W T P := hM.fr (fun j _ _ => rfl) rfl rfl rfl
    have e1 := e_isFit hN hC hM1 hS (show BR (wrR μ 85 g) bk bv nb from hB) (x := k) hw
    have e1 : f_m_isFit N (wrR μ 85 g) (ic w) (ic k) = some (b2 (fit W (μ 81) bk bv nb w k)) := e1
    rw [f_m_look_60, if_neg (by rw [lit_lt (by decide) (by omega)]; omega), e1, ob_e, fo_s]
    simp only [b2_0]
    by_cases q : fit W (μ 81) bk bv nb w k
    · obtain ⟨g1, h1, h2⟩ := lp_look81 hN hC hM hS (x := k) hw x1 K50 (f_m_look_60 N K50 n) (l := l) 41 0 g N (by omega) (by omega) (fun i v h3 h4 => by rw [if_neg (by omega)]; have := hg i v h3 h4; rwa [if_neg (by omega)] at this)
      obtain ⟨g2, h3, h4⟩ := lp_look60 hN hC hM hS hB hw x1 K50 j (k + 1) g1 (l ++ [(w, k)]) n (by omega) (by omega) h2
      refine ⟨g2, ?_, by rw [show pl W (μ 81) bk bv nb w k l = l ++ [(w, k)] by unfold pl; rw [if_pos q]]; exact h4⟩
      have h1' : f_m_look_81 N K50 (f_m_look_60 N K50 n) N (wrR μ 85 g) x1 (ic w) (ic k) 0 = _ := h1
      rw [if_neg (fun z => z q), h1', h3]
    · obtain ⟨g2, h3, h4⟩ := lp_look60 hN hC hM hS hB hw x1 K50 j (k + 1) g l n (by omega) (by omega) hg
      refine ⟨g2, ?_, by rw [show pl W (μ 81) bk bv nb w k l = l by unfold pl; rw [if_neg q]]; exact h4⟩
      rw [if_pos q, ic_1, h3]
theorem lp_look50 {N : Nat} {μ c : sw_M} {F W T P : Nat} (hN : 5000 ≤ N) (hC : CW c F W T P) (hM : MR μ c F W T P) (hS : WS F W T P (μ 81)) {bk bv : Nat → Int32} {nb : Nat} (hB : BR μ bk bv nb) (x1 : Int32) : ∀ (j k : Nat) (g : Nat → Int32) (l : List (Nat × Nat)) (n : Nat), k + j = W → j < n → LB W (μ 81) g l [] 0 → ∃ g', f_m_look_50 N n (wrR μ 85 g) x1 (ic k) = f_m_look_136 N N (wrR μ 85 g') x1 (-1) (-1) 0 ∧ LB W (μ 81) g' (fo (fun w l => plW W (μ 81) bk bv nb w l) k j l) [] 0
  | 0, k, g, l, n, hk, hn, hg => by
    have hW' := hC.w12
    have nW : (wrR μ 85 g) 63 22 = ic W := hM.nW
    obtain ⟨n, rfl⟩ := fu_s hn
    refine ⟨g, ?_, hg⟩
    rw [f_m_look_50, nW, if_pos (by rw [ic_le (by omega) (by omega)]; omega)]
  | j + 1, k, g, l, n, hk, hn, hg => by
    have hW' := hC.w12
    have nW : (wrR μ 85 g) 63 22 = ic W := hM.nW
    obtain ⟨n, rfl⟩ := fu_s (show 0 < n by omega)
    obtain ⟨g1, h1, h2⟩ := lp_look60 hN hC hM hS hB (w := k) (by omega) x1 (f_m_look_50 N n) 20 1 g l N (by omega) (by omega) hg
    obtain ⟨g2, h3, h4⟩ := lp_look50 hN hC hM hS hB x1 j (k + 1) g1 _ n (by omega) (by omega) h2
    refine ⟨g2, ?_, by rw [fo_s]; exact h4⟩
    rw [f_m_look_50, nW, if_neg (by rw [ic_le (by omega) (by omega)]; omega)]
    have h1' : f_m_look_60 N (f_m_look_50 N n) N (wrR μ 85 g) x1 (ic k) 1 = _ := h1
    rw [h1', h3]
theorem lp_look163 {N : Nat} {ν : sw_M} {t : Nat → Nat} {k : Nat} (hk : k ≤ 40) (ht : ∀ v, v ≤ 12 → ν 85 (13 * k + v) = ic (t v) ∧ t v ≤ 240) (x1 x2 x3 : Int32) (K : sw_M → Int32 → Int32 → Int32 → Int32 → Option (Int32 × sw_M)) : ∀ (j v a n : Nat), v + j = 13 → j < n → a ≤ 240 → f_m_look_163 N K n ν x1 x2 x3 (ic k) (ic a) (ic v) = (if x2 = -1 ∨ ic (fo (fun v a => if t v ≤ a then a else t v) v j a) < x3 then K ν x1 (ic k) (ic (fo (fun v a => if t v ≤ a then a else t v) v j a)) (ic (k + 1)) else K ν x1 x2 x3 (ic (k + 1)))
  | 0, v, a, n, hv, hn, ha => by
    obtain ⟨n, rfl⟩ := fu_s hn
    rw [f_m_look_163, if_pos (by rw [lit_lt (by decide) (by omega)]; omega), fo_0]
    unfold f_m_look_228
    rw [ic_1]
    by_cases z : x2 = -1
    · rw [if_pos z, if_pos (Or.inl z)]
    · rw [if_neg z]
      by_cases y : ic a < x3
      · rw [if_pos y, if_pos (Or.inr y)]
      · rw [if_neg y, if_neg (fun u => u.elim z y)]
  | j + 1, v, a, n, hv, hn, ha => by
    obtain ⟨n, rfl⟩ := fu_s (show 0 < n by omega)
    obtain ⟨e1, e2⟩ := ht v (by omega)
    rw [f_m_look_163, if_neg (by rw [lit_lt (by decide) (by omega)]; omega), lit_mul, ic_add, inb_e (by omega) (by decide), inb_e (by omega) (by decide), ic_n (by omega), e1, fo_s]
    unfold f_m_look_206
    rw [ic_1]
    by_cases z : t v ≤ a
    · rw [if_pos (by rw [ic_le (by omega) (by omega)]; exact z), if_pos z]
      exact lp_look163 hk ht x1 x2 x3 K j (v + 1) a n (by omega) (by omega) ha
    · rw [if_neg (by rw [ic_le (by omega) (by omega)]; exact z), if_neg z]
      exact lp_look163 hk ht x1 x2 x3 K j (v + 1) (t v) n (by omega) (by omega) e2
theorem lp_look136 {N : Nat} (hN : 5000 ≤ N) {ν : sw_M} {W : Nat} {S : Nat → Int32} {l : List (Nat × Nat)} (hl : l.length ≤ 240) (hg : LB W S (ν 85) l [] 0) (nt : Nat → Prop) [DecidablePred nt] (hnt : ∀ k, k ≤ 40 → (nt k ↔ ν 84 k = -1)) (hw : ∀ k, k ≤ 40 → mx (fun v => cnt W S l k v) 13 0 = wst S l k) (x1 : Int32) : ∀ (j k : Nat) (s : Int32 × Int32) (n : Nat), k + j = 41 → j < n → f_m_look_136 N n ν x1 s.1 s.2 (ic k) = some (if x1 = 0 then (fo (lkF S l nt) k j s).1 else (fo (lkF S l nt) k j s).2, ν)
  | 0, k, s, n, hk, hn => by
    obtain ⟨n, rfl⟩ := fu_s hn
    rw [f_m_look_136, if_pos (by rw [lit_lt (by decide) (by omega)]; omega), fo_0]
    split <;> rfl
  | j + 1, k, s, n, hk, hn => by
    obtain ⟨n, rfl⟩ := fu_s (show 0 < n by omega)
    have ih := fun s => lp_look136 hN hl hg nt hnt hw x1 j (k + 1) s n (by omega) (by omega)
    have e1 := lp_look163 (N := N) (ν := ν) (t := fun v => cnt W S l k v) (k := k) (by omega) (fun v hv => by
      have h1 := hg k v (by omega) hv
      rw [if_neg (by omega)] at h1
      refine ⟨h1, ?_⟩
      have : cnt W S l k v ≤ l.length := su_le _ (fun i _ => by split <;> omega)
      show cnt W S l k v ≤ 240
      omega) x1 s.1 s.2 (f_m_look_136 N n) 13 0 0 N (by omega) (by omega) (by omega)
    have e2 := hw k (by omega)
    unfold mx at e2
    rw [e2] at e1
    rw [f_m_look_136, if_neg (by rw [lit_lt (by decide) (by omega)]; omega), inb_e (by omega) (by decide), ic_n (by omega), fo_s]
    by_cases q : ν 84 k = -1
    · have qn := (hnt k (by omega)).mpr q
      have e1' : f_m_look_163 N (f_m_look_136 N n) N ν x1 s.1 s.2 (ic k) 0 0 = _ := e1
      rw [if_pos q, e1']
      by_cases z : s.1 = -1 ∨ ic (wst S l k) < s.2
      · rw [if_pos z, show lkF S l nt k s = (ic k, ic (wst S l k)) by unfold lkF; rw [if_pos ⟨qn, z⟩]]
        exact ih (ic k, ic (wst S l k))
      · rw [if_neg z, show lkF S l nt k s = s by unfold lkF; rw [if_neg (fun y => z y.2)]]
        exact ih s
    · rw [if_neg q, ic_1, show lkF S l nt k s = s by unfold lkF; rw [if_neg (fun y => q ((hnt k (by omega)).mp y.1))]]
      exact ih s
theorem op_look {N : Nat} {μ : sw_M} (hN : 5000 ≤ N) (hI : Inv μ) (a1 : Int32) : OpI (f_x_look N μ a1) (fun μ1 => f_m_look N μ1 a1) := by
  obtain ⟨F, W, T, P, K, O, nl, nb, n, m, hQ, hR⟩ := id hI
  have hC := hQ.1
  have hF' := hC.f8; have hW' := hC.w12; have hT' := hC.t6; have hP' := hC.p5
  have hX : XR μ μ := ⟨rfl, rfl, rfl, rfl, rfl, rfl, rfl, rfl⟩
  have x0 := hX.nF hC; have x1 := hX.nW hC; have x2 := hX.nT hC; have x3 := hX.nP hC
  have m21 := hQ.2.1.nF; have m22 := hQ.2.1.nW; have m23 := hQ.2.1.nT; have m24 := hQ.2.1.nP
  have z1 : ∀ i, (wr (xr μ i) 63 0 0) 63 0 = 0 := fun _ => rfl
  rcases wn_dec2 a1 (n := 1) (by decide) with ⟨k, hk, rfl, hz⟩ | hz
  · left
    have hz : 0 ≤ ic k ∧ ic k ≤ 1 := hz
    obtain ⟨-, -, hS, hD, -, -, -⟩ := qm_ctx hQ
    obtain ⟨hb8, h29, h46, hb1, hb2⟩ := hQ.2.2.2.2.2.2
    obtain ⟨μ1, e1, f1, hp, hl⟩ := e_collect hN hC hX hS hD hb8 h29 (fun i hi => by obtain ⟨k, v, h1, -, h3, -⟩ := hb1 i hi; exact ⟨k, h1, h3⟩)
    have hbd := prs_bd (W := W) (S := (qm μ) 81) (bk := μ 30) (bv := μ 31) (nb := nb)
    have hct := prs_ft (W := W) (S := (qm μ) 81) (bk := μ 30) (bv := μ 31) (nb := nb)
    have fx1 : SX μ μ1 := ⟨fun a _ _ _ h => f1 a (by omega), fun j _ => by rw [f1 19 (by decide)]⟩
    have r30 := f1 30 (by decide); have r84 := f1 84 (by decide)
    have e2 := lp_choose hN hC (hX.fr (fun a _ _ => f1 a (by omega)) : XR μ1 μ) hS (hD.fr (fun a _ _ => f1 a (by omega))) hp hl hbd hb8 (by rw [f1 29 (by decide)]; exact h29) (fun k => ∀ i, i < nb → ¬ μ 30 i = ic k) (fun k hk => by rw [r30]) 41 0 (-1, -1) N (by omega) (by omega)
    have e2' : f_guess_chooseLook N μ1 = _ := e2
    have fx : SX μ (wr (wr μ1 51 6 (fo (lkF ((qm μ) 81) (prs W ((qm μ) 81) (μ 30) (μ 31) nb) (fun k => ∀ i, i < nb → ¬ μ 30 i = ic k)) 0 41 (-1, -1)).1) 51 7 (fo (lkF ((qm μ) 81) (prs W ((qm μ) 81) (μ 30) (μ 31) nb) (fun k => ∀ i, i < nb → ¬ μ 30 i = ic k)) 0 41 (-1, -1)).2) := (fx1.wr 6 _ (by decide) (by decide)).wr 7 _ (by decide) (by decide)
    generalize hμ2 : wr (wr μ1 51 6 (fo (lkF ((qm μ) 81) (prs W ((qm μ) 81) (μ 30) (μ 31) nb) (fun k => ∀ i, i < nb → ¬ μ 30 i = ic k)) 0 41 (-1, -1)).1) 51 7 (fo (lkF ((qm μ) 81) (prs W ((qm μ) 81) (μ 30) (μ 31) nb) (fun k => ∀ i, i < nb → ¬ μ 30 i = ic k)) 0 41 (-1, -1)).2 = μ2 at e2' fx
    have t6 : μ2 51 6 = (fo (lkF ((qm μ) 81) (prs W ((qm μ) 81) (μ 30) (μ 31) nb) (fun k => ∀ i, i < nb → ¬ μ 30 i = ic k)) 0 41 (-1, -1)).1 := by rw [← hμ2]; rfl
    have t7 : μ2 51 7 = (fo (lkF ((qm μ) 81) (prs W ((qm μ) 81) (μ 30) (μ 31) nb) (fun k => ∀ i, i < nb → ¬ μ 30 i = ic k)) 0 41 (-1, -1)).2 := by rw [← hμ2]; rfl
    have q84 : (qm μ2) 84 = μ 84 := by rw [← hμ2]; exact r84
    obtain ⟨hS', hM', hL'⟩ := qm_ctx2 hQ fx
    have hB : BR (qm μ2) (μ 30) (μ 31) nb := hQ.br q84
    obtain ⟨g0, g1, g2⟩ := lp_look28 (N := N) (ic k) 533 0 (qm μ2) N (by omega) (by omega) (fun i hi => by omega)
    obtain ⟨g3, g4, g5⟩ := lp_look50 hN hC hM' hS' hB (ic k) W 0 g0 [] N (by omega) (by omega) (fun i v h1 h2 => by rw [g2 _ (by omega), if_neg (by omega)]; rfl)
    rw [qm_81 fx] at g5
    have hnt : ∀ k, k ≤ 40 → ((∀ i, i < nb → ¬ μ 30 i = ic k) ↔ (wrR (qm μ2) 85 g3) 84 k = -1) := by
      intro k hk
      rw [show (wrR (qm μ2) 85 g3) 84 = μ 84 from q84]
      refine ⟨fun z => ?_, fun z i hi y => ?_⟩
      · rcases hb2 k hk with y | ⟨i, hi, y⟩
        · exact y
        · exact absurd y (z i hi)
      · obtain ⟨k', v, h1, h2, h3, h4, h5⟩ := hb1 i hi
        have : k = k' := by rw [h3, ic_eq (by omega) (by omega)] at y; exact y.symm
        subst this
        rw [h5, ic_m1 (by omega)] at z; exact z
    have e3 := lp_look136 (N := N) hN (ν := wrR (qm μ2) 85 g3) hl (by rw [wrR_r]; exact g5) (fun k => ∀ i, i < nb → ¬ μ 30 i = ic k) hnt (fun k hk => mx_two hW' hS hbd hct hk) (ic k) 41 0 (-1, -1) N (by omega) (by omega)
    have z0 : (wr μ2 63 0 0) 63 0 = 0 := rfl
    refine ⟨if ic k = 0 then (fo (lkF ((qm μ) 81) (prs W ((qm μ) 81) (μ 30) (μ 31) nb) (fun k => ∀ i, i < nb → ¬ μ 30 i = ic k)) 0 41 (-1, -1)).1 else (fo (lkF ((qm μ) 81) (prs W ((qm μ) 81) (μ 30) (μ 31) nb) (fun k => ∀ i, i < nb → ¬ μ 30 i = ic k)) 0 41 (-1, -1)).2, μ2, wrR (qm μ2) 85 g3, ?_, ?_, rfl, (hI.sx fx).sm ((qm_sm μ2).wrR85 g3)⟩
    · unfold f_x_look
      rw [g_needWhat_1 hz, tb_l, e1, ob_e, e2', ob_e, t6, t7]
      split <;> rfl
    · show f_m_look N μ2 (ic k) = _
      have g1' : f_m_look_28 N N (qm μ2) (ic k) 0 = _ := g1
      have g4' : f_m_look_50 N N (wrR (qm μ2) 85 g0) (ic k) 0 = _ := g4
      unfold f_m_look; rw [wb_e, withinm_e, ob_e, b2_p hz, may_1 (by decide) z0, ob_e, if_neg o1, e_q_take hN, ob_e, g1', g4']; exact e3
  · right
    have hz : ¬ (0 ≤ a1 ∧ a1 ≤ 1) := hz
    refine ⟨xr μ 1, 0, mr (xr μ 1) 1 1, ?_, ?_, rfl, hI.rr (by decide) 1⟩
    · unfold f_x_look; rw [g_needWhat_0 hz, tb_r]; rfl
    · show f_m_look N (xr μ 1) a1 = _
      unfold f_m_look; rw [wb_e, withinm_e, ob_e, b2_n hz, may_i (by decide) (z1 1), ob_e, if_pos rfl]; rfl
