/-! ===== printed by wip/whole/gen66.py ===== -/
def tolS (W T : Nat) (c : sw_M) (S K O : Nat → Int32) (n p w : Nat) : Int32 := tollV K O n (vf (loadS T c S (ic p)) (c 10 p) (S (41 + p)) (leftS S w) (S 48) (atN W c (S (36 + p))) (ic p))
abbrev opS (c : sw_M) (S : Nat → Int32) (p w : Nat) : Prop := ¬ lv S w 0 0 ∧ (c 4 w = S (36 + p) ∨ c 5 w = S (36 + p))
abbrev canS (W T : Nat) (c : sw_M) (S K O : Nat → Int32) (n p w : Nat) : Prop := opS c S p w ∧ S (41 + p) + tolS W T c S K O n p w ≤ 60
def otS (c : sw_M) (S : Nat → Int32) (p w : Nat) : Int32 := c 4 w + c 5 w - S (36 + p)
def crF (T p : Nat) (R : Nat → Int32) : Nat → Int32 := fo (fun t R => if R (30 + t) = ic p then up R (24 + t) (R (36 + p)) else R) 0 T R
def crS (W T : Nat) (c : sw_M) (S K O : Nat → Int32) (n p w : Nat) : Nat → Int32 := crF T p (up (up (up S (41 + p) (S (41 + p) + tolS W T c S K O n p w)) (36 + p) (otS c S p w)) 47 (S 47 + 1))
def hrF (P : Nat) (S : Nat → Int32) : Nat → Int32 := fo (fun p R => up R (41 + p) (if 5 ≤ R (41 + p) then R (41 + p) - 5 else 0)) 0 P S
def hrS (P : Nat) (S : Nat → Int32) : Nat → Int32 := up (hrF P S) 48 (hrF P S 48 + 1)
def mvS (S : Nat → Int32) (w : Nat) (m : Int32) : Nat → Int32 := up S w (if S w + m ≤ 199 then S w + m else 199)
def ctS (S : Nat → Int32) (w : Nat) : Nat → Int32 := up (up S (12 + w) 1) 46 (S 46 - 1)
abbrev mvC (S : Nat → Int32) (w : Nat) : Prop := ¬ S (12 + w) = 1 ∧ ¬ lv S w 0 0 ∧ ¬ S w = 199
abbrev ctC (S : Nat → Int32) (w : Nat) : Prop := ¬ S (12 + w) = 1 ∧ ¬ S 46 = 0
abbrev lfC (T : Nat) (c : sw_M) (S : Nat → Int32) (p t : Nat) : Prop := S (30 + t) = -1 ∧ S (24 + t) = S (36 + p) ∧ loadS T c S (ic p) + c 8 t ≤ c 10 p
theorem crF_ap {p : Nat} (hp : p < 5) : ∀ (j k : Nat) (R : Nat → Int32) (i : Nat), k + j ≤ 6 → fo (fun t R => if R (30 + t) = ic p then up R (24 + t) (R (36 + p)) else R) k j R i = if 24 + k ≤ i ∧ i < 24 + k + j ∧ R (30 + (i - 24)) = ic p then R (36 + p) else R i
  | 0, k, R, i, _ => by rw [fo_0, if_neg (by omega)]
  | j + 1, k, R, i, h => by
    rw [fo_s, crF_ap hp j (k + 1) _ i (by omega)]
    by_cases e : R (30 + k) = ic p
    · rw [if_pos e, up_n (show 30 + (i - 24) ≠ 24 + k by omega), up_n (show 36 + p ≠ 24 + k by omega), up_ap]
      by_cases e2 : i = 24 + k
      · rw [if_neg (by omega), if_pos e2, if_pos ⟨by omega, by omega, by rw [e2, show 30 + (24 + k - 24) = 30 + k by omega]; exact e⟩]
      · rw [if_neg e2]
        by_cases e3 : 24 + k ≤ i ∧ i < 24 + k + (j + 1) ∧ R (30 + (i - 24)) = ic p
        · rw [if_pos e3, if_pos ⟨by omega, by omega, e3.2.2⟩]
        · rw [if_neg e3, if_neg (fun q => e3 ⟨by omega, by omega, q.2.2⟩)]
    · rw [if_neg e]
      by_cases e3 : 24 + k ≤ i ∧ i < 24 + k + (j + 1) ∧ R (30 + (i - 24)) = ic p
      · have e2 : i ≠ 24 + k := fun q => e (by rw [← e3.2.2, q]; congr 1; omega)
        rw [if_pos e3, if_pos ⟨by omega, by omega, e3.2.2⟩]
      · rw [if_neg e3, if_neg (fun q => e3 ⟨by omega, by omega, q.2.2⟩)]
theorem hrF_ap : ∀ (j k : Nat) (R : Nat → Int32) (i : Nat), fo (fun p R => up R (41 + p) (if 5 ≤ R (41 + p) then R (41 + p) - 5 else 0)) k j R i = if 41 + k ≤ i ∧ i < 41 + k + j then (if 5 ≤ R i then R i - 5 else 0) else R i
  | 0, k, R, i => by rw [fo_0, if_neg (by omega)]
  | j + 1, k, R, i => by
    rw [fo_s, hrF_ap j (k + 1)]
    by_cases e : i = 41 + k
    · subst e; rw [if_neg (show ¬ (41 + (k + 1) ≤ 41 + k ∧ 41 + k < 41 + (k + 1) + j) by omega), up_s, if_pos (show 41 + k ≤ 41 + k ∧ 41 + k < 41 + k + (j + 1) by omega)]
    · rw [up_n e]
      by_cases e3 : 41 + k ≤ i ∧ i < 41 + k + (j + 1)
      · rw [if_pos e3, if_pos (by omega)]
      · rw [if_neg e3, if_neg (by omega)]
theorem cutS_cg {W : Nat} {S S' : Nat → Int32} (h : ∀ w, w < W → S' (12 + w) = S (12 + w)) : cutS W S' = cutS W S := fo_cg W 0 0 (fun i _ h2 b => by rw [h i (by omega)])
section
variable {W T : Nat} {c : sw_M} {S K O : Nat → Int32} {n p w : Nat}
theorem crS_lo (hp : p < 5) (hT : T ≤ 6) {i : Nat} (h : i < 24) : crS W T c S K O n p w i = S i := by
  unfold crS crF; rw [crF_ap hp T 0 _ i (by omega), if_neg (by omega), up_n (by omega), up_n (by omega), up_n (by omega)]
theorem crS_t (hp : p < 5) (hT : T ≤ 6) {t : Nat} (h : t < T) : crS W T c S K O n p w (24 + t) = if S (30 + t) = ic p then otS c S p w else S (24 + t) := by
  unfold crS crF; rw [crF_ap hp T 0 _ _ (by omega), show 30 + (24 + t - 24) = 30 + t by omega]
  simp (disch := omega) only [up_n, up_s]
  by_cases e : S (30 + t) = ic p
  · rw [if_pos e, if_pos ⟨by omega, by omega, e⟩]
  · rw [if_neg e, if_neg (fun q => e q.2.2)]
theorem crS_b (hp : p < 5) (hT : T ≤ 6) {t : Nat} (h : t < 6) : crS W T c S K O n p w (30 + t) = S (30 + t) := by
  unfold crS crF; rw [crF_ap hp T 0 _ _ (by omega), if_neg (by omega), up_n (by omega), up_n (by omega), up_n (by omega)]
theorem crS_a (hp : p < 5) (hT : T ≤ 6) {q : Nat} (h : q < 5) : crS W T c S K O n p w (36 + q) = if q = p then otS c S p w else S (36 + q) := by
  unfold crS crF; rw [crF_ap hp T 0 _ _ (by omega), if_neg (by omega), up_n (by omega), up_ap]
  by_cases e : q = p
  · rw [if_pos e, if_pos (by omega)]
  · rw [if_neg e, if_neg (by omega), up_n (by omega)]
theorem crS_r (hp : p < 5) (hT : T ≤ 6) {q : Nat} (h : q < 5) : crS W T c S K O n p w (41 + q) = if q = p then S (41 + p) + tolS W T c S K O n p w else S (41 + q) := by
  unfold crS crF; rw [crF_ap hp T 0 _ _ (by omega), if_neg (by omega), up_n (by omega), up_n (by omega), up_ap]
  by_cases e : q = p
  · rw [if_pos e, if_pos (by omega)]
  · rw [if_neg e, if_neg (by omega)]
theorem crS_46 (hp : p < 5) (hT : T ≤ 6) : crS W T c S K O n p w 46 = S 46 := by
  unfold crS crF; rw [crF_ap hp T 0 _ _ (by omega), if_neg (by omega), up_n (by omega), up_n (by omega), up_n (by omega)]
theorem crS_47 (hp : p < 5) (hT : T ≤ 6) : crS W T c S K O n p w 47 = S 47 + 1 := by
  unfold crS crF; rw [crF_ap hp T 0 _ _ (by omega), if_neg (by omega), up_s]
theorem crS_48 (hp : p < 5) (hT : T ≤ 6) : crS W T c S K O n p w 48 = S 48 := by
  unfold crS crF; rw [crF_ap hp T 0 _ _ (by omega), if_neg (by omega), up_n (by omega), up_n (by omega), up_n (by omega)]
theorem hrS_lo {P i : Nat} (h : i < 41) : hrS P S i = S i := by
  unfold hrS hrF; rw [up_n (by omega), hrF_ap, if_neg (by omega)]
theorem hrS_r {P q : Nat} (h : q < P) (hP : P ≤ 5) : hrS P S (41 + q) = if 5 ≤ S (41 + q) then S (41 + q) - 5 else 0 := by
  unfold hrS hrF; rw [up_n (by omega), hrF_ap, if_pos (by omega)]
theorem hrS_46 {P : Nat} (hP : P ≤ 5) : hrS P S 46 = S 46 := by
  unfold hrS hrF; rw [up_n (by omega), hrF_ap, if_neg (by omega)]
theorem hrS_47 {P : Nat} (hP : P ≤ 5) : hrS P S 47 = S 47 := by
  unfold hrS hrF; rw [up_n (by omega), hrF_ap, if_neg (by omega)]
theorem hrS_48 {P : Nat} (hP : P ≤ 5) : hrS P S 48 = S 48 + 1 := by
  unfold hrS hrF; rw [up_s, hrF_ap, if_neg (by omega)]
end
def FrD (d : Nat) (μ μ' : sw_M) : Prop := (∀ a, a ≠ 19 → a ≠ 22 → a ≠ 23 → (a < d ∨ d + 5 < a) → μ' a = μ a) ∧ ∀ j, j ≠ 5 → μ' 19 j = μ 19 j
theorem FrD.rf (d : Nat) (μ : sw_M) : FrD d μ μ := ⟨fun _ _ _ _ _ => rfl, fun _ _ => rfl⟩
theorem FrD.tr {d : Nat} {a b c : sw_M} (h : FrD d a b) (h2 : FrD d b c) : FrD d a c := ⟨fun x h3 h4 h5 h6 => (h2.1 x h3 h4 h5 h6).trans (h.1 x h3 h4 h5 h6), fun j hj => (h2.2 j hj).trans (h.2 j hj)⟩
theorem FrL.fd {a b : sw_M} (h : FrL a b) (d : Nat) : FrD d a b := ⟨fun x h3 h4 h5 _ => h.1 x h3 h4 h5, h.2⟩
theorem FrD.wr {d : Nat} {a b : sw_M} (h : FrD d a b) {k j : Nat} (v : Int32) (h1 : d ≤ k) (h2 : k ≤ d + 5) (h3 : k ≠ 19) : FrD d a (wr b k j v) := ⟨fun x q3 q4 q5 q6 => by rw [wr_nr (by omega)]; exact h.1 x q3 q4 q5 q6, fun j hj => by rw [wr_nr (Ne.symm h3)]; exact h.2 j hj⟩
def FrS (μ μ' : sw_M) : Prop := ∀ a, a ≠ 76 → a ≠ 77 → a ≠ 81 → μ' a = μ a
theorem FrS.rf (μ : sw_M) : FrS μ μ := fun _ _ _ _ => rfl
theorem FrS.tr {a b c : sw_M} (h : FrS a b) (h2 : FrS b c) : FrS a c := fun x h3 h4 h5 => (h2 x h3 h4 h5).trans (h x h3 h4 h5)
theorem FrT.fs {a b : sw_M} (h : FrT a b) : FrS a b := fun x h1 h2 _ => h x h1 h2
theorem FrS.wr {a b : sw_M} (h : FrS a b) (j : Nat) (v : Int32) : FrS a (wr b 81 j v) := fun x h1 h2 h3 => by rw [wr_nr h3]; exact h x h1 h2 h3
theorem FrS.wrR {a b : sw_M} (h : FrS a b) (f : Nat → Int32) : FrS a (wrR b 81 f) := fun x h1 h2 h3 => by rw [wrR_nr h3]; exact h x h1 h2 h3
theorem MR.fr {μ μ' c : sw_M} {F W T P : Nat} (h : MR μ c F W T P) (h63 : ∀ j, 21 ≤ j → j ≤ 24 → μ' 63 j = μ 63 j) (h69 : μ' 69 = μ 69) (h70 : μ' 70 = μ 70) (h71 : μ' 71 = μ 71) : MR μ' c F W T P := by
  unfold MR; rw [h63 21 (by omega) (by omega), h63 22 (by omega) (by omega), h63 23 (by omega) (by omega), h63 24 (by omega) (by omega), h69, h70, h71]; exact h
theorem MR.fs {μ μ' c : sw_M} {F W T P : Nat} (h : MR μ c F W T P) (f : FrS μ μ') : MR μ' c F W T P :=
  h.fr (fun j _ _ => by rw [f 63 (by decide) (by decide) (by decide)]) (f 69 (by decide) (by decide) (by decide)) (f 70 (by decide) (by decide) (by decide)) (f 71 (by decide) (by decide) (by decide))
theorem ML.fs {μ μ' : sw_M} {K O : Nat → Int32} {n : Nat} (h : ML μ K O n) (f : FrS μ μ') : ML μ' K O n := by
  unfold ML; rw [f 63 (by decide) (by decide) (by decide), f 74 (by decide) (by decide) (by decide), f 75 (by decide) (by decide) (by decide)]; exact h
theorem XR.fr {μ μ' c : sw_M} (h : XR μ c) (f : ∀ a, 3 ≤ a → a ≤ 10 → μ' a = μ a) : XR μ' c := by
  unfold XR; rw [f 3 (by omega) (by omega), f 4 (by omega) (by omega), f 5 (by omega) (by omega), f 6 (by omega) (by omega), f 7 (by omega) (by omega), f 8 (by omega) (by omega), f 9 (by omega) (by omega), f 10 (by omega) (by omega)]; exact h
theorem XR.fd {μ μ' c : sw_M} {d : Nat} (h : XR μ c) (f : FrD d μ μ') (hd : 35 ≤ d) : XR μ' c := h.fr (fun a h1 h2 => f.1 a (by omega) (by omega) (by omega) (by omega))
theorem XL.fd {μ μ' : sw_M} {K O : Nat → Int32} {n d : Nat} (h : XL μ K O n) (f : FrD d μ μ') (hd : 35 ≤ d) : XL μ' K O n := by
  unfold XL; rw [f.2 4 (by decide), f.1 20 (by decide) (by decide) (by decide) (by omega), f.1 21 (by decide) (by decide) (by decide) (by omega)]; exact h
theorem XL.fl {μ μ' : sw_M} {K O : Nat → Int32} {n : Nat} (h : XL μ K O n) (f : FrL μ μ') : XL μ' K O n := h.fd (f.fd 35) (by decide)
theorem DR.fr {μ μ' : sw_M} {d W T P : Nat} {S : Nat → Int32} (h : DR μ d W T P S) (f : ∀ a, d ≤ a → a ≤ d + 5 → μ' a = μ a) : DR μ' d W T P S := by
  unfold DR; rw [f d (by omega) (by omega), f (d + 1) (by omega) (by omega), f (d + 2) (by omega) (by omega), f (d + 3) (by omega) (by omega), f (d + 4) (by omega) (by omega), f (d + 5) (by omega) (by omega)]; exact h
theorem DR.fl {μ μ' : sw_M} {d W T P : Nat} {S : Nat → Int32} (h : DR μ d W T P S) (f : FrL μ μ') (hd : 35 ≤ d) : DR μ' d W T P S := h.fr (fun a h1 h2 => f.1 a (by omega) (by omega) (by omega))
/-! what the rows stay -/
section
variable {F W T P : Nat} {c : sw_M} {S K O : Nat → Int32} {n : Nat}
theorem ot_e (hC : CW c F W T P) {p w : Nat} (hw : w < W) (h : c 4 w = S (36 + p) ∨ c 5 w = S (36 + p)) : otS c S p w = (if S (36 + p) = c 4 w then c 5 w else c 4 w) ∧ ∃ f : Nat, f < F ∧ otS c S p w = ic f := by
  obtain ⟨a, b, x, ha, hb, hab, hx, ca, cb, -⟩ := hC.2.2.1 w hw
  have hF := hC.f8
  unfold otS
  rcases h with h | h
  · rw [if_pos h.symm, ← h, ca, cb]
    refine ⟨?_, b, hb, ?_⟩ <;> rw [ic_add, ic_sub (by omega), show a + b - a = b by omega]
  · rw [← h, ca, cb]
    simp (disch := omega) only [ic_eq]
    rw [if_neg (by omega)]
    refine ⟨?_, a, ha, ?_⟩ <;> rw [ic_add, ic_sub (by omega), show a + b - b = a by omega]
theorem ws_cr (hC : CW c F W T P) (hS : WS F W T P S) {p w : Nat} (hp : p < P) (hw : w < W) (hc : canS W T c S K O n p w) : WS F W T P (crS W T c S K O n p w) := by
  have hT := hC.t6; have hP := hC.p5; have hW := hC.w12
  obtain ⟨o1, f, hf, o2⟩ := ot_e hC hw hc.1.2
  refine ⟨?_, ?_, ?_, ?_, ?_⟩
  · rw [crS_48 (by omega) hT]; exact hS.1
  · rw [crS_46 (by omega) hT]; exact hS.2.1
  · intro v hv
    rw [crS_lo (by omega) hT (by omega), crS_lo (by omega) hT (by omega)]; exact hS.2.2.1 v hv
  · intro t ht
    rw [crS_t (by omega) hT ht, crS_b (by omega) hT (by omega)]
    obtain ⟨h1, h2⟩ := hS.2.2.2.1 t ht
    by_cases e : S (30 + t) = ic p
    · rw [if_pos e]
      exact ⟨⟨f, hf, o2⟩, Or.inr ⟨p, hp, e, by rw [crS_a (by omega) hT (by omega), if_pos rfl]⟩⟩
    · rw [if_neg e]
      refine ⟨h1, h2.imp id (fun ⟨q, hq, e1, e2⟩ => ⟨q, hq, e1, ?_⟩)⟩
      rw [crS_a (by omega) hT (by omega), if_neg (fun x => e (by rw [e1, x]))]; exact e2
  · intro q hq
    rw [crS_a (by omega) hT (by omega), crS_r (by omega) hT (by omega)]
    obtain ⟨h1, h2⟩ := hS.2.2.2.2 q hq
    by_cases e : q = p
    · rw [if_pos e, if_pos e]
      refine ⟨⟨f, hf, o2⟩, ?_⟩
      obtain ⟨y, hy, e2⟩ := (hS.2.2.2.2 p hp).2
      obtain ⟨z, hz, e3⟩ := tollV_b K O (vf (loadS T c S (ic p)) (c 10 p) (S (41 + p)) (leftS S w) (S 48) (atN W c (S (36 + p))) (ic p)) n
      have h60 := hc.2
      have e4 : tolS W T c S K O n p w = ic z := e3
      rw [e2, e4, ic_add] at h60 ⊢
      rw [le_lit (by decide) (by omega)] at h60
      exact ⟨y + z, h60, rfl⟩
    · rw [if_neg e, if_neg e]; exact ⟨h1, h2⟩
theorem ws_hr (hC : CW c F W T P) (hS : WS F W T P S) (hh : ∃ h : Nat, h ≤ 999 ∧ S 48 = ic h) : WS F W T P (hrS P S) := by
  have hT := hC.t6; have hP := hC.p5; have hW := hC.w12
  refine ⟨?_, ?_, ?_, ?_, ?_⟩
  · rw [hrS_48 hP]; obtain ⟨h, h1, h2⟩ := hh; exact ⟨h + 1, by omega, by rw [h2, ic_1]⟩
  · rw [hrS_46 hP]; exact hS.2.1
  · intro v hv; rw [hrS_lo (by omega), hrS_lo (by omega)]; exact hS.2.2.1 v hv
  · intro t ht
    rw [hrS_lo (by omega), hrS_lo (by omega)]
    refine ⟨(hS.2.2.2.1 t ht).1, (hS.2.2.2.1 t ht).2.imp id (fun ⟨q, hq, e1, e2⟩ => ⟨q, hq, e1, ?_⟩)⟩
    rw [hrS_lo (by omega)]; exact e2
  · intro q hq
    rw [hrS_lo (by omega), hrS_r hq hP]
    obtain ⟨h1, y, hy, e⟩ := hS.2.2.2.2 q hq
    refine ⟨h1, ?_⟩
    rw [e]
    simp (disch := omega) only [lit_le]
    by_cases h5 : 5 ≤ y
    · rw [if_pos h5]; exact ⟨y - 5, by omega, ic_sub h5⟩
    · rw [if_neg h5]; exact ⟨0, by omega, rfl⟩
theorem ws_mv (hC : CW c F W T P) (hS : WS F W T P S) {w m : Nat} (hw : w < W) (hm : m ≤ 1000) : WS F W T P (mvS S w (ic m)) := by
  have hT := hC.t6; have hP := hC.p5; have hW := hC.w12
  unfold mvS
  refine ⟨?_, ?_, ?_, ?_, ?_⟩
  · rw [up_n (by omega)]; exact hS.1
  · rw [up_n (by omega)]; exact hS.2.1
  · intro v hv
    rw [up_n (show 12 + v ≠ w by omega), up_ap]
    refine ⟨?_, (hS.2.2.1 v hv).2⟩
    by_cases e : v = w
    · obtain ⟨y, hy, e2⟩ := (hS.2.2.1 w hw).1
      rw [if_pos e, e2, ic_add]
      simp (disch := omega) only [le_lit]
      by_cases h9 : y + m ≤ 199
      · rw [if_pos h9]; exact ⟨_, h9, rfl⟩
      · rw [if_neg h9]; exact ⟨199, by omega, rfl⟩
    · rw [if_neg e]; exact (hS.2.2.1 v hv).1
  · intro t ht
    rw [up_n (by omega), up_n (by omega)]
    refine ⟨(hS.2.2.2.1 t ht).1, (hS.2.2.2.1 t ht).2.imp id (fun ⟨q, hq, e1, e2⟩ => ⟨q, hq, e1, ?_⟩)⟩
    rw [up_n (by omega)]; exact e2
  · intro q hq
    rw [up_n (by omega), up_n (by omega)]; exact hS.2.2.2.2 q hq
theorem ws_ct (hC : CW c F W T P) (hS : WS F W T P S) {w : Nat} (hw : w < W) (h0 : ¬ S 46 = 0) : WS F W T P (ctS S w) := by
  have hT := hC.t6; have hP := hC.p5; have hW := hC.w12
  unfold ctS
  refine ⟨?_, ?_, ?_, ?_, ?_⟩
  · rw [up_n (by omega), up_n (by omega)]; exact hS.1
  · rw [up_s]; obtain ⟨y, hy, e⟩ := hS.2.1
    rw [e, eq_lit (by decide) (by omega)] at h0
    exact ⟨y - 1, by omega, by rw [e]; exact ic_sub (a := y) (b := 1) (by omega)⟩
  · intro v hv
    rw [up_n (by omega), up_n (by omega), up_n (by omega), up_ap]
    refine ⟨(hS.2.2.1 v hv).1, ?_⟩
    by_cases e : v = w
    · rw [if_pos (by omega)]; exact Or.inr rfl
    · rw [if_neg (by omega)]; exact (hS.2.2.1 v hv).2
  · intro t ht
    rw [up_n (by omega), up_n (by omega), up_n (by omega), up_n (by omega)]
    refine ⟨(hS.2.2.2.1 t ht).1, (hS.2.2.2.1 t ht).2.imp id (fun ⟨q, hq, e1, e2⟩ => ⟨q, hq, e1, ?_⟩)⟩
    rw [up_n (by omega), up_n (by omega)]; exact e2
  · intro q hq
    rw [up_n (by omega), up_n (by omega), up_n (by omega), up_n (by omega)]; exact hS.2.2.2.2 q hq
theorem ws_by (hC : CW c F W T P) (hS : WS F W T P S) {t : Nat} (ht : t < T) (x : Int32) (hx : x = -1 ∨ ∃ q : Nat, q < P ∧ x = ic q ∧ S (24 + t) = S (36 + q)) : WS F W T P (up S (30 + t) x) := by
  have hT := hC.t6; have hP := hC.p5; have hW := hC.w12
  refine ⟨?_, ?_, ?_, ?_, ?_⟩
  · rw [up_n (by omega)]; exact hS.1
  · rw [up_n (by omega)]; exact hS.2.1
  · intro v hv
    rw [up_n (by omega), up_n (by omega)]; exact hS.2.2.1 v hv
  · intro v hv
    rw [up_n (by omega), up_ap]
    by_cases e : v = t
    · subst e; rw [if_pos rfl]
      refine ⟨(hS.2.2.2.1 v hv).1, hx.imp id (fun ⟨q, hq, e1, e2⟩ => ⟨q, hq, e1, ?_⟩)⟩
      rw [up_n (by omega)]; exact e2
    · rw [if_neg (by omega)]
      refine ⟨(hS.2.2.2.1 v hv).1, (hS.2.2.2.1 v hv).2.imp id (fun ⟨q, hq, e1, e2⟩ => ⟨q, hq, e1, ?_⟩)⟩
      rw [up_n (by omega)]; exact e2
  · intro q hq
    rw [up_n (by omega), up_n (by omega)]; exact hS.2.2.2.2 q hq
theorem cut_ct (hW : W ≤ 12) {w : Nat} (hw : w < W) : cutS W (ctS S w) = cutS W S ||| sh w := by
  refine b_ext (fun i hi => ?_)
  rw [b_or, b_cutS hW, b_cutS hW, b_sh' (by omega)]
  unfold ctS
  by_cases e : i = w
  · subst e; rw [up_n (by omega), up_s]; simp [hw]
  · by_cases e2 : i < W
    · rw [up_n (by omega), up_n (by omega)]; simp [e]
    · simp [e, e2]
end
theorem ic_sub_toInt {a b : Nat} (ha : a < 1073741824) (hb : b < 1073741824) : (ic a - ic b).toInt = (a : Int) - b := pk_sub_toInt (by simpa using ha) (by simpa using hb)
theorem load_b {c : sw_M} {F W T P : Nat} (hC : CW c F W T P) (S : Nat → Int32) (x : Int32) : ∃ l : Nat, l ≤ 180 ∧ loadS T c S x = ic l := by
  have := fo_inv (g := fun t a => if S (30 + t) = x then a + c 8 t else a) (fun i a => ∃ l : Nat, l ≤ 30 * i ∧ a = ic l) T 0 0 ⟨0, by omega, rfl⟩ (fun i b _ h2 ⟨l, hl, e⟩ => by
    obtain ⟨a, y, -, -, hy, -, cy⟩ := hC.2.2.2.1 i (by omega)
    show ∃ l : Nat, l ≤ 30 * (i + 1) ∧ (if S (30 + i) = x then b + c 8 i else b) = ic l
    by_cases q : S (30 + i) = x
    · rw [if_pos q, e, cy, ic_add]; exact ⟨l + y, by omega, rfl⟩
    · rw [if_neg q]; exact ⟨l, by omega, e⟩)
  obtain ⟨l, hl, e⟩ := this
  exact ⟨l, by have := hC.t6; omega, e⟩
theorem e_land_wiresAt {N : Nat} {μ c : sw_M} {F W T P : Nat} (hN : 5000 ≤ N) (hC : CW c F W T P) (hX : XR μ c) (x : Int32) : f_land_wiresAt N μ x = some (atN W c x) := by
  unfold f_land_wiresAt
  rw [e_land_wireBitsAt hN hC hX x, ob_e]
  unfold atB
  rw [bc_e hC.w12 (fun w => c 4 w = x ∨ c 5 w = x) N μ, ob_e]
  rfl
theorem e_land_across {N : Nat} {μ c : sw_M} {w : Nat} (hw : w < 12) (h4 : μ 4 = c 4) (h5 : μ 5 = c 5) (x : Int32) : f_land_across N μ (ic w) x = some (if x = c 4 w then c 5 w else if x = c 5 w then c 4 w else -1) := by
  have e1 := at_e (N := N) (k := 4) (n := 12) (μ := μ) hw (by decide)
  have e2 := at_e (N := N) (k := 5) (n := 12) (μ := μ) hw (by decide)
  simp only [f_land_across, e1, e2, h4, h5, ob_e]
  split
  · rfl
  · split <;> rfl
theorem e_days_tollOf {N : Nat} {μ c : sw_M} {F W T P : Nat} (hN : 5000 ≤ N) (hC : CW c F W T P) (hX : XR μ c) {S : Nat → Int32} (hS : WS F W T P S) (hD : DR μ 35 W T P S) {K O : Nat → Int32} {nl : Nat} (hL : XL μ K O nl) {p w : Nat} (hp : p < P) (hw : w < W) : ∃ μ', f_days_tollOf N μ (ic p) (ic w) = some (tolS W T c S K O nl p w, μ') ∧ FrL μ μ' := by
  have hF' := hC.f8; have hW' := hC.w12; have hT' := hC.t6; have hP' := hC.p5
  have e1 := at_e (N := N) (k := 39) (n := 5) (μ := μ) (show p < 5 by omega) (by decide)
  have e2 := e_days_loadOf hN hC hX hS hD (ic p)
  have e3 := at_e (N := N) (k := 10) (n := 5) (μ := μ) (show p < 5 by omega) (by decide)
  have e4 := at_e (N := N) (k := 40) (n := 5) (μ := μ) (show p < 5 by omega) (by decide)
  have e5 := e_days_hoursLeft hN hC hX hS hD hw
  have e6 := e_land_wiresAt hN hC hX (S (36 + p))
  have r10 := hX.r10
  obtain ⟨μ1, μ', h1, h2, h3⟩ := e_law_toll hN hL (loadS T c S (ic p)) (c 10 p) (S (41 + p)) (leftS S w) (S 48) (atN W c (S (36 + p))) (ic p)
  have a1 := hD.da hp; have a2 := hD.dr hp; have a3 := hD.dh
  refine ⟨μ', ?_, h3⟩
  simp only [f_days_tollOf, e1, e2, e3, e4, e5, a1, a2, a3, r10, ob_e, e6, h1, h2]
  rfl
theorem e_days_isOpenTo {N : Nat} {μ c : sw_M} {F W T P : Nat} (hN : 5000 ≤ N) (hC : CW c F W T P) (hX : XR μ c) {S : Nat → Int32} (hS : WS F W T P S) (hD : DR μ 35 W T P S) {p w : Nat} (hp : p < P) (hw : w < W) : f_days_isOpenTo N μ (ic p) (ic w) = some (b2 (opS c S p w)) := by
  have hF' := hC.f8; have hW' := hC.w12; have hT' := hC.t6; have hP' := hC.p5
  have e1 := e_days_isLive hN hC hX hS hD 0 hw
  have e2 := at_e (N := N) (k := 39) (n := 5) (μ := μ) (show p < 5 by omega) (by decide)
  have e3 := e_land_across (N := N) (μ := μ) (c := c) (w := w) (by omega) hX.r4 hX.r5 (S (36 + p))
  have a1 := hD.da hp
  obtain ⟨a, b, x, ha, hb, hab, hx, ca, cb, -⟩ := hC.2.2.1 w hw
  have n1 : ¬ c 4 w = -1 := by rw [ca, ic_m1 (by omega)]; exact id
  have n2 : ¬ c 5 w = -1 := by rw [cb, ic_m1 (by omega)]; exact id
  simp only [f_days_isOpenTo, e1, ob_e, e2, a1, e3, b2_0]
  unfold b2 opS
  grind
theorem e_days_canCross {N : Nat} {μ c : sw_M} {F W T P : Nat} (hN : 5000 ≤ N) (hC : CW c F W T P) (hX : XR μ c) {S : Nat → Int32} (hS : WS F W T P S) (hD : DR μ 35 W T P S) {K O : Nat → Int32} {nl : Nat} (hL : XL μ K O nl) {p w : Nat} (hp : p < P) (hw : w < W) : ∃ μ', f_days_canCross N μ (ic p) (ic w) = some (b2 (canS W T c S K O nl p w), μ') ∧ FrL μ μ' := by
  have hF' := hC.f8; have hW' := hC.w12; have hT' := hC.t6; have hP' := hC.p5
  have e1 := e_days_isOpenTo hN hC hX hS hD hp hw
  have e2 := at_e (N := N) (k := 40) (n := 5) (μ := μ) (show p < 5 by omega) (by decide)
  have a2 := hD.dr hp
  obtain ⟨μ', h1, h2⟩ := e_days_tollOf hN hC hX hS hD hL hp hw
  by_cases h : opS c S p w
  · refine ⟨μ', ?_, h2⟩
    unfold f_days_canCross
    rw [e1, ob_e, if_neg (by rw [b2_0]; exact fun q => q h), e2, ob_e, h1, ob_e, a2]
    by_cases h6 : S (41 + p) + tolS W T c S K O nl p w ≤ 60
    · rw [show b2 (canS W T c S K O nl p w) = 1 from if_pos ⟨h, h6⟩, if_neg (Int32.not_lt.mpr h6)]
    · rw [show b2 (canS W T c S K O nl p w) = 0 from if_neg (fun q => h6 q.2), if_pos (Int32.not_le.mp h6)]
  · refine ⟨μ, ?_, FrL.rf μ⟩
    unfold f_days_canCross
    rw [e1, ob_e, if_pos (by rw [b2_0]; exact h)]
    unfold b2 canS
    rw [if_neg (fun q => h q.1)]
theorem s_days_cross {N : Nat} {μ c : sw_M} {F W T P : Nat} (hN : 5000 ≤ N) (hC : CW c F W T P) (hX : XR μ c) {S : Nat → Int32} (hS : WS F W T P S) (hD : DR μ 35 W T P S) {K O : Nat → Int32} {nl : Nat} (hL : XL μ K O nl) {p w : Nat} (hp : p < P) (hw : w < W) : ∃ μ', f_days_cross N μ (ic p) (ic w) = some (b2 (canS W T c S K O nl p w), μ') ∧ FrD 35 μ μ' ∧ DR μ' 35 W T P (if canS W T c S K O nl p w then crS W T c S K O nl p w else S) := by
  have hF' := hC.f8; have hW' := hC.w12; have hT' := hC.t6; have hP' := hC.p5
  have e1 := e_days_isOpenTo hN hC hX hS hD hp hw
  have e2 := at_e (N := N) (k := 40) (n := 5) (μ := μ) (show p < 5 by omega) (by decide)
  have a2 := hD.dr hp
  obtain ⟨μ5, h1, h2⟩ := e_days_tollOf hN hC hX hS hD hL hp hw
  by_cases h : opS c S p w
  · by_cases h6 : S (41 + p) + tolS W T c S K O nl p w ≤ 60
    · have hc : canS W T c S K O nl p w := ⟨h, h6⟩
      have f4 : (wr μ5 40 p (S (41 + p) + tolS W T c S K O nl p w)) 4 = c 4 := by rw [wr_nr (by decide), h2.1 4 (by decide) (by decide) (by decide)]; exact hX.r4
      have f5 : (wr μ5 40 p (S (41 + p) + tolS W T c S K O nl p w)) 5 = c 5 := by rw [wr_nr (by decide), h2.1 5 (by decide) (by decide) (by decide)]; exact hX.r5
      have fa : (wr μ5 40 p (S (41 + p) + tolS W T c S K O nl p w)) 39 p = S (36 + p) := by rw [wr_nr (by decide), h2.1 39 (by decide) (by decide) (by decide)]; exact hD.da hp
      have e3 := put_e (N := N) (k := 40) (n := 5) (μ := μ5) (show p < 5 by omega) (by decide) (S (41 + p) + tolS W T c S K O nl p w)
      have e4 := at_e (N := N) (k := 39) (n := 5) (μ := wr μ5 40 p (S (41 + p) + tolS W T c S K O nl p w)) (show p < 5 by omega) (by decide)
      have e5 := e_land_across (N := N) (w := w) (by omega) f4 f5 (S (36 + p))
      obtain ⟨o1, -⟩ := ot_e hC hw h.2
      have o2 : (if S (36 + p) = c 4 w then c 5 w else if S (36 + p) = c 5 w then c 4 w else -1) = otS c S p w := by
        rw [o1]
        by_cases q : S (36 + p) = c 4 w
        · rw [if_pos q, if_pos q]
        · rw [if_neg q, if_neg q, if_pos ((h.2.resolve_left (fun z => q z.symm)).symm)]
      have e6 := put_e (N := N) (k := 39) (n := 5) (μ := wr μ5 40 p (S (41 + p) + tolS W T c S K O nl p w)) (show p < 5 by omega) (by decide) (otS c S p w)
      refine ⟨_, by
        unfold f_days_cross
        rw [e1, ob_e, if_neg (by rw [b2_0]; exact fun q => q h), e2, ob_e, h1, ob_e, a2, ib_e, if_pos h6, e3, ob_e, e4, ob_e, fa, e5, ob_e, o2, e6, ob_e, wb_e, show b2 (canS W T c S K O nl p w) = 1 from if_pos hc], ((((h2.fd 35).wr _ (by decide) (by decide) (by decide)).wr _ (by decide) (by decide) (by decide)).wr _ (by decide) (by decide) (by decide)), ?_⟩
      rw [if_pos hc]
      have g0 := h2.1 35 (by decide) (by decide) (by decide); have g1 := h2.1 36 (by decide) (by decide) (by decide); have g2 := h2.1 37 (by decide) (by decide) (by decide); have g3 := h2.1 38 (by decide) (by decide) (by decide); have g4 := h2.1 39 (by decide) (by decide) (by decide); have g5 := h2.1 40 (by decide) (by decide) (by decide)
      refine ⟨⟨?_, ?_, ?_, ?_⟩, ?_, ?_, ?_, ?_, ?_⟩
      · rw [crS_48 (by omega) hT', ← hD.dh, ← g0]; rfl
      · rw [crS_46 (by omega) hT', ← hD.dp, ← g0]; rfl
      · rw [crS_47 (by omega) hT', ← hD.dx, ← g0]; rfl
      · rw [cutS_cg (S := S) (fun v hv => crS_lo (by omega) hT' (by omega)), ← hD.dc, ← g0]; rfl
      · intro v hv; rw [crS_lo (by omega) hT' (by omega), ← hD.dl hv, ← g1]; rfl
      · intro t ht; rw [crS_b (by omega) hT' (by omega), ← hD.db ht, ← g3]; rfl
      · intro t ht
        rw [crS_b (by omega) hT' (by omega), crS_t (by omega) hT' ht]
        intro z; rw [if_neg (by rw [z, m1_ic (by omega)]; exact id), ← hD.dt ht z, ← g2]; rfl
      · intro q hq
        rw [crS_a (by omega) hT' (by omega), wr_nr (by decide), wr_ap, if_pos rfl]
        by_cases z : q = p
        · rw [if_pos z, if_pos z]
        · rw [if_neg z, if_neg z, ← hD.da hq, wr_nr (by decide)]; exact congrFun g4 q
      · intro q hq
        rw [crS_r (by omega) hT' (by omega), wr_nr (by decide), wr_nr (by decide), wr_ap, if_pos rfl]
        by_cases z : q = p
        · rw [if_pos z, if_pos z]
        · rw [if_neg z, if_neg z, ← hD.dr hq]; exact congrFun g5 q
    · have hc : ¬ canS W T c S K O nl p w := fun q => h6 q.2
      refine ⟨μ5, by
        unfold f_days_cross
        rw [e1, ob_e, if_neg (by rw [b2_0]; exact fun q => q h), e2, ob_e, h1, ob_e, a2, ib_e, if_neg h6, show b2 (canS W T c S K O nl p w) = 0 from if_neg hc], h2.fd 35, ?_⟩
      rw [if_neg hc]; exact hD.fl h2 (by decide)
  · have hc : ¬ canS W T c S K O nl p w := fun q => h q.1
    refine ⟨μ, by
      unfold f_days_cross
      rw [e1, ob_e, if_pos (by rw [b2_0]; exact h), show b2 (canS W T c S K O nl p w) = 0 from if_neg hc], FrD.rf 35 μ, ?_⟩
    rw [if_neg hc]; exact hD
theorem s_days_lift {N : Nat} {μ c : sw_M} {F W T P : Nat} (hN : 5000 ≤ N) (hC : CW c F W T P) (hX : XR μ c) {S : Nat → Int32} (hS : WS F W T P S) (hD : DR μ 35 W T P S) {p t : Nat} (hp : p < P) (ht : t < T) : ∃ μ', f_days_lift N μ (ic p) (ic t) = some (b2 (lfC T c S p t), μ') ∧ FrD 35 μ μ' ∧ DR μ' 35 W T P (if lfC T c S p t then up S (30 + t) (ic p) else S) := by
  have hF' := hC.f8; have hW' := hC.w12; have hT' := hC.t6; have hP' := hC.p5
  have e1 := at_e (N := N) (k := 39) (n := 5) (μ := μ) (show p < 5 by omega) (by decide)
  have a1 := hD.da hp
  have e2 := e_days_lyingBits hN hC hX hS hD (S (36 + p))
  have e3 := has_e (N := N) (μ := μ) (lieB T S (S (36 + p))) (show t < 32 by omega)
  have e4 := at_e (N := N) (k := 8) (n := 6) (μ := μ) (show t < 6 by omega) (by decide)
  have e5 := e_days_freeOf hN hC hX hS hD hp
  have e6 := put_e (N := N) (k := 38) (n := 6) (μ := μ) (show t < 6 by omega) (by decide) (ic p)
  have r8 := hX.r8
  have e7 : (bt (lieB T S (S (36 + p))) t = true) = (S (30 + t) = -1 ∧ S (24 + t) = S (36 + p)) := by
    unfold lieB; rw [b_fo0 (fun t => S (30 + t) = -1 ∧ S (24 + t) = S (36 + p)) (by omega)]; simp [ht]
  have e8 : (c 8 t ≤ c 10 p - loadS T c S (ic p)) = (loadS T c S (ic p) + c 8 t ≤ c 10 p) := by
    obtain ⟨l, hl, hl2⟩ := load_b hC S (ic p)
    obtain ⟨a, x, -, hx1, hx2, -, cx⟩ := hC.2.2.2.1 t ht
    obtain ⟨a, y, -, hy1, hy2, -, cy⟩ := hC.2.2.2.2 p hp
    rw [cx, cy, hl2, ic_add, ic_le (by omega) (by omega)]
    by_cases q : l ≤ y
    · rw [ic_sub q, ic_le (by omega) (by omega)]; exact propext (by omega)
    · refine propext ⟨fun z => ?_, fun z => absurd z (by omega)⟩
      have := Int32.le_iff_toInt_le.mp z
      rw [ic_sub_toInt (by omega) (by omega), ic_toInt (by omega)] at this
      omega
  have e9 : f_days_lift N μ (ic p) (ic t) = some (b2 (lfC T c S p t), if lfC T c S p t then wr μ 38 t (ic p) else μ) := by
    unfold f_days_lift
    rw [e1, ob_e, a1, e2, ob_e, e3, ob_e]
    by_cases q1 : S (30 + t) = -1 ∧ S (24 + t) = S (36 + p)
    · rw [if_neg (by rw [b2_0, e7]; exact fun z => z q1), e4, ob_e, e5, ob_e, r8]
      by_cases q2 : loadS T c S (ic p) + c 8 t ≤ c 10 p
      · have q3 : lfC T c S p t := ⟨q1.1, q1.2, q2⟩
        rw [if_pos (by rw [e8]; exact q2), e6, ob_e, if_pos q3, show b2 (lfC T c S p t) = 1 from if_pos q3]
      · have q3 : ¬ lfC T c S p t := fun z => q2 z.2.2
        rw [if_neg (by rw [e8]; exact q2), if_neg q3, show b2 (lfC T c S p t) = 0 from if_neg q3]
    · have q3 : ¬ lfC T c S p t := fun z => q1 ⟨z.1, z.2.1⟩
      rw [if_pos (by rw [b2_0, e7]; exact q1), if_neg q3, show b2 (lfC T c S p t) = 0 from if_neg q3]
  refine ⟨_, e9, ?_, ?_⟩
  · split
    · exact (FrD.rf 35 μ).wr _ (by decide) (by decide) (by decide)
    · exact FrD.rf 35 μ
  · by_cases q3 : lfC T c S p t
    · rw [if_pos q3, if_pos q3]
      refine ⟨⟨?_, ?_, ?_, ?_⟩, ?_, ?_, ?_, ?_, ?_⟩
      · rw [up_n (by omega), ← hD.dh]; rfl
      · rw [up_n (by omega), ← hD.dp]; rfl
      · rw [up_n (by omega), ← hD.dx]; rfl
      · rw [cutS_cg (S := S) (fun v hv => up_n (by omega)), ← hD.dc]; rfl
      · intro v hv; rw [up_n (by omega), ← hD.dl hv]; rfl
      · intro v hv; rw [wr_ap, if_pos rfl, up_ap]
        by_cases z : v = t
        · rw [if_pos z, if_pos (by omega)]
        · rw [if_neg z, if_neg (by omega)]; exact hD.db hv
      · intro v hv z
        rw [up_ap] at z
        rw [up_n (by omega)]
        by_cases z2 : v = t
        · rw [if_pos (by omega), ic_m1 (by omega)] at z; exact z.elim
        · rw [if_neg (by omega)] at z
          rw [← hD.dt hv z]; rfl
      · intro v hv; rw [up_n (by omega), ← hD.da hv]; rfl
      · intro v hv; rw [up_n (by omega), ← hD.dr hv]; rfl
    · rw [if_neg q3, if_neg q3]; exact hD
theorem s_days_move {N : Nat} {μ c : sw_M} {F W T P : Nat} (hN : 5000 ≤ N) (hC : CW c F W T P) (hX : XR μ c) {S : Nat → Int32} (hS : WS F W T P S) (hD : DR μ 35 W T P S) {w m : Nat} (hw : w < W) (hm : m ≤ 1000) : ∃ μ', f_days_move N μ (ic w) (ic m) = some (b2 (mvC S w), μ') ∧ FrD 35 μ μ' ∧ DR μ' 35 W T P (if mvC S w then mvS S w (ic m) else S) := by
  have hF' := hC.f8; have hW' := hC.w12; have hT' := hC.t6; have hP' := hC.p5
  have e1 := at_e (N := N) (k := 36) (n := 12) (μ := μ) (show w < 12 by omega) (by decide)
  have a1 := hD.dl hw
  have e2 := e_days_isCut hN hC hX hS hD hw
  have e3 := e_days_isLive hN hC hX hS hD 0 hw
  obtain ⟨x, hx, ex⟩ := (hS.2.2.1 w hw).1
  have e4 := put_e (N := N) (k := 36) (n := 12) (μ := μ) (show w < 12 by omega) (by decide) (if S w + ic m ≤ 199 then S w + ic m else 199)
  have e5 : (if S w + ic m < 199 then S w + ic m else 199) = (if S w + ic m ≤ 199 then S w + ic m else 199) := by
    rw [ex, ic_add]
    simp (disch := omega) only [lt_lit, le_lit]
    by_cases q : x + m = 199
    · rw [if_neg (by omega), if_pos (by omega), q]; rfl
    · by_cases q2 : x + m < 199
      · rw [if_pos q2, if_pos (by omega)]
      · rw [if_neg q2, if_neg (by omega)]
  have e6 : (S w < 199) = ¬ S w = 199 := by
    rw [ex, lt_lit (by decide) (by omega), eq_lit (by decide) (by omega)]; exact propext (by omega)
  have e9 : f_days_move N μ (ic w) (ic m) = some (b2 (mvC S w), if mvC S w then wr μ 36 w (if S w + ic m ≤ 199 then S w + ic m else 199) else μ) := by
    unfold f_days_move
    rw [e1, ob_e, a1, e2, ob_e, e3]
    by_cases q1 : S (12 + w) = 1
    · have q3 : ¬ mvC S w := fun z => z.1 q1
      rw [if_neg (by rw [b2_0]; exact fun z => z q1), if_neg q3, show b2 (mvC S w) = 0 from if_neg q3]
    · rw [if_pos (by rw [b2_0]; exact q1), ob_e]
      by_cases q2 : lv S w 0 0
      · have q3 : ¬ mvC S w := fun z => z.2.1 q2
        rw [if_neg (by rw [b2_0]; exact fun z => z q2), if_neg q3, show b2 (mvC S w) = 0 from if_neg q3]
      · rw [if_pos (by rw [b2_0]; exact q2)]
        by_cases q4 : S w = 199
        · have q3 : ¬ mvC S w := fun z => z.2.2 q4
          rw [if_neg (by rw [e6]; exact fun z => z q4), if_neg q3, show b2 (mvC S w) = 0 from if_neg q3]
        · have q3 : mvC S w := ⟨q1, q2, q4⟩
          rw [if_pos (by rw [e6]; exact q4), e5, e4, ob_e, if_pos q3, show b2 (mvC S w) = 1 from if_pos q3]
  refine ⟨_, e9, ?_, ?_⟩
  · split
    · exact (FrD.rf 35 μ).wr _ (by decide) (by decide) (by decide)
    · exact FrD.rf 35 μ
  · by_cases q3 : mvC S w
    · rw [if_pos q3, if_pos q3]
      unfold mvS
      refine ⟨⟨?_, ?_, ?_, ?_⟩, ?_, ?_, ?_, ?_, ?_⟩
      · rw [up_n (by omega), ← hD.dh]; rfl
      · rw [up_n (by omega), ← hD.dp]; rfl
      · rw [up_n (by omega), ← hD.dx]; rfl
      · rw [cutS_cg (S := S) (fun v hv => up_n (by omega)), ← hD.dc]; rfl
      · intro v hv; rw [wr_ap, if_pos rfl, up_ap]
        by_cases z : v = w
        · rw [if_pos z, if_pos z]
        · rw [if_neg z, if_neg z]; exact hD.dl hv
      · intro v hv; rw [up_n (by omega), ← hD.db hv]; rfl
      · intro v hv z
        rw [up_n (by omega)] at z
        rw [up_n (by omega), ← hD.dt hv z]; rfl
      · intro v hv; rw [up_n (by omega), ← hD.da hv]; rfl
      · intro v hv; rw [up_n (by omega), ← hD.dr hv]; rfl
    · rw [if_neg q3, if_neg q3]; exact hD
theorem lp_days_passHour {N : Nat} {c : sw_M} {F W T P : Nat} (hC : CW c F W T P) : ∀ (j k : Nat) (μ : sw_M) (n : Nat), k + j = P → j < n → XR μ c → f_days_passHour_2 N n μ (ic k) = some (wr (wrR μ 40 (fun i => if k ≤ i ∧ i < k + j then (if 0 < μ 40 i - 5 then μ 40 i - 5 else 0) else μ 40 i)) 35 2 (μ 35 2 + 1))
  | 0, k, μ, n, h, hn, hX => by
    have hF' := hC.f8; have hW' := hC.w12; have hT' := hC.t6; have hP' := hC.p5; have nP := hX.nP hC
    obtain ⟨n, rfl⟩ := fu_s hn
    have e : (fun i => if k ≤ i ∧ i < k + 0 then (if 0 < μ 40 i - 5 then μ 40 i - 5 else 0) else μ 40 i) = μ 40 := by
      funext i; rw [if_neg (by omega)]
    rw [e, wrR_self]
    simp (disch := omega) only [f_days_passHour_2, nP, wb_e, ib_e, ibL_e, ob_e, nz4, inb_e, inb_lit, ic_n, n_lit, ic_1, lit_add, add_lit, lit_mul, mul_lit, ic_add, ic_mul, ic_le, ic_lt, ic_eq, lit_le, le_lit, lit_lt, lt_lit, lit_eq, eq_lit, ic_m1, m1_ic, ic_lt0, ic_0le, b2_0, b2_1, b2_bl, sh_e, Nat.not_lt_zero, Nat.zero_le, Nat.reduceEqDiff, Nat.reduceAdd, Nat.reduceMul, Nat.reduceSub, Nat.reduceLT, Nat.reduceLeDiff, reduceIte, ne_eq, not_false_eq_true, not_true_eq_false, if_true, if_false, Nat.zero_add]
    rw [if_pos (by omega)]
  | j + 1, k, μ, n, h, hn, hX => by
    have hF' := hC.f8; have hW' := hC.w12; have hT' := hC.t6; have hP' := hC.p5; have nP := hX.nP hC
    obtain ⟨n, rfl⟩ := fu_s (show 0 < n by omega)
    have ih := lp_days_passHour (N := N) hC j (k + 1) (wr μ 40 k (if 0 < μ 40 k - 5 then μ 40 k - 5 else 0)) n (by omega) (by omega) (hX.fr (fun a h1 h2 => wr_nr (by omega)))
    simp (disch := omega) only [f_days_passHour_2, nP, ih, wb_e, ib_e, ibL_e, ob_e, nz4, inb_e, inb_lit, ic_n, n_lit, ic_1, lit_add, add_lit, lit_mul, mul_lit, ic_add, ic_mul, ic_le, ic_lt, ic_eq, lit_le, le_lit, lit_lt, lt_lit, lit_eq, eq_lit, ic_m1, m1_ic, ic_lt0, ic_0le, b2_0, b2_1, b2_bl, sh_e, Nat.not_lt_zero, Nat.zero_le, Nat.reduceEqDiff, Nat.reduceAdd, Nat.reduceMul, Nat.reduceSub, Nat.reduceLT, Nat.reduceLeDiff, reduceIte, ne_eq, not_false_eq_true, not_true_eq_false, if_true, if_false, Nat.zero_add]
    rw [if_neg (by omega), wr_up μ 40 k, wrR_wrR, wrR_r, wrR_nr (by decide)]
    congr 3
    funext i
    by_cases e : i = k
    · subst e; rw [if_neg (show ¬ (i + 1 ≤ i ∧ i < i + 1 + j) by omega), up_s, if_pos (show i ≤ i ∧ i < i + (j + 1) by omega)]
    · rw [up_n e]
      by_cases e3 : k ≤ i ∧ i < k + (j + 1)
      · rw [if_pos e3, if_pos (by omega)]
      · rw [if_neg e3, if_neg (by omega)]
theorem s_days_passHour {N : Nat} {μ c : sw_M} {F W T P : Nat} (hN : 5000 ≤ N) (hC : CW c F W T P) (hX : XR μ c) {S : Nat → Int32} (hS : WS F W T P S) (hD : DR μ 35 W T P S) : ∃ μ', f_days_passHour N μ = some μ' ∧ FrD 35 μ μ' ∧ DR μ' 35 W T P (hrS P S) := by
  have hF' := hC.f8; have hW' := hC.w12; have hT' := hC.t6; have hP' := hC.p5
  have e := lp_days_passHour (N := N) hC P 0 μ N (by omega) (by omega) hX
  refine ⟨_, e, ⟨fun a q1 q2 q3 q4 => by rw [wr_nr (by omega), wrR_nr (by omega)], fun j hj => by rw [wr_nr (by decide), wrR_nr (by decide)]⟩, ⟨⟨?_, ?_, ?_, ?_⟩, ?_, ?_, ?_, ?_, ?_⟩⟩
  · rw [hrS_48 hP', ← hD.dh]; rfl
  · rw [hrS_46 hP', ← hD.dp]; rfl
  · rw [hrS_47 hP', ← hD.dx]; rfl
  · rw [cutS_cg (S := S) (fun v hv => hrS_lo (by omega)), ← hD.dc]; rfl
  · intro v hv; rw [hrS_lo (by omega), ← hD.dl hv]; rfl
  · intro v hv; rw [hrS_lo (by omega), ← hD.db hv]; rfl
  · intro v hv z
    rw [hrS_lo (by omega)] at z
    rw [hrS_lo (by omega), ← hD.dt hv z]; rfl
  · intro v hv; rw [hrS_lo (by omega), ← hD.da hv]; rfl
  · intro v hv
    rw [hrS_r hv hP', wr_nr (by decide), wrR_r, if_pos (by omega), hD.dr hv]
    obtain ⟨y, hy, ey⟩ := (hS.2.2.2.2 v hv).2
    rw [ey]
    simp (disch := omega) only [lit_le]
    by_cases q : 5 ≤ y
    · rw [if_pos q, show ic y - 5 = ic (y - 5) from ic_sub q]
      simp (disch := omega) only [lit_lt]
      by_cases q2 : y = 5
      · subst q2; rfl
      · rw [if_pos (by omega)]
    · rw [if_neg q]
      have : y = 0 ∨ y = 1 ∨ y = 2 ∨ y = 3 ∨ y = 4 := by omega
      rcases this with rfl | rfl | rfl | rfl | rfl <;> rfl
theorem e_dream_tollOf {N : Nat} {μ c : sw_M} {F W T P : Nat} (hN : 5000 ≤ N) (hC : CW c F W T P) (hX : XR μ c) {S : Nat → Int32} (hS : WS F W T P S) (hD : DR μ 57 W T P S) {K O : Nat → Int32} {nl : Nat} (hL : XL μ K O nl) {p w : Nat} (hp : p < P) (hw : w < W) : ∃ μ', f_dream_tollOf N μ (ic p) (ic w) = some (tolS W T c S K O nl p w, μ') ∧ FrL μ μ' := by
  have hF' := hC.f8; have hW' := hC.w12; have hT' := hC.t6; have hP' := hC.p5
  have e1 := at_e (N := N) (k := 61) (n := 5) (μ := μ) (show p < 5 by omega) (by decide)
  have e2 := e_dream_loadOf hN hC hX hS hD (ic p)
  have e3 := at_e (N := N) (k := 10) (n := 5) (μ := μ) (show p < 5 by omega) (by decide)
  have e4 := at_e (N := N) (k := 62) (n := 5) (μ := μ) (show p < 5 by omega) (by decide)
  have e5 := e_dream_hoursLeft hN hC hX hS hD hw
  have e6 := e_land_wiresAt hN hC hX (S (36 + p))
  have r10 := hX.r10
  obtain ⟨μ1, μ', h1, h2, h3⟩ := e_law_toll hN hL (loadS T c S (ic p)) (c 10 p) (S (41 + p)) (leftS S w) (S 48) (atN W c (S (36 + p))) (ic p)
  have a1 := hD.ea hp; have a2 := hD.er hp; have a3 := hD.eh
  refine ⟨μ', ?_, h3⟩
  simp only [f_dream_tollOf, e1, e2, e3, e4, e5, a1, a2, a3, r10, ob_e, e6, h1, h2]
  rfl
theorem e_dream_isOpenTo {N : Nat} {μ c : sw_M} {F W T P : Nat} (hN : 5000 ≤ N) (hC : CW c F W T P) (hX : XR μ c) {S : Nat → Int32} (hS : WS F W T P S) (hD : DR μ 57 W T P S) {p w : Nat} (hp : p < P) (hw : w < W) : f_dream_isOpenTo N μ (ic p) (ic w) = some (b2 (opS c S p w)) := by
  have hF' := hC.f8; have hW' := hC.w12; have hT' := hC.t6; have hP' := hC.p5
  have e1 := e_dream_isLive hN hC hX hS hD 0 hw
  have e2 := at_e (N := N) (k := 61) (n := 5) (μ := μ) (show p < 5 by omega) (by decide)
  have e3 := e_land_across (N := N) (μ := μ) (c := c) (w := w) (by omega) hX.r4 hX.r5 (S (36 + p))
  have a1 := hD.ea hp
  obtain ⟨a, b, x, ha, hb, hab, hx, ca, cb, -⟩ := hC.2.2.1 w hw
  have n1 : ¬ c 4 w = -1 := by rw [ca, ic_m1 (by omega)]; exact id
  have n2 : ¬ c 5 w = -1 := by rw [cb, ic_m1 (by omega)]; exact id
  simp only [f_dream_isOpenTo, e1, ob_e, e2, a1, e3, b2_0]
  unfold b2 opS
  grind
theorem s_dream_cross {N : Nat} {μ c : sw_M} {F W T P : Nat} (hN : 5000 ≤ N) (hC : CW c F W T P) (hX : XR μ c) {S : Nat → Int32} (hS : WS F W T P S) (hD : DR μ 57 W T P S) {K O : Nat → Int32} {nl : Nat} (hL : XL μ K O nl) {p w : Nat} (hp : p < P) (hw : w < W) : ∃ μ', f_dream_cross N μ (ic p) (ic w) = some (b2 (canS W T c S K O nl p w), μ') ∧ FrD 57 μ μ' ∧ DR μ' 57 W T P (if canS W T c S K O nl p w then crS W T c S K O nl p w else S) := by
  have hF' := hC.f8; have hW' := hC.w12; have hT' := hC.t6; have hP' := hC.p5
  have e1 := e_dream_isOpenTo hN hC hX hS hD hp hw
  have e2 := at_e (N := N) (k := 62) (n := 5) (μ := μ) (show p < 5 by omega) (by decide)
  have a2 := hD.er hp
  obtain ⟨μ5, h1, h2⟩ := e_dream_tollOf hN hC hX hS hD hL hp hw
  by_cases h : opS c S p w
  · by_cases h6 : S (41 + p) + tolS W T c S K O nl p w ≤ 60
    · have hc : canS W T c S K O nl p w := ⟨h, h6⟩
      have f4 : (wr μ5 62 p (S (41 + p) + tolS W T c S K O nl p w)) 4 = c 4 := by rw [wr_nr (by decide), h2.1 4 (by decide) (by decide) (by decide)]; exact hX.r4
      have f5 : (wr μ5 62 p (S (41 + p) + tolS W T c S K O nl p w)) 5 = c 5 := by rw [wr_nr (by decide), h2.1 5 (by decide) (by decide) (by decide)]; exact hX.r5
      have fa : (wr μ5 62 p (S (41 + p) + tolS W T c S K O nl p w)) 61 p = S (36 + p) := by rw [wr_nr (by decide), h2.1 61 (by decide) (by decide) (by decide)]; exact hD.ea hp
      have e3 := put_e (N := N) (k := 62) (n := 5) (μ := μ5) (show p < 5 by omega) (by decide) (S (41 + p) + tolS W T c S K O nl p w)
      have e4 := at_e (N := N) (k := 61) (n := 5) (μ := wr μ5 62 p (S (41 + p) + tolS W T c S K O nl p w)) (show p < 5 by omega) (by decide)
      have e5 := e_land_across (N := N) (w := w) (by omega) f4 f5 (S (36 + p))
      obtain ⟨o1, -⟩ := ot_e hC hw h.2
      have o2 : (if S (36 + p) = c 4 w then c 5 w else if S (36 + p) = c 5 w then c 4 w else -1) = otS c S p w := by
        rw [o1]
        by_cases q : S (36 + p) = c 4 w
        · rw [if_pos q, if_pos q]
        · rw [if_neg q, if_neg q, if_pos ((h.2.resolve_left (fun z => q z.symm)).symm)]
      have e6 := put_e (N := N) (k := 61) (n := 5) (μ := wr μ5 62 p (S (41 + p) + tolS W T c S K O nl p w)) (show p < 5 by omega) (by decide) (otS c S p w)
      refine ⟨_, by
        unfold f_dream_cross
        rw [e1, ob_e, if_neg (by rw [b2_0]; exact fun q => q h), e2, ob_e, h1, ob_e, a2, ib_e, if_pos h6, e3, ob_e, e4, ob_e, fa, e5, ob_e, o2, e6, ob_e, wb_e, show b2 (canS W T c S K O nl p w) = 1 from if_pos hc], ((((h2.fd 57).wr _ (by decide) (by decide) (by decide)).wr _ (by decide) (by decide) (by decide)).wr _ (by decide) (by decide) (by decide)), ?_⟩
      rw [if_pos hc]
      have g0 := h2.1 57 (by decide) (by decide) (by decide); have g1 := h2.1 58 (by decide) (by decide) (by decide); have g2 := h2.1 59 (by decide) (by decide) (by decide); have g3 := h2.1 60 (by decide) (by decide) (by decide); have g4 := h2.1 61 (by decide) (by decide) (by decide); have g5 := h2.1 62 (by decide) (by decide) (by decide)
      refine ⟨⟨?_, ?_, ?_, ?_⟩, ?_, ?_, ?_, ?_, ?_⟩
      · rw [crS_48 (by omega) hT', ← hD.eh, ← g0]; rfl
      · rw [crS_46 (by omega) hT', ← hD.ep, ← g0]; rfl
      · rw [crS_47 (by omega) hT', ← hD.ex, ← g0]; rfl
      · rw [cutS_cg (S := S) (fun v hv => crS_lo (by omega) hT' (by omega)), ← hD.ec, ← g0]; rfl
      · intro v hv; rw [crS_lo (by omega) hT' (by omega), ← hD.el hv, ← g1]; rfl
      · intro t ht; rw [crS_b (by omega) hT' (by omega), ← hD.eb ht, ← g3]; rfl
      · intro t ht
        rw [crS_b (by omega) hT' (by omega), crS_t (by omega) hT' ht]
        intro z; rw [if_neg (by rw [z, m1_ic (by omega)]; exact id), ← hD.et ht z, ← g2]; rfl
      · intro q hq
        rw [crS_a (by omega) hT' (by omega), wr_nr (by decide), wr_ap, if_pos rfl]
        by_cases z : q = p
        · rw [if_pos z, if_pos z]
        · rw [if_neg z, if_neg z, ← hD.ea hq, wr_nr (by decide)]; exact congrFun g4 q
      · intro q hq
        rw [crS_r (by omega) hT' (by omega), wr_nr (by decide), wr_nr (by decide), wr_ap, if_pos rfl]
        by_cases z : q = p
        · rw [if_pos z, if_pos z]
        · rw [if_neg z, if_neg z, ← hD.er hq]; exact congrFun g5 q
    · have hc : ¬ canS W T c S K O nl p w := fun q => h6 q.2
      refine ⟨μ5, by
        unfold f_dream_cross
        rw [e1, ob_e, if_neg (by rw [b2_0]; exact fun q => q h), e2, ob_e, h1, ob_e, a2, ib_e, if_neg h6, show b2 (canS W T c S K O nl p w) = 0 from if_neg hc], h2.fd 57, ?_⟩
      rw [if_neg hc]; exact hD.fl h2 (by decide)
  · have hc : ¬ canS W T c S K O nl p w := fun q => h q.1
    refine ⟨μ, by
      unfold f_dream_cross
      rw [e1, ob_e, if_pos (by rw [b2_0]; exact h), show b2 (canS W T c S K O nl p w) = 0 from if_neg hc], FrD.rf 57 μ, ?_⟩
    rw [if_neg hc]; exact hD
theorem s_dream_lift {N : Nat} {μ c : sw_M} {F W T P : Nat} (hN : 5000 ≤ N) (hC : CW c F W T P) (hX : XR μ c) {S : Nat → Int32} (hS : WS F W T P S) (hD : DR μ 57 W T P S) {p t : Nat} (hp : p < P) (ht : t < T) : ∃ μ', f_dream_lift N μ (ic p) (ic t) = some (b2 (lfC T c S p t), μ') ∧ FrD 57 μ μ' ∧ DR μ' 57 W T P (if lfC T c S p t then up S (30 + t) (ic p) else S) := by
  have hF' := hC.f8; have hW' := hC.w12; have hT' := hC.t6; have hP' := hC.p5
  have e1 := at_e (N := N) (k := 61) (n := 5) (μ := μ) (show p < 5 by omega) (by decide)
  have a1 := hD.ea hp
  have e2 := e_dream_lyingBits hN hC hX hS hD (S (36 + p))
  have e3 := has_e (N := N) (μ := μ) (lieB T S (S (36 + p))) (show t < 32 by omega)
  have e4 := at_e (N := N) (k := 8) (n := 6) (μ := μ) (show t < 6 by omega) (by decide)
  have e5 := e_dream_freeOf hN hC hX hS hD hp
  have e6 := put_e (N := N) (k := 60) (n := 6) (μ := μ) (show t < 6 by omega) (by decide) (ic p)
  have r8 := hX.r8
  have e7 : (bt (lieB T S (S (36 + p))) t = true) = (S (30 + t) = -1 ∧ S (24 + t) = S (36 + p)) := by
    unfold lieB; rw [b_fo0 (fun t => S (30 + t) = -1 ∧ S (24 + t) = S (36 + p)) (by omega)]; simp [ht]
  have e8 : (c 8 t ≤ c 10 p - loadS T c S (ic p)) = (loadS T c S (ic p) + c 8 t ≤ c 10 p) := by
    obtain ⟨l, hl, hl2⟩ := load_b hC S (ic p)
    obtain ⟨a, x, -, hx1, hx2, -, cx⟩ := hC.2.2.2.1 t ht
    obtain ⟨a, y, -, hy1, hy2, -, cy⟩ := hC.2.2.2.2 p hp
    rw [cx, cy, hl2, ic_add, ic_le (by omega) (by omega)]
    by_cases q : l ≤ y
    · rw [ic_sub q, ic_le (by omega) (by omega)]; exact propext (by omega)
    · refine propext ⟨fun z => ?_, fun z => absurd z (by omega)⟩
      have := Int32.le_iff_toInt_le.mp z
      rw [ic_sub_toInt (by omega) (by omega), ic_toInt (by omega)] at this
      omega
  have e9 : f_dream_lift N μ (ic p) (ic t) = some (b2 (lfC T c S p t), if lfC T c S p t then wr μ 60 t (ic p) else μ) := by
    unfold f_dream_lift
    rw [e1, ob_e, a1, e2, ob_e, e3, ob_e]
    by_cases q1 : S (30 + t) = -1 ∧ S (24 + t) = S (36 + p)
    · rw [if_neg (by rw [b2_0, e7]; exact fun z => z q1), e4, ob_e, e5, ob_e, r8]
      by_cases q2 : loadS T c S (ic p) + c 8 t ≤ c 10 p
      · have q3 : lfC T c S p t := ⟨q1.1, q1.2, q2⟩
        rw [if_pos (by rw [e8]; exact q2), e6, ob_e, if_pos q3, show b2 (lfC T c S p t) = 1 from if_pos q3]
      · have q3 : ¬ lfC T c S p t := fun z => q2 z.2.2
        rw [if_neg (by rw [e8]; exact q2), if_neg q3, show b2 (lfC T c S p t) = 0 from if_neg q3]
    · have q3 : ¬ lfC T c S p t := fun z => q1 ⟨z.1, z.2.1⟩
      rw [if_pos (by rw [b2_0, e7]; exact q1), if_neg q3, show b2 (lfC T c S p t) = 0 from if_neg q3]
  refine ⟨_, e9, ?_, ?_⟩
  · split
    · exact (FrD.rf 57 μ).wr _ (by decide) (by decide) (by decide)
    · exact FrD.rf 57 μ
  · by_cases q3 : lfC T c S p t
    · rw [if_pos q3, if_pos q3]
      refine ⟨⟨?_, ?_, ?_, ?_⟩, ?_, ?_, ?_, ?_, ?_⟩
      · rw [up_n (by omega), ← hD.eh]; rfl
      · rw [up_n (by omega), ← hD.ep]; rfl
      · rw [up_n (by omega), ← hD.ex]; rfl
      · rw [cutS_cg (S := S) (fun v hv => up_n (by omega)), ← hD.ec]; rfl
      · intro v hv; rw [up_n (by omega), ← hD.el hv]; rfl
      · intro v hv; rw [wr_ap, if_pos rfl, up_ap]
        by_cases z : v = t
        · rw [if_pos z, if_pos (by omega)]
        · rw [if_neg z, if_neg (by omega)]; exact hD.eb hv
      · intro v hv z
        rw [up_ap] at z
        rw [up_n (by omega)]
        by_cases z2 : v = t
        · rw [if_pos (by omega), ic_m1 (by omega)] at z; exact z.elim
        · rw [if_neg (by omega)] at z
          rw [← hD.et hv z]; rfl
      · intro v hv; rw [up_n (by omega), ← hD.ea hv]; rfl
      · intro v hv; rw [up_n (by omega), ← hD.er hv]; rfl
    · rw [if_neg q3, if_neg q3]; exact hD
theorem s_dream_move {N : Nat} {μ c : sw_M} {F W T P : Nat} (hN : 5000 ≤ N) (hC : CW c F W T P) (hX : XR μ c) {S : Nat → Int32} (hS : WS F W T P S) (hD : DR μ 57 W T P S) {w m : Nat} (hw : w < W) (hm : m ≤ 1000) : ∃ μ', f_dream_move N μ (ic w) (ic m) = some (b2 (mvC S w), μ') ∧ FrD 57 μ μ' ∧ DR μ' 57 W T P (if mvC S w then mvS S w (ic m) else S) := by
  have hF' := hC.f8; have hW' := hC.w12; have hT' := hC.t6; have hP' := hC.p5
  have e1 := at_e (N := N) (k := 58) (n := 12) (μ := μ) (show w < 12 by omega) (by decide)
  have a1 := hD.el hw
  have e2 := e_dream_isCut hN hC hX hS hD hw
  have e3 := e_dream_isLive hN hC hX hS hD 0 hw
  obtain ⟨x, hx, ex⟩ := (hS.2.2.1 w hw).1
  have e4 := put_e (N := N) (k := 58) (n := 12) (μ := μ) (show w < 12 by omega) (by decide) (if S w + ic m ≤ 199 then S w + ic m else 199)
  have e5 : (if S w + ic m < 199 then S w + ic m else 199) = (if S w + ic m ≤ 199 then S w + ic m else 199) := by
    rw [ex, ic_add]
    simp (disch := omega) only [lt_lit, le_lit]
    by_cases q : x + m = 199
    · rw [if_neg (by omega), if_pos (by omega), q]; rfl
    · by_cases q2 : x + m < 199
      · rw [if_pos q2, if_pos (by omega)]
      · rw [if_neg q2, if_neg (by omega)]
  have e6 : (S w < 199) = ¬ S w = 199 := by
    rw [ex, lt_lit (by decide) (by omega), eq_lit (by decide) (by omega)]; exact propext (by omega)
  have e9 : f_dream_move N μ (ic w) (ic m) = some (b2 (mvC S w), if mvC S w then wr μ 58 w (if S w + ic m ≤ 199 then S w + ic m else 199) else μ) := by
    unfold f_dream_move
    rw [e1, ob_e, a1, e2, ob_e, e3]
    by_cases q1 : S (12 + w) = 1
    · have q3 : ¬ mvC S w := fun z => z.1 q1
      rw [if_neg (by rw [b2_0]; exact fun z => z q1), if_neg q3, show b2 (mvC S w) = 0 from if_neg q3]
    · rw [if_pos (by rw [b2_0]; exact q1), ob_e]
      by_cases q2 : lv S w 0 0
      · have q3 : ¬ mvC S w := fun z => z.2.1 q2
        rw [if_neg (by rw [b2_0]; exact fun z => z q2), if_neg q3, show b2 (mvC S w) = 0 from if_neg q3]
      · rw [if_pos (by rw [b2_0]; exact q2)]
        by_cases q4 : S w = 199
        · have q3 : ¬ mvC S w := fun z => z.2.2 q4
          rw [if_neg (by rw [e6]; exact fun z => z q4), if_neg q3, show b2 (mvC S w) = 0 from if_neg q3]
        · have q3 : mvC S w := ⟨q1, q2, q4⟩
          rw [if_pos (by rw [e6]; exact q4), e5, e4, ob_e, if_pos q3, show b2 (mvC S w) = 1 from if_pos q3]
  refine ⟨_, e9, ?_, ?_⟩
  · split
    · exact (FrD.rf 57 μ).wr _ (by decide) (by decide) (by decide)
    · exact FrD.rf 57 μ
  · by_cases q3 : mvC S w
    · rw [if_pos q3, if_pos q3]
      unfold mvS
      refine ⟨⟨?_, ?_, ?_, ?_⟩, ?_, ?_, ?_, ?_, ?_⟩
      · rw [up_n (by omega), ← hD.eh]; rfl
      · rw [up_n (by omega), ← hD.ep]; rfl
      · rw [up_n (by omega), ← hD.ex]; rfl
      · rw [cutS_cg (S := S) (fun v hv => up_n (by omega)), ← hD.ec]; rfl
      · intro v hv; rw [wr_ap, if_pos rfl, up_ap]
        by_cases z : v = w
        · rw [if_pos z, if_pos z]
        · rw [if_neg z, if_neg z]; exact hD.el hv
      · intro v hv; rw [up_n (by omega), ← hD.eb hv]; rfl
      · intro v hv z
        rw [up_n (by omega)] at z
        rw [up_n (by omega), ← hD.et hv z]; rfl
      · intro v hv; rw [up_n (by omega), ← hD.ea hv]; rfl
      · intro v hv; rw [up_n (by omega), ← hD.er hv]; rfl
    · rw [if_neg q3, if_neg q3]; exact hD
theorem lp_dream_passHour {N : Nat} {c : sw_M} {F W T P : Nat} (hC : CW c F W T P) : ∀ (j k : Nat) (μ : sw_M) (n : Nat), k + j = P → j < n → XR μ c → f_dream_passHour_2 N n μ (ic k) = some (wr (wrR μ 62 (fun i => if k ≤ i ∧ i < k + j then (if 0 < μ 62 i - 5 then μ 62 i - 5 else 0) else μ 62 i)) 57 2 (μ 57 2 + 1))
  | 0, k, μ, n, h, hn, hX => by
    have hF' := hC.f8; have hW' := hC.w12; have hT' := hC.t6; have hP' := hC.p5; have nP := hX.nP hC
    obtain ⟨n, rfl⟩ := fu_s hn
    have e : (fun i => if k ≤ i ∧ i < k + 0 then (if 0 < μ 62 i - 5 then μ 62 i - 5 else 0) else μ 62 i) = μ 62 := by
      funext i; rw [if_neg (by omega)]
    rw [e, wrR_self]
    simp (disch := omega) only [f_dream_passHour_2, nP, wb_e, ib_e, ibL_e, ob_e, nz4, inb_e, inb_lit, ic_n, n_lit, ic_1, lit_add, add_lit, lit_mul, mul_lit, ic_add, ic_mul, ic_le, ic_lt, ic_eq, lit_le, le_lit, lit_lt, lt_lit, lit_eq, eq_lit, ic_m1, m1_ic, ic_lt0, ic_0le, b2_0, b2_1, b2_bl, sh_e, Nat.not_lt_zero, Nat.zero_le, Nat.reduceEqDiff, Nat.reduceAdd, Nat.reduceMul, Nat.reduceSub, Nat.reduceLT, Nat.reduceLeDiff, reduceIte, ne_eq, not_false_eq_true, not_true_eq_false, if_true, if_false, Nat.zero_add]
    rw [if_pos (by omega)]
  | j + 1, k, μ, n, h, hn, hX => by
    have hF' := hC.f8; have hW' := hC.w12; have hT' := hC.t6; have hP' := hC.p5; have nP := hX.nP hC
    obtain ⟨n, rfl⟩ := fu_s (show 0 < n by omega)
    have ih := lp_dream_passHour (N := N) hC j (k + 1) (wr μ 62 k (if 0 < μ 62 k - 5 then μ 62 k - 5 else 0)) n (by omega) (by omega) (hX.fr (fun a h1 h2 => wr_nr (by omega)))
    simp (disch := omega) only [f_dream_passHour_2, nP, ih, wb_e, ib_e, ibL_e, ob_e, nz4, inb_e, inb_lit, ic_n, n_lit, ic_1, lit_add, add_lit, lit_mul, mul_lit, ic_add, ic_mul, ic_le, ic_lt, ic_eq, lit_le, le_lit, lit_lt, lt_lit, lit_eq, eq_lit, ic_m1, m1_ic, ic_lt0, ic_0le, b2_0, b2_1, b2_bl, sh_e, Nat.not_lt_zero, Nat.zero_le, Nat.reduceEqDiff, Nat.reduceAdd, Nat.reduceMul, Nat.reduceSub, Nat.reduceLT, Nat.reduceLeDiff, reduceIte, ne_eq, not_false_eq_true, not_true_eq_false, if_true, if_false, Nat.zero_add]
    rw [if_neg (by omega), wr_up μ 62 k, wrR_wrR, wrR_r, wrR_nr (by decide)]
    congr 3
    funext i
    by_cases e : i = k
    · subst e; rw [if_neg (show ¬ (i + 1 ≤ i ∧ i < i + 1 + j) by omega), up_s, if_pos (show i ≤ i ∧ i < i + (j + 1) by omega)]
    · rw [up_n e]
      by_cases e3 : k ≤ i ∧ i < k + (j + 1)
      · rw [if_pos e3, if_pos (by omega)]
      · rw [if_neg e3, if_neg (by omega)]
theorem s_dream_passHour {N : Nat} {μ c : sw_M} {F W T P : Nat} (hN : 5000 ≤ N) (hC : CW c F W T P) (hX : XR μ c) {S : Nat → Int32} (hS : WS F W T P S) (hD : DR μ 57 W T P S) : ∃ μ', f_dream_passHour N μ = some μ' ∧ FrD 57 μ μ' ∧ DR μ' 57 W T P (hrS P S) := by
  have hF' := hC.f8; have hW' := hC.w12; have hT' := hC.t6; have hP' := hC.p5
  have e := lp_dream_passHour (N := N) hC P 0 μ N (by omega) (by omega) hX
  refine ⟨_, e, ⟨fun a q1 q2 q3 q4 => by rw [wr_nr (by omega), wrR_nr (by omega)], fun j hj => by rw [wr_nr (by decide), wrR_nr (by decide)]⟩, ⟨⟨?_, ?_, ?_, ?_⟩, ?_, ?_, ?_, ?_, ?_⟩⟩
  · rw [hrS_48 hP', ← hD.eh]; rfl
  · rw [hrS_46 hP', ← hD.ep]; rfl
  · rw [hrS_47 hP', ← hD.ex]; rfl
  · rw [cutS_cg (S := S) (fun v hv => hrS_lo (by omega)), ← hD.ec]; rfl
  · intro v hv; rw [hrS_lo (by omega), ← hD.el hv]; rfl
  · intro v hv; rw [hrS_lo (by omega), ← hD.eb hv]; rfl
  · intro v hv z
    rw [hrS_lo (by omega)] at z
    rw [hrS_lo (by omega), ← hD.et hv z]; rfl
  · intro v hv; rw [hrS_lo (by omega), ← hD.ea hv]; rfl
  · intro v hv
    rw [hrS_r hv hP', wr_nr (by decide), wrR_r, if_pos (by omega), hD.er hv]
    obtain ⟨y, hy, ey⟩ := (hS.2.2.2.2 v hv).2
    rw [ey]
    simp (disch := omega) only [lit_le]
    by_cases q : 5 ≤ y
    · rw [if_pos q, show ic y - 5 = ic (y - 5) from ic_sub q]
      simp (disch := omega) only [lit_lt]
      by_cases q2 : y = 5
      · subst q2; rfl
      · rw [if_pos (by omega)]
    · rw [if_neg q]
      have : y = 0 ∨ y = 1 ∨ y = 2 ∨ y = 3 ∨ y = 4 := by omega
      rcases this with rfl | rfl | rfl | rfl | rfl <;> rfl
