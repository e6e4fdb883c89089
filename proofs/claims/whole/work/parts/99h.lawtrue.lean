/-! ===== printed by wip/whole/gen99g.py: every call of the script keeps Inv, both sides alike ===== -/
theorem ls_ok {α : Type} {N : Nat} {M : sw_M → Option (α × sw_M)} {L : Option (Int32 × sw_M × sw_N)} {ν : sw_N} (g : α → Int64) {v : α} {μ1 μ2 : sw_M} (hL : L = some (0, μ1, wrL ν 87 0 (g v))) (hm : M μ1 = some (v, μ2)) (h0 : μ2 63 0 = 0) (hI : Inv μ2) :
    ∃ (μ' : sw_M) (ν' : sw_N), (∃ (rq : Int32 × sw_M × sw_N) (rm : α × sw_M) (rt : Int32), (L = some rq) ∧ (M rq.2.1 = some rm) ∧ (f_m_thrown N rm.2 = some rt) ∧ (rt = rq.1) ∧ (rq.1 = 0 → rq.2.2 87 0 = g rm.1) ∧ μ' = rm.2 ∧ ν' = rq.2.2) ∧ Inv μ' :=
  ⟨μ2, _, ⟨(0, μ1, wrL ν 87 0 (g v)), (v, μ2), 0, hL, hm, by show some (μ2 63 0) = _; rw [h0], rfl, fun _ => rfl, rfl, rfl⟩, hI⟩
theorem ls_no {α : Type} {N : Nat} {M : sw_M → Option (α × sw_M)} {L : Option (Int32 × sw_M × sw_N)} {ν : sw_N} (g : α → Int64) {t : Int32} {v : α} {μ1 μ2 : sw_M} (hL : L = some (t, μ1, ν)) (ht : ¬ t = 0) (hm : M μ1 = some (v, μ2)) (h0 : μ2 63 0 = t) (hI : Inv μ2) :
    ∃ (μ' : sw_M) (ν' : sw_N), (∃ (rq : Int32 × sw_M × sw_N) (rm : α × sw_M) (rt : Int32), (L = some rq) ∧ (M rq.2.1 = some rm) ∧ (f_m_thrown N rm.2 = some rt) ∧ (rt = rq.1) ∧ (rq.1 = 0 → rq.2.2 87 0 = g rm.1) ∧ μ' = rm.2 ∧ ν' = rq.2.2) ∧ Inv μ' :=
  ⟨μ2, _, ⟨(t, μ1, ν), (v, μ2), t, hL, hm, by show some (μ2 63 0) = _; rw [h0], rfl, fun z => absurd z ht, rfl, rfl⟩, hI⟩
theorem ls_if {c : Prop} [Decidable c] {A B : sw_M → sw_N → Prop} (h1 : c → ∃ μ' ν', A μ' ν' ∧ Inv μ') (h2 : ¬ c → ∃ μ' ν', B μ' ν' ∧ Inv μ') : ∃ μ' ν', (if c then A μ' ν' else B μ' ν') ∧ Inv μ' := by
  by_cases h : c
  · obtain ⟨μ', ν', a, b⟩ := h1 h; exact ⟨μ', ν', by rw [if_pos h]; exact a, b⟩
  · obtain ⟨μ', ν', a, b⟩ := h2 h; exact ⟨μ', ν', by rw [if_neg h]; exact a, b⟩
theorem st_ne : ¬ "java/lang/IllegalArgumentException" = "java/util/NoSuchElementException" := by decide
section
variable {N : Nat} {μ : sw_M}
theorem ls_0 (hN : 5000 ≤ N) (hI : Inv μ) (ν : sw_N) (a1 a2 a3 a4 a5 : Int32) : ∃ (μ' : sw_M) (ν' : sw_N), (∃ (rx : Int32 × sw_M) (rm : Int32 × sw_M), (f_x_feed N μ a1 a2 a3 a4 a5 = some rx) ∧ (f_m_feed N rx.2 a1 a2 a3 a4 a5 = some rm) ∧ (rx.1 = rm.1) ∧ μ' = rm.2 ∧ ν' = ν) ∧ Inv μ' := by
  obtain ⟨v, μ1, μ2, h1, h2, h3⟩ := op_feed hN hI a1 a2 a3 a4 a5
  exact ⟨μ2, ν, ⟨(v, μ1), (v, μ2), h1, h2, rfl, rfl, rfl⟩, h3⟩
theorem ls_1 (hN : 5000 ≤ N) (hI : Inv μ) (ν : sw_N) (a1 : Int32) : ∃ (μ' : sw_M) (ν' : sw_N), (∃ (rq : Int32 × sw_M × sw_N) (rm : Int32 × sw_M) (rt : Int32), (f_L_country N μ ν a1 = some rq) ∧ (f_m_country N rq.2.1 a1 = some rm) ∧ (f_m_thrown N rm.2 = some rt) ∧ (rt = rq.1) ∧ (rq.1 = 0 → rq.2.2 87 0 = rm.1.toInt64) ∧ μ' = rm.2 ∧ ν' = rq.2.2) ∧ Inv μ' := by
  rcases op_country hN hI a1 with ⟨v, μ1, μ2, hx, hm, h0, hJ⟩ | ⟨μ1, b, μ2, hx, hm, h0, hJ⟩
  · exact ls_ok (M := fun μ1 => f_m_country N μ1 a1) (fun v : Int32 => v.toInt64) (by unfold f_L_country; rw [hx]) hm h0 hJ
  · exact ls_no (M := fun μ1 => f_m_country N μ1 a1) (fun v : Int32 => v.toInt64) (by unfold f_L_country; rw [hx]; exact if_pos rfl) (by decide) hm h0 hJ
theorem ls_2 (hN : 5000 ≤ N) (hI : Inv μ) (ν : sw_N) (a1 : Int32) : ∃ (μ' : sw_M) (ν' : sw_N), (∃ (rq : Int32 × sw_M × sw_N) (rm : Int32 × sw_M) (rt : Int32), (f_L_law N μ ν a1 = some rq) ∧ (f_m_law N rq.2.1 a1 = some rm) ∧ (f_m_thrown N rm.2 = some rt) ∧ (rt = rq.1) ∧ (rq.1 = 0 → rq.2.2 87 0 = rm.1.toInt64) ∧ μ' = rm.2 ∧ ν' = rq.2.2) ∧ Inv μ' := by
  rcases op_law hN hI a1 with ⟨v, μ1, μ2, hx, hm, h0, hJ⟩ | ⟨μ1, b, μ2, hx, hm, h0, hJ⟩
  · exact ls_ok (M := fun μ1 => f_m_law N μ1 a1) (fun v : Int32 => v.toInt64) (by unfold f_L_law; rw [hx]) hm h0 hJ
  · exact ls_no (M := fun μ1 => f_m_law N μ1 a1) (fun v : Int32 => v.toInt64) (by unfold f_L_law; rw [hx]; exact if_pos rfl) (by decide) hm h0 hJ
theorem ls_3 (hN : 5000 ≤ N) (hI : Inv μ) (ν : sw_N) (a1 : Int32) : ∃ (μ' : sw_M) (ν' : sw_N), (∃ (rq : Int32 × sw_M × sw_N) (rm : Int32 × sw_M) (rt : Int32), (f_L_work N μ ν a1 = some rq) ∧ (f_m_work N rq.2.1 a1 = some rm) ∧ (f_m_thrown N rm.2 = some rt) ∧ (rt = rq.1) ∧ (rq.1 = 0 → rq.2.2 87 0 = rm.1.toInt64) ∧ μ' = rm.2 ∧ ν' = rq.2.2) ∧ Inv μ' := by
  rcases op_work hN hI a1 with ⟨v, μ1, μ2, hx, hm, h0, hJ⟩ | ⟨μ1, b, μ2, hx, hm, h0, hJ⟩
  · exact ls_ok (M := fun μ1 => f_m_work N μ1 a1) (fun v : Int32 => v.toInt64) (by unfold f_L_work; rw [hx]) hm h0 hJ
  · exact ls_no (M := fun μ1 => f_m_work N μ1 a1) (fun v : Int32 => v.toInt64) (by unfold f_L_work; rw [hx]; exact if_pos rfl) (by decide) hm h0 hJ
theorem ls_4 (hN : 5000 ≤ N) (hI : Inv μ) (ν : sw_N) (a1 : Int32) : ∃ (μ' : sw_M) (ν' : sw_N), (∃ (rq : Int32 × sw_M × sw_N) (rm : Int32 × sw_M) (rt : Int32), (f_L_book N μ ν a1 = some rq) ∧ (f_m_book N rq.2.1 a1 = some rm) ∧ (f_m_thrown N rm.2 = some rt) ∧ (rt = rq.1) ∧ (rq.1 = 0 → rq.2.2 87 0 = rm.1.toInt64) ∧ μ' = rm.2 ∧ ν' = rq.2.2) ∧ Inv μ' := by
  rcases op_book hN hI a1 with ⟨v, μ1, μ2, hx, hm, h0, hJ⟩ | ⟨μ1, b, μ2, hx, hm, h0, hJ⟩
  · exact ls_ok (M := fun μ1 => f_m_book N μ1 a1) (fun v : Int32 => v.toInt64) (by unfold f_L_book; rw [hx]) hm h0 hJ
  · exact ls_no (M := fun μ1 => f_m_book N μ1 a1) (fun v : Int32 => v.toInt64) (by unfold f_L_book; rw [hx]; exact if_pos rfl) (by decide) hm h0 hJ
theorem ls_5 (hN : 5000 ≤ N) (hI : Inv μ) (ν : sw_N) : ∃ (μ' : sw_M) (ν' : sw_N), (∃ (rx : Int32) (rm : Int32 × sw_M), (f_x_fault N μ  = some rx) ∧ (f_m_fault N μ  = some rm) ∧ (rx = rm.1) ∧ μ' = rm.2 ∧ ν' = ν) ∧ Inv μ' := by
  obtain ⟨v, μ2, h1, h2, h3⟩ := op_fault hI
  exact ⟨μ2, ν, ⟨v, (v, μ2), h1, h2, rfl, rfl, rfl⟩, h3⟩
theorem ls_6 (hN : 5000 ≤ N) (hI : Inv μ) (ν : sw_N) : ∃ (μ' : sw_M) (ν' : sw_N), (∃ (rx : Int32 × sw_M) (rm : Int32 × sw_M), (f_x_undo N μ  = some rx) ∧ (f_m_undo N rx.2  = some rm) ∧ (rx.1 = rm.1) ∧ μ' = rm.2 ∧ ν' = ν) ∧ Inv μ' := by
  obtain ⟨v, μ1, μ2, h1, h2, h3⟩ := op_undo hN hI
  exact ⟨μ2, ν, ⟨(v, μ1), (v, μ2), h1, h2, rfl, rfl, rfl⟩, h3⟩
theorem ls_7 (hN : 5000 ≤ N) (hI : Inv μ) (ν : sw_N) (a1 : Int32) : ∃ (μ' : sw_M) (ν' : sw_N), (∃ (rq : Int32 × sw_M × sw_N) (rm : Int32 × sw_M) (rt : Int32), (f_L_told N μ ν a1 = some rq) ∧ (f_m_told N rq.2.1 a1 = some rm) ∧ (f_m_thrown N rm.2 = some rt) ∧ (rt = rq.1) ∧ (rq.1 = 0 → rq.2.2 87 0 = rm.1.toInt64) ∧ μ' = rm.2 ∧ ν' = rq.2.2) ∧ Inv μ' := by
  rcases op_told hN hI a1 with ⟨v, μ1, μ2, hx, hm, h0, hJ⟩ | ⟨μ1, b, μ2, hx, hm, h0, hJ⟩
  · exact ls_ok (M := fun μ1 => f_m_told N μ1 a1) (fun v : Int32 => v.toInt64) (by unfold f_L_told; rw [hx]) hm h0 hJ
  · exact ls_no (M := fun μ1 => f_m_told N μ1 a1) (fun v : Int32 => v.toInt64) (by unfold f_L_told; rw [hx]; exact if_pos rfl) (by decide) hm h0 hJ
theorem ls_8 (hN : 5000 ≤ N) (hI : Inv μ) (ν : sw_N) (a1 a2 : Int32) : ∃ (μ' : sw_M) (ν' : sw_N), (∃ (rq : Int32 × sw_M × sw_N) (rm : Int32 × sw_M) (rt : Int32), (f_L_field N μ ν a1 a2 = some rq) ∧ (f_m_field N rq.2.1 a1 a2 = some rm) ∧ (f_m_thrown N rm.2 = some rt) ∧ (rt = rq.1) ∧ (rq.1 = 0 → rq.2.2 87 0 = rm.1.toInt64) ∧ μ' = rm.2 ∧ ν' = rq.2.2) ∧ Inv μ' := by
  rcases op_field hN hI a1 a2 with ⟨v, μ1, μ2, hx, hm, h0, hJ⟩ | ⟨μ1, b, μ2, hx, hm, h0, hJ⟩ | ⟨μ1, b, μ2, hx, hm, h0, hJ⟩
  · exact ls_ok (M := fun μ1 => f_m_field N μ1 a1 a2) (fun v : Int32 => v.toInt64) (by unfold f_L_field; rw [hx]) hm h0 hJ
  · exact ls_no (M := fun μ1 => f_m_field N μ1 a1 a2) (fun v : Int32 => v.toInt64) (by unfold f_L_field; rw [hx]; exact if_pos rfl) (by decide) hm h0 hJ
  · exact ls_no (M := fun μ1 => f_m_field N μ1 a1 a2) (fun v : Int32 => v.toInt64) (by unfold f_L_field; rw [hx]; exact (if_neg st_ne).trans (if_pos rfl)) (by decide) hm h0 hJ
theorem ls_9 (hN : 5000 ≤ N) (hI : Inv μ) (ν : sw_N) (a1 a2 : Int32) : ∃ (μ' : sw_M) (ν' : sw_N), (∃ (rq : Int32 × sw_M × sw_N) (rm : Int32 × sw_M) (rt : Int32), (f_L_wire N μ ν a1 a2 = some rq) ∧ (f_m_wire N rq.2.1 a1 a2 = some rm) ∧ (f_m_thrown N rm.2 = some rt) ∧ (rt = rq.1) ∧ (rq.1 = 0 → rq.2.2 87 0 = rm.1.toInt64) ∧ μ' = rm.2 ∧ ν' = rq.2.2) ∧ Inv μ' := by
  rcases op_wire hN hI a1 a2 with ⟨v, μ1, μ2, hx, hm, h0, hJ⟩ | ⟨μ1, b, μ2, hx, hm, h0, hJ⟩ | ⟨μ1, b, μ2, hx, hm, h0, hJ⟩
  · exact ls_ok (M := fun μ1 => f_m_wire N μ1 a1 a2) (fun v : Int32 => v.toInt64) (by unfold f_L_wire; rw [hx]) hm h0 hJ
  · exact ls_no (M := fun μ1 => f_m_wire N μ1 a1 a2) (fun v : Int32 => v.toInt64) (by unfold f_L_wire; rw [hx]; exact if_pos rfl) (by decide) hm h0 hJ
  · exact ls_no (M := fun μ1 => f_m_wire N μ1 a1 a2) (fun v : Int32 => v.toInt64) (by unfold f_L_wire; rw [hx]; exact (if_neg st_ne).trans (if_pos rfl)) (by decide) hm h0 hJ
theorem ls_10 (hN : 5000 ≤ N) (hI : Inv μ) (ν : sw_N) (a1 a2 : Int32) : ∃ (μ' : sw_M) (ν' : sw_N), (∃ (rq : Int32 × sw_M × sw_N) (rm : Int32 × sw_M) (rt : Int32), (f_L_thing N μ ν a1 a2 = some rq) ∧ (f_m_thing N rq.2.1 a1 a2 = some rm) ∧ (f_m_thrown N rm.2 = some rt) ∧ (rt = rq.1) ∧ (rq.1 = 0 → rq.2.2 87 0 = rm.1.toInt64) ∧ μ' = rm.2 ∧ ν' = rq.2.2) ∧ Inv μ' := by
  rcases op_thing hN hI a1 a2 with ⟨v, μ1, μ2, hx, hm, h0, hJ⟩ | ⟨μ1, b, μ2, hx, hm, h0, hJ⟩ | ⟨μ1, b, μ2, hx, hm, h0, hJ⟩
  · exact ls_ok (M := fun μ1 => f_m_thing N μ1 a1 a2) (fun v : Int32 => v.toInt64) (by unfold f_L_thing; rw [hx]) hm h0 hJ
  · exact ls_no (M := fun μ1 => f_m_thing N μ1 a1 a2) (fun v : Int32 => v.toInt64) (by unfold f_L_thing; rw [hx]; exact if_pos rfl) (by decide) hm h0 hJ
  · exact ls_no (M := fun μ1 => f_m_thing N μ1 a1 a2) (fun v : Int32 => v.toInt64) (by unfold f_L_thing; rw [hx]; exact (if_neg st_ne).trans (if_pos rfl)) (by decide) hm h0 hJ
theorem ls_11 (hN : 5000 ≤ N) (hI : Inv μ) (ν : sw_N) (a1 a2 : Int32) : ∃ (μ' : sw_M) (ν' : sw_N), (∃ (rq : Int32 × sw_M × sw_N) (rm : Int32 × sw_M) (rt : Int32), (f_L_person N μ ν a1 a2 = some rq) ∧ (f_m_person N rq.2.1 a1 a2 = some rm) ∧ (f_m_thrown N rm.2 = some rt) ∧ (rt = rq.1) ∧ (rq.1 = 0 → rq.2.2 87 0 = rm.1.toInt64) ∧ μ' = rm.2 ∧ ν' = rq.2.2) ∧ Inv μ' := by
  rcases op_person hN hI a1 a2 with ⟨v, μ1, μ2, hx, hm, h0, hJ⟩ | ⟨μ1, b, μ2, hx, hm, h0, hJ⟩ | ⟨μ1, b, μ2, hx, hm, h0, hJ⟩
  · exact ls_ok (M := fun μ1 => f_m_person N μ1 a1 a2) (fun v : Int32 => v.toInt64) (by unfold f_L_person; rw [hx]) hm h0 hJ
  · exact ls_no (M := fun μ1 => f_m_person N μ1 a1 a2) (fun v : Int32 => v.toInt64) (by unfold f_L_person; rw [hx]; exact if_pos rfl) (by decide) hm h0 hJ
  · exact ls_no (M := fun μ1 => f_m_person N μ1 a1 a2) (fun v : Int32 => v.toInt64) (by unfold f_L_person; rw [hx]; exact (if_neg st_ne).trans (if_pos rfl)) (by decide) hm h0 hJ
theorem ls_12 (hN : 5000 ≤ N) (hI : Inv μ) (ν : sw_N) (a1 a2 : Int32) : ∃ (μ' : sw_M) (ν' : sw_N), (∃ (rq : Int32 × sw_M × sw_N) (rm : Int32 × sw_M) (rt : Int32), (f_L_toll N μ ν a1 a2 = some rq) ∧ (f_m_toll N rq.2.1 a1 a2 = some rm) ∧ (f_m_thrown N rm.2 = some rt) ∧ (rt = rq.1) ∧ (rq.1 = 0 → rq.2.2 87 0 = rm.1.toInt64) ∧ μ' = rm.2 ∧ ν' = rq.2.2) ∧ Inv μ' := by
  rcases op_toll hN hI a1 a2 with ⟨v, μ1, μ2, hx, hm, h0, hJ⟩ | ⟨μ1, b, μ2, hx, hm, h0, hJ⟩
  · exact ls_ok (M := fun μ1 => f_m_toll N μ1 a1 a2) (fun v : Int32 => v.toInt64) (by unfold f_L_toll; rw [hx]) hm h0 hJ
  · exact ls_no (M := fun μ1 => f_m_toll N μ1 a1 a2) (fun v : Int32 => v.toInt64) (by unfold f_L_toll; rw [hx]; exact if_pos rfl) (by decide) hm h0 hJ
theorem ls_13 (hN : 5000 ≤ N) (hI : Inv μ) (ν : sw_N) (a1 a2 a3 a4 a5 a6 a7 : Int32) : ∃ (μ' : sw_M) (ν' : sw_N), (∃ (rq : Int32 × sw_M × sw_N) (rm : Int32 × sw_M) (rt : Int32), (f_L_would N μ ν a1 a2 a3 a4 a5 a6 a7 = some rq) ∧ (f_m_would N rq.2.1 a1 a2 a3 a4 a5 a6 a7 = some rm) ∧ (f_m_thrown N rm.2 = some rt) ∧ (rt = rq.1) ∧ (rq.1 = 0 → rq.2.2 87 0 = rm.1.toInt64) ∧ μ' = rm.2 ∧ ν' = rq.2.2) ∧ Inv μ' := by
  rcases op_would hN hI a1 a2 a3 a4 a5 a6 a7 with ⟨v, μ1, μ2, hx, hm, h0, hJ⟩ | ⟨μ1, b, μ2, hx, hm, h0, hJ⟩
  · exact ls_ok (M := fun μ1 => f_m_would N μ1 a1 a2 a3 a4 a5 a6 a7) (fun v : Int32 => v.toInt64) (by unfold f_L_would; rw [hx]) hm h0 hJ
  · exact ls_no (M := fun μ1 => f_m_would N μ1 a1 a2 a3 a4 a5 a6 a7) (fun v : Int32 => v.toInt64) (by unfold f_L_would; rw [hx]; exact if_pos rfl) (by decide) hm h0 hJ
theorem ls_14 (hN : 5000 ≤ N) (hI : Inv μ) (ν : sw_N) (a1 a2 : Int32) : ∃ (μ' : sw_M) (ν' : sw_N), (∃ (rq : Int32 × sw_M × sw_N) (rm : Int32 × sw_M) (rt : Int32), (f_L_can N μ ν a1 a2 = some rq) ∧ (f_m_can N rq.2.1 a1 a2 = some rm) ∧ (f_m_thrown N rm.2 = some rt) ∧ (rt = rq.1) ∧ (rq.1 = 0 → rq.2.2 87 0 = (if rm.1 = 0 then 0 else 1)) ∧ μ' = rm.2 ∧ ν' = rq.2.2) ∧ Inv μ' := by
  rcases op_can hN hI a1 a2 with ⟨v, μ1, μ2, hx, hm, h0, hJ⟩ | ⟨μ1, b, μ2, hx, hm, h0, hJ⟩
  · exact ls_ok (M := fun μ1 => f_m_can N μ1 a1 a2) (fun v : Int32 => if v = 0 then 0 else 1) (by unfold f_L_can; rw [hx]) hm h0 hJ
  · exact ls_no (M := fun μ1 => f_m_can N μ1 a1 a2) (fun v : Int32 => if v = 0 then 0 else 1) (by unfold f_L_can; rw [hx]; exact if_pos rfl) (by decide) hm h0 hJ
theorem ls_15 (hN : 5000 ≤ N) (hI : Inv μ) (ν : sw_N) (a1 a2 : Int32) : ∃ (μ' : sw_M) (ν' : sw_N), (∃ (rq : Int32 × sw_M × sw_N) (rm : Int32 × sw_M) (rt : Int32), (f_L_ahead N μ ν a1 a2 = some rq) ∧ (f_m_ahead N rq.2.1 a1 a2 = some rm) ∧ (f_m_thrown N rm.2 = some rt) ∧ (rt = rq.1) ∧ (rq.1 = 0 → rq.2.2 87 0 = rm.1.toInt64) ∧ μ' = rm.2 ∧ ν' = rq.2.2) ∧ Inv μ' := by
  rcases op_ahead hN hI a1 a2 with ⟨v, μ1, μ2, hx, hm, h0, hJ⟩ | ⟨μ1, b, μ2, hx, hm, h0, hJ⟩
  · exact ls_ok (M := fun μ1 => f_m_ahead N μ1 a1 a2) (fun v : Int32 => v.toInt64) (by unfold f_L_ahead; rw [hx]) hm h0 hJ
  · exact ls_no (M := fun μ1 => f_m_ahead N μ1 a1 a2) (fun v : Int32 => v.toInt64) (by unfold f_L_ahead; rw [hx]; exact if_pos rfl) (by decide) hm h0 hJ
theorem ls_16 (hN : 5000 ≤ N) (hI : Inv μ) (ν : sw_N) (a1 a2 : Int32) : ∃ (μ' : sw_M) (ν' : sw_N), (∃ (rq : Int32 × sw_M × sw_N) (rm : Int32 × sw_M) (rt : Int32), (f_L_arrives N μ ν a1 a2 = some rq) ∧ (f_m_arrives N rq.2.1 a1 a2 = some rm) ∧ (f_m_thrown N rm.2 = some rt) ∧ (rt = rq.1) ∧ (rq.1 = 0 → rq.2.2 87 0 = rm.1.toInt64) ∧ μ' = rm.2 ∧ ν' = rq.2.2) ∧ Inv μ' := by
  rcases op_arrives hN hI a1 a2 with ⟨v, μ1, μ2, hx, hm, h0, hJ⟩ | ⟨μ1, b, μ2, hx, hm, h0, hJ⟩
  · exact ls_ok (M := fun μ1 => f_m_arrives N μ1 a1 a2) (fun v : Int32 => v.toInt64) (by unfold f_L_arrives; rw [hx]) hm h0 hJ
  · exact ls_no (M := fun μ1 => f_m_arrives N μ1 a1 a2) (fun v : Int32 => v.toInt64) (by unfold f_L_arrives; rw [hx]; exact if_pos rfl) (by decide) hm h0 hJ
theorem ls_17 (hN : 5000 ≤ N) (hI : Inv μ) (ν : sw_N) (a1 a2 : Int32) : ∃ (μ' : sw_M) (ν' : sw_N), (∃ (rq : Int32 × sw_M × sw_N) (rm : Int32 × sw_M) (rt : Int32), (f_L_waits N μ ν a1 a2 = some rq) ∧ (f_m_waits N rq.2.1 a1 a2 = some rm) ∧ (f_m_thrown N rm.2 = some rt) ∧ (rt = rq.1) ∧ (rq.1 = 0 → rq.2.2 87 0 = rm.1.toInt64) ∧ μ' = rm.2 ∧ ν' = rq.2.2) ∧ Inv μ' := by
  rcases op_waits hN hI a1 a2 with ⟨v, μ1, μ2, hx, hm, h0, hJ⟩ | ⟨μ1, b, μ2, hx, hm, h0, hJ⟩
  · exact ls_ok (M := fun μ1 => f_m_waits N μ1 a1 a2) (fun v : Int32 => v.toInt64) (by unfold f_L_waits; rw [hx]) hm h0 hJ
  · exact ls_no (M := fun μ1 => f_m_waits N μ1 a1 a2) (fun v : Int32 => v.toInt64) (by unfold f_L_waits; rw [hx]; exact if_pos rfl) (by decide) hm h0 hJ
theorem ls_18 (hN : 5000 ≤ N) (hI : Inv μ) (ν : sw_N) (a1 a2 : Int32) : ∃ (μ' : sw_M) (ν' : sw_N), (∃ (rq : Int32 × sw_M × sw_N) (rm : Int32 × sw_M) (rt : Int32), (f_L_grant N μ ν a1 a2 = some rq) ∧ (f_m_grant N rq.2.1 a1 a2 = some rm) ∧ (f_m_thrown N rm.2 = some rt) ∧ (rt = rq.1) ∧ (rq.1 = 0 → rq.2.2 87 0 = rm.1.toInt64) ∧ μ' = rm.2 ∧ ν' = rq.2.2) ∧ Inv μ' := by
  rcases op_grant hN hI a1 a2 with ⟨v, μ1, μ2, hx, hm, h0, hJ⟩ | ⟨μ1, b, μ2, hx, hm, h0, hJ⟩
  · exact ls_ok (M := fun μ1 => f_m_grant N μ1 a1 a2) (fun v : Int32 => v.toInt64) (by unfold f_L_grant; rw [hx]) hm h0 hJ
  · exact ls_no (M := fun μ1 => f_m_grant N μ1 a1 a2) (fun v : Int32 => v.toInt64) (by unfold f_L_grant; rw [hx]; exact if_pos rfl) (by decide) hm h0 hJ
theorem ls_19 (hN : 5000 ≤ N) (hI : Inv μ) (ν : sw_N) (a1 a2 : Int32) : ∃ (μ' : sw_M) (ν' : sw_N), (∃ (rq : Int32 × sw_M × sw_N) (rm : Int32 × sw_M) (rt : Int32), (f_L_pliers N μ ν a1 a2 = some rq) ∧ (f_m_pliers N rq.2.1 a1 a2 = some rm) ∧ (f_m_thrown N rm.2 = some rt) ∧ (rt = rq.1) ∧ (rq.1 = 0 → rq.2.2 87 0 = rm.1.toInt64) ∧ μ' = rm.2 ∧ ν' = rq.2.2) ∧ Inv μ' := by
  rcases op_pliers hN hI a1 a2 with ⟨v, μ1, μ2, hx, hm, h0, hJ⟩ | ⟨μ1, b, μ2, hx, hm, h0, hJ⟩
  · exact ls_ok (M := fun μ1 => f_m_pliers N μ1 a1 a2) (fun v : Int32 => v.toInt64) (by unfold f_L_pliers; rw [hx]) hm h0 hJ
  · exact ls_no (M := fun μ1 => f_m_pliers N μ1 a1 a2) (fun v : Int32 => v.toInt64) (by unfold f_L_pliers; rw [hx]; exact if_pos rfl) (by decide) hm h0 hJ
theorem ls_20 (hN : 5000 ≤ N) (hI : Inv μ) (ν : sw_N) (a1 a2 : Int32) : ∃ (μ' : sw_M) (ν' : sw_N), (∃ (rq : Int32 × sw_M × sw_N) (rm : Int32 × sw_M) (rt : Int32), (f_L_haul N μ ν a1 a2 = some rq) ∧ (f_m_haul N rq.2.1 a1 a2 = some rm) ∧ (f_m_thrown N rm.2 = some rt) ∧ (rt = rq.1) ∧ (rq.1 = 0 → rq.2.2 87 0 = rm.1.toInt64) ∧ μ' = rm.2 ∧ ν' = rq.2.2) ∧ Inv μ' := by
  rcases op_haul hN hI a1 a2 with ⟨v, μ1, μ2, hx, hm, h0, hJ⟩ | ⟨μ1, b, μ2, hx, hm, h0, hJ⟩ | ⟨μ1, b, μ2, hx, hm, h0, hJ⟩
  · exact ls_ok (M := fun μ1 => f_m_haul N μ1 a1 a2) (fun v : Int32 => v.toInt64) (by unfold f_L_haul; rw [hx]) hm h0 hJ
  · exact ls_no (M := fun μ1 => f_m_haul N μ1 a1 a2) (fun v : Int32 => v.toInt64) (by unfold f_L_haul; rw [hx]; exact if_pos rfl) (by decide) hm h0 hJ
  · exact ls_no (M := fun μ1 => f_m_haul N μ1 a1 a2) (fun v : Int32 => v.toInt64) (by unfold f_L_haul; rw [hx]; exact (if_neg st_ne).trans (if_pos rfl)) (by decide) hm h0 hJ
theorem ls_21 (hN : 5000 ≤ N) (hI : Inv μ) (ν : sw_N) (a1 : Int32) : ∃ (μ' : sw_M) (ν' : sw_N), (∃ (rq : Int32 × sw_M × sw_N) (rm : Int32 × sw_M) (rt : Int32), (f_L_fits N μ ν a1 = some rq) ∧ (f_m_fits N rq.2.1 a1 = some rm) ∧ (f_m_thrown N rm.2 = some rt) ∧ (rt = rq.1) ∧ (rq.1 = 0 → rq.2.2 87 0 = rm.1.toInt64) ∧ μ' = rm.2 ∧ ν' = rq.2.2) ∧ Inv μ' := by
  rcases op_fits hN hI a1 with ⟨v, μ1, μ2, hx, hm, h0, hJ⟩ | ⟨μ1, b, μ2, hx, hm, h0, hJ⟩
  · exact ls_ok (M := fun μ1 => f_m_fits N μ1 a1) (fun v : Int32 => v.toInt64) (by unfold f_L_fits; rw [hx]) hm h0 hJ
  · exact ls_no (M := fun μ1 => f_m_fits N μ1 a1) (fun v : Int32 => v.toInt64) (by unfold f_L_fits; rw [hx]; exact if_pos rfl) (by decide) hm h0 hJ
theorem ls_22 (hN : 5000 ≤ N) (hI : Inv μ) (ν : sw_N) (a1 : Int32) : ∃ (μ' : sw_M) (ν' : sw_N), (∃ (rq : Int32 × sw_M × sw_N) (rm : Int32 × sw_M) (rt : Int32), (f_L_look N μ ν a1 = some rq) ∧ (f_m_look N rq.2.1 a1 = some rm) ∧ (f_m_thrown N rm.2 = some rt) ∧ (rt = rq.1) ∧ (rq.1 = 0 → rq.2.2 87 0 = rm.1.toInt64) ∧ μ' = rm.2 ∧ ν' = rq.2.2) ∧ Inv μ' := by
  rcases op_look hN hI a1 with ⟨v, μ1, μ2, hx, hm, h0, hJ⟩ | ⟨μ1, b, μ2, hx, hm, h0, hJ⟩
  · exact ls_ok (M := fun μ1 => f_m_look N μ1 a1) (fun v : Int32 => v.toInt64) (by unfold f_L_look; rw [hx]) hm h0 hJ
  · exact ls_no (M := fun μ1 => f_m_look N μ1 a1) (fun v : Int32 => v.toInt64) (by unfold f_L_look; rw [hx]; exact if_pos rfl) (by decide) hm h0 hJ
theorem ls_23 (hN : 5000 ≤ N) (hI : Inv μ) (ν : sw_N) (a1 : Int32) : ∃ (μ' : sw_M) (ν' : sw_N), (∃ (rq : Int32 × sw_M × sw_N) (rm : Int32 × sw_M) (rt : Int32), (f_L_parts N μ ν a1 = some rq) ∧ (f_m_parts N rq.2.1 a1 = some rm) ∧ (f_m_thrown N rm.2 = some rt) ∧ (rt = rq.1) ∧ (rq.1 = 0 → rq.2.2 87 0 = rm.1.toInt64) ∧ μ' = rm.2 ∧ ν' = rq.2.2) ∧ Inv μ' := by
  rcases op_parts hN hI a1 with ⟨v, μ1, μ2, hx, hm, h0, hJ⟩ | ⟨μ1, b, μ2, hx, hm, h0, hJ⟩
  · exact ls_ok (M := fun μ1 => f_m_parts N μ1 a1) (fun v : Int32 => v.toInt64) (by unfold f_L_parts; rw [hx]) hm h0 hJ
  · exact ls_no (M := fun μ1 => f_m_parts N μ1 a1) (fun v : Int32 => v.toInt64) (by unfold f_L_parts; rw [hx]; exact if_pos rfl) (by decide) hm h0 hJ
theorem ls_24 (hN : 5000 ≤ N) (hI : Inv μ) (ν : sw_N) (a1 a2 a3 : Int32) : ∃ (μ' : sw_M) (ν' : sw_N), (∃ (rq : Int32 × sw_M × sw_N) (rm : Int64 × sw_M) (rt : Int32), (f_L_tingle N μ ν a1 a2 a3 = some rq) ∧ (f_m_tingle N rq.2.1 a1 a2 a3 = some rm) ∧ (f_m_thrown N rm.2 = some rt) ∧ (rt = rq.1) ∧ (rq.1 = 0 → rq.2.2 87 0 = rm.1) ∧ μ' = rm.2 ∧ ν' = rq.2.2) ∧ Inv μ' := by
  rcases op_tingle hN hI a1 a2 a3 with ⟨v, μ1, μ2, hx, hm, h0, hJ⟩ | ⟨μ1, b, μ2, hx, hm, h0, hJ⟩
  · exact ls_ok (M := fun μ1 => f_m_tingle N μ1 a1 a2 a3) (fun v : Int64 => v) (by unfold f_L_tingle; rw [hx]) hm h0 hJ
  · exact ls_no (M := fun μ1 => f_m_tingle N μ1 a1 a2 a3) (fun v : Int64 => v) (by unfold f_L_tingle; rw [hx]; exact if_pos rfl) (by decide) hm h0 hJ
theorem ls_25 (hN : 5000 ≤ N) (hI : Inv μ) (ν : sw_N) (a1 a2 a3 : Int32) : ∃ (μ' : sw_M) (ν' : sw_N), (∃ (rq : Int32 × sw_M × sw_N) (rm : Int32 × sw_M) (rt : Int32), (f_L_lean N μ ν a1 a2 a3 = some rq) ∧ (f_m_lean N rq.2.1 a1 a2 a3 = some rm) ∧ (f_m_thrown N rm.2 = some rt) ∧ (rt = rq.1) ∧ (rq.1 = 0 → rq.2.2 87 0 = rm.1.toInt64) ∧ μ' = rm.2 ∧ ν' = rq.2.2) ∧ Inv μ' := by
  rcases op_lean hN hI a1 a2 a3 with ⟨v, μ1, μ2, hx, hm, h0, hJ⟩ | ⟨μ1, b, μ2, hx, hm, h0, hJ⟩
  · exact ls_ok (M := fun μ1 => f_m_lean N μ1 a1 a2 a3) (fun v : Int32 => v.toInt64) (by unfold f_L_lean; rw [hx]) hm h0 hJ
  · exact ls_no (M := fun μ1 => f_m_lean N μ1 a1 a2 a3) (fun v : Int32 => v.toInt64) (by unfold f_L_lean; rw [hx]; exact if_pos rfl) (by decide) hm h0 hJ
theorem ls_26 (hN : 5000 ≤ N) (hI : Inv μ) (ν : sw_N) (a1 a2 a3 : Int32) : ∃ (μ' : sw_M) (ν' : sw_N), (∃ (rq : Int32 × sw_M × sw_N) (rm : Int32 × sw_M) (rt : Int32), (f_L_grace N μ ν a1 a2 a3 = some rq) ∧ (f_m_grace N rq.2.1 a1 a2 a3 = some rm) ∧ (f_m_thrown N rm.2 = some rt) ∧ (rt = rq.1) ∧ (rq.1 = 0 → rq.2.2 87 0 = rm.1.toInt64) ∧ μ' = rm.2 ∧ ν' = rq.2.2) ∧ Inv μ' := by
  rcases op_grace hN hI a1 a2 a3 with ⟨v, μ1, μ2, hx, hm, h0, hJ⟩ | ⟨μ1, b, μ2, hx, hm, h0, hJ⟩ | ⟨μ1, b, μ2, hx, hm, h0, hJ⟩
  · exact ls_ok (M := fun μ1 => f_m_grace N μ1 a1 a2 a3) (fun v : Int32 => v.toInt64) (by unfold f_L_grace; rw [hx]) hm h0 hJ
  · exact ls_no (M := fun μ1 => f_m_grace N μ1 a1 a2 a3) (fun v : Int32 => v.toInt64) (by unfold f_L_grace; rw [hx]; exact if_pos rfl) (by decide) hm h0 hJ
  · exact ls_no (M := fun μ1 => f_m_grace N μ1 a1 a2 a3) (fun v : Int32 => v.toInt64) (by unfold f_L_grace; rw [hx]; exact (if_neg st_ne).trans (if_pos rfl)) (by decide) hm h0 hJ
theorem ls_27 (hN : 5000 ≤ N) (hI : Inv μ) (ν : sw_N) (a1 : Int32) : ∃ (μ' : sw_M) (ν' : sw_N), (∃ (rq : Int32 × sw_M × sw_N) (rm : Int32 × sw_M) (rt : Int32), (f_L_next N μ ν a1 = some rq) ∧ (f_m_next N rq.2.1 a1 = some rm) ∧ (f_m_thrown N rm.2 = some rt) ∧ (rt = rq.1) ∧ (rq.1 = 0 → rq.2.2 87 0 = rm.1.toInt64) ∧ μ' = rm.2 ∧ ν' = rq.2.2) ∧ Inv μ' := by
  rcases op_next hN hI a1 with ⟨v, μ1, μ2, hx, hm, h0, hJ⟩ | ⟨μ1, b, μ2, hx, hm, h0, hJ⟩
  · exact ls_ok (M := fun μ1 => f_m_next N μ1 a1) (fun v : Int32 => v.toInt64) (by unfold f_L_next; rw [hx]) hm h0 hJ
  · exact ls_no (M := fun μ1 => f_m_next N μ1 a1) (fun v : Int32 => v.toInt64) (by unfold f_L_next; rw [hx]; exact if_pos rfl) (by decide) hm h0 hJ
theorem ls_28 (hN : 5000 ≤ N) (hI : Inv μ) (ν : sw_N) (a1 : Int32) : ∃ (μ' : sw_M) (ν' : sw_N), (∃ (rq : Int32 × sw_M × sw_N) (rm : Int32 × sw_M) (rt : Int32), (f_L_harp N μ ν a1 = some rq) ∧ (f_m_harp N rq.2.1 a1 = some rm) ∧ (f_m_thrown N rm.2 = some rt) ∧ (rt = rq.1) ∧ (rq.1 = 0 → rq.2.2 87 0 = rm.1.toInt64) ∧ μ' = rm.2 ∧ ν' = rq.2.2) ∧ Inv μ' := by
  rcases op_harp hN hI a1 with ⟨v, μ1, μ2, hx, hm, h0, hJ⟩ | ⟨μ1, b, μ2, hx, hm, h0, hJ⟩
  · exact ls_ok (M := fun μ1 => f_m_harp N μ1 a1) (fun v : Int32 => v.toInt64) (by unfold f_L_harp; rw [hx]) hm h0 hJ
  · exact ls_no (M := fun μ1 => f_m_harp N μ1 a1) (fun v : Int32 => v.toInt64) (by unfold f_L_harp; rw [hx]; exact if_pos rfl) (by decide) hm h0 hJ
theorem ls_29 (hN : 5000 ≤ N) (hI : Inv μ) (ν : sw_N) : ∃ (μ' : sw_M) (ν' : sw_N), (∃ (rx : Int32 × sw_M) (rm : Int32 × sw_M), (f_x_stuck N μ  = some rx) ∧ (f_m_stuck N rx.2  = some rm) ∧ (rx.1 = rm.1) ∧ μ' = rm.2 ∧ ν' = ν) ∧ Inv μ' := by
  obtain ⟨v, μ1, μ2, h1, h2, h3⟩ := op_stuck hN hI
  exact ⟨μ2, ν, ⟨(v, μ1), (v, μ2), h1, h2, rfl, rfl, rfl⟩, h3⟩
theorem ls_30 (hN : 5000 ≤ N) (hI : Inv μ) (ν : sw_N) : ∃ (μ' : sw_M) (ν' : sw_N), (∃ (rx : Int32) (rm : Int32 × sw_M), (f_x_moved N μ  = some rx) ∧ (f_m_moved N μ  = some rm) ∧ (rx = rm.1) ∧ μ' = rm.2 ∧ ν' = ν) ∧ Inv μ' := by
  obtain ⟨v, μ2, h1, h2, h3⟩ := op_moved hN hI
  exact ⟨μ2, ν, ⟨v, (v, μ2), h1, h2, rfl, rfl, rfl⟩, h3⟩
theorem ls_31 (hN : 5000 ≤ N) (hI : Inv μ) (ν : sw_N) (a1 a2 : Int32) : ∃ (μ' : sw_M) (ν' : sw_N), (∃ (rq : Int32 × sw_M × sw_N) (rm : Int32 × sw_M) (rt : Int32), (f_L_gates N μ ν a1 a2 = some rq) ∧ (f_m_gates N rq.2.1 a1 a2 = some rm) ∧ (f_m_thrown N rm.2 = some rt) ∧ (rt = rq.1) ∧ (rq.1 = 0 → rq.2.2 87 0 = rm.1.toInt64) ∧ μ' = rm.2 ∧ ν' = rq.2.2) ∧ Inv μ' := by
  rcases op_gates hN hI a1 a2 with ⟨v, μ1, μ2, hx, hm, h0, hJ⟩ | ⟨μ1, b, μ2, hx, hm, h0, hJ⟩ | ⟨μ1, b, μ2, hx, hm, h0, hJ⟩
  · exact ls_ok (M := fun μ1 => f_m_gates N μ1 a1 a2) (fun v : Int32 => v.toInt64) (by unfold f_L_gates; rw [hx]) hm h0 hJ
  · exact ls_no (M := fun μ1 => f_m_gates N μ1 a1 a2) (fun v : Int32 => v.toInt64) (by unfold f_L_gates; rw [hx]; exact if_pos rfl) (by decide) hm h0 hJ
  · exact ls_no (M := fun μ1 => f_m_gates N μ1 a1 a2) (fun v : Int32 => v.toInt64) (by unfold f_L_gates; rw [hx]; exact (if_neg st_ne).trans (if_pos rfl)) (by decide) hm h0 hJ
theorem ls_32 (hN : 5000 ≤ N) (hI : Inv μ) (ν : sw_N) (a1 a2 : Int32) : ∃ (μ' : sw_M) (ν' : sw_N), (∃ (rq : Int32 × sw_M × sw_N) (rm : Int32 × sw_M) (rt : Int32), (f_L_ground N μ ν a1 a2 = some rq) ∧ (f_m_ground N rq.2.1 a1 a2 = some rm) ∧ (f_m_thrown N rm.2 = some rt) ∧ (rt = rq.1) ∧ (rq.1 = 0 → rq.2.2 87 0 = rm.1.toInt64) ∧ μ' = rm.2 ∧ ν' = rq.2.2) ∧ Inv μ' := by
  rcases op_ground hN hI a1 a2 with ⟨v, μ1, μ2, hx, hm, h0, hJ⟩ | ⟨μ1, b, μ2, hx, hm, h0, hJ⟩ | ⟨μ1, b, μ2, hx, hm, h0, hJ⟩
  · exact ls_ok (M := fun μ1 => f_m_ground N μ1 a1 a2) (fun v : Int32 => v.toInt64) (by unfold f_L_ground; rw [hx]) hm h0 hJ
  · exact ls_no (M := fun μ1 => f_m_ground N μ1 a1 a2) (fun v : Int32 => v.toInt64) (by unfold f_L_ground; rw [hx]; exact if_pos rfl) (by decide) hm h0 hJ
  · exact ls_no (M := fun μ1 => f_m_ground N μ1 a1 a2) (fun v : Int32 => v.toInt64) (by unfold f_L_ground; rw [hx]; exact (if_neg st_ne).trans (if_pos rfl)) (by decide) hm h0 hJ
theorem ls_33 (hN : 5000 ≤ N) (hI : Inv μ) (ν : sw_N) (a1 : Int32) : ∃ (μ' : sw_M) (ν' : sw_N), (∃ (rq : Int32 × sw_M × sw_N) (rm : Int32 × sw_M) (rt : Int32), (f_L_freest N μ ν a1 = some rq) ∧ (f_m_freest N rq.2.1 a1 = some rm) ∧ (f_m_thrown N rm.2 = some rt) ∧ (rt = rq.1) ∧ (rq.1 = 0 → rq.2.2 87 0 = rm.1.toInt64) ∧ μ' = rm.2 ∧ ν' = rq.2.2) ∧ Inv μ' := by
  rcases op_freest hN hI a1 with ⟨v, μ1, μ2, hx, hm, h0, hJ⟩ | ⟨μ1, b, μ2, hx, hm, h0, hJ⟩
  · exact ls_ok (M := fun μ1 => f_m_freest N μ1 a1) (fun v : Int32 => v.toInt64) (by unfold f_L_freest; rw [hx]) hm h0 hJ
  · exact ls_no (M := fun μ1 => f_m_freest N μ1 a1) (fun v : Int32 => v.toInt64) (by unfold f_L_freest; rw [hx]; exact if_pos rfl) (by decide) hm h0 hJ
theorem ls_34 (hN : 5000 ≤ N) (hI : Inv μ) (ν : sw_N) (a1 a2 a3 a4 : Int32) : ∃ (μ' : sw_M) (ν' : sw_N), (∃ (rq : Int32 × sw_M × sw_N) (rm : Int32 × sw_M) (rt : Int32), (f_L_autumn N μ ν a1 a2 a3 a4 = some rq) ∧ (f_m_autumn N rq.2.1 a1 a2 a3 a4 = some rm) ∧ (f_m_thrown N rm.2 = some rt) ∧ (rt = rq.1) ∧ (rq.1 = 0 → rq.2.2 87 0 = rm.1.toInt64) ∧ μ' = rm.2 ∧ ν' = rq.2.2) ∧ Inv μ' := by
  rcases op_autumn hN hI a1 a2 a3 a4 with ⟨v, μ1, μ2, hx, hm, h0, hJ⟩ | ⟨μ1, b, μ2, hx, hm, h0, hJ⟩
  · exact ls_ok (M := fun μ1 => f_m_autumn N μ1 a1 a2 a3 a4) (fun v : Int32 => v.toInt64) (by unfold f_L_autumn; rw [hx]) hm h0 hJ
  · exact ls_no (M := fun μ1 => f_m_autumn N μ1 a1 a2 a3 a4) (fun v : Int32 => v.toInt64) (by unfold f_L_autumn; rw [hx]; exact if_pos rfl) (by decide) hm h0 hJ
theorem ls_35 (hN : 5000 ≤ N) (hI : Inv μ) (ν : sw_N) (a1 a2 a3 a4 a5 a6 : Int32) : ∃ (μ' : sw_M) (ν' : sw_N), (∃ (rq : Int32 × sw_M × sw_N) (rm : Int32 × sw_M) (rt : Int32), (f_L_span N μ ν a1 a2 a3 a4 a5 a6 = some rq) ∧ (f_m_span N rq.2.1 a1 a2 a3 a4 a5 a6 = some rm) ∧ (f_m_thrown N rm.2 = some rt) ∧ (rt = rq.1) ∧ (rq.1 = 0 → rq.2.2 87 0 = rm.1.toInt64) ∧ μ' = rm.2 ∧ ν' = rq.2.2) ∧ Inv μ' := by
  rcases op_span hN hI a1 a2 a3 a4 a5 a6 with ⟨v, μ1, μ2, hx, hm, h0, hJ⟩ | ⟨μ1, b, μ2, hx, hm, h0, hJ⟩
  · exact ls_ok (M := fun μ1 => f_m_span N μ1 a1 a2 a3 a4 a5 a6) (fun v : Int32 => v.toInt64) (by unfold f_L_span; rw [hx]) hm h0 hJ
  · exact ls_no (M := fun μ1 => f_m_span N μ1 a1 a2 a3 a4 a5 a6) (fun v : Int32 => v.toInt64) (by unfold f_L_span; rw [hx]; exact if_pos rfl) (by decide) hm h0 hJ
theorem ls_36 (hN : 5000 ≤ N) (hI : Inv μ) (ν : sw_N) : ∃ (μ' : sw_M) (ν' : sw_N), (∃ (rx : Int32 × sw_M) (rm : Int32 × sw_M), (f_x_image N μ  = some rx) ∧ (f_m_image N rx.2  = some rm) ∧ (rx.1 = rm.1) ∧ μ' = rm.2 ∧ ν' = ν) ∧ Inv μ' := by
  obtain ⟨v, μ1, μ2, h1, h2, h3⟩ := op_image hN hI
  exact ⟨μ2, ν, ⟨(v, μ1), (v, μ2), h1, h2, rfl, rfl, rfl⟩, h3⟩
theorem ls_37 (hN : 5000 ≤ N) (hI : Inv μ) (ν : sw_N) : ∃ (μ' : sw_M) (ν' : sw_N), (∃ (rx : Int32 × sw_M) (rm : Int32 × sw_M), (f_x_restore N μ  = some rx) ∧ (f_m_restore N rx.2  = some rm) ∧ (rx.1 = rm.1) ∧ μ' = rm.2 ∧ ν' = ν) ∧ Inv μ' := by
  obtain ⟨v, μ1, μ2, h1, h2, h3⟩ := op_restore hN hI
  exact ⟨μ2, ν, ⟨(v, μ1), (v, μ2), h1, h2, rfl, rfl, rfl⟩, h3⟩
theorem ls_38 (hN : 5000 ≤ N) (hI : Inv μ) (ν : sw_N) (a1 : Int32) : ∃ (μ' : sw_M) (ν' : sw_N), (∃ (rx : Int32) (rm : Int32 × sw_M), (f_x_status N μ a1 = some rx) ∧ (f_m_status N μ a1 = some rm) ∧ (rx = rm.1) ∧ μ' = rm.2 ∧ ν' = ν) ∧ Inv μ' := by
  obtain ⟨v, μ2, h1, h2, h3⟩ := op_status hI a1
  exact ⟨μ2, ν, ⟨v, (v, μ2), h1, h2, rfl, rfl, rfl⟩, h3⟩
theorem ls_39 (hN : 5000 ≤ N) (hI : Inv μ) (ν : sw_N) (a1 : Int32) : ∃ (μ' : sw_M) (ν' : sw_N), (∃ (rx : Int32) (rm : Int32 × sw_M), (f_x_count N μ a1 = some rx) ∧ (f_m_count N μ a1 = some rm) ∧ (rx = rm.1) ∧ μ' = rm.2 ∧ ν' = ν) ∧ Inv μ' := by
  obtain ⟨v, μ2, h1, h2, h3⟩ := op_count hI a1
  exact ⟨μ2, ν, ⟨v, (v, μ2), h1, h2, rfl, rfl, rfl⟩, h3⟩
end
theorem law_step {N : Nat} {μ : sw_M} (hN : 5000 ≤ N) (hI : Inv μ) (ν : sw_N) (op a1 a2 a3 a4 a5 a6 a7 : Int32) : ∃ (μ' : sw_M) (ν' : sw_N), lawStep N op a1 a2 a3 a4 a5 a6 a7 μ ν μ' ν' ∧ Inv μ' := by
  unfold lawStep
  refine ls_if (fun _ => ls_0 hN hI ν a1 a2 a3 a4 a5) (fun _ => ?_)
  refine ls_if (fun _ => ls_1 hN hI ν a1) (fun _ => ?_)
  refine ls_if (fun _ => ls_2 hN hI ν a1) (fun _ => ?_)
  refine ls_if (fun _ => ls_3 hN hI ν a1) (fun _ => ?_)
  refine ls_if (fun _ => ls_4 hN hI ν a1) (fun _ => ?_)
  refine ls_if (fun _ => ls_5 hN hI ν) (fun _ => ?_)
  refine ls_if (fun _ => ls_6 hN hI ν) (fun _ => ?_)
  refine ls_if (fun _ => ls_7 hN hI ν a1) (fun _ => ?_)
  refine ls_if (fun _ => ls_8 hN hI ν a1 a2) (fun _ => ?_)
  refine ls_if (fun _ => ls_9 hN hI ν a1 a2) (fun _ => ?_)
  refine ls_if (fun _ => ls_10 hN hI ν a1 a2) (fun _ => ?_)
  refine ls_if (fun _ => ls_11 hN hI ν a1 a2) (fun _ => ?_)
  refine ls_if (fun _ => ls_12 hN hI ν a1 a2) (fun _ => ?_)
  refine ls_if (fun _ => ls_13 hN hI ν a1 a2 a3 a4 a5 a6 a7) (fun _ => ?_)
  refine ls_if (fun _ => ls_14 hN hI ν a1 a2) (fun _ => ?_)
  refine ls_if (fun _ => ls_15 hN hI ν a1 a2) (fun _ => ?_)
  refine ls_if (fun _ => ls_16 hN hI ν a1 a2) (fun _ => ?_)
  refine ls_if (fun _ => ls_17 hN hI ν a1 a2) (fun _ => ?_)
  refine ls_if (fun _ => ls_18 hN hI ν a1 a2) (fun _ => ?_)
  refine ls_if (fun _ => ls_19 hN hI ν a1 a2) (fun _ => ?_)
  refine ls_if (fun _ => ls_20 hN hI ν a1 a2) (fun _ => ?_)
  refine ls_if (fun _ => ls_21 hN hI ν a1) (fun _ => ?_)
  refine ls_if (fun _ => ls_22 hN hI ν a1) (fun _ => ?_)
  refine ls_if (fun _ => ls_23 hN hI ν a1) (fun _ => ?_)
  refine ls_if (fun _ => ls_24 hN hI ν a1 a2 a3) (fun _ => ?_)
  refine ls_if (fun _ => ls_25 hN hI ν a1 a2 a3) (fun _ => ?_)
  refine ls_if (fun _ => ls_26 hN hI ν a1 a2 a3) (fun _ => ?_)
  refine ls_if (fun _ => ls_27 hN hI ν a1) (fun _ => ?_)
  refine ls_if (fun _ => ls_28 hN hI ν a1) (fun _ => ?_)
  refine ls_if (fun _ => ls_29 hN hI ν) (fun _ => ?_)
  refine ls_if (fun _ => ls_30 hN hI ν) (fun _ => ?_)
  refine ls_if (fun _ => ls_31 hN hI ν a1 a2) (fun _ => ?_)
  refine ls_if (fun _ => ls_32 hN hI ν a1 a2) (fun _ => ?_)
  refine ls_if (fun _ => ls_33 hN hI ν a1) (fun _ => ?_)
  refine ls_if (fun _ => ls_34 hN hI ν a1 a2 a3 a4) (fun _ => ?_)
  refine ls_if (fun _ => ls_35 hN hI ν a1 a2 a3 a4 a5 a6) (fun _ => ?_)
  refine ls_if (fun _ => ls_36 hN hI ν) (fun _ => ?_)
  refine ls_if (fun _ => ls_37 hN hI ν) (fun _ => ?_)
  refine ls_if (fun _ => ls_38 hN hI ν a1) (fun _ => ?_)
  refine ls_if (fun _ => ls_39 hN hI ν a1) (fun _ => ?_)
  exact ⟨μ, ν, ⟨rfl, rfl⟩, hI⟩
theorem law_true : LawTrue := ⟨5000, Inv, init_inv (Nat.le_refl 5000), fun μ ν op a1 a2 a3 a4 a5 a6 a7 hI => law_step (Nat.le_refl 5000) hI ν op a1 a2 a3 a4 a5 a6 a7⟩
theorem whole_start {p : Program} {e : Env} {s : State} {m : MethodId} {below : List Frame} {meth : Method} {c : Code} (l : Launch) (hflags : l.flags = flags0) {b L : Nat} {xs : Nat → Int32} (hL : L ≤ 4096) (C0 : lw_At p s m meth c b L xs) : W p l e room_1 s m #[Value.ref b] below meth c s.heap [] 0 0 (lw_Z below #[Value.ref b] s) (entryFrame m ([Value.ref b] : List Value).toArray 8) := start_of law_true l hflags hL C0
