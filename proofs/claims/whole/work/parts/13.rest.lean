/-! ===== a wide String constant; the offsets of a switch; what a char answers ===== -/
section SWZ
variable {G : sw_G} {ad : Nat → Nat} {L : sw_L} {ν : sw_N} {cs sl pc : Nat} {lv : List (Option Value)} {st : List Value} {μ : sw_M} {cc : ByteArray} {own : String} {ret : Option FieldType} {d mc ms : Nat}
theorem SW.ldcwS {n j : Nat} {tx : String} (g : sw_ok G cc own ret d mc ms ad) (hd : decode cc pc = .ok (.ldc_w n, 3)) (hs : Cond.stringRef own n tx ∈ tables_1) (hj : strT[j]? = some tx) (k : SW G ad L ν cs sl (pc + 3) lv (.ref (1000 + j) :: st) μ) : SW G ad L ν cs sl pc lv st μ := by
  intro H locs ls hl hP hD hS
  have kk := k H locs ls hl hP hD hS
  have hZ := g.2.2.2.2.2.2.2.2.2.1.2.2.2.2.2.2.1 own n tx j hs hj
  have hown := g.2.2.2.2.1
  have hexec := g.1
  have hb := g.2.1
  intro T hT X
  obtain ⟨t, a1, b1⟩ := kk T hT X
  refine ⟨t, ?_, b1⟩
  obtain ⟨k0, cf, i, a', hk, hcf, hcp, -, hr, hev'⟩ := Cond.stringRef_spec hown hZ.1
  cases hZ.2.symm.trans hev'
  obtain ⟨k', hk', he⟩ := X.warmed.alike.2.2 _ _ hk
  have hr' : k'.resolved[n]? = some (some (.string (ad (1000 + j)))) := by
    rcases X.warmed.entry hk hk' n with h | ⟨h, -⟩
    · rw [h]; exact hr
    · rw [hr] at h; cases h
  jvm_step X.here [hexec, hb, hd, ldc_w.wp_string (e := G.1.2.2.1) (s := T) (f := F0 G.2.1.2.1 pc ls (st.map (sw_v ad))) X.here.top hk' (by rw [he]; exact hcf) hcp hr']
  exact a1
end SWZ
theorem sw_lsn {pc : Nat} {dflt : Int} (x : Int) : ∀ {ps : List (Int × Int)}, ps.all (fun q => decide (0 ≤ q.2)) = true → 0 ≤ dflt → 0 ≤ (pc : Int) + Op.lookupswitch.offset ps dflt x
  | [], _, h2 => by
    have e : Op.lookupswitch.offset [] dflt x = dflt := rfl
    rw [e]; omega
  | (a, o) :: r, h1, h2 => by
    simp only [List.all_cons, Bool.and_eq_true, decide_eq_true_eq] at h1
    have ih := sw_lsn (pc := pc) (dflt := dflt) x (ps := r) h1.2 h2
    have e : Op.lookupswitch.offset ((a, o) :: r) dflt x = if a = x then o else Op.lookupswitch.offset r dflt x := rfl
    rw [e]
    split
    · have := h1.1; omega
    · exact ih
/-- a char -/
def chr {α : Type} (y : Int32) (k : Option α) : Option α := if (y.toUInt32 % 65536).toInt32 = y then k else none
theorem chrI {α : Type} {y : Int32} {k : Option α} {o : α} (h : chr y k = some o) : narrow .char (.int y) = .int y ∧ k = some o := by
  unfold chr at h; split at h
  · rename_i q
    refine ⟨?_, h⟩
    rw [← q]
    exact pk_nc y
  · cases h
