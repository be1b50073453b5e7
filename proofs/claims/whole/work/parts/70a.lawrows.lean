/-! rows of the law: its start, its calls -/
abbrev lA (s : State) : Nat → Prop := fun q => s.heap.size ≤ q
def KL (D : va_G) (cA : Nat → ClassId) (n0 : Nat) (s : State) : Prop := va_K D vwCl [(cA 0, hz_ty 0), (cA 1, hz_ty 1), (cA 2, hz_ty 2), (cA 3, hz_ty 3)] s ∧ (∀ w ∈ hz_N, va_Nw w s) ∧ va_Z "GroupCast" "NO_ACTS" "[I" (.ref n0) (lA s) s s.heap ∧ va_T .int n0 0 (fun _ => .int 0) (lA s) s s.heap ∧ va_AO "GroupCast$Channel" s ∧ va_AO "GroupCast$Node" s
theorem hz_NwB {w : Cond} (hw : w ∈ hz_N) {A : Array Value} {s : State} (h : w.before A s = true) : va_Nw w s := by
  have hi : hz_isN w = true := (List.mem_filter.mp hw).2
  unfold hz_isN at hi
  split at hi
  · exact h
  · exact h
  · exact h
  · cases hi
theorem lw_arr {A : Array Value} {s : State} {ty : FieldType} (h : (Cond.arrayClass ty).before A s = true) (hty : ty = .int ∨ ty = .boolean) : ∃ cA : ClassId, ArrOfT s cA ty ∧ va_RA s cA ty := by
  obtain ⟨cA, kA, comp, h1, h2, h3⟩ := Cond.arrayClass_spec h
  refine ⟨cA, fun n z => ⟨fun k h => (by cases h), kA, h2, comp, h3⟩, ?_⟩
  rcases hty with rfl | rfl
  · exact h1
  · exact h1
theorem lw_arq {A : Array Value} {s : State} {C : String} (h : (Cond.arrayOver (.object C)).before A s = true) : ∃ cA : ClassId, ArrOfT s cA (.object C) ∧ va_RA s cA (.object C) := by
  obtain ⟨comp, cA, kA, h1, h2, h3, h4, h5⟩ := Cond.arrayOver_spec h
  exact ⟨cA, fun n z => ⟨fun k h => (by cases h), kA, h3, comp, h4⟩, kA, comp, h3, h4, h1, h5⟩
