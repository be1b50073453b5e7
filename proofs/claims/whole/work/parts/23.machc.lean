/-! the class's machine, row, and small methods over a state -/
theorem up2_id {α : Type} (f : Nat → Nat → α) (a k : Nat) : up2 f a k (f a k) = f := by
  funext b j
  by_cases h : b = a ∧ j = k
  · rw [h.1, h.2]; simp [up2]
  · simp [up2, h]
theorem up2_up2 {α : Type} (f : Nat → Nat → α) (a k : Nat) (x y : α) : up2 (up2 f a k x) a k y = up2 f a k y := by
  funext b j
  by_cases h : b = a ∧ j = k
  · simp [up2, h]
  · simp [up2, h]
theorem va_up_id {α : Type} (f : Nat → α) (k : Nat) : va_up f k (f k) = f := by
  funext j
  by_cases h : j = k
  · rw [h]; simp [va_up]
  · simp [va_up, h]
/-- what an act does to a stack of d ints -/
def mach (d : Nat) (f : Nat → Int32) (act : Int32) : Nat × (Nat → Int32) :=
  if act = nI 1 then (if d < 2 then (d, f) else (d - 1, va_up f (d - 2) (f (d - 2) + f (d - 1))))
  else if act = nI 2 then (if d < 2 then (d, f) else (d - 1, va_up f (d - 2) (f (d - 2) * f (d - 1))))
  else if act = nI 3 then (if d < 1 then (d, f) else if 20 ≤ d then (d, f) else (d + 1, va_up f d (f (d - 1))))
  else if act = nI 4 then (if d < 1 then (d, f) else (d - 1, f))
  else if act = nI 5 then (if d < 2 then (d, f) else (d, va_up (va_up f (d - 1) (f (d - 2))) (d - 2) (f (d - 1))))
  else (if 20 ≤ d then (d, f) else (d + 1, va_up f d (act / nI 8)))
theorem mach_le {d : Nat} {f : Nat → Int32} {act : Int32} (hd : d ≤ 20) : (mach d f act).1 ≤ 20 := by
  unfold mach
  repeat' split
  all_goals (try simp only)
  all_goals omega
def sMach (s : SS) (i : Nat) (m : Nat × (Nat → Int32)) : SS := (up2 s.1 21 i m.1, up3 s.2.1 1 i m.2, s.2.2)
theorem sMach_id (s : SS) (i : Nat) : sMach s i (s.1 21 i, s.2.1 1 i) = s := by
  unfold sMach up3
  rw [up2_id, up2_id]
section MC
variable {n : Nat} {h : HP} {s : SS}
theorem RepC.gS (R : RepC n h s) {i : Nat} (hi : i < n) {j : Nat} (hj : j < 20) : hz_aI h (some (nd n i + 4)) 0 (nI j) = some (s.2.1 1 i j) := R.gW hi 1 (by decide) rfl hj
theorem RepC.sS (R : RepC n h s) {i : Nat} (hi : i < n) {j : Nat} (hj : j < 20) (x : Int32) : ∃ h', hz_aS h (some (nd n i + 4)) 0 (nI j) x = some h' ∧ RepC n h' (s.1, up3 s.2.1 1 i (va_up (s.2.1 1 i) j x), s.2.2) := R.sW hi 1 (by decide) rfl hj x
theorem C_add (R : RepC n h s) {i : Nat} (hi : i < n) (hd : s.1 21 i ≤ 20) : ∃ h', f_X3_add (some (nd n i + 3)) h = some h' ∧ RepC n h' (sMach s i (mach (s.1 21 i) (s.2.1 1 i) (nI 1))) := by
  unfold mach
  rw [if_pos rfl]
  simp only [f_X3_add, f_X3_add_43, R.g21 hi, R.mac hi, Option.bind_some]
  by_cases hc : s.1 21 i < 2
  · rw [if_pos ((nI_ltI (by omega) (by omega)).mpr hc), if_pos hc, sMach_id]
    exact ⟨h, rfl, R⟩
  · rw [if_neg (fun q => hc ((nI_ltI (by omega) (by omega)).mp q)), if_neg hc]
    simp only [pk_sub (show 2 ≤ s.1 21 i by omega), pk_sub (show 1 ≤ s.1 21 i by omega), R.gS hi (show s.1 21 i - 2 < 20 by omega), R.gS hi (show s.1 21 i - 1 < 20 by omega), Option.bind_some]
    obtain ⟨h1, e1, R1⟩ := R.sS hi (show s.1 21 i - 2 < 20 by omega) (s.2.1 1 i (s.1 21 i - 2) + s.2.1 1 i (s.1 21 i - 1))
    simp only [e1, Option.bind_some, R1.g21 hi, pk_sub (show 1 ≤ s.1 21 i by omega)]
    obtain ⟨h2, e2, R2⟩ := R1.s21 hi (s.1 21 i - 1)
    exact ⟨h2, by simp only [e2, Option.bind_some], R2⟩
theorem C_mul (R : RepC n h s) {i : Nat} (hi : i < n) (hd : s.1 21 i ≤ 20) : ∃ h', f_X3_multiply (some (nd n i + 3)) h = some h' ∧ RepC n h' (sMach s i (mach (s.1 21 i) (s.2.1 1 i) (nI 2))) := by
  unfold mach
  rw [if_neg (by decide), if_pos rfl]
  simp only [f_X3_multiply, f_X3_multiply_43, R.g21 hi, R.mac hi, Option.bind_some]
  by_cases hc : s.1 21 i < 2
  · rw [if_pos ((nI_ltI (by omega) (by omega)).mpr hc), if_pos hc, sMach_id]
    exact ⟨h, rfl, R⟩
  · rw [if_neg (fun q => hc ((nI_ltI (by omega) (by omega)).mp q)), if_neg hc]
    simp only [pk_sub (show 2 ≤ s.1 21 i by omega), pk_sub (show 1 ≤ s.1 21 i by omega), R.gS hi (show s.1 21 i - 2 < 20 by omega), R.gS hi (show s.1 21 i - 1 < 20 by omega), Option.bind_some]
    obtain ⟨h1, e1, R1⟩ := R.sS hi (show s.1 21 i - 2 < 20 by omega) (s.2.1 1 i (s.1 21 i - 2) * s.2.1 1 i (s.1 21 i - 1))
    simp only [e1, Option.bind_some, R1.g21 hi, pk_sub (show 1 ≤ s.1 21 i by omega)]
    obtain ⟨h2, e2, R2⟩ := R1.s21 hi (s.1 21 i - 1)
    exact ⟨h2, by simp only [e2, Option.bind_some], R2⟩
theorem C_dup (R : RepC n h s) {i : Nat} (hi : i < n) (hd : s.1 21 i ≤ 20) : ∃ h', f_X3_duplicate (some (nd n i + 3)) h = some h' ∧ RepC n h' (sMach s i (mach (s.1 21 i) (s.2.1 1 i) (nI 3))) := by
  unfold mach
  rw [if_neg (by decide), if_neg (by decide), if_pos rfl]
  simp only [f_X3_duplicate, f_X3_duplicate_47, R.g21 hi, R.mac hi, Option.bind_some]
  by_cases hc : s.1 21 i < 1
  · rw [if_pos ((nI_ltI (by omega) (by omega)).mpr hc), if_pos hc, sMach_id]
    exact ⟨h, rfl, R⟩
  · rw [if_neg (fun q => hc ((nI_ltI (by omega) (by omega)).mp q)), if_neg hc]
    by_cases hc2 : 20 ≤ s.1 21 i
    · rw [if_pos ((nI_leI (by omega) (by omega)).mpr hc2), if_pos hc2, sMach_id]
      exact ⟨h, rfl, R⟩
    · rw [if_neg (fun q => hc2 ((nI_leI (by omega) (by omega)).mp q)), if_neg hc2]
      simp only [pk_sub (show 1 ≤ s.1 21 i by omega), R.gS hi (show s.1 21 i - 1 < 20 by omega), Option.bind_some]
      obtain ⟨h1, e1, R1⟩ := R.sS hi (show s.1 21 i < 20 by omega) (s.2.1 1 i (s.1 21 i - 1))
      simp only [e1, Option.bind_some, R1.g21 hi, nI_add]
      obtain ⟨h2, e2, R2⟩ := R1.s21 hi (s.1 21 i + 1)
      exact ⟨h2, by simp only [e2, Option.bind_some], R2⟩
theorem C_drop (R : RepC n h s) {i : Nat} (hi : i < n) (hd : s.1 21 i ≤ 20) : ∃ h', f_X3_drop (some (nd n i + 3)) h = some h' ∧ RepC n h' (sMach s i (mach (s.1 21 i) (s.2.1 1 i) (nI 4))) := by
  unfold mach
  rw [if_neg (by decide), if_neg (by decide), if_neg (by decide), if_pos rfl]
  simp only [f_X3_drop, f_X3_drop_18, R.g21 hi, Option.bind_some]
  by_cases hc : s.1 21 i < 1
  · rw [if_pos ((nI_ltI (by omega) (by omega)).mpr hc), if_pos hc, sMach_id]
    exact ⟨h, rfl, R⟩
  · rw [if_neg (fun q => hc ((nI_ltI (by omega) (by omega)).mp q)), if_neg hc]
    simp only [pk_sub (show 1 ≤ s.1 21 i by omega)]
    obtain ⟨h2, e2, R2⟩ := R.s21 hi (s.1 21 i - 1)
    refine ⟨h2, by simp only [e2, Option.bind_some], ?_⟩
    unfold sMach up3
    rw [up2_id s.2.1]
    exact R2
theorem C_swap (R : RepC n h s) {i : Nat} (hi : i < n) (hd : s.1 21 i ≤ 20) : ∃ h', f_X3_swap (some (nd n i + 3)) h = some h' ∧ RepC n h' (sMach s i (mach (s.1 21 i) (s.2.1 1 i) (nI 5))) := by
  unfold mach
  rw [if_neg (by decide), if_neg (by decide), if_neg (by decide), if_neg (by decide), if_pos rfl]
  simp only [f_X3_swap, f_X3_swap_54, R.g21 hi, R.mac hi, Option.bind_some]
  by_cases hc : s.1 21 i < 2
  · rw [if_pos ((nI_ltI (by omega) (by omega)).mpr hc), if_pos hc, sMach_id]
    exact ⟨h, rfl, R⟩
  · rw [if_neg (fun q => hc ((nI_ltI (by omega) (by omega)).mp q)), if_neg hc]
    simp only [pk_sub (show 2 ≤ s.1 21 i by omega), pk_sub (show 1 ≤ s.1 21 i by omega), R.gS hi (show s.1 21 i - 2 < 20 by omega), R.gS hi (show s.1 21 i - 1 < 20 by omega), Option.bind_some]
    obtain ⟨h1, e1, R1⟩ := R.sS hi (show s.1 21 i - 1 < 20 by omega) (s.2.1 1 i (s.1 21 i - 2))
    simp only [e1, Option.bind_some, R1.g21 hi, R1.mac hi, pk_sub (show 2 ≤ s.1 21 i by omega)]
    obtain ⟨h2, e2, R2⟩ := R1.sS hi (show s.1 21 i - 2 < 20 by omega) (s.2.1 1 i (s.1 21 i - 1))
    refine ⟨h2, by simp only [e2, Option.bind_some], ?_⟩
    unfold sMach
    rw [up2_id s.1]
    have e3 : up3 (up3 s.2.1 1 i (va_up (s.2.1 1 i) (s.1 21 i - 1) (s.2.1 1 i (s.1 21 i - 2)))) 1 i (va_up (up3 s.2.1 1 i (va_up (s.2.1 1 i) (s.1 21 i - 1) (s.2.1 1 i (s.1 21 i - 2))) 1 i) (s.1 21 i - 2) (s.2.1 1 i (s.1 21 i - 1))) = up3 s.2.1 1 i (va_up (va_up (s.2.1 1 i) (s.1 21 i - 1) (s.2.1 1 i (s.1 21 i - 2))) (s.1 21 i - 2) (s.2.1 1 i (s.1 21 i - 1))) := by
      unfold up3
      rw [up2_up2, up2_same]
    exact e3 ▸ R2
theorem C_push (R : RepC n h s) {i : Nat} (hi : i < n) (hd : s.1 21 i ≤ 20) (x : Int32) : ∃ h', f_X3_push (some (nd n i + 3)) x h = some h' ∧ RepC n h' (sMach s i (if 20 ≤ s.1 21 i then (s.1 21 i, s.2.1 1 i) else (s.1 21 i + 1, va_up (s.2.1 1 i) (s.1 21 i) x))) := by
  simp only [f_X3_push, f_X3_push_29, R.g21 hi, R.mac hi, Option.bind_some]
  by_cases hc2 : 20 ≤ s.1 21 i
  · rw [if_pos ((nI_leI (by omega) (by omega)).mpr hc2), if_pos hc2, sMach_id]
    exact ⟨h, rfl, R⟩
  · rw [if_neg (fun q => hc2 ((nI_leI (by omega) (by omega)).mp q)), if_neg hc2]
    obtain ⟨h1, e1, R1⟩ := R.sS hi (show s.1 21 i < 20 by omega) x
    simp only [e1, Option.bind_some, R1.g21 hi, nI_add]
    obtain ⟨h2, e2, R2⟩ := R1.s21 hi (s.1 21 i + 1)
    exact ⟨h2, by simp only [e2, Option.bind_some], R2⟩
theorem C_carryOut (R : RepC n h s) {i : Nat} (hi : i < n) (hd : s.1 21 i ≤ 20) (act : Int32) : ∃ h', f_X3_carryOut (some (nd n i + 3)) act h = some h' ∧ RepC n h' (sMach s i (mach (s.1 21 i) (s.2.1 1 i) act)) := by
  simp only [f_X3_carryOut, f_X3_carryOut_79, R.obM hi, if_true]
  by_cases c1 : act = nI 1
  · subst c1
    rw [if_pos rfl]
    obtain ⟨h1, e1, R1⟩ := C_add R hi hd
    exact ⟨h1, by simp only [e1, Option.bind_some], R1⟩
  by_cases c2 : act = nI 2
  · subst c2
    rw [if_neg (by decide), if_pos rfl]
    obtain ⟨h1, e1, R1⟩ := C_mul R hi hd
    exact ⟨h1, by simp only [e1, Option.bind_some], R1⟩
  by_cases c3 : act = nI 3
  · subst c3
    rw [if_neg (by decide), if_neg (by decide), if_pos rfl]
    obtain ⟨h1, e1, R1⟩ := C_dup R hi hd
    exact ⟨h1, by simp only [e1, Option.bind_some], R1⟩
  by_cases c4 : act = nI 4
  · subst c4
    rw [if_neg (by decide), if_neg (by decide), if_neg (by decide), if_pos rfl]
    obtain ⟨h1, e1, R1⟩ := C_drop R hi hd
    exact ⟨h1, by simp only [e1, Option.bind_some], R1⟩
  by_cases c5 : act = nI 5
  · subst c5
    rw [if_neg (by decide), if_neg (by decide), if_neg (by decide), if_neg (by decide), if_pos rfl]
    obtain ⟨h1, e1, R1⟩ := C_swap R hi hd
    exact ⟨h1, by simp only [e1, Option.bind_some], R1⟩
  rw [if_neg c1, if_neg c2, if_neg c3, if_neg c4, if_neg c5]
  obtain ⟨h1, e1, R1⟩ := C_push R hi hd (act / nI 8)
  refine ⟨h1, by simp only [e1, Option.bind_some], ?_⟩
  unfold mach
  rw [if_neg c1, if_neg c2, if_neg c3, if_neg c4, if_neg c5]
  exact R1
theorem C_fromTop (R : RepC n h s) {i : Nat} (hi : i < n) (hd : s.1 21 i ≤ 20) (x : Int32) : f_X3_fromTop (some (nd n i + 3)) x h = some (if x < 0 then nI 0 else if nI (s.1 21 i) ≤ x then nI 0 else s.2.1 1 i (s.1 21 i - 1 - x.toNatClampNeg), h) := by
  simp only [f_X3_fromTop, f_X3_fromTop_28, f_X3_fromTop_29, R.g21 hi, R.mac hi, Option.bind_some]
  by_cases c1 : x < 0
  · rw [if_pos c1, if_pos c1]
  rw [if_neg c1, if_neg c1]
  by_cases c2 : nI (s.1 21 i) ≤ x
  · rw [if_pos c2, if_pos c2]
  rw [if_neg c2, if_neg c2]
  obtain ⟨j, hj, rfl⟩ := nI_of c1
  have hlt : j < s.1 21 i := by
    rcases Nat.lt_or_ge j (s.1 21 i) with q | q
    · exact q
    · exact absurd ((nI_leI (by omega) hj).mpr q) c2
  rw [pk_sub (show 1 ≤ s.1 21 i by omega), pk_sub (show j ≤ s.1 21 i - 1 by omega), R.gS hi (show s.1 21 i - 1 - j < 20 by omega), nI_clamp hj]
  rfl
theorem C_isFull (R : RepC n h s) {i : Nat} (hi : i < n) (hd : s.1 20 i ≤ 60) : f_X6_isFull (some (nd n i + 1)) h = some (if s.1 20 i < 60 then nI 0 else nI 1, h) := by
  simp only [f_X6_isFull, f_X6_isFull_14, R.g20 hi, Option.bind_some]
  by_cases c : s.1 20 i < 60
  · rw [if_pos ((nI_ltI (by omega) (by omega)).mpr c), if_pos c, if_pos (by decide)]
  · rw [if_neg (fun q => c ((nI_ltI (by omega) (by omega)).mp q)), if_neg c, if_pos (by decide)]
theorem C_rowAdd (R : RepC n h s) {i : Nat} (hi : i < n) (hd : s.1 20 i < 60) (x : Int32) : ∃ h', f_X6_add (some (nd n i + 1)) x h = some h' ∧ RepC n h' (up2 s.1 20 i (s.1 20 i + 1), up3 s.2.1 0 i (va_up (s.2.1 0 i) (s.1 20 i) x), s.2.2) := by
  simp only [f_X6_add, f_X6_add_27, R.obR hi, if_true, C_isFull R hi (Nat.le_of_lt hd), Option.bind_some, if_pos hd, nI_0, R.row hi, R.g20 hi]
  obtain ⟨h1, e1, R1⟩ := R.sW hi 0 (by decide) (a := nd n i + 2) rfl (j := s.1 20 i) hd x
  simp only [e1, Option.bind_some, R1.g20 hi, nI_add]
  obtain ⟨h2, e2, R2⟩ := R1.s20 hi (s.1 20 i + 1)
  exact ⟨h2, by simp only [e2, Option.bind_some], R2⟩
end MC
