/-! acts: the model's and the class's ways to read them -/
theorem tdiv8 (x : Int) : x.tdiv 8 = if 0 ≤ x then x / 8 else -((-x) / 8) := by
  split
  · rename_i h
    exact Int.tdiv_eq_ediv_of_nonneg h
  · rename_i h
    have h1 : x = -(-x) := by omega
    rw [h1, Int.neg_tdiv, Int.tdiv_eq_ediv_of_nonneg (by omega)]
    omega
theorem i32_div8 (x : Int32) : (x / nI 8).toInt = x.toInt.tdiv 8 := by
  have hne : nI 8 ≠ -1 := by decide
  rw [Int32.toInt_div_of_ne_right _ _ hne]
  rfl
theorem bm32 {x : Int} (h1 : -2147483648 ≤ x) (h2 : x < 2147483648) : x.bmod (2 ^ 32) = x := by
  have e : ((2 ^ 32 : Nat) : Int) = 4294967296 := by decide
  rw [Int.bmod_def, e]
  split <;> omega
theorem i32_rem8 {x : Int32} (h1 : -8000 ≤ x.toInt) (h2 : x.toInt ≤ 8000) : (x - x / nI 8 * nI 8).toInt = x.toInt - x.toInt.tdiv 8 * 8 := by
  have hd := i32_div8 x
  have ht := tdiv8 x.toInt
  have e8 : (nI 8).toInt = 8 := by decide
  have hm : (x / nI 8 * nI 8).toInt = x.toInt.tdiv 8 * 8 := by
    rw [Int32.toInt_mul, hd, e8]
    split at ht <;> exact bm32 (by omega) (by omega)
  rw [Int32.toInt_sub, hm]
  split at ht <;> exact bm32 (by omega) (by omega)
theorem i32_eq0 (x : Int32) : x = 0 ↔ x.toInt = 0 := by
  constructor
  · intro h; rw [h]; rfl
  · intro h; exact Int32.toInt_inj.mp h
theorem isA_iff (a : Int32) : isA a = true ↔ (1 ≤ a.toInt ∧ a.toInt ≤ 5) ∨ (-8000 ≤ a.toInt ∧ a.toInt ≤ 8000 ∧ a.toInt % 8 = 0) := by
  unfold isA
  simp only [Bool.or_eq_true, decide_eq_true_eq, Int32.le_iff_toInt_le]
  have e1 : (nI 1).toInt = 1 := by decide
  have e5 : (nI 5).toInt = 5 := by decide
  have e6 : (-8000 : Int32).toInt = -8000 := by decide
  have e7 : (nI 8000).toInt = 8000 := by decide
  rw [e1, e5, e6, e7]
  constructor
  · rintro (h | ⟨h1, h2, h3⟩)
    · exact Or.inl h
    · refine Or.inr ⟨h1, h2, ?_⟩
      rw [i32_eq0, i32_rem8 h1 h2] at h3
      have ht := tdiv8 a.toInt
      split at ht <;> omega
  · rintro (h | ⟨h1, h2, h3⟩)
    · exact Or.inl h
    · refine Or.inr ⟨h1, h2, ?_⟩
      rw [i32_eq0, i32_rem8 h1 h2]
      have ht := tdiv8 a.toInt
      split at ht <;> omega
theorem M_isAct (a : Int32) (h : HP) : f_X9_isAct a h = some (if isA a = true then nI 1 else nI 0, h) := by
  have h7 := i32_and7 a
  have h3 := i32_shr3 a
  have k := isA_iff a
  have e6 : (nI 6).toInt = 6 := by decide
  have e7 : (nI 1000).toInt = 1000 := by decide
  have e8 : (-1000 : Int32).toInt = -1000 := by decide
  have q0 : a.toInt % 8 < 8 := by omega
  have q1 : 0 ≤ a.toInt % 8 := by omega
  have q2 := Int.emod_add_mul_ediv a.toInt 8
  simp only [f_X9_isAct, f_X9_isAct_31, f_X9_isAct_49, f_X9_isAct_50, a0T, a1T, if_true, so_ite]
  congr 2
  simp only [i32_eq0, Int32.lt_iff_toInt_lt, Int32.le_iff_toInt_le, h7, h3, e6, e7, e8]
  by_cases c : isA a = true
  · have k1 := k.mp c
    rw [if_pos c]
    by_cases c1 : a.toInt % 8 = 0
    · rw [if_pos c1, if_neg (by omega), if_neg (by omega)]
    · rw [if_neg c1, if_neg (by omega), if_pos (by omega)]
  · have k1 : ¬ ((1 ≤ a.toInt ∧ a.toInt ≤ 5) ∨ (-8000 ≤ a.toInt ∧ a.toInt ≤ 8000 ∧ a.toInt % 8 = 0)) := fun q => c (k.mpr q)
    rw [if_neg c]
    by_cases c1 : a.toInt % 8 = 0
    · rw [if_pos c1]
      by_cases c2 : a.toInt / 8 < -1000
      · rw [if_pos c2]
      · rw [if_neg c2, if_pos (by omega)]
    · rw [if_neg c1]
      by_cases c2 : 6 ≤ a.toInt % 8
      · rw [if_pos c2]
      · rw [if_neg c2, if_neg (by omega)]
/-- an act's low bits, and what is pushed -/
theorem act_cs {a : Int32} (h : isA a = true) : (a &&& nI 7 = nI 0 ∧ a >>> ((nI 3) &&& 31) = a / nI 8 ∧ ¬ a = nI 1 ∧ ¬ a = nI 2 ∧ ¬ a = nI 3 ∧ ¬ a = nI 4 ∧ ¬ a = nI 5) ∨ a = nI 1 ∨ a = nI 2 ∨ a = nI 3 ∨ a = nI 4 ∨ a = nI 5 := by
  have k := (isA_iff a).mp h
  have h7 := i32_and7 a
  have h3 := i32_shr3 a
  have hd := i32_div8 a
  have ht := tdiv8 a.toInt
  have e : ∀ c : Nat, c < 100 → (nI c).toInt = (c : Int) := fun c hc => nI_toInt (by omega)
  have inj : ∀ c : Nat, c < 100 → (a = nI c ↔ a.toInt = (c : Int)) := fun c hc => ⟨fun q => by rw [q]; exact e c hc, fun q => Int32.toInt_inj.mp (by rw [q, e c hc])⟩
  rw [inj 1 (by decide), inj 2 (by decide), inj 3 (by decide), inj 4 (by decide), inj 5 (by decide)]
  by_cases c : a.toInt % 8 = 0
  · refine Or.inl ⟨Int32.toInt_inj.mp (by rw [h7, e 0 (by decide), c]; rfl), Int32.toInt_inj.mp ?_, by omega, by omega, by omega, by omega, by omega⟩
    rw [h3, hd]
    split at ht <;> omega
  · omega
