/-! the model's small methods -/
theorem mhas0 : ((List.range 128).all fun m => (List.range 7).all fun t => decide ((((nI m) >>> ((nI t) &&& 31)) &&& (nI 1)) = nI (if m.testBit t then 1 else 0))) = true := by decide +kernel
theorem mhas {m t : Nat} (hm : m < 128) (ht : t < 7) : (((nI m) >>> ((nI t) &&& 31)) &&& (nI 1)) = nI (if m.testBit t then 1 else 0) := by
  have h1 := List.all_eq_true.mp mhas0 m (List.mem_range.mpr hm)
  have h2 := List.all_eq_true.mp h1 t (List.mem_range.mpr ht)
  simpa using h2
theorem n01F : (nI 0 = nI 1) = False := eq_false (by decide)
theorem M_has {m t : Nat} (hm : m < 128) (ht : t < 7) (h : HP) : f_X9_has (nI m) (nI t) h = some (if m.testBit t = true then nI 1 else nI 0, h) := by
  simp only [f_X9_has, f_X9_has_14, mhas hm ht, a0T, a1T, if_true]
  cases m.testBit t
  · simp only [Bool.false_eq_true, if_false, n01F]
  · simp only [if_true]
theorem nI_mul (a b : Nat) : nI a * nI b = nI (a * b) := (Int32.ofNat_mul a b).symm
def cntN (n m : Nat) : Nat := (List.range n).countP m.testBit
section ML
variable {n B : Nat} {h : HP} {s : SS} {G : GG} {K : KK}
theorem M_isNode (R : RepM n h s G K) {i : Nat} (hi : i < n) : f_X9_isNode (some 1) (nI i) h = some (nI 1, h) := by
  have hn := R.rng
  simp only [f_X9_isNode, f_X9_isNode_17, if_neg (nI_nn (show i < 2 ^ 31 by omega)), R.n0, Option.bind_some, a1T, if_true]
  rw [if_neg (fun q => by have := (nI_leI (by omega) (by omega)).mp q; omega)]
theorem M_isNodeN (R : RepM n h s G K) {a : Int32} (ha : a < 0 ∨ nI n ≤ a) : f_X9_isNode (some 1) a h = some (nI 0, h) := by
  by_cases c : a < 0
  · simp only [f_X9_isNode, f_X9_isNode_16, f_X9_isNode_17, if_pos c, a0T, if_true]
  · simp only [f_X9_isNode, f_X9_isNode_16, f_X9_isNode_17, if_neg c, R.n0, Option.bind_some, if_pos (ha.resolve_left c), a0T, if_true]
theorem M_manyL (R : RepM n h s G K) {m : Nat} (hm : m < 128) : ∀ (k t fuel : Nat), t + k = n → k < fuel → f_X9_many_4 fuel (some 1) (nI m) (nI (cntN t m)) (nI t) h = some (nI (cntN n m), h)
  | 0, t, fuel, ht, hf => by
    obtain ⟨fu, rfl⟩ : ∃ fu, fuel = fu + 1 := ⟨fuel - 1, by omega⟩
    have hn := R.rng
    rw [f_X9_many_4, R.n0, Option.bind_some, if_pos ((nI_leI (by omega) (by omega)).mpr (by omega))]
    rw [show t = n by omega]
  | k + 1, t, fuel, ht, hf => by
    obtain ⟨fu, rfl⟩ : ∃ fu, fuel = fu + 1 := ⟨fuel - 1, by omega⟩
    have hn := R.rng
    rw [f_X9_many_4, R.n0, Option.bind_some, if_neg (fun q => by have := (nI_leI (by omega) (by omega)).mp q; omega), mhas hm (by omega), nI_add, nI_add]
    have : cntN t m + (if m.testBit t then 1 else 0) = cntN (t + 1) m := by
      unfold cntN
      rw [List.range_succ, List.countP_append]
      cases ht : m.testBit t <;> simp [ht]
    rw [this]
    exact M_manyL R hm k (t + 1) fu (by omega) (by omega)
theorem M_many (R : RepM n h s G K) {m : Nat} (hm : m < 128) : f_X9_many (some 1) (nI m) h = some (nI (cntN n m), h) := by
  have hn := R.rng
  unfold f_X9_many
  exact M_manyL R hm n 0 600 (by omega) (by omega)
theorem M_leaderL (R : RepM n h s G K) {i : Nat} (hi : i < n) (hb : s.1 11 i < 128) : ∀ (t fuel : Nat), t < fuel → t < 7 → f_X9_leader_7 fuel (some 1) (nI i) (nI t) h = some (nI (ldr (s.1 11 i) t), h)
  | 0, fuel, hf, ht => by
    obtain ⟨fu, rfl⟩ : ∃ fu, fuel = fu + 1 := ⟨fuel - 1, by omega⟩
    rw [f_X9_leader_7, if_pos (by decide), f_X9_leader_30]
    rfl
  | t + 1, fuel, hf, ht => by
    obtain ⟨fu, rfl⟩ : ∃ fu, fuel = fu + 1 := ⟨fuel - 1, by omega⟩
    have c0 : ¬ nI (t + 1) ≤ 0 := fun q => by have := (nI_leI (a := t + 1) (b := 0) (by omega) (by omega)).mp q; omega
    have hd : nI (t + 1) + (-1 : Int32) = nI t := by
      rw [← nI_add]
      show nI t + nI 1 + (-1) = nI t
      rw [Int32.add_assoc, show nI 1 + (-1 : Int32) = 0 by decide, Int32.add_zero]
    rw [f_X9_leader_7, if_neg c0, R.r3, Option.bind_some, R.g11 hi, Option.bind_some, M_has hb (by omega), Option.bind_some, hd]
    rw [ldr]
    cases hb2 : (s.1 11 i).testBit (t + 1) with
    | true => simp only [if_true, z1F, if_false, f_X9_leader_30]
    | false =>
      simp only [Bool.false_eq_true, if_false, z0T, if_true]
      exact M_leaderL R hi hb t fu (by omega) (by omega)
theorem M_leader (R : RepM n h s G K) {i : Nat} (hi : i < n) (hb : s.1 11 i < 128) : f_X9_leader (some 1) (nI i) h = some (nI (ld n s i), h) := by
  have hn := R.rng
  rw [f_X9_leader, R.n0, Option.bind_some, pk_sub (show 1 ≤ n by omega)]
  exact M_leaderL R hi hb (n - 1) 600 (by omega) (by omega)
theorem M_isBlocked (R : RepM n h s G K) {i : Nat} (hi : i < n) (h12 : s.1 12 i < 2 ^ 31) (h10 : s.1 10 i < 2 ^ 31) : f_X9_isBlocked (some 1) (nI i) h = some (if blk s i = true then nI 1 else nI 0, h) := by
  simp only [f_X9_isBlocked, f_X9_isBlocked_20, R.r8, R.r2, R.g12 hi, R.g10 hi, Option.bind_some, pk_nI_inj h12 h10, a0T, a1T, if_true, so_ite]
  unfold blk
  by_cases c : s.1 12 i = s.1 10 i
  · simp [c]
  · simp [c]
theorem M_push (R : RepM n h s G K) {i : Nat} (hi : i < n) (hd : s.1 21 i < 20) (x : Int32) : ∃ h', f_X9_push (some 1) (nI i) x h = some h' ∧ RepM n h' (sv 21 i (s.1 21 i + 1) (sw 1 i (va_up (s.2.1 1 i) (s.1 21 i) x) s)) G K := by
  obtain ⟨h1, e1, R1⟩ := R.sS hi hd x
  obtain ⟨h2, e2, R2⟩ := R1.s21 hi (s.1 21 i + 1)
  refine ⟨h2, ?_, R2⟩
  simp only [f_X9_push, R.r18, R.r19, R.g21 hi, Option.bind_some, nI_mul, nI_add, e1, R1.r19, R1.v21 hi (v := s.1 21 i) rfl, e2]
end ML
theorem i32_and7 (x : Int32) : (x &&& nI 7).toInt = x.toInt % 8 := by
  have h1 : (x &&& nI 7).toInt = (x.toBitVec &&& 7#32).toInt := rfl
  have h2 : (x.toBitVec &&& 7#32).toNat = x.toBitVec.toNat % 8 := by
    rw [BitVec.toNat_and]
    exact Nat.and_two_pow_sub_one_eq_mod _ 3
  have h3 : x.toInt = x.toBitVec.toInt := rfl
  rw [h1, h3, BitVec.toInt_eq_toNat_cond, BitVec.toInt_eq_toNat_cond, h2]
  have := x.toBitVec.isLt
  split <;> split <;> omega
theorem i32_shr3 (x : Int32) : (x >>> ((nI 3) &&& 31)).toInt = x.toInt / 8 := by
  have h1 : (x >>> ((nI 3) &&& 31)).toInt = (x.toBitVec.sshiftRight 3).toInt := rfl
  rw [h1, BitVec.toInt_sshiftRight, Int.shiftRight_eq_div_pow]
  rfl
