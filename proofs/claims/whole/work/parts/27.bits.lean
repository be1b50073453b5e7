/-! sets of nodes as bits -/
def andn (a b : Nat) : Nat := a ^^^ (a &&& b)
def clr (m k : Nat) : Nat := andn m (2 ^ k)
def setb (m k : Nat) : Nat := m ||| 2 ^ k
def abv (m k : Nat) : Nat := andn m (2 ^ (k + 1) - 1)
def pcn (m : Nat) : Nat := (List.range 7).countP m.testBit
def most (n m : Nat) : Bool := decide (n < pcn m * 2)
theorem andn_bit (a b k : Nat) : (andn a b).testBit k = (a.testBit k && !b.testBit k) := by
  unfold andn
  rw [Nat.testBit_xor, Nat.testBit_and]
  cases a.testBit k <;> cases b.testBit k <;> rfl
theorem clr_bit (m k j : Nat) : (clr m k).testBit j = (m.testBit j && !decide (k = j)) := by
  unfold clr
  rw [andn_bit, Nat.testBit_two_pow]
theorem setb_bit (m k j : Nat) : (setb m k).testBit j = (m.testBit j || decide (k = j)) := by
  unfold setb
  rw [Nat.testBit_or, Nat.testBit_two_pow]
theorem abv_bit (m k j : Nat) : (abv m k).testBit j = (m.testBit j && !decide (j < k + 1)) := by
  unfold abv
  rw [andn_bit, Nat.testBit_two_pow_sub_one]
set_option maxRecDepth 100000 in
theorem bt_andn0 : ((List.range 128).all fun a => (List.range 128).all fun b => decide ((nI a &&& (nI b ^^^ (-1))) = nI (andn a b)) && decide (andn a b < 128)) = true := by decide +kernel
theorem bt_andn {a b : Nat} (ha : a < 128) (hb : b < 128) : (nI a &&& (nI b ^^^ (-1))) = nI (andn a b) ∧ andn a b < 128 := by
  have h := List.all_eq_true.mp (List.all_eq_true.mp bt_andn0 a (List.mem_range.mpr ha)) b (List.mem_range.mpr hb)
  simpa using h
theorem bt_clr0 : ((List.range 128).all fun a => (List.range 7).all fun k => decide ((nI a &&& ((nI 1 <<< (nI k &&& 31)) ^^^ (-1))) = nI (clr a k)) && decide (clr a k < 128) && decide ((nI a &&& (((nI 2 <<< (nI k &&& 31)) - nI 1) ^^^ (-1))) = nI (abv a k)) && decide (abv a k < 128) && decide ((nI a ||| (nI 1 <<< (nI k &&& 31))) = nI (setb a k)) && decide (setb a k < 128)) = true := by decide +kernel
theorem bt_k {a k : Nat} (ha : a < 128) (hk : k < 7) : ((nI a &&& ((nI 1 <<< (nI k &&& 31)) ^^^ (-1))) = nI (clr a k) ∧ clr a k < 128) ∧ ((nI a &&& (((nI 2 <<< (nI k &&& 31)) - nI 1) ^^^ (-1))) = nI (abv a k) ∧ abv a k < 128) ∧ (nI a ||| (nI 1 <<< (nI k &&& 31))) = nI (setb a k) ∧ setb a k < 128 := by
  have h := List.all_eq_true.mp (List.all_eq_true.mp bt_clr0 a (List.mem_range.mpr ha)) k (List.mem_range.mpr hk)
  simp only [Bool.and_eq_true, decide_eq_true_eq] at h
  exact ⟨⟨h.1.1.1.1.1, h.1.1.1.1.2⟩, ⟨h.1.1.1.2, h.1.1.2⟩, h.1.2, h.2⟩
theorem bt_one0 : ((List.range 7).all fun k => decide ((nI 1 <<< (nI k &&& 31)) = nI (2 ^ k)) && decide (2 ^ k < 128)) = true := by decide +kernel
theorem bt_one {k : Nat} (hk : k < 7) : (nI 1 <<< (nI k &&& 31)) = nI (2 ^ k) ∧ 2 ^ k < 128 := by
  have h := List.all_eq_true.mp bt_one0 k (List.mem_range.mpr hk)
  simpa using h
theorem bt_cnt0 : ((List.range 128).all fun a => decide (f_J6_bitCount_0f7a4 (nI a) (0, fun _ => .inr (0, [])) |>.map (fun p => p.1) |> (· = some (nI (pcn a)))) && decide (pcn a ≤ 7)) = true := by decide +kernel
theorem C_bitCount {a : Nat} (ha : a < 128) (h : HP) : f_J6_bitCount_0f7a4 (nI a) h = some (nI (pcn a), h) ∧ pcn a ≤ 7 := by
  have q := List.all_eq_true.mp bt_cnt0 a (List.mem_range.mpr ha)
  simp only [Bool.and_eq_true, decide_eq_true_eq] at q
  refine ⟨?_, q.2⟩
  have q1 := q.1
  unfold f_J6_bitCount_0f7a4 at q1 ⊢
  exact congrArg (fun z => some (z, h)) (Option.some.inj q1)
theorem pk_nI_inj {a b : Nat} (ha : a < 2 ^ 31) (hb : b < 2 ^ 31) : (nI a = nI b) = (a = b) := propext (nI_eq ha hb)
