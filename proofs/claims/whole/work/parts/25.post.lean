/-! the class's post over a state -/
theorem hasC : ((List.range 128).all fun m => (List.range 7).all fun t => decide ((nI m &&& (nI 1 <<< (nI t &&& 31))) = 0) == !m.testBit t) = true := by decide +kernel
theorem has_bit {m t : Nat} (hm : m < 128) (ht : t < 7) : (nI m &&& (nI 1 <<< (nI t &&& 31))) = 0 ↔ ¬ m.testBit t = true := by
  have h := List.all_eq_true.mp (List.all_eq_true.mp hasC m (List.mem_range.mpr hm)) t (List.mem_range.mpr ht)
  cases hb : m.testBit t <;> simpa [hb] using h
theorem C_has {m t : Nat} (hm : m < 128) (ht : t < 7) (h : HP) : f_X8_has (nI m) (nI t) h = some (if m.testBit t then nI 1 else nI 0, h) := by
  unfold f_X8_has f_X8_has_13
  cases hb : m.testBit t with
  | true => rw [if_neg (fun q => (has_bit hm ht).mp q hb), if_pos rfl, if_pos (by decide)]
  | false =>
    rw [if_pos ((has_bit hm ht).mpr (by rw [hb]; decide)), if_pos (show nI 0 &&& 1 = nI 0 by decide)]
    rfl
/-- one letter is sent -/
def snd1 (x y : Nat) (ℓ : LL) (s : SS) : SS := if s.2.2.2.2.1 5 < 500 then (s.1, s.2.1, s.2.2.1, up2 s.2.2.2.1 x y (s.2.2.2.1 x y ++ [ℓ]), va_up (va_up s.2.2.2.2.1 0 (s.2.2.2.2.1 0 + 1)) 5 (s.2.2.2.2.1 5 + 1), s.2.2.2.2.2) else (s.1, s.2.1, s.2.2.1, s.2.2.2.1, va_up (va_up s.2.2.2.2.1 0 (s.2.2.2.2.1 0 + 1)) 1 (s.2.2.2.2.1 1 + 1), s.2.2.2.2.2)
/-- to those of t, t + 1 .. (k of them) whose bits are set -/
def sndG (x m : Nat) (ℓ : LL) : Nat → Nat → SS → SS
  | _, 0, s => s
  | t, k + 1, s => sndG x m ℓ (t + 1) k (if m.testBit t then snd1 x t ℓ s else s)
theorem snd1_V (x y : Nat) (ℓ : LL) (s : SS) : (snd1 x y ℓ s).1 = s.1 ∧ (snd1 x y ℓ s).2.1 = s.2.1 ∧ (snd1 x y ℓ s).2.2.1 = s.2.2.1 ∧ (snd1 x y ℓ s).2.2.2.2.2 = s.2.2.2.2.2 := by
  unfold snd1
  split <;> exact ⟨rfl, rfl, rfl, rfl⟩
theorem snd1_fl {x y : Nat} {ℓ : LL} {s : SS} (h : s.2.2.2.2.1 5 ≤ 500) : (snd1 x y ℓ s).2.2.2.2.1 5 ≤ 500 := by
  unfold snd1
  split
  · simp [va_up]; omega
  · simp [va_up]; omega
theorem sndG_V (x m : Nat) (ℓ : LL) : ∀ (k t : Nat) (s : SS), (sndG x m ℓ t k s).1 = s.1 ∧ (sndG x m ℓ t k s).2.1 = s.2.1 ∧ (sndG x m ℓ t k s).2.2.1 = s.2.2.1 ∧ (sndG x m ℓ t k s).2.2.2.2.2 = s.2.2.2.2.2
  | 0, _, _ => ⟨rfl, rfl, rfl, rfl⟩
  | k + 1, t, s => by
    have ih := sndG_V x m ℓ k (t + 1) (if m.testBit t then snd1 x t ℓ s else s)
    have h1 := snd1_V x t ℓ s
    unfold sndG
    split at ih <;> rename_i hb <;> simp only [hb, if_true] <;> first | exact ih | (refine ⟨ih.1.trans h1.1, ih.2.1.trans h1.2.1, ih.2.2.1.trans h1.2.2.1, ih.2.2.2.trans h1.2.2.2⟩)
theorem sndG_fl {x m : Nat} {ℓ : LL} : ∀ (k t : Nat) {s : SS}, s.2.2.2.2.1 5 ≤ 500 → (sndG x m ℓ t k s).2.2.2.2.1 5 ≤ 500
  | 0, _, _, h => h
  | k + 1, t, s, h => by
    unfold sndG
    refine sndG_fl k (t + 1) ?_
    split
    · exact snd1_fl h
    · exact h
section PO
variable {n : Nat} {h : HP} {s : SS}
theorem C_between (R : RepC n h s) {x y : Nat} (hx : x < n) (hy : y < n) : f_X5_between (some 3) (nI x) (nI y) h = some (some (5 + (x * n + y)), h) := by
  have hn := R.rng
  have e1 : ¬ nI x < 0 := nI_pos (by omega)
  have e2 : ¬ nI y < 0 := nI_pos (by omega)
  have e3 : ¬ nI n ≤ nI x := fun q => by have := (nI_leI (by omega) (by omega)).mp q; omega
  have e4 : ¬ nI n ≤ nI y := fun q => by have := (nI_leI (by omega) (by omega)).mp q; omega
  have e5 : ¬ nI 1 = 0 := by decide
  simp only [f_X5_between, f_X5_between_29, f_X5_between_51, R.p0, R.p2, Option.bind_some, if_neg e1, if_neg e2, if_neg e3, if_neg e4, if_neg e5, pk_mul, nI_add, R.chs (ch_lt hx hy)]
theorem C_betweenN (R : RepC n h s) {a b : Int32} (hc : a < 0 ∨ nI n ≤ a ∨ b < 0 ∨ nI n ≤ b) : f_X5_between (some 3) a b h = some (none, h) := by
  simp only [f_X5_between, f_X5_between_28, f_X5_between_29, f_X5_between_51, R.p0, Option.bind_some, nI_0, if_true]
  by_cases c1 : a < 0
  · rw [if_pos c1]
  rw [if_neg c1]
  by_cases c2 : nI n ≤ a
  · rw [if_pos c2]
  rw [if_neg c2]
  by_cases c3 : b < 0
  · rw [if_pos c3]
  rw [if_neg c3]
  by_cases c4 : nI n ≤ b
  · rw [if_pos c4]
  exact absurd hc (by simp [c1, c2, c3, c4])
/-- a letter made and put on its channel -/
theorem C_put {c : Nat} {kd ln : Nat → Nat} {Z : Nat → Nat → Int32} {P : Nat → Nat → Option Nat} {A : Nat → Nat → Int32} {Q : Nat → List Nat} (R : RC n c kd ln Z P A Q s) {x y : Nat} (hx : x < n) (hy : y < n) {k nr d b : Nat} {xs : List Int32} (hb : IsA n c kd ln A b xs) : ∃ h', f_X1_put (some (5 + (x * n + y))) (some (c + 1)) (hk (c + 1) (va_up kd (c + 1) 2) ln (va_up Z (c + 1) (lZ (nI k) (nI nr) (nI d))) (va_up P (c + 1) (lP (some b))) A) = some h' ∧ RepC n h' (s.1, s.2.1, s.2.2.1, up2 s.2.2.2.1 x y (s.2.2.2.1 x y ++ [(k, nr, d, xs)]), s.2.2.2.2) := by
  have be := ch_lt hx hy
  have b1 := bs_ge n
  have b2 := R.1.2.1
  have hle : 5 + (x * n + y) < c + 1 := by omega
  have hke : va_up kd (c + 1) 2 (5 + (x * n + y)) = 1 := by
    have : ¬ 5 + (x * n + y) = c + 1 := by omega
    simp [va_up, this]
    exact (R.1.2.2.2.2.2.1.2.2 _ be).2
  have hae : 1 ≤ 5 + (x * n + y) ∧ 5 + (x * n + y) ≤ c + 1 := ⟨by omega, by omega⟩
  have hne : ¬ 5 + (x * n + y) = c + 1 := by omega
  obtain ⟨e1, e2, e3, e4, e5⟩ := R.2.2.2.2.2.2.2.1 x y hx hy
  have hP1 : va_up P (c + 1) (lP (some b)) (5 + (x * n + y)) 1 = (Q (x * n + y)).getLast? := by simp [va_up, hne, e2]
  have hZ2 : va_up Z (c + 1) (lZ (nI k) (nI nr) (nI d)) (5 + (x * n + y)) 2 = nI (s.2.2.2.1 x y).length := by simp [va_up, hne, e3]
  unfold f_X1_put
  rw [hk_gR hae hke (by decide) (by decide), Option.bind_some, hP1]
  cases hq : (Q (x * n + y)).getLast? with
  | none =>
    have hq0 : Q (x * n + y) = [] := List.getLast?_eq_none_iff.mp hq
    rw [if_pos rfl, hk_pFR hae hke (by decide) (by decide), Option.bind_some]
    unfold f_X1_put_23
    rw [hk_pFR hae hke (by decide) (by decide), Option.bind_some, hk_gI hae hke (by decide) (by decide), Option.bind_some, hZ2, nI_add, hk_pFI hae hke (by decide) (by decide), Option.bind_some]
    refine ⟨_, rfl, c + 1, _, _, _, _, _, _, rfl, R.snd (ℓ := (k, nr, d, xs)) (b := b) hx hy (fun a ha => ?_) ?_ (fun a j ha hj => ?_) ?_ ?_ ?_ ?_ (fun a j ha hj hj2 => ?_) ?_ ?_ (fun a ha => ?_) ?_ ?_ hb⟩
    · have : ¬ a = c + 1 := by omega
      simp [va_up, this]
    · simp [va_up]
    · have h1 : ¬ a = c + 1 := by omega
      simp only [up2, if_neg hj]
      simp [va_up, h1]
    · simp [up2]
    · have : ¬ c + 1 = 5 + (x * n + y) := fun q => hne q.symm
      simp [up2, va_up, lZ, this]
    · have : ¬ c + 1 = 5 + (x * n + y) := fun q => hne q.symm
      simp [up2, va_up, lZ, this]
    · have : ¬ c + 1 = 5 + (x * n + y) := fun q => hne q.symm
      simp [up2, va_up, lZ, this]
    · have h1 : ¬ a = c + 1 := by omega
      have h2 : ¬ (a = 5 + (x * n + y) ∧ j = 1) := by omega
      have h3 : ¬ (a = 5 + (x * n + y) ∧ j = 0) := by omega
      simp only [up2, if_neg h2, if_neg h3]
      simp [va_up, h1]
    · rw [hq0]
      simp [up2]
    · simp [up2]
    · rw [hq] at ha
      cases ha
    · have : ¬ c + 1 = 5 + (x * n + y) := fun q => hne q.symm
      simp [up2, va_up, lP, this]
    · have : ¬ c + 1 = 5 + (x * n + y) := fun q => hne q.symm
      simp [up2, va_up, lP, this]
  | some a0 =>
    rw [if_neg (by simp)]
    have hj0 := hq
    rw [List.getLast?_eq_getElem?] at hj0
    obtain ⟨-, z0, -, w1, w2, w3, -⟩ := e5 _ a0 hj0
    have ha0 : 1 ≤ a0 ∧ a0 ≤ c + 1 := ⟨by omega, by omega⟩
    have hn0 : ¬ a0 = c + 1 := by omega
    have hk0 : va_up kd (c + 1) 2 a0 = 2 := by simp [va_up, w3]
    have hne0 : ¬ 5 + (x * n + y) = a0 := by omega
    have hpos : ∃ q0 qs, Q (x * n + y) = q0 :: qs := by
      cases hqq : Q (x * n + y) with
      | nil => rw [hqq] at hq; cases hq
      | cons q0 qs => exact ⟨q0, qs, rfl⟩
    obtain ⟨q0, qs, hqq⟩ := hpos
    rw [Option.bind_some, hk_pFR ha0 hk0 (by decide) (by decide), Option.bind_some]
    unfold f_X1_put_23
    rw [hk_pFR hae hke (by decide) (by decide), Option.bind_some, hk_gI hae hke (by decide) (by decide), Option.bind_some, hZ2, nI_add, hk_pFI hae hke (by decide) (by decide), Option.bind_some]
    refine ⟨_, rfl, c + 1, _, _, _, _, _, _, rfl, R.snd (ℓ := (k, nr, d, xs)) (b := b) hx hy (fun a ha => ?_) ?_ (fun a j ha hj => ?_) ?_ ?_ ?_ ?_ (fun a j ha hj hj2 => ?_) ?_ ?_ (fun a ha => ?_) ?_ ?_ hb⟩
    · have : ¬ a = c + 1 := by omega
      simp [va_up, this]
    · simp [va_up]
    · have h1 : ¬ a = c + 1 := by omega
      simp only [up2, if_neg hj]
      simp [va_up, h1]
    · simp [up2]
    · have : ¬ c + 1 = 5 + (x * n + y) := fun q => hne q.symm
      simp [up2, va_up, lZ, this]
    · have : ¬ c + 1 = 5 + (x * n + y) := fun q => hne q.symm
      simp [up2, va_up, lZ, this]
    · have : ¬ c + 1 = 5 + (x * n + y) := fun q => hne q.symm
      simp [up2, va_up, lZ, this]
    · have h1 : ¬ a = c + 1 := by omega
      have h2 : ¬ (a = 5 + (x * n + y) ∧ j = 1) := by omega
      have h3 : ¬ (a = a0 ∧ j = 4) := fun q => hj2 ⟨by rw [hq, q.1], q.2⟩
      simp only [up2, if_neg h2, if_neg h3]
      simp [va_up, h1]
    · have h2 : ¬ (5 + (x * n + y) = 5 + (x * n + y) ∧ (0 : Nat) = 1) := by omega
      have h3 : ¬ (5 + (x * n + y) = a0 ∧ (0 : Nat) = 4) := by omega
      simp only [up2, if_neg h2, if_neg h3]
      simp [va_up, hne, e1, hqq]
    · simp [up2]
    · rw [hq] at ha
      cases ha
      have h2 : ¬ (a0 = 5 + (x * n + y) ∧ (4 : Nat) = 1) := by omega
      simp only [up2, if_neg h2]
      simp
    · have : ¬ c + 1 = 5 + (x * n + y) := fun q => hne q.symm
      have t2 : ¬ c + 1 = a0 := fun q => hn0 q.symm
      simp [up2, va_up, lP, this, t2]
    · have : ¬ c + 1 = 5 + (x * n + y) := fun q => hne q.symm
      have t2 : ¬ c + 1 = a0 := fun q => hn0 q.symm
      simp [up2, va_up, lP, this, t2]
end PO
