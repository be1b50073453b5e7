/-! the model sends to many, and looks what most hold -/
theorem snd1_c0 (x y : Nat) (ℓ : LL) (s : SS) : (snd1 x y ℓ s).2.2.2.2.1 0 = s.2.2.2.2.1 0 + 1 := by
  unfold snd1
  split
  · show va_up (va_up s.2.2.2.2.1 0 (s.2.2.2.2.1 0 + 1)) 5 (s.2.2.2.2.1 5 + 1) 0 = _
    rw [va_ne (by decide), va_eq]
  · show va_up (va_up s.2.2.2.2.1 0 (s.2.2.2.2.1 0 + 1)) 1 (s.2.2.2.2.1 1 + 1) 0 = _
    rw [va_ne (by decide), va_eq]
theorem sndG_c0 (x m : Nat) (ℓ : LL) : ∀ (k t : Nat) (s : SS), (sndG x m ℓ t k s).2.2.2.2.1 0 ≤ s.2.2.2.2.1 0 + k
  | 0, _, _ => Nat.le_refl _
  | k + 1, t, s => by
    have h := sndG_c0 x m ℓ k (t + 1) (if m.testBit t then snd1 x t ℓ s else s)
    have h2 : (if m.testBit t then snd1 x t ℓ s else s).2.2.2.2.1 0 ≤ s.2.2.2.2.1 0 + 1 := by
      split
      · rw [snd1_c0]
        exact Nat.le_refl _
      · omega
    show (sndG x m ℓ (t + 1) k (if m.testBit t then snd1 x t ℓ s else s)).2.2.2.2.1 0 ≤ _
    omega
def XsOk (k many : Nat) (act : Int32) (xs : List Int32) (row : Nat → Int32) : Prop := ((k = 1 ∨ k = 2) ∧ many = 1 ∧ xs = [act]) ∨ (¬ k = 1 ∧ ¬ k = 2 ∧ many ≤ 60 ∧ xs = rowL row many)
section MA
variable {n : Nat} {G : GG} {K : KK}
theorem M_sendAllL {a k nr d many mask : Nat} {act : Int32} {xs : List Int32} (ha : a < n) (hk : k ≤ 12) (hm : mask < 128) : ∀ (m t fuel : Nat) (h : HP) (s : SS), RepM n h s G K → t + m = n → m < fuel → s.2.2.2.2.1 0 + m < 2 ^ 31 → s.2.2.2.2.1 5 ≤ 500 → XsOk k many act xs (s.2.1 0 a) → ∃ h', f_X9_sendAll_3 fuel (some 1) (nI a) (nI mask) (nI k) (nI nr) (nI d) (nI many) act (nI t) h = some h' ∧ RepM n h' (sndG a (clr mask a) (k, nr, d, xs) t m s) G K
  | 0, t, fuel, h, s, R, ht, hf, hS, h5, hx => by
    obtain ⟨fu, rfl⟩ : ∃ fu, fuel = fu + 1 := ⟨fuel - 1, by omega⟩
    have hn := R.rng
    rw [f_X9_sendAll_3, R.n0, Option.bind_some, if_pos ((nI_leI (by omega) (by omega)).mpr (by omega))]
    exact ⟨h, rfl, R⟩
  | m + 1, t, fuel, h, s, R, ht, hf, hS, h5, hx => by
    obtain ⟨fu, rfl⟩ : ∃ fu, fuel = fu + 1 := ⟨fuel - 1, by omega⟩
    have hn := R.rng
    rw [f_X9_sendAll_3, R.n0, Option.bind_some, if_neg (fun q => by have := (nI_leI (by omega) (by omega)).mp q; omega)]
    have hc := clr_bit mask a t
    have je := pk_nI_inj (show t < 2 ^ 31 by omega) (show a < 2 ^ 31 by omega)
    unfold f_X9_sendAll_43
    rw [nI_add]
    show ∃ h', _ ∧ RepM n h' (sndG a (clr mask a) (k, nr, d, xs) (t + 1) m (if (clr mask a).testBit t then snd1 a t (k, nr, d, xs) s else s)) G K
    by_cases e : t = a
    · rw [if_pos (je.mpr e)]
      rw [hc, show decide (a = t) = true from decide_eq_true e.symm]
      simp only [Bool.not_true, Bool.and_false, Bool.false_eq_true, if_false]
      exact M_sendAllL ha hk hm m (t + 1) fu h s R (by omega) (by omega) (by omega) h5 hx
    · rw [if_neg (fun q => e (je.mp q)), M_has hm (by omega), Option.bind_some]
      rw [hc, show decide (a = t) = false from decide_eq_false (fun q => e q.symm)]
      simp only [Bool.not_false, Bool.and_true]
      cases hb : mask.testBit t with
      | false =>
        simp only [Bool.false_eq_true, if_false, z0T, if_true]
        exact M_sendAllL ha hk hm m (t + 1) fu h s R (by omega) (by omega) (by omega) h5 hx
      | true =>
        simp only [if_true, z1F, if_false, R.ob]
        obtain ⟨h1, e1, R1⟩ := M_send R (nr := nr) (d := d) ha (show t < n by omega) hk (by omega) h5 hx
        rw [e1, Option.bind_some]
        exact M_sendAllL ha hk hm m (t + 1) fu h1 _ R1 (by omega) (by omega) (by rw [snd1_c0]; omega) (snd1_fl h5) (by rw [(snd1_V _ _ _ _).2.1]; exact hx)
theorem M_sendAll {h : HP} {s : SS} (R : RepM n h s G K) {a k nr d many mask : Nat} {act : Int32} {xs : List Int32} (ha : a < n) (hk : k ≤ 12) (hm : mask < 128) (hS : s.2.2.2.2.1 0 + 7 < 2 ^ 31) (h5 : s.2.2.2.2.1 5 ≤ 500) (hx : XsOk k many act xs (s.2.1 0 a)) : ∃ h', f_X9_sendAll (some 1) (nI a) (nI mask) (nI k) (nI nr) (nI d) (nI many) act h = some h' ∧ RepM n h' (sndG a (clr mask a) (k, nr, d, xs) 0 n s) G K := by
  have hn := R.rng
  exact M_sendAllL ha hk hm n 0 600 h s R (by omega) (by omega) (by omega) h5 hx
end MA
def bst (p : Nat → Bool) (c : Nat) : Nat → Nat
  | 0 => 0
  | d + 1 => if p (c + d + 1) then c + d + 1 else bst p c d
theorem bst_hbm (p : Nat → Bool) (c : Nat) : ∀ d : Nat, bst p c d = if c < hbm p (c + d) then hbm p (c + d) else 0
  | 0 => by
    have := hbm_le p c
    rw [Nat.add_zero, if_neg (by omega)]
    rfl
  | d + 1 => by
    have ih := bst_hbm p c d
    show (if p (c + d + 1) then c + d + 1 else bst p c d) = if c < hbm p (c + d + 1) then hbm p (c + d + 1) else 0
    rw [hbm]
    by_cases e : p (c + d + 1) = true
    · rw [if_pos e, if_pos e, if_pos (by omega)]
    · rw [if_neg e, if_neg e, ih]
section MK
variable {n B : Nat} {h : HP} {s : SS} {G : GG} {K : KK}
theorem M_lk44 (R : RepM n h s G K) {i k best : Nat} (hi : i < n) (b11 : s.1 11 i < 128) (b20 : s.1 20 i < 2 ^ 31) (hk : k < 2 ^ 31) (hown : hz_aI h (some 14) 0 (nI (7 * i + i)) = some (nI (s.1 20 i))) (K28 : Option Nat → Int32 → Int32 → Int32 → HP → Option HP) : ∀ (m t fuel : Nat), t + m = n → m < fuel → f_X9_look_44 K28 fuel (some 1) (nI i) (nI best) (nI k) (nI ((List.range t).countP (fun j => hld s i j k))) (nI t) h = K28 (some 1) (nI i) (if n < hcnt n s i k * 2 then nI k else nI best) (nI (k + 1)) h
  | 0, t, fuel, ht, hf => by
    obtain ⟨fu, rfl⟩ : ∃ fu, fuel = fu + 1 := ⟨fuel - 1, by omega⟩
    have hn := R.rng
    have ht2 : t = n := by omega
    subst ht2
    have hle : (List.range t).countP (fun j => hld s i j k) ≤ (List.range t).length := List.countP_le_length
    rw [List.length_range] at hle
    rw [f_X9_look_44, R.n0, Option.bind_some, if_pos ((nI_leI (by omega) (by omega)).mpr (Nat.le_refl _)), Option.bind_some, nI_mul]
    unfold f_X9_look_112
    rw [nI_add]
    by_cases c : t < hcnt t s i k * 2
    · rw [if_pos c, if_neg (fun q => by have := (nI_leI (by omega) (by omega)).mp q; unfold hcnt at c; omega)]
    · rw [if_neg c, if_pos ((nI_leI (by omega) (by omega)).mpr (by unfold hcnt at c; omega))]
  | m + 1, t, fuel, ht, hf => by
    obtain ⟨fu, rfl⟩ : ∃ fu, fuel = fu + 1 := ⟨fuel - 1, by omega⟩
    have hn := R.rng
    rw [f_X9_look_44, R.n0, Option.bind_some, if_neg (fun q => by have := (nI_leI (by omega) (by omega)).mp q; omega), R.r3, Option.bind_some, R.g11 hi, Option.bind_some, M_has b11 (by omega), Option.bind_some]
    unfold f_X9_look_89 f_X9_look_90
    have hs : ∀ b : Bool, hld s i t k = b → (List.range (t + 1)).countP (fun j => hld s i j k) = (List.range t).countP (fun j => hld s i j k) + (if b = true then 1 else 0) := fun b hb => by
      rw [List.range_succ, List.countP_append, List.countP_singleton, hb]
    have hgo := M_lk44 R hi b11 b20 hk hown K28 (best := best) m (t + 1) fu (by omega) (by omega)
    cases hb : (s.1 11 i).testBit t with
    | false =>
      have hh : hld s i t k = false := by unfold hld; rw [hb]; rfl
      have h2 := hs false hh
      simp only [Bool.false_eq_true, if_false, Nat.add_zero] at h2
      simp only [Bool.false_eq_true, if_false, z0T, if_true, nI_add]
      rw [← h2, Nat.add_zero]
      exact hgo
    | true =>
      simp only [if_true, z1F, if_false, R.r13, Option.bind_some, nI_mul, nI_add]
      by_cases e : t = i
      · subst e
        rw [hown, Option.bind_some]
        by_cases c : s.1 20 t < k
        · have hh : hld s t t k = false := by
            unfold hld
            rw [hb, if_pos rfl]
            simp
            omega
          have h2 := hs false hh
          simp only [Bool.false_eq_true, if_false, Nat.add_zero] at h2
          rw [if_pos ((nI_ltI b20 hk).mpr c), ← h2, Nat.add_zero]
          exact hgo
        · have hh : hld s t t k = true := by
            unfold hld
            rw [hb, if_pos rfl]
            simp
            omega
          have h2 := hs true hh
          simp only [if_true] at h2
          rw [if_neg (fun q => c ((nI_ltI b20 hk).mp q)), ← h2]
          exact hgo
      · rw [R.gH hi (show t < n by omega) (fun q => e q.symm), Option.bind_some]
        by_cases c : s.2.1 2 i t < nI k
        · have hh : hld s i t k = false := by
            unfold hld
            rw [hb, if_neg e, decide_eq_false (fun q => absurd c (nlt32.mpr q))]
            rfl
          have h2 := hs false hh
          simp only [Bool.false_eq_true, if_false, Nat.add_zero] at h2
          rw [if_pos c, ← h2, Nat.add_zero]
          exact hgo
        · have hh : hld s i t k = true := by
            unfold hld
            rw [hb, if_neg e, decide_eq_true (nlt32.mp c)]
            rfl
          have h2 := hs true hh
          simp only [if_true] at h2
          rw [if_neg c, ← h2]
          exact hgo
end MK
