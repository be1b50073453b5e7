/-! the model sends, second part -/
theorem mm_r20 {Z A : Nat → Nat → Int32} : hz_gR (mm Z A) (some 1) 9 20 = some (some 21) := hk_gR (kd := KM) (by omega) rfl (by decide) (by decide)
theorem mm_r21 {Z A : Nat → Nat → Int32} : hz_gR (mm Z A) (some 1) 9 21 = some (some 22) := hk_gR (kd := KM) (by omega) rfl (by decide) (by decide)
theorem mm_r22 {Z A : Nat → Nat → Int32} : hz_gR (mm Z A) (some 1) 9 22 = some (some 23) := hk_gR (kd := KM) (by omega) rfl (by decide) (by decide)
theorem mm_r23 {Z A : Nat → Nat → Int32} : hz_gR (mm Z A) (some 1) 9 23 = some (some 24) := hk_gR (kd := KM) (by omega) rfl (by decide) (by decide)
theorem mm_r24 {Z A : Nat → Nat → Int32} : hz_gR (mm Z A) (some 1) 9 24 = some (some 25) := hk_gR (kd := KM) (by omega) rfl (by decide) (by decide)
theorem mm_r25 {Z A : Nat → Nat → Int32} : hz_gR (mm Z A) (some 1) 9 25 = some (some 26) := hk_gR (kd := KM) (by omega) rfl (by decide) (by decide)
theorem mm_r26 {Z A : Nat → Nat → Int32} : hz_gR (mm Z A) (some 1) 9 26 = some (some 27) := hk_gR (kd := KM) (by omega) rfl (by decide) (by decide)
theorem mm_r27 {Z A : Nat → Nat → Int32} : hz_gR (mm Z A) (some 1) 9 27 = some (some 28) := hk_gR (kd := KM) (by omega) rfl (by decide) (by decide)
theorem mm_r28 {Z A : Nat → Nat → Int32} : hz_gR (mm Z A) (some 1) 9 28 = some (some 29) := hk_gR (kd := KM) (by omega) rfl (by decide) (by decide)
theorem mm_r4 {Z A : Nat → Nat → Int32} : hz_gR (mm Z A) (some 1) 9 4 = some (some 5) := hk_gR (kd := KM) (by omega) rfl (by decide) (by decide)
theorem mm_i29 {Z A : Nat → Nat → Int32} : hz_gI (mm Z A) (some 1) 9 29 = some (Z 1 29) := hk_gI (kd := KM) (by omega) rfl (by decide) (by decide)
theorem mm_i30 {Z A : Nat → Nat → Int32} : hz_gI (mm Z A) (some 1) 9 30 = some (Z 1 30) := hk_gI (kd := KM) (by omega) rfl (by decide) (by decide)
theorem mm_i31 {Z A : Nat → Nat → Int32} : hz_gI (mm Z A) (some 1) 9 31 = some (Z 1 31) := hk_gI (kd := KM) (by omega) rfl (by decide) (by decide)
theorem mm_p29 {Z A : Nat → Nat → Int32} (x : Int32) : hz_pF (mm Z A) (some 1) 9 29 (.int x) = some (mm (up2 Z 1 29 x) A) := hk_pFI (kd := KM) (by omega) rfl (by decide) (by decide) x
theorem mm_p30 {Z A : Nat → Nat → Int32} (x : Int32) : hz_pF (mm Z A) (some 1) 9 30 (.int x) = some (mm (up2 Z 1 30 x) A) := hk_pFI (kd := KM) (by omega) rfl (by decide) (by decide) x
theorem mm_p31 {Z A : Nat → Nat → Int32} (x : Int32) : hz_pF (mm Z A) (some 1) 9 31 (.int x) = some (mm (up2 Z 1 31 x) A) := hk_pFI (kd := KM) (by omega) rfl (by decide) (by decide) x
theorem M_cpL {Z : Nat → Nat → Int32} {a l many : Nat} (ha : a < 7) (hl : l < 500) (hmany : many ≤ 60) : ∀ (m t fuel : Nat) (A : Nat → Nat → Int32), t + m = many → m < fuel → ∃ A' : Nat → Nat → Int32, f_X9_send_148 fuel (some 1) (nI a) (nI many) (nI l) (nI t) (mm Z A) = f_X9_send_186 (some 1) (mm Z A') ∧ (∀ r : Nat, ¬ r = 28 → A' r = A r) ∧ (∀ k : Nat, k < 60 * l + t ∨ 60 * l + many ≤ k → A' 28 k = A 28 k) ∧ ∀ j : Nat, t ≤ j → j < many → A' 28 (60 * l + j) = A 5 (60 * a + j)
  | 0, t, fuel, A, ht, hf => by
    obtain ⟨fu, rfl⟩ : ∃ fu, fuel = fu + 1 := ⟨fuel - 1, by omega⟩
    rw [f_X9_send_148, if_pos ((nI_leI (by omega) (by omega)).mpr (by omega))]
    exact ⟨A, rfl, fun _ _ => rfl, fun _ _ => rfl, fun j h1 h2 => by omega⟩
  | m + 1, t, fuel, A, ht, hf => by
    obtain ⟨fu, rfl⟩ : ∃ fu, fuel = fu + 1 := ⟨fuel - 1, by omega⟩
    rw [f_X9_send_148, if_neg (fun q => by have := (nI_leI (by omega) (by omega)).mp q; omega)]
    rw [mm_r27, Option.bind_some, mm_r4, Option.bind_some, nI_mul, nI_add, mm_aI (by decide) (show 60 * a + t < 420 by omega), Option.bind_some, nI_mul, nI_add, mm_aS (by decide) (show 60 * l + t < 30060 by omega), Option.bind_some, nI_add]
    obtain ⟨A', e, q1, q2, q3⟩ := M_cpL (Z := Z) ha hl hmany m (t + 1) fu (up2 A 28 (60 * l + t) (A 5 (60 * a + t))) (by omega) (by omega)
    refine ⟨A', e, fun r hr => by rw [q1 r hr, up2_row hr], fun k hk => ?_, fun j h1 h2 => ?_⟩
    · rw [q2 k (by omega), up2_k (by omega)]
    · by_cases e : j = t
      · subst e
        rw [q2 _ (by omega), up2_same]
      · rw [q3 j (by omega) h2, up2_row (by decide)]
theorem M_findL {Z A : Nat → Nat → Int32} {l0 : Nat} (hl : l0 < 500) (h0 : A 21 l0 = nI 0) (x1 x2 x3 x4 x5 x6 x7 : Int32) : ∀ (m t fuel : Nat), t + m = l0 → m < fuel → (∀ k : Nat, t ≤ k → k < l0 → A 21 k = nI 1) → ∃ fu : Nat, f_X9_send_34 fuel (some 1) x1 x2 x3 x4 x5 x6 x7 (nI t) (mm Z A) = f_X9_send_34 (fu + 1) (some 1) x1 x2 x3 x4 x5 x6 x7 (nI l0) (mm Z A)
  | 0, t, fuel, ht, hf, hk => by
    obtain ⟨fu, rfl⟩ : ∃ fu, fuel = fu + 1 := ⟨fuel - 1, by omega⟩
    rw [show t = l0 by omega]
    exact ⟨fu, rfl⟩
  | m + 1, t, fuel, ht, hf, hk => by
    obtain ⟨fu, rfl⟩ : ∃ fu, fuel = fu + 1 := ⟨fuel - 1, by omega⟩
    rw [f_X9_send_34, mm_r20, Option.bind_some, mm_bI (by omega), Option.bind_some, hk t (by omega) (by omega), if_neg (by decide), nI_add]
    exact M_findL hl h0 x1 x2 x3 x4 x5 x6 x7 m (t + 1) fu (by omega) (by omega) (fun k h1 h2 => hk k (by omega) h2)
section MS
variable {n : Nat} {h : HP} {s : SS} {G : GG} {K : KK}
theorem M_send (R : RepM n h s G K) {a b k nr d many : Nat} {act : Int32} {xs : List Int32} (ha : a < n) (hb : b < n) (hk : k ≤ 12) (hS : s.2.2.2.2.1 0 + 1 < 2 ^ 31) (hfl : s.2.2.2.2.1 5 ≤ 500) (hx : ((k = 1 ∨ k = 2) ∧ many = 1 ∧ xs = [act]) ∨ (¬ k = 1 ∧ ¬ k = 2 ∧ many ≤ 60 ∧ xs = rowL (s.2.1 0 a) many)) : ∃ h', f_X9_send (some 1) (nI a) (nI b) (nI k) (nI nr) (nI d) (nI many) act h = some h' ∧ RepM n h' (snd1 a b (k, nr, d, xs) s) G K := by
  have hn := R.rng
  have hxl : xs.length = many ∧ many ≤ 60 := by
    rcases hx with ⟨-, rfl, rfl⟩ | ⟨-, -, h1, rfl⟩
    · exact ⟨rfl, by omega⟩
    · exact ⟨rowL_len _ _, h1⟩
  obtain ⟨Z, A, rfl, r0, r1, r2, r3, r4, ⟨r5, r5'⟩, ⟨g, p1, p2, p3⟩, r7, r8⟩ := R
  have z30 : Z 1 30 = nI (s.2.2.2.2.1 0) := r5 0 (by decide)
  have z31 : Z 1 31 = nI (s.2.2.2.2.1 1) := r5 1 (by decide)
  unfold f_X9_send snd1
  rw [mm_i30, Option.bind_some, z30, nI_add, mm_p30, Option.bind_some, mm_i29, Option.bind_some, up2_k (by decide), r5']
  have j5 := pk_nI_inj (show s.2.2.2.2.1 5 < 2 ^ 31 by omega) (show 500 < 2 ^ 31 by decide)
  by_cases c : s.2.2.2.2.1 5 = 500
  · rw [if_pos (j5.mpr c), if_neg (by omega), mm_i31, Option.bind_some, up2_k (by decide), z31, nI_add, mm_p31, Option.bind_some]
    refine ⟨_, rfl, _, A, rfl, ⟨r0.1, by rw [up2_k (by decide), up2_k (by decide)]; exact r0.2⟩, r1, r2, r3, r4, ⟨fun t ht => ?_, ?_⟩, ⟨g, fun l hl => ⟨(p1 l hl).1, fun hg => ⟨((p1 l hl).2 hg).1, ?_⟩⟩, ?_, p3⟩, r7, r8⟩
    · show _ = nI (va_up (va_up s.2.2.2.2.1 0 (s.2.2.2.2.1 0 + 1)) 1 (s.2.2.2.2.1 1 + 1) t)
      by_cases e1 : t = 1
      · subst e1; rw [va_eq, up2_same]
      · rw [va_ne e1, up2_k (by omega)]
        by_cases e0 : t = 0
        · subst e0; rw [va_eq, up2_same]
        · rw [va_ne e0, up2_k (by omega), r5 t ht]
    · show _ = nI (va_up (va_up s.2.2.2.2.1 0 (s.2.2.2.2.1 0 + 1)) 1 (s.2.2.2.2.1 1 + 1) 5)
      rw [va_ne (by decide), va_ne (by decide), up2_k (by decide), up2_k (by decide), r5']
    · show g.2.2.2.1 l ≤ va_up (va_up s.2.2.2.2.1 0 (s.2.2.2.2.1 0 + 1)) 1 (s.2.2.2.2.1 1 + 1) 0
      rw [va_ne (by decide), va_eq]
      have := ((p1 l hl).2 hg).2
      omega
    · show _ = va_up (va_up s.2.2.2.2.1 0 (s.2.2.2.2.1 0 + 1)) 1 (s.2.2.2.2.1 1 + 1) 5
      rw [va_ne (by decide), va_ne (by decide), p2]
  · rw [if_neg (fun q => c (j5.mp q)), if_pos (show s.2.2.2.2.1 5 < 500 by omega)]
    obtain ⟨l0, hl0, hf0, hlt⟩ := first_free g.1 500 (by rw [p2]; omega)
    have h0 : A 21 l0 = nI 0 := by rw [(p1 l0 hl0).1, hf0]; rfl
    obtain ⟨fu, efu⟩ := M_findL (Z := up2 Z 1 30 (nI (s.2.2.2.2.1 0 + 1))) hl0 h0 (nI a) (nI b) (nI k) (nI nr) (nI d) (nI many) act l0 0 600 (by omega) (by omega) (fun k h1 h2 => by rw [(p1 k (by omega)).1, hlt k h2]; rfl)
    rw [efu, f_X9_send_34]
    simp only [mm_r20, mm_r21, mm_r22, mm_r23, mm_r24, mm_r25, mm_r26, mm_r28, Option.bind_some, mm_bI hl0, h0, z0T, if_true, mm_bS hl0, mm_aS (Z := up2 Z 1 30 (nI (s.2.2.2.2.1 0 + 1))) (a := 22) (by decide) (show l0 < 501 by omega), mm_aS (Z := up2 Z 1 30 (nI (s.2.2.2.2.1 0 + 1))) (a := 23) (by decide) (show l0 < 501 by omega), mm_aS (Z := up2 Z 1 30 (nI (s.2.2.2.2.1 0 + 1))) (a := 24) (by decide) (show l0 < 501 by omega), mm_aS (Z := up2 Z 1 30 (nI (s.2.2.2.2.1 0 + 1))) (a := 25) (by decide) (show l0 < 501 by omega), mm_aS (Z := up2 Z 1 30 (nI (s.2.2.2.2.1 0 + 1))) (a := 26) (by decide) (show l0 < 501 by omega), mm_aS (Z := up2 Z 1 30 (nI (s.2.2.2.2.1 0 + 1))) (a := 27) (by decide) (show l0 < 501 by omega), mm_aS (Z := up2 Z 1 30 (nI (s.2.2.2.2.1 0 + 1))) (a := 29) (by decide) (show l0 < 501 by omega), mm_i30, up2_same, pk_nI_inj (show k < 2 ^ 31 by omega) (show 1 < 2 ^ 31 by decide), pk_nI_inj (show k < 2 ^ 31 by omega) (show 2 < 2 ^ 31 by decide)]
    generalize hA8 : up2 (up2 (up2 (up2 (up2 (up2 (up2 (up2 A 21 l0 (hz_nar 1 (nI 1))) 22 l0 (nI a)) 23 l0 (nI b)) 24 l0 (nI k)) 25 l0 (nI nr)) 26 l0 (nI d)) 27 l0 (nI many)) 29 l0 (nI (s.2.2.2.2.1 0 + 1)) = A8
    have key : ∃ A9 : Nat → Nat → Int32, (if k = 1 then f_X9_send_130 (some 1) act (nI l0) (mm (up2 Z 1 30 (nI (s.2.2.2.2.1 0 + 1))) A8) else if k = 2 then f_X9_send_130 (some 1) act (nI l0) (mm (up2 Z 1 30 (nI (s.2.2.2.2.1 0 + 1))) A8) else f_X9_send_148 600 (some 1) (nI a) (nI many) (nI l0) (nI 0) (mm (up2 Z 1 30 (nI (s.2.2.2.2.1 0 + 1))) A8)) = f_X9_send_186 (some 1) (mm (up2 Z 1 30 (nI (s.2.2.2.2.1 0 + 1))) A9) ∧ (∀ r : Nat, ¬ r = 28 → A9 r = A8 r) ∧ (∀ k : Nat, k < 60 * l0 ∨ 60 * l0 + 60 ≤ k → A9 28 k = A8 28 k) ∧ ∀ j : Nat, j < xs.length → xs[j]? = some (A9 28 (60 * l0 + j)) := by
      rcases hx with ⟨hk12, rfl, rfl⟩ | ⟨k1, k2, hmy, rfl⟩
      · have e130 : f_X9_send_130 (some 1) act (nI l0) (mm (up2 Z 1 30 (nI (s.2.2.2.2.1 0 + 1))) A8) = f_X9_send_186 (some 1) (mm (up2 Z 1 30 (nI (s.2.2.2.2.1 0 + 1))) (up2 A8 28 (60 * l0) act)) := by
          unfold f_X9_send_130
          rw [mm_r27, Option.bind_some, nI_mul, mm_aS (by decide) (show 60 * l0 < 30060 by omega), Option.bind_some]
        refine ⟨up2 A8 28 (60 * l0) act, ?_, fun r hr => up2_row hr, fun k hk => up2_k (by omega), fun j hj => ?_⟩
        · rcases hk12 with q | q
          · rw [if_pos q, e130]
          · rw [if_neg (by omega), if_pos q, e130]
        · have : j = 0 := by simpa using hj
          subst this
          rw [Nat.add_zero, up2_same]
          rfl
      · obtain ⟨A9, e, q1, q2, q3⟩ := M_cpL (Z := up2 Z 1 30 (nI (s.2.2.2.2.1 0 + 1))) (show a < 7 by omega) hl0 hmy many 0 600 A8 (by omega) (by omega)
        refine ⟨A9, by rw [if_neg k1, if_neg k2, e], q1, fun k hk => q2 k (by omega), fun j hj => ?_⟩
        rw [rowL_len] at hj
        rw [rowL_at _ hj, q3 j (by omega) hj]
        have h5 : A8 5 = A 5 := by
          rw [← hA8, up2_row (by decide), up2_row (by decide), up2_row (by decide), up2_row (by decide), up2_row (by decide), up2_row (by decide), up2_row (by decide), up2_row (by decide)]
        rw [h5]
        exact congrArg some (r3 0 (by decide) a ha j (show j < 60 by omega)).symm
    obtain ⟨A9, e9, q1, q2, q3⟩ := key
    rw [e9, f_X9_send_186, mm_i29, Option.bind_some, up2_k (by decide), r5', nI_add, mm_p29, Option.bind_some]
    have a8 : ∀ r : Nat, r < 21 → A9 r = A r := fun r hr => by
      rw [q1 r (by omega), ← hA8, up2_row (by omega), up2_row (by omega), up2_row (by omega), up2_row (by omega), up2_row (by omega), up2_row (by omega), up2_row (by omega), up2_row (by omega)]
    have a9 : ∀ r j : Nat, 21 ≤ r → r ≤ 29 → ¬ r = 28 → ¬ j = l0 → A9 r j = A r j := fun r j h1 h2 h3 h4 => by
      rw [q1 r h3, ← hA8, up2_k h4, up2_k h4, up2_k h4, up2_k h4, up2_k h4, up2_k h4, up2_k h4, up2_k h4]
    have a28 : ∀ j : Nat, j < 60 * l0 ∨ 60 * l0 + 60 ≤ j → A9 28 j = A 28 j := fun j hj => by
      rw [q2 j hj, ← hA8, up2_row (by decide), up2_row (by decide), up2_row (by decide), up2_row (by decide), up2_row (by decide), up2_row (by decide), up2_row (by decide), up2_row (by decide)]
    have w21 : A9 21 l0 = nI 1 := by
      rw [q1 21 (by decide), ← hA8, up2_row (by decide), up2_row (by decide), up2_row (by decide), up2_row (by decide), up2_row (by decide), up2_row (by decide), up2_row (by decide), up2_same]
      decide
    have w22 : A9 22 l0 = nI a := by
      rw [q1 22 (by decide), ← hA8, up2_row (by decide), up2_row (by decide), up2_row (by decide), up2_row (by decide), up2_row (by decide), up2_row (by decide), up2_same]
    have w23 : A9 23 l0 = nI b := by
      rw [q1 23 (by decide), ← hA8, up2_row (by decide), up2_row (by decide), up2_row (by decide), up2_row (by decide), up2_row (by decide), up2_same]
    have w24 : A9 24 l0 = nI k := by
      rw [q1 24 (by decide), ← hA8, up2_row (by decide), up2_row (by decide), up2_row (by decide), up2_row (by decide), up2_same]
    have w25 : A9 25 l0 = nI nr := by
      rw [q1 25 (by decide), ← hA8, up2_row (by decide), up2_row (by decide), up2_row (by decide), up2_same]
    have w26 : A9 26 l0 = nI d := by
      rw [q1 26 (by decide), ← hA8, up2_row (by decide), up2_row (by decide), up2_same]
    have w27 : A9 27 l0 = nI many := by
      rw [q1 27 (by decide), ← hA8, up2_row (by decide), up2_same]
    have w29 : A9 29 l0 = nI (s.2.2.2.2.1 0 + 1) := by
      rw [q1 29 (by decide), ← hA8, up2_same]
    have hSl : SlR A9 n l0 a b (s.2.2.2.2.1 0 + 1) (k, nr, d, xs) := ⟨w22, w23, w24, w25, w26, by rw [w27, hxl.1], w29, ha, hb, by show xs.length ≤ 60; omega, q3⟩
    have PP := PoolG.put (ℓ := (k, nr, d, xs)) ⟨p1, p2, p3⟩ hl0 hf0 hSl w21 a9 a28
    refine ⟨_, rfl, _, A9, rfl, ⟨r0.1, by rw [up2_k (by decide), up2_k (by decide)]; exact r0.2⟩, fun f hf i hi => ?_, fun i hi => ?_, fun g' hg' i hi j hj => ?_, fun i j hi hj hne => ?_, ⟨fun t ht => ?_, ?_⟩, ⟨gPut g l0 a b (s.2.2.2.2.1 0 + 1) (k, nr, d, xs), ?_⟩, r7.cong fun r h1 h2 => a8 r (by omega), fun x y ℓ hK => ?_⟩
    · obtain ⟨q, -⟩ := mo_i hf
      rw [a8 _ (by omega)]
      exact r1 f hf i hi
    · rw [a8 13 (by decide)]
      exact r2 i hi
    · have : ma g' < 21 := by unfold ma; split <;> omega
      rw [a8 _ this]
      exact r3 g' hg' i hi j hj
    · rw [a8 14 (by decide)]
      exact r4 i j hi hj hne
    · show _ = nI (va_up (va_up s.2.2.2.2.1 0 (s.2.2.2.2.1 0 + 1)) 5 (s.2.2.2.2.1 5 + 1) t)
      rw [va_ne (by omega), up2_k (by omega)]
      by_cases e0 : t = 0
      · subst e0; rw [va_eq, up2_same]
      · rw [va_ne e0, up2_k (by omega), r5 t ht]
    · show _ = nI (va_up (va_up s.2.2.2.2.1 0 (s.2.2.2.2.1 0 + 1)) 5 (s.2.2.2.2.1 5 + 1) 5)
      rw [va_eq, up2_same]
    · show PoolG A9 n (va_up (va_up s.2.2.2.2.1 0 (s.2.2.2.2.1 0 + 1)) 5 (s.2.2.2.2.1 5 + 1) 0) (va_up (va_up s.2.2.2.2.1 0 (s.2.2.2.2.1 0 + 1)) 5 (s.2.2.2.2.1 5 + 1) 5) (up2 s.2.2.2.1 a b (s.2.2.2.1 a b ++ [(k, nr, d, xs)])) _
      rw [va_eq, va_ne (by decide), va_eq]
      exact PP
    · obtain ⟨k1, k2, k3, k4, k5, k6, k7⟩ := r8 x y ℓ hK
      have nl : ¬ 500 = l0 := by omega
      refine ⟨(a9 22 500 (by decide) (by decide) (by decide) nl).trans k1, (a9 23 500 (by decide) (by decide) (by decide) nl).trans k2, (a9 24 500 (by decide) (by decide) (by decide) nl).trans k3, (a9 25 500 (by decide) (by decide) (by decide) nl).trans k4, (a9 26 500 (by decide) (by decide) (by decide) nl).trans k5, (a9 27 500 (by decide) (by decide) (by decide) nl).trans k6, fun j hj => ?_⟩
      rw [a28 _ (by omega)]
      exact k7 j hj
end MS
