/-! the model carries out -/
theorem tp1 {i d : Nat} (hd : 1 ≤ d) : nI 20 * nI i + nI d - nI 1 = nI (20 * i + (d - 1)) := by
  rw [nI_mul, nI_add, pk_sub (show 1 ≤ 20 * i + d by omega)]
  congr 1
  omega
theorem tp2 {i d : Nat} (hd : 2 ≤ d) : nI 20 * nI i + nI d - nI 1 - nI 1 = nI (20 * i + (d - 2)) := by
  rw [tp1 (by omega), pk_sub (show 1 ≤ 20 * i + (d - 1) by omega)]
  congr 1
  omega
section MC
variable {n B : Nat} {h : HP} {s : SS} {G : GG} {K : KK}
theorem M_carry177 (R : RepM n h s G K) {i j : Nat} (hi : i < n) (hj : j < 20) (hd : 1 ≤ s.1 21 i) (x : Int32) : ∃ h', f_X9_carry_177 (some 1) (nI i) (some 19) (nI (20 * i + j)) x h = some h' ∧ RepM n h' (sv 21 i (s.1 21 i - 1) (sw 1 i (va_up (s.2.1 1 i) j x) s)) G K := by
  obtain ⟨h1, e1, R1⟩ := R.sS hi hj x
  obtain ⟨h2, e2, R2⟩ := R1.s21 hi (s.1 21 i - 1)
  refine ⟨h2, ?_, R2⟩
  simp only [f_X9_carry_177, f_X9_carry_297, e1, Option.bind_some, R1.r19, R1.v21 hi (v := s.1 21 i) rfl, pk_sub hd, e2]
theorem M_carry (R : RepM n h s G K) {i : Nat} (hi : i < n) (b14 : s.1 14 i < 60) (b21 : s.1 21 i ≤ 20) (ha : isA (s.2.1 0 i (s.1 14 i)) = true) : ∃ h', f_X9_carry (some 1) (nI i) h = some h' ∧ RepM n h' (sMach (inc 2 (sv 14 i (s.1 14 i + 1) s)) i (mach (s.1 21 i) (s.2.1 1 i) (s.2.1 0 i (s.1 14 i)))) G K := by
  have hn := R.rng
  obtain ⟨h1, e1, R1⟩ := R.s14 hi (s.1 14 i + 1)
  obtain ⟨h2, e2, R2⟩ := R1.c2 (s.2.2.2.2.1 2 + 1)
  replace R2 : RepM n h2 (inc 2 (sv 14 i (s.1 14 i + 1) s)) G K := R2
  have d2 : (inc 2 (sv 14 i (s.1 14 i + 1) s)).1 21 i = s.1 21 i := rfl
  have w2 : (inc 2 (sv 14 i (s.1 14 i + 1) s)).2.1 1 i = s.2.1 1 i := rfl
  have w0 : s.2.1 0 i (s.1 14 i) = s.2.1 0 i (s.1 14 i) := rfl
  have gd : hz_aI h2 (some 20) 0 (nI i) = some (nI (s.1 21 i)) := R2.g21 hi
  have gs : ∀ j : Nat, j < 20 → hz_aI h2 (some 19) 0 (nI (20 * i + j)) = some (s.2.1 1 i j) := fun j hj => R2.gS hi hj
  have t1 : hz_gI h1 (some 1) 9 32 = some (nI (s.2.2.2.2.1 2)) := R1.t2
  simp only [f_X9_carry, f_X9_carry_297, R.r4, R.r6, R.g14 hi, Option.bind_some, nI_mul, nI_add, R.gR hi b14, e1, t1, e2, R2.r19, R2.r18, gd]
  generalize s.2.1 0 i (s.1 14 i) = act at *
  generalize hd : s.1 21 i = d at *
  generalize hs2 : inc 2 (sv 14 i (s.1 14 i + 1) s) = s2 at *
  have L : ∀ a b : Nat, a < 100 → b < 100 → (nI a = nI b ↔ a = b) := fun a b ha hb => by rw [pk_nI_inj (by omega) (by omega)]
  have T1 : 1 ≤ d → nI (20 * i + d) - nI 1 = nI (20 * i + (d - 1)) := fun q => by
    rw [pk_sub (show 1 ≤ 20 * i + d by omega)]; congr 1; omega
  have T2 : 2 ≤ d → nI (20 * i + (d - 1)) - nI 1 = nI (20 * i + (d - 2)) := fun q => by
    rw [pk_sub (show 1 ≤ 20 * i + (d - 1) by omega)]; congr 1; omega
  have c2d : (nI 2 ≤ nI d) = (2 ≤ d) := propext (nI_leI (by omega) (by omega))
  have c20 : (nI 20 ≤ nI d) = (20 ≤ d) := propext (nI_leI (by omega) (by omega))
  have c0 : (nI d ≤ 0) = (d ≤ 0) := propext (nI_leI (a := d) (b := 0) (by omega) (by omega))
  have sid : ∀ x : Nat × (Nat → Int32), x = (d, s.2.1 1 i) → RepM n h2 s2 G K → RepM n h2 (sMach s2 i x) G K := fun x hx r => by
    rw [hx, ← d2, ← w2, sMach_id]
    exact r
  simp only [c2d, c20, c0]
  rcases act_cs ha with ⟨q7, qs, n1, n2, n3, n4, n5⟩ | q | q | q | q | q
  · rw [if_pos q7]
    have hm : mach d (s.2.1 1 i) act = if 20 ≤ d then (d, s.2.1 1 i) else (d + 1, va_up (s.2.1 1 i) d (act / nI 8)) := by
      unfold mach
      rw [if_neg n1, if_neg n2, if_neg n3, if_neg n4, if_neg n5]
    rw [hm]
    by_cases c : 20 ≤ d
    · rw [if_pos c, if_pos c]
      exact ⟨h2, rfl, sid _ rfl R2⟩
    · rw [if_neg c, if_neg c, if_pos R2.ob, qs]
      obtain ⟨h3, e3, R3⟩ := M_push R2 hi (by rw [d2]; omega) (act / nI 8)
      rw [d2, w2] at R3
      exact ⟨h3, by rw [e3]; rfl, R3⟩
  · subst q
    rw [if_neg (by decide), if_pos (by decide)]
    have hm : mach d (s.2.1 1 i) (nI 1) = if d < 2 then (d, s.2.1 1 i) else (d - 1, va_up (s.2.1 1 i) (d - 2) (s.2.1 1 i (d - 2) + s.2.1 1 i (d - 1))) := by
      unfold mach
      rw [if_pos rfl]
    rw [hm]
    by_cases c : 2 ≤ d
    · rw [if_pos c, if_neg (show ¬ d < 2 by omega), if_pos (show (nI 1 &&& nI 7) = nI 1 by decide), T1 (by omega), T2 c, gs _ (by omega), Option.bind_some, gs _ (by omega), Option.bind_some]
      obtain ⟨h3, e3, R3⟩ := M_carry177 R2 hi (j := d - 2) (by omega) (by rw [d2]; omega) (s.2.1 1 i (d - 2) + s.2.1 1 i (d - 1))
      rw [d2, w2] at R3
      exact ⟨h3, e3, R3⟩
    · rw [if_neg c, if_pos (by omega)]
      exact ⟨h2, rfl, sid _ rfl R2⟩
  · subst q
    rw [if_neg (by decide), if_neg (by decide), if_pos (by decide)]
    have hm : mach d (s.2.1 1 i) (nI 2) = if d < 2 then (d, s.2.1 1 i) else (d - 1, va_up (s.2.1 1 i) (d - 2) (s.2.1 1 i (d - 2) * s.2.1 1 i (d - 1))) := by
      unfold mach
      rw [if_neg (by decide), if_pos rfl]
    rw [hm]
    by_cases c : 2 ≤ d
    · rw [if_pos c, if_neg (show ¬ d < 2 by omega), if_neg (show ¬ (nI 2 &&& nI 7) = nI 1 by decide), T1 (by omega), T2 c, gs _ (by omega), Option.bind_some, gs _ (by omega), Option.bind_some]
      obtain ⟨h3, e3, R3⟩ := M_carry177 R2 hi (j := d - 2) (by omega) (by rw [d2]; omega) (s.2.1 1 i (d - 2) * s.2.1 1 i (d - 1))
      rw [d2, w2] at R3
      exact ⟨h3, e3, R3⟩
    · rw [if_neg c, if_pos (by omega)]
      exact ⟨h2, rfl, sid _ rfl R2⟩
  · subst q
    rw [if_neg (by decide), if_neg (by decide), if_neg (by decide), if_pos (by decide)]
    have hm : mach d (s.2.1 1 i) (nI 3) = if d < 1 then (d, s.2.1 1 i) else if 20 ≤ d then (d, s.2.1 1 i) else (d + 1, va_up (s.2.1 1 i) d (s.2.1 1 i (d - 1))) := by
      unfold mach
      rw [if_neg (by decide), if_neg (by decide), if_pos rfl]
    rw [hm]
    by_cases c : d ≤ 0
    · rw [if_pos c, if_pos (by omega)]
      exact ⟨h2, rfl, sid _ rfl R2⟩
    · rw [if_neg c, if_neg (show ¬ d < 1 by omega)]
      by_cases c3 : 20 ≤ d
      · rw [if_pos c3, if_pos c3]
        exact ⟨h2, rfl, sid _ rfl R2⟩
      · rw [if_neg c3, if_neg c3, T1 (by omega), gs _ (by omega), Option.bind_some, if_pos R2.ob]
        obtain ⟨h3, e3, R3⟩ := M_push R2 hi (by rw [d2]; omega) (s.2.1 1 i (d - 1))
        rw [d2, w2] at R3
        exact ⟨h3, by rw [e3]; rfl, R3⟩
  · subst q
    rw [if_neg (by decide), if_neg (by decide), if_neg (by decide), if_neg (by decide), if_pos (by decide)]
    have hm : mach d (s.2.1 1 i) (nI 4) = if d < 1 then (d, s.2.1 1 i) else (d - 1, s.2.1 1 i) := by
      unfold mach
      rw [if_neg (by decide), if_neg (by decide), if_neg (by decide), if_pos rfl]
    rw [hm]
    by_cases c : d ≤ 0
    · rw [if_pos c, if_pos (by omega)]
      exact ⟨h2, rfl, sid _ rfl R2⟩
    · rw [if_neg c, if_neg (by omega), pk_sub (show 1 ≤ d by omega)]
      obtain ⟨h3, e3, R3⟩ := R2.s21 hi (d - 1)
      refine ⟨h3, by rw [e3]; rfl, ?_⟩
      have : sMach s2 i (d - 1, s.2.1 1 i) = sv 21 i (d - 1) s2 := by
        unfold sMach sv up3
        rw [← w2, up2_id]
      rw [this]
      exact R3
  · subst q
    rw [if_neg (by decide), if_neg (by decide), if_neg (by decide), if_neg (by decide), if_neg (by decide)]
    have hm : mach d (s.2.1 1 i) (nI 5) = if d < 2 then (d, s.2.1 1 i) else (d, va_up (va_up (s.2.1 1 i) (d - 1) (s.2.1 1 i (d - 2))) (d - 2) (s.2.1 1 i (d - 1))) := by
      unfold mach
      rw [if_neg (by decide), if_neg (by decide), if_neg (by decide), if_neg (by decide), if_pos rfl]
    rw [hm]
    by_cases c : 2 ≤ d
    · rw [if_pos c, if_neg (by omega), T1 (by omega), gs _ (by omega), Option.bind_some, T2 c, gs _ (by omega), Option.bind_some]
      obtain ⟨h3, e3, R3⟩ := R2.sS hi (j := d - 1) (by omega) (s.2.1 1 i (d - 2))
      obtain ⟨h4, e4, R4⟩ := R3.sS hi (j := d - 2) (by omega) (s.2.1 1 i (d - 1))
      refine ⟨h4, by simp only [e3, Option.bind_some, R3.r18, e4], ?_⟩
      have : sMach s2 i (d, va_up (va_up (s.2.1 1 i) (d - 1) (s.2.1 1 i (d - 2))) (d - 2) (s.2.1 1 i (d - 1))) = sw 1 i (va_up ((sw 1 i (va_up (s2.2.1 1 i) (d - 1) (s.2.1 1 i (d - 2))) s2).2.1 1 i) (d - 2) (s.2.1 1 i (d - 1))) (sw 1 i (va_up (s2.2.1 1 i) (d - 1) (s.2.1 1 i (d - 2))) s2) := by
        unfold sMach sw up3
        show (up2 s2.1 21 i d, up2 s2.2.1 1 i _, s2.2.2) = (s2.1, up2 (up2 s2.2.1 1 i _) 1 i (va_up (up2 s2.2.1 1 i _ 1 i) _ _), s2.2.2)
        rw [up2_same, up2_up2, w2, ← d2, up2_id]
      rw [this]
      exact R4
    · rw [if_neg c, if_pos (by omega)]
      exact ⟨h2, rfl, sid _ rfl R2⟩
end MC
