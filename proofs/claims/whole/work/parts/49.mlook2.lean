/-! the model looks what most hold, and adds -/
section MK2
variable {n B : Nat} {h : HP} {s : SS} {G : GG} {K : KK}
theorem M_lkE (R : RepM n h s G K) (O : OkS n B s) {i t best : Nat} (hi : i < n) (av : AcV s i) (hS : s.2.2.2.2.1 0 + 7 < 2 ^ 31) (ht : s.1 20 i < t) (ht2 : t < 2 ^ 31) (hb : best = if s.1 14 i < lookM n s i then lookM n s i else 0) (fu : Nat) : ∃ h', f_X9_look_28 (fu + 1) (some 1) (nI i) (nI best) (nI t) h = some h' ∧ RepM n h' (look n i s) G K := by
  have hn := R.rng
  have hB := O.1
  obtain ⟨b20, b21, b14, b11, -⟩ := O.sml hi
  have hlm : lookM n s i ≤ 60 := Nat.le_trans (hbm_le _ _) b20
  rw [f_X9_look_28, R.r5, Option.bind_some, R.g20 hi, Option.bind_some, if_pos ((nI_ltI (by omega) ht2).mpr ht), R.r6, Option.bind_some, R.g14 hi, Option.bind_some]
  unfold look
  by_cases c : s.1 14 i < lookM n s i
  · rw [if_pos c] at hb
    subst hb
    rw [if_pos ((nI_ltI (by omega) (by omega)).mpr c), if_pos R.ob, if_neg (show ¬ lookM n s i ≤ s.1 14 i by omega)]
    obtain ⟨h1, e1, R1⟩ := M_carryTo R hi (show lookM n s i < 2 ^ 31 by omega) b20 b14 b21 av
    obtain ⟨v1, v2, v3, v4, v5, v6⟩ := carryTo_V i (lookM n s i) s
    have c11 : (carryTo i (lookM n s i) s).1 11 i = s.1 11 i := v1 11 i (by decide) (by decide)
    have c10 : (carryTo i (lookM n s i) s).1 10 i = s.1 10 i := v1 10 i (by decide) (by decide)
    obtain ⟨h2, e2, R2⟩ := M_sendAll R1 (k := 4) (nr := s.1 10 i) (d := lookM n s i) (many := 0) (act := nI 0) (xs := []) (mask := s.1 11 i) hi (by decide) b11 (by rw [v5 0 (by decide)]; exact hS) (by rw [v5 5 (by decide)]; exact O.2.2.1) (Or.inr ⟨by decide, by decide, by decide, rfl⟩)
    refine ⟨h2, ?_, R2⟩
    simp only [e1, Option.bind_some, R1.r3, R1.v11 hi c11, R1.r2, R1.v10 hi c10, R1.ob, if_true, e2]
  · rw [if_neg c] at hb
    subst hb
    rw [if_neg (fun q => by have := (nI_ltI (show s.1 14 i < 2 ^ 31 by omega) (show 0 < 2 ^ 31 by decide)).mp q; omega), if_pos (show lookM n s i ≤ s.1 14 i by omega)]
    exact ⟨h, rfl, R⟩
theorem M_lk28 (R : RepM n h s G K) (O : OkS n B s) {i : Nat} (hi : i < n) (av : AcV s i) (hS : s.2.2.2.2.1 0 + 7 < 2 ^ 31) (hown : hz_aI h (some 14) 0 (nI (7 * i + i)) = some (nI (s.1 20 i))) : ∀ (m d fuel : Nat), s.1 14 i + d + m = s.1 20 i → m < fuel → ∃ h', f_X9_look_28 fuel (some 1) (nI i) (nI (bst (fun k => decide (n < hcnt n s i k * 2)) (s.1 14 i) d)) (nI (s.1 14 i + d + 1)) h = some h' ∧ RepM n h' (look n i s) G K
  | 0, d, fuel, ht, hf => by
    obtain ⟨fu, rfl⟩ : ∃ fu, fuel = fu + 1 := ⟨fuel - 1, by omega⟩
    obtain ⟨b20, b21, b14, b11, -⟩ := O.sml hi
    refine M_lkE R O hi av hS (by omega) (by omega) ?_ fu
    rw [bst_hbm, show s.1 14 i + d = s.1 20 i by omega]
    rfl
  | m + 1, d, fuel, ht, hf => by
    obtain ⟨fu, rfl⟩ : ∃ fu, fuel = fu + 1 := ⟨fuel - 1, by omega⟩
    obtain ⟨b20, b21, b14, b11, -⟩ := O.sml hi
    have hn := R.rng
    rw [f_X9_look_28, R.r5, Option.bind_some, R.g20 hi, Option.bind_some, if_neg (fun q => by have := (nI_ltI (by omega) (by omega)).mp q; omega)]
    have e44 := M_lk44 R hi b11 (by omega) (k := s.1 14 i + d + 1) (best := bst (fun k => decide (n < hcnt n s i k * 2)) (s.1 14 i) d) (by omega) hown (f_X9_look_28 fu) n 0 600 (by omega) (by omega)
    have e0 : nI 0 = nI ((List.range 0).countP (fun j => hld s i j (s.1 14 i + d + 1))) := rfl
    have hb : (if n < hcnt n s i (s.1 14 i + d + 1) * 2 then nI (s.1 14 i + d + 1) else nI (bst (fun k => decide (n < hcnt n s i k * 2)) (s.1 14 i) d)) = nI (bst (fun k => decide (n < hcnt n s i k * 2)) (s.1 14 i) (d + 1)) := by
      rw [bst]
      by_cases c : n < hcnt n s i (s.1 14 i + d + 1) * 2
      · rw [if_pos c, if_pos (decide_eq_true c)]
      · rw [if_neg c, if_neg (fun q => c (of_decide_eq_true q))]
    rw [hb] at e44
    obtain ⟨h', e, R'⟩ := M_lk28 R O hi av hS hown m (d + 1) fu (by omega) (by omega)
    exact ⟨h', e44.trans e, R'⟩
theorem M_look (R : RepM n h s G K) (O : OkS n B s) {i : Nat} (hi : i < n) (av : AcV s i) (hS : s.2.2.2.2.1 0 + 7 < 2 ^ 31) : ∃ h', f_X9_look (some 1) (nI i) h = some h' ∧ RepM n h' (look n i s) G K := by
  have hn := R.rng
  obtain ⟨b20, b21, b14, b11, -⟩ := O.sml hi
  obtain ⟨h1, e1, R1, hown⟩ : ∃ h1, hz_aS h (some 14) 0 (nI (7 * i + i)) (nI (s.1 20 i)) = some h1 ∧ RepM n h1 s G K ∧ hz_aI h1 (some 14) 0 (nI (7 * i + i)) = some (nI (s.1 20 i)) := by
    obtain ⟨Z, A, rfl, r⟩ := R
    refine ⟨_, mm_aS (by decide) (show 7 * i + i < 49 by omega) _, ⟨Z, _, rfl, r.own (i := i) (nI (s.1 20 i))⟩, ?_⟩
    rw [mm_aI (by decide) (show 7 * i + i < 49 by omega), up2_same]
  simp only [f_X9_look, R.r13, R.r5, R.g20 hi, Option.bind_some, nI_mul, nI_add, e1, R1.r6, R1.g14 hi]
  by_cases c : s.1 14 i ≤ s.1 20 i
  · exact M_lk28 R1 O hi av hS hown (s.1 20 i - s.1 14 i) 0 600 (by omega) (by omega)
  · refine M_lkE R1 O hi av hS (show s.1 20 i < s.1 14 i + 1 by omega) (by omega) ?_ 599
    have : lookM n s i ≤ s.1 20 i := hbm_le _ _
    rw [if_neg (by omega)]
theorem M_add (R : RepM n h s G K) (O : OkS n B s) {i : Nat} (hi : i < n) (hd : s.1 20 i < 60) (av : AcV s i) {act : Int32} (ha : isA act = true) (hS : s.2.2.2.2.1 0 + 14 < 2 ^ 31) : ∃ h', f_X9_add (some 1) (nI i) act h = some h' ∧ RepM n h' (addS n i act s) G K := by
  have hn := R.rng
  obtain ⟨b20, b21, b14, b11, -⟩ := O.sml hi
  obtain ⟨h1, e1, R1⟩ := R.sR hi hd act
  obtain ⟨h2, e2, R2⟩ := R1.s20 hi (s.1 20 i + 1)
  obtain ⟨h3, e3, R3⟩ := M_sendAll R2 (k := 2) (nr := s.1 10 i) (d := s.1 20 i) (many := 1) (act := act) (xs := [act]) (mask := s.1 11 i) hi (by decide) b11 (show s.2.2.2.2.1 0 + 7 < 2 ^ 31 by omega) O.2.2.1 (Or.inl ⟨Or.inr rfl, rfl, rfl⟩)
  replace R3 : RepM n h3 (putO n i act s) G K := R3
  have O3 := O.oPut hi hd act
  have av3 : AcV (putO n i act s) i := by
    intro j hj
    unfold putO at hj ⊢
    rw [sG_2]
    rw [sG_1] at hj
    show isA (up2 s.2.1 0 i (va_up (s.2.1 0 i) (s.1 20 i) act) 0 i j) = true
    rw [up2_same]
    by_cases e : j = s.1 20 i
    · rw [e, va_eq]; exact ha
    · rw [va_ne e]
      have hj2 : j < up2 s.1 20 i (s.1 20 i + 1) 20 i := hj
      rw [up2_same] at hj2
      exact av j (by omega)
  have hS3 : (putO n i act s).2.2.2.2.1 0 + 7 < 2 ^ 31 := by
    have := sndG_c0 i (oth s i) (2, s.1 10 i, s.1 20 i, [act]) n 0 (sw 0 i (va_up (s.2.1 0 i) (s.1 20 i) act) (sv 20 i (s.1 20 i + 1) s))
    unfold putO
    have h2 : (sw 0 i (va_up (s.2.1 0 i) (s.1 20 i) act) (sv 20 i (s.1 20 i + 1) s)).2.2.2.2.1 0 = s.2.2.2.2.1 0 := rfl
    omega
  obtain ⟨h4, e4, R4⟩ := M_look R3 O3 hi av3 hS3
  refine ⟨h4, ?_, R4⟩
  simp only [f_X9_add, R.r5, R.g20 hi, R.r4, Option.bind_some, nI_mul, nI_add, e1, R1.r5, R1.v20 hi (v := s.1 20 i) rfl, e2, R2.r3, R2.v11 hi (v := s.1 11 i) rfl, R2.r2, R2.v10 hi (v := s.1 10 i) rfl, R2.ob, if_true, e3, R3.ob, e4]
end MK2
