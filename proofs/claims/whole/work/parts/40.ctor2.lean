/-! the class when it is made: its nodes -/
theorem NI.far {n j : Nat} {Z Z' : Nat → Nat → Int32} {P P' : Nat → Nat → Option Nat} (h : NI n j Z P) (hz : ∀ d : Nat, d < 7 → Z' (nd n j + d) = Z (nd n j + d) ∧ P' (nd n j + d) = P (nd n j + d)) : NI n j Z' P' := by
  obtain ⟨h1, h2, h3⟩ := h
  refine ⟨(hz 0 (by omega)).1.trans h1, (hz 0 (by omega)).2.trans h2, fun d hd1 hd2 k => ?_⟩
  rw [(hz d hd2).1, (hz d hd2).2]
  exact h3 d hd1 hd2 k
theorem C_ndL {n : Nat} (hn : 2 ≤ n ∧ n ≤ 7) : ∀ (m t fuel : Nat) (Z : Nat → Nat → Int32) (P : Nat → Nat → Option Nat), t + m = n → m < fuel → (P 1 0 = some 2 ∧ P 1 1 = some 3 ∧ P 1 2 = some (5 + n * n)) → PI n (n * n) t Z P → ∃ (Z' : Nat → Nat → Int32) (P' : Nat → Nat → Option Nat), f_X8_init_58 fuel (some 1) (nI n) (nI t) (hk (5 + n * n + 7 * t) (KD n) (LN n) Z P A0) = some (hk (5 + n * n + 7 * n) (KD n) (LN n) Z' P' A0) ∧ (P' 1 0 = some 2 ∧ P' 1 1 = some 3 ∧ P' 1 2 = some (5 + n * n)) ∧ PI n (n * n) n Z' P'
  | 0, t, fuel, Z, P, ht, hf, h1, hp => by
    obtain ⟨fu, rfl⟩ : ∃ fu, fuel = fu + 1 := ⟨fuel - 1, by omega⟩
    rw [f_X8_init_58]
    rw [if_pos ((nI_leI (by omega) (by omega)).mpr (by omega))]
    have : t = n := by omega
    subst this
    exact ⟨Z, P, rfl, h1, hp⟩
  | m + 1, t, fuel, Z, P, ht, hf, h1, hp => by
    obtain ⟨fu, rfl⟩ : ∃ fu, fuel = fu + 1 := ⟨fuel - 1, by omega⟩
    have hn4 : 4 ≤ n * n := Nat.mul_le_mul hn.1 hn.1
    obtain ⟨p2, p3, p31, p4, pc, pn, pb⟩ := hp
    have hc : 5 + n * n + 7 * t + 1 = nd n t := by unfold nd; omega
    have hc2 : 5 + n * n + 7 * (t + 1) = nd n t + 6 := by unfold nd; omega
    have hb0 := pb (nd n t) (Nat.le_refl _)
    have k0 : KD n (nd n t) = 4 := KD_nd n t 0 (by omega)
    have kA : KD n (5 + n * n) = 13 := by unfold KD; rw [if_neg (by omega), if_neg (by omega), if_neg (by omega), if_neg (by omega), if_neg (by omega), if_pos rfl]
    have lA : LN n (5 + n * n) = n := by unfold LN; rw [if_neg (by omega), if_pos rfl]
    have hg := nd_ge n t
    obtain ⟨Z', P', e4, q1, q2⟩ := C_new4 hn.2 (show t < n by omega) pb
    rw [f_X8_init_58]
    rw [if_neg (fun q => by have := (nI_leI (by omega) (by omega)).mp q; omega)]
    rw [hk_gR (by omega) (show KD n 1 = 8 from rfl) (by decide) (by decide), h1.2.2, Option.bind_some, Option.bind_some, k0_O (c := 5 + n * n + 7 * t) (by rw [hc]; exact k0) (by decide) (by rw [hc, hb0.1, hb0.2]; rfl)]
    have hkk1 : (hk (5 + n * n + 7 * t) (KD n) (LN n) Z P A0).1 = 5 + n * n + 7 * t := rfl
    rw [hkk1, hc, hk_gR (by omega) (show KD n 1 = 8 from rfl) (by decide) (by decide), h1.2.1, Option.bind_some, hk_gR (by omega) (show KD n 1 = 8 from rfl) (by decide) (by decide), h1.1, Option.bind_some, e4, Option.bind_some]
    rw [hk_aT 3 (Or.inr rfl) (by omega) kA (show t < LN n (5 + n * n) by rw [lA]; omega) (by rw [lA]; omega) (hk_ob (by omega) k0 (by decide)), Option.bind_some, nI_add, ← hc2]
    have q3 : ∀ a : Nat, a < nd n t → Z' a = Z a ∧ P' a = P a := fun a ha => q2 a (Or.inl ha)
    refine C_ndL hn m (t + 1) fu Z' (up2 P' (5 + n * n) t (some (nd n t))) (by omega) (by omega) ?_ ?_
    · rw [up2_row (by omega), (q3 1 (by omega)).2]
      exact h1
    · refine ⟨(q3 2 (by omega)).1.trans p2, fun k => by rw [(q3 3 (by omega)).1]; exact p3 k, by rw [up2_row (by omega), (q3 3 (by omega)).2]; exact p31, fun k hk => by rw [up2_row (by omega), (q3 4 (by omega)).2]; exact p4 k hk, fun a h1 h2 => by rw [up2_row (by omega), (q3 a (by omega)).1, (q3 a (by omega)).2]; exact pc a h1 h2, fun k hk => ?_, fun a ha => ?_⟩
      · by_cases e : k = t
        · subst e
          refine ⟨up2_same _ _ _ _, q1.far fun d hd => ⟨rfl, up2_row (by omega)⟩⟩
        · have hkl : nd n k + 6 < nd n t := by unfold nd; omega
          have hgk := nd_ge n k
          obtain ⟨w1, w2⟩ := pn k (by omega)
          refine ⟨by rw [up2_k e, (q3 (5 + n * n) (by omega)).2]; exact w1, w2.far fun d hd => ?_⟩
          rw [up2_row (by omega)]
          exact q3 _ (by omega)
      · have : nd n (t + 1) = nd n t + 7 := by unfold nd; omega
        rw [up2_row (by omega), (q2 a (Or.inr (by omega))).1, (q2 a (Or.inr (by omega))).2]
        exact pb a (by omega)
theorem C_ctor20 {n : Nat} (hn : 2 ≤ n ∧ n ≤ 7) : ∃ h', f_X8_init_20 (some 1) (nI n) (hk 1 (KD n) (LN n) (fun _ _ => 0) (fun _ _ => none) A0) = some h' ∧ RepC n h' (s0 n) ∧ h'.1 + 1 = bsA n := by
  have hn4 : 4 ≤ n * n := Nat.mul_le_mul hn.1 hn.1
  have hnn : n * n ≤ 49 := Nat.mul_le_mul hn.2 hn.2
  have kA : KD n (5 + n * n) = 13 := by unfold KD; rw [if_neg (by omega), if_neg (by omega), if_neg (by omega), if_neg (by omega), if_neg (by omega), if_pos rfl]
  have lA : LN n (5 + n * n) = n := by unfold LN; rw [if_neg (by omega), if_pos rfl]
  obtain ⟨P1, hP1⟩ : ∃ P1 : Nat → Nat → Option Nat, P1 = up2 (fun _ _ => none) 1 0 (some 2) := ⟨_, rfl⟩
  obtain ⟨Z1, hZ1⟩ : ∃ Z1 : Nat → Nat → Int32, Z1 = up2 (fun _ _ => 0) 3 0 (nI n) := ⟨_, rfl⟩
  obtain ⟨P2, hP2⟩ : ∃ P2 : Nat → Nat → Option Nat, P2 = up2 P1 3 1 (some 2) := ⟨_, rfl⟩
  obtain ⟨P3, hP3⟩ : ∃ P3 : Nat → Nat → Option Nat, P3 = up2 P2 3 2 (some 4) := ⟨_, rfl⟩
  have b3 : ∀ a : Nat, ¬ a = 1 → ¬ a = 3 → P3 a = fun _ => none := fun a h1 h3 => by rw [hP3, up2_row h3, hP2, up2_row h3, hP1, up2_row h1]
  have z3 : ∀ a : Nat, ¬ a = 3 → Z1 a = fun _ => 0 := fun a h3 => by rw [hZ1, up2_row h3]
  obtain ⟨P4, e4, q1, q2⟩ := C_chL hn (n * n) 0 64 Z1 P3 (by omega) (by omega) (by rw [hP3, up2_same]) (fun k hk => absurd hk (by omega)) (fun a ha => ⟨z3 a (by omega), b3 a (by omega) (by omega)⟩)
  obtain ⟨P5, hP5⟩ : ∃ P5 : Nat → Nat → Option Nat, P5 = up2 P4 1 1 (some 3) := ⟨_, rfl⟩
  obtain ⟨P6, hP6⟩ : ∃ P6 : Nat → Nat → Option Nat, P6 = up2 P5 1 2 (some (5 + n * n)) := ⟨_, rfl⟩
  have r1 : P6 1 0 = some 2 ∧ P6 1 1 = some 3 ∧ P6 1 2 = some (5 + n * n) := by
    refine ⟨?_, ?_, ?_⟩
    · rw [hP6, up2_k (by decide), hP5, up2_k (by decide), q2 1 (by decide), hP3, up2_row (by decide), hP2, up2_row (by decide), hP1, up2_same]
    · rw [hP6, up2_k (by decide), hP5, up2_same]
    · rw [hP6, up2_same]
  have r2 : ∀ a : Nat, ¬ a = 1 → ¬ a = 4 → P6 a = P3 a := fun a h1 h4 => by rw [hP6, up2_row h1, hP5, up2_row h1, q2 a h4]
  obtain ⟨Z7, P7, e7, w1, w2⟩ := C_ndL hn n 0 8 Z1 P6 (by omega) (by omega) r1 (by
    refine ⟨z3 2 (by decide), fun k => ?_, ?_, fun k hk => ?_, fun a h1 h2 => ⟨z3 a (by omega), by rw [r2 a (by omega) (by omega)]; exact b3 a (by omega) (by omega)⟩, fun k hk => absurd hk (by omega), fun a ha => ?_⟩
    · rw [hZ1, up2_at]
      by_cases e : k = 0
      · simp [va_up, e]
      · simp [va_up, e]
    · rw [r2 3 (by decide) (by decide)]
      refine ⟨by rw [hP3, up2_k (by decide), hP2, up2_same], by rw [hP3, up2_same]⟩
    · rw [hP6, up2_row (by decide), hP5, up2_row (by decide)]
      exact q1 k hk
    · have hg := nd_ge n 0
      exact ⟨z3 a (by omega), by rw [r2 a (by omega) (by omega)]; exact b3 a (by omega) (by omega)⟩)
  have h45 : 4 + n * n + 1 = 5 + n * n := by omega
  have ff : (fun _ _ => none : Nat → Nat → Option Nat) = fun _ _ => none := rfl
  refine ⟨hk (5 + n * n + 7 * n) (KD n) (LN n) Z7 P7 A0, ?_, ⟨5 + n * n + 7 * n, KD n, LN n, Z7, P7, A0, fun _ => [], rfl, ?_⟩, by show 5 + n * n + 7 * n + 1 = _; unfold bsA; omega⟩
  · have hkk : ∀ (c : Nat) (Z : Nat → Nat → Int32) (P : Nat → Nat → Option Nat), (hk c (KD n) (LN n) Z P A0).1 = c := fun _ _ _ => rfl
    have a1 : hz_nO (hk 1 (KD n) (LN n) (fun _ _ => 0) (fun _ _ => none) A0) 7 [.int 0, .int 0, .int 0, .int 0, .int 0] = hk 2 (KD n) (LN n) (fun _ _ => 0) (fun _ _ => none) A0 := k0_O (c := 1) rfl (by decide) rfl
    have kk1 : KD n 1 = 8 := rfl
    have kk3 : KD n 3 = 5 := rfl
    have a2 : hz_pF (hk 2 (KD n) (LN n) (fun _ _ => 0) (fun _ _ => none) A0) (some 1) 8 0 (va_rf (some 2)) = some (hk 2 (KD n) (LN n) (fun _ _ => 0) P1 A0) := by rw [hP1]; exact hk_pFR (by omega) kk1 (by decide) (by decide) _
    have a3 : hz_nO (hk 2 (KD n) (LN n) (fun _ _ => 0) P1 A0) 5 [.int 0, .null, .null, .int 0] = hk 3 (KD n) (LN n) (fun _ _ => 0) P1 A0 := k0_O (c := 2) rfl (by decide) (by rw [hP1]; rfl)
    have a4 : hz_gR (hk 3 (KD n) (LN n) (fun _ _ => 0) P1 A0) (some 1) 8 0 = some (some 2) := by rw [hk_gR (by omega) kk1 (by decide) (by decide), hP1, up2_same]
    have a5 : hz_pF (hk 3 (KD n) (LN n) (fun _ _ => 0) P1 A0) (some 3) 5 0 (.int (nI n)) = some (hk 3 (KD n) (LN n) Z1 P1 A0) := by rw [hZ1]; exact hk_pFI (by omega) kk3 (by decide) (by decide) _
    have a6 : hz_pF (hk 3 (KD n) (LN n) Z1 P1 A0) (some 3) 5 1 (va_rf (some 2)) = some (hk 3 (KD n) (LN n) Z1 P2 A0) := by rw [hP2]; exact hk_pFR (by omega) kk3 (by decide) (by decide) _
    have a7 : hz_nQ (hk 3 (KD n) (LN n) Z1 P2 A0) 2 64 (nI n * nI n) = some (hk 4 (KD n) (LN n) Z1 P2 A0) := by
      rw [show nI n * nI n = nI (n * n) from (Int32.ofNat_mul n n).symm]
      exact k0_Q (c := 3) (Or.inl rfl) (by omega) (by decide) rfl rfl (by rw [hP2, up2_row (by decide), hP1, up2_row (by decide)])
    have a8 : hz_pF (hk 4 (KD n) (LN n) Z1 P2 A0) (some 3) 5 2 (va_rf (some 4)) = some (hk 4 (KD n) (LN n) Z1 P3 A0) := by rw [hP3]; exact hk_pFR (by omega) kk3 (by decide) (by decide) _
    have a9 : hz_pF (hk (4 + n * n) (KD n) (LN n) Z1 P4 A0) (some 1) 8 1 (va_rf (some 3)) = some (hk (4 + n * n) (KD n) (LN n) Z1 P5 A0) := by rw [hP5]; exact hk_pFR (by omega) kk1 (by decide) (by decide) _
    have a10 : hz_nQ (hk (4 + n * n) (KD n) (LN n) Z1 P5 A0) 3 64 (nI n) = some (hk (5 + n * n) (KD n) (LN n) Z1 P5 A0) := by
      have := k0_Q (c := 4 + n * n) (kd := KD n) (ln := LN n) (Z := Z1) (P := P5) (A := A0) (t := 3) (cap := 64) (m := n) (Or.inr rfl) (by omega) (by decide) (by rw [h45]; exact kA) (by rw [h45]; exact lA) (by rw [h45, hP5, up2_row (by omega), q2 _ (by omega)]; exact b3 _ (by omega) (by omega))
      rw [h45] at this
      exact this
    have a11 : hz_pF (hk (5 + n * n) (KD n) (LN n) Z1 P5 A0) (some 1) 8 2 (va_rf (some (5 + n * n))) = some (hk (5 + n * n) (KD n) (LN n) Z1 P6 A0) := by rw [hP6]; exact hk_pFR (by omega) kk1 (by decide) (by decide) _
    rw [Nat.add_zero] at e4
    rw [Nat.mul_zero, Nat.add_zero] at e7
    simp only [f_X8_init_20, f_X7_init, f_X5_init, reduceCtorEq, if_false, Option.bind_some, hkk, Nat.reduceAdd, h45, a1, a2, a3, a4, a5, a6, a7, a8, e4, a9, a10, a11, e7]
  · obtain ⟨p2, p3, p31, p4, pc, pn, pb⟩ := w2
    have k5 : ∀ i d : Nat, d < 7 → 1 ≤ nd n i + d := fun i d _ => by have := nd_ge n i; omega
    refine ⟨⟨hn, by unfold bsA; omega, ⟨rfl, w1⟩, rfl, ⟨rfl, by rw [p3]; rfl, p31⟩, ⟨rfl, rfl, fun j hj => ⟨p4 j hj, ?_⟩⟩, ⟨kA, lA, fun i hi => (pn i hi).1⟩, fun i hi => ?_⟩, fun f hf i hi => ?_, fun i hi => ?_, fun g hg i hi => rfl, fun t ht => by rw [p2]; rfl, by rw [p3]; rfl, fun i hi => ⟨0, ?_, Or.inl ⟨rfl, rfl⟩⟩, fun x y hx hy => ?_, fun e e' j j' l he he' h1 h2 => by simp at h1, fun w hw => by simp [s0] at hw⟩
    · unfold KD
      rw [if_neg (by omega), if_neg (by omega), if_neg (by omega), if_neg (by omega), if_pos (by omega)]
    · obtain ⟨q1, q2, q3⟩ := (pn i hi).2
      refine ⟨⟨KD_nd n i 0 (by omega), by rw [q1]; rfl, by rw [q1]; rfl⟩, ?_, ⟨KD_nd n i 1 (by omega), (q3 1 (by omega) (by omega) 0).2, KD_nd n i 2 (by omega), LN_nd n i 2 (by omega)⟩, ⟨KD_nd n i 3 (by omega), (q3 3 (by omega) (by omega) 0).2, KD_nd n i 4 (by omega), LN_nd n i 4 (by omega)⟩, KD_nd n i 5 (by omega), KD_nd n i 6 (by omega), LN_nd n i 6 (by omega)⟩
      rw [q2]
      exact ⟨rfl, rfl, rfl, rfl, rfl, rfl⟩
    · obtain ⟨q1, q2, q3⟩ := (pn i hi).2
      have hf22 := vok_lt hf
      by_cases c : vo f = 0
      · have hx := (vprop f hf22 hf).2.2.1 c
        rw [c, Nat.add_zero, q1]
        have hvx : vx f = f := by
          unfold vx
          have : ∀ g : Nat, g < 22 → vo g = 0 → vx g = g := by decide
          exact this f hf22 c
        rw [hvx] at hx ⊢
        show zN n i f = nI (if f = 11 then 2 ^ n - 1 else 0)
        unfold zN
        by_cases c2 : f = 11
        · rw [if_pos c2, if_pos c2]
        · rw [if_neg c2, if_neg c2, if_neg (by omega), if_neg (by omega), if_neg (by omega)]
          rfl
      · have hv := vo_lt f
        rw [(q3 (vo f) (by omega) (by omega) (vx f)).1]
        show (0 : Int32) = nI (if f = 11 then 2 ^ n - 1 else 0)
        rw [if_neg (fun e => c (by rw [e]; rfl))]
        rfl
    · rw [((pn i hi).2).1]
      show (-1 : Int32) = nI 0 + (-1)
      decide
    · exact (((pn i hi).2).2.2 5 (by omega) (by omega) 2).2
    · have be := ch_lt hx hy
      obtain ⟨c1, c2⟩ := pc (5 + (x * n + y)) (by omega) (by omega)
      exact ⟨by rw [c2]; rfl, by rw [c2]; rfl, by rw [c1]; rfl, rfl, fun j l hj => by simp at hj⟩
def nOf (a : Int32) : Nat := if a < nI 2 then 3 else if nI 7 < a then 3 else a.toNatClampNeg
theorem nOf_s (a : Int32) : (2 ≤ nOf a ∧ nOf a ≤ 7) ∧ ((a < nI 2 ∧ nOf a = 3) ∨ (¬ a < nI 2 ∧ nI 7 < a ∧ nOf a = 3) ∨ (¬ a < nI 2 ∧ ¬ nI 7 < a ∧ a = nI (nOf a))) := by
  unfold nOf
  by_cases c1 : a < nI 2
  · rw [if_pos c1]
    exact ⟨by omega, Or.inl ⟨c1, rfl⟩⟩
  · rw [if_neg c1]
    by_cases c2 : nI 7 < a
    · rw [if_pos c2]
      exact ⟨by omega, Or.inr (Or.inl ⟨c1, c2, rfl⟩)⟩
    · rw [if_neg c2]
      have d1 := nlt32.mp c1
      have c0 : ¬ a < 0 := fun q => c1 (Int32.lt_of_lt_of_le q (by decide))
      obtain ⟨j, hj, rfl⟩ := nI_of c0
      rw [nI_clamp hj]
      have h1 := (nI_leI (by omega) hj).mp d1
      have h2 : ¬ 7 < j := fun q => c2 ((nI_ltI (by omega) hj).mpr q)
      exact ⟨by omega, Or.inr (Or.inr ⟨c1, c2, rfl⟩)⟩
theorem C_ctor (a : Int32) : ∃ h', f_X8_init (some 1) a (hz_nO (hk 0 (KD (nOf a)) (LN (nOf a)) (fun _ _ => 0) (fun _ _ => none) A0) 8 [.null, .null, .null]) = some h' ∧ RepC (nOf a) h' (s0 (nOf a)) ∧ h'.1 + 1 = bsA (nOf a) := by
  obtain ⟨hn, hc⟩ := nOf_s a
  obtain ⟨h', e, R, hc1⟩ := C_ctor20 hn
  refine ⟨h', ?_, R, hc1⟩
  have e0 : hz_nO (hk 0 (KD (nOf a)) (LN (nOf a)) (fun _ _ => 0) (fun _ _ => none) A0) 8 [.null, .null, .null] = hk 1 (KD (nOf a)) (LN (nOf a)) (fun _ _ => 0) (fun _ _ => none) A0 := k0_O (c := 0) rfl (by decide) rfl
  rw [e0]
  unfold f_X8_init
  rw [if_neg (by simp)]
  rcases hc with ⟨c1, c2⟩ | ⟨c1, c2, c3⟩ | ⟨c1, c2, c3⟩
  · rw [if_pos c1, f_X8_init_19, ← c2]
    exact e
  · rw [if_neg c1, if_pos c2, f_X8_init_19, ← c3]
    exact e
  · rw [if_neg c1, if_neg c2]
    generalize nOf a = m at *
    subst c3
    exact e
