/-! the model takes acts in, begins and founds -/
theorem one_bit (y t : Nat) : (2 ^ y).testBit t = decide (y = t) := Nat.testBit_two_pow
theorem sndG_oneL (x y : Nat) (ℓ : LL) : ∀ (k t : Nat) (s : SS), sndG x (2 ^ y) ℓ t k s = if t ≤ y ∧ y < t + k then snd1 x y ℓ s else s
  | 0, t, s => by
    rw [if_neg (by omega)]
    rfl
  | k + 1, t, s => by
    show sndG x (2 ^ y) ℓ (t + 1) k (if (2 ^ y).testBit t then snd1 x t ℓ s else s) = _
    rw [sndG_oneL x y ℓ k (t + 1), one_bit]
    by_cases e : y = t
    · subst e
      rw [if_neg (show ¬ (y + 1 ≤ y ∧ y < y + 1 + k) by omega), if_pos (show y ≤ y ∧ y < y + (k + 1) by omega)]
      simp
    · have : (if decide (y = t) = true then snd1 x t ℓ s else s) = s := by simp [e]
      rw [this]
      by_cases c : t ≤ y ∧ y < t + (k + 1)
      · rw [if_pos c, if_pos (by omega)]
      · rw [if_neg c, if_neg (by omega)]
theorem sndG_one {n x y : Nat} (hy : y < n) (ℓ : LL) (s : SS) : sndG x (2 ^ y) ℓ 0 n s = snd1 x y ℓ s := by
  rw [sndG_oneL, if_pos (by omega)]
theorem sMach_sv (f j x i : Nat) (s : SS) (m : Nat × (Nat → Int32)) (hf : ¬ f = 21) : sMach (sv f j x s) i m = sv f j x (sMach s i m) := by
  show (up2 (up2 s.1 f j x) 21 i _, _) = (up2 (up2 s.1 21 i _) f j x, _)
  rw [up2_comm _ _ _ _ _ hf]
  rfl
theorem carryN_svf (i f j x : Nat) (hf : ¬ f = 21) : ∀ (k p : Nat) (s : SS), carryN i p k (sv f j x s) = sv f j x (carryN i p k s)
  | 0, _, _ => rfl
  | k + 1, p, s => by
    have h21 : (sv f j x s).1 21 i = s.1 21 i := sv_ne (fun q => hf q.symm)
    show carryN i (p + 1) k (inc 2 (sMach (sv f j x s) i (mach ((sv f j x s).1 21 i) (s.2.1 1 i) (s.2.1 0 i p)))) = _
    rw [h21, sMach_sv _ _ _ _ _ _ hf]
    exact carryN_svf i f j x hf k (p + 1) (inc 2 (sMach s i (mach (s.1 21 i) (s.2.1 1 i) (s.2.1 0 i p))))
theorem carryN_sw (i j : Nat) (F : Nat → Int32) : ∀ (k p : Nat) (s : SS), carryN i p k (sw 2 j F s) = sw 2 j F (carryN i p k s)
  | 0, _, _ => rfl
  | k + 1, p, s => by
    have h1 : (sw 2 j F s).2.1 1 i = s.2.1 1 i := rfl
    have h0 : (sw 2 j F s).2.1 0 i p = s.2.1 0 i p := rfl
    have h2 : ∀ m : Nat × (Nat → Int32), sMach (sw 2 j F s) i m = sw 2 j F (sMach s i m) := fun m => by
      show (_, up2 (up2 s.2.1 2 j F) 1 i _, _) = (_, up2 (up2 s.2.1 1 i _) 2 j F, _)
      rw [up2_comm _ _ _ _ _ (by decide)]
      rfl
    show carryN i (p + 1) k (inc 2 (sMach (sw 2 j F s) i (mach (s.1 21 i) ((sw 2 j F s).2.1 1 i) ((sw 2 j F s).2.1 0 i p)))) = _
    rw [h1, h0, h2]
    exact carryN_sw i j F k (p + 1) (inc 2 (sMach s i (mach (s.1 21 i) (s.2.1 1 i) (s.2.1 0 i p))))
theorem sv_comm {f g : Nat} (i j x y : Nat) (s : SS) (h : ¬ f = g) : sv f i x (sv g j y s) = sv g j y (sv f i x s) := by
  unfold sv
  rw [up2_comm _ _ _ _ _ (fun q => h q.symm)]
theorem carryTo_sv {f : Nat} (i j x m : Nat) (s : SS) (h14 : ¬ f = 14) (h20 : ¬ f = 20) (h21 : ¬ f = 21) : carryTo i m (sv f j x s) = sv f j x (carryTo i m s) := by
  have e14 : (sv f j x s).1 14 i = s.1 14 i := sv_ne (fun q => h14 q.symm)
  have e20 : (sv f j x s).1 20 i = s.1 20 i := sv_ne (fun q => h20 q.symm)
  unfold carryTo
  rw [e14, e20, carryN_svf _ _ _ _ h21, sv_comm _ _ _ _ _ (fun q => h14 q.symm)]
theorem carryTo_sw (i j m : Nat) (F : Nat → Int32) (s : SS) : carryTo i m (sw 2 j F s) = sw 2 j F (carryTo i m s) := by
  unfold carryTo
  show sv 14 i _ (carryN i (s.1 14 i) _ (sw 2 j F s)) = _
  rw [carryN_sw]
  rfl
section MB
variable {n B : Nat} {h : HP} {s : SS} {G : GG} {K : KK}
theorem M_sub (R : RepM n h s G K) (O : OkS n B s) {i : Nat} (hi : i < n) (av : AcV s i) {act : Int32} (ha : isA act = true) (hS : s.2.2.2.2.1 0 + 14 < 2 ^ 31) : ∃ h', f_X9_submit (some 1) (nI i) act h = some (nI (subS n i act s).1, h') ∧ RepM n h' (subS n i act s).2 G K := by
  have hn := R.rng
  have hB := O.1
  obtain ⟨b20, b21, b14, b11, b15, b0, b1, b9, b8, -⟩ := O.sml hi
  obtain ⟨b10, b12, -⟩ := O.num hi
  have hl := ld_lt hn.1 s i
  simp only [f_X9_submit, f_X9_submit_15, R.ob, if_true, M_isNode R hi, Option.bind_some, z1F, if_false, M_isAct, ha, R.r1, R.g8 hi]
  unfold subS
  by_cases c : s.1 8 i = 0
  · rw [if_pos (show nI (s.1 8 i) = 0 by rw [c]; rfl), if_pos c]
    simp only [M_isBlocked R hi (show s.1 12 i < 2 ^ 31 by omega) (show s.1 10 i < 2 ^ 31 by omega), Option.bind_some]
    unfold accS
    cases hb : blk s i with
    | true =>
      simp only [if_true, z1F, if_false]
      exact ⟨h, rfl, R⟩
    | false =>
      simp only [Bool.false_eq_true, if_false, z0T, if_true, R.ob, M_leader R hi b11, Option.bind_some, pk_nI_inj (show ld n s i < 2 ^ 31 by omega) (show i < 2 ^ 31 by omega)]
      by_cases hc : ld n s i = i
      · rw [if_pos hc, if_pos hc]
        simp only [R.r5, R.g20 hi, Option.bind_some, pk_nI_inj (show s.1 20 i < 2 ^ 31 by omega) (show 60 < 2 ^ 31 by decide)]
        by_cases hd : s.1 20 i < 60
        · rw [if_neg (show ¬ s.1 20 i = 60 by omega), if_pos hd]
          obtain ⟨h1, e1, R1⟩ := M_add R O hi hd av ha hS
          exact ⟨h1, by rw [e1]; rfl, R1⟩
        · rw [if_pos (show s.1 20 i = 60 by omega), if_neg hd]
          exact ⟨h, rfl, R⟩
      · rw [if_neg hc, if_neg hc, sndG_one hl]
        obtain ⟨h1, e1, R1⟩ := M_send R (a := i) (b := ld n s i) (k := 1) (nr := 0) (d := 0) (many := 1) (act := act) (xs := [act]) hi hl (by decide) (by omega) O.2.2.1 (Or.inl ⟨Or.inl rfl, rfl, rfl⟩)
        exact ⟨h1, by rw [e1]; rfl, R1⟩
  · rw [if_neg (nI_ne0 (by omega) (by omega)), if_neg c]
    exact ⟨h, rfl, R⟩
theorem M_subN (R : RepM n h s G K) {a act : Int32} (ha : (a < 0 ∨ nI n ≤ a) ∨ isA act = false) : f_X9_submit (some 1) a act h = some (-1, h) := by
  have hn := R.rng
  simp only [f_X9_submit, f_X9_submit_15, R.ob, if_true]
  rcases nI_cs hn.2 a with q | ⟨i, hi, rfl⟩
  · simp only [M_isNodeN R q, Option.bind_some, z0T, if_true]
  · rcases ha with q | q
    · rcases q with q | q
      · exact absurd q (nI_nn (by omega))
      · have := (nI_leI (by omega) (by omega)).mp q
        omega
    · simp only [M_isNode R hi, Option.bind_some, z1F, if_false, M_isAct, q, Bool.false_eq_true, z0T, if_true]
theorem M_begL {i : Nat} (hi : i < n) : ∀ (m t fuel : Nat) (h : HP) (s : SS), RepM n h s G K → t + m = n → m < fuel → ∃ h', f_X9_begin_45 fuel (some 1) (nI i) (nI t) h = some h' ∧ RepM n h' (sw 2 i (fun j => if t ≤ j ∧ j < n then nI (s.1 20 i) else s.2.1 2 i j) s) G K
  | 0, t, fuel, h, s, R, ht, hf => by
    obtain ⟨fu, rfl⟩ : ∃ fu, fuel = fu + 1 := ⟨fuel - 1, by omega⟩
    have hn := R.rng
    rw [f_X9_begin_45, R.n0, Option.bind_some, if_pos ((nI_leI (by omega) (by omega)).mpr (by omega))]
    refine ⟨h, rfl, ?_⟩
    have : (fun j => if t ≤ j ∧ j < n then nI (s.1 20 i) else s.2.1 2 i j) = s.2.1 2 i := by
      funext j
      rw [if_neg (by omega)]
    rw [this]
    have : sw 2 i (s.2.1 2 i) s = s := by
      unfold sw up3
      rw [up2_id]
    rw [this]
    exact R
  | m + 1, t, fuel, h, s, R, ht, hf => by
    obtain ⟨fu, rfl⟩ : ∃ fu, fuel = fu + 1 := ⟨fuel - 1, by omega⟩
    have hn := R.rng
    obtain ⟨h1, e1, R1⟩ := R.sH hi (show t < n by omega) (nI (s.1 20 i))
    rw [f_X9_begin_45, R.n0, Option.bind_some, if_neg (fun q => by have := (nI_leI (by omega) (by omega)).mp q; omega), R.r13, Option.bind_some, R.r5, Option.bind_some, R.g20 hi, Option.bind_some, nI_mul, nI_add, e1, Option.bind_some, nI_add]
    obtain ⟨h2, e2, R2⟩ := M_begL hi m (t + 1) fu h1 _ R1 (by omega) (by omega)
    refine ⟨h2, e2, ?_⟩
    have : sw 2 i (fun j => if t + 1 ≤ j ∧ j < n then nI (s.1 20 i) else (sw 2 i (va_up (s.2.1 2 i) t (nI (s.1 20 i))) s).2.1 2 i j) (sw 2 i (va_up (s.2.1 2 i) t (nI (s.1 20 i))) s) = sw 2 i (fun j => if t ≤ j ∧ j < n then nI (s.1 20 i) else s.2.1 2 i j) s := by
      unfold sw up3
      show (s.1, up2 (up2 s.2.1 2 i _) 2 i (fun j => if t + 1 ≤ j ∧ j < n then nI (s.1 20 i) else up2 s.2.1 2 i (va_up (s.2.1 2 i) t (nI (s.1 20 i))) 2 i j), s.2.2) = _
      rw [up2_up2]
      congr 3
      funext j
      rw [up2_same]
      by_cases c : j = t
      · subst c
        rw [if_neg (by omega), if_pos (by omega), va_eq]
      · rw [va_ne c]
        by_cases c2 : t + 1 ≤ j ∧ j < n
        · rw [if_pos c2, if_pos (by omega)]
        · rw [if_neg c2, if_neg (by omega)]
    rw [← this]
    exact R2
theorem M_begin (R : RepM n h s G K) (O : OkS n B s) {i m : Nat} (hi : i < n) (av : AcV s i) : ∃ h', f_X9_begin (some 1) (nI i) (nI (s.1 12 i)) (nI m) h = some h' ∧ RepM n h' (begS n i m s) G K := by
  have hn := R.rng
  have hB := O.1
  obtain ⟨b20, b21, b14, b11, -⟩ := O.sml hi
  obtain ⟨h1, e1, R1⟩ := R.s10 hi (s.1 12 i)
  obtain ⟨h2, e2, R2⟩ := R1.s11 hi m
  obtain ⟨h3, e3, R3⟩ := M_carryTo R2 hi (m := s.1 20 i) (by omega) b20 b14 b21 av
  obtain ⟨h4, e4, R4⟩ := R3.s9 hi 0
  obtain ⟨h5, e5, R5⟩ := R4.c3 ((sv 9 i 0 (carryTo i (s.1 20 i) (sv 11 i m (sv 10 i (s.1 12 i) s)))).2.2.2.2.1 3 + 1)
  obtain ⟨h6, e6, R6⟩ := M_begL hi n 0 600 h5 _ R5 (by omega) (by omega)
  refine ⟨h6, ?_, ?_⟩
  · simp only [f_X9_begin, R.r2, Option.bind_some, e1, R1.r3, e2, R2.r5, R2.v20 hi (v := s.1 20 i) rfl, R2.ob, if_true, e3, R3.r10, e4, R4.t3, nI_add, e5, e6]
  · obtain ⟨v1, v2, v3, v4, v5, v6⟩ := carryTo_V i (s.1 20 i) (sv 11 i m (sv 10 i (s.1 12 i) s))
    have w20 : (sc 3 ((sv 9 i 0 (carryTo i (s.1 20 i) (sv 11 i m (sv 10 i (s.1 12 i) s)))).2.2.2.2.1 3 + 1) (sv 9 i 0 (carryTo i (s.1 20 i) (sv 11 i m (sv 10 i (s.1 12 i) s))))).1 20 i = s.1 20 i := v1 20 i (by decide) (by decide)
    have w2 : (sc 3 ((sv 9 i 0 (carryTo i (s.1 20 i) (sv 11 i m (sv 10 i (s.1 12 i) s)))).2.2.2.2.1 3 + 1) (sv 9 i 0 (carryTo i (s.1 20 i) (sv 11 i m (sv 10 i (s.1 12 i) s))))).2.1 2 i = s.2.1 2 i := congrFun (v2 2 (by decide)) i
    rw [w20, w2] at R6
    have hfil : (fun j => if 0 ≤ j ∧ j < n then nI (s.1 20 i) else s.2.1 2 i j) = filF n (nI (s.1 20 i)) (s.2.1 2 i) := by
      funext j
      unfold filF
      by_cases c : j < n
      · rw [if_pos ⟨by omega, c⟩, if_pos c]
      · rw [if_neg (by omega), if_neg c]
    rw [hfil] at R6
    unfold begS
    rw [carryTo_sw, carryTo_sv (f := 9) _ _ _ _ _ (by decide) (by decide) (by decide)]
    exact R6
theorem clr_self {m i : Nat} (h : m.testBit i = false) : clr m i = m := by
  apply Nat.eq_of_testBit_eq
  intro j
  rw [clr_bit]
  by_cases e : i = j
  · subst e
    rw [h]
    rfl
  · simp [e]
theorem M_found (R : RepM n h s G K) (O : OkS n B s) {i : Nat} (hi : i < n) (av : AcV s i) (h0 : (s.1 0 i).testBit i = true) (hS : s.2.2.2.2.1 0 + 14 < 2 ^ 31) : ∃ h', f_X9_found (some 1) (nI i) h = some h' ∧ RepM n h' (bgnS n i s) G K := by
  have hn := R.rng
  have hB := O.1
  obtain ⟨b20, b21, b14, b11, b15, b0, -⟩ := O.sml hi
  obtain ⟨b10, b12, -⟩ := O.num hi
  have han := bt_andn b11 b0
  obtain ⟨h1, e1, R1⟩ := M_sendAll R (k := 11) (nr := s.1 12 i) (d := s.1 0 i) (many := 0) (act := nI 0) (xs := []) (mask := s.1 0 i) hi (by decide) b0 (by omega) O.2.2.1 (Or.inr ⟨by decide, by decide, by decide, rfl⟩)
  have O1 : OkS n B (sndG i (clr (s.1 0 i) i) (11, s.1 12 i, s.1 0 i, []) 0 n s) := OkS.oG ⟨by show 11 ≤ 12; decide, by show s.1 12 i ≤ B; omega, by show s.1 0 i ≤ B; omega, by simp⟩ _ _ O
  have c1 := sndG_c0 i (clr (s.1 0 i) i) (11, s.1 12 i, s.1 0 i, []) n 0 s
  obtain ⟨h2, e2, R2⟩ := M_sendAll R1 (k := 12) (nr := 0) (d := 0) (many := 0) (act := nI 0) (xs := []) (mask := andn (s.1 11 i) (s.1 0 i)) hi (by decide) han.2 (by omega) O1.2.2.1 (Or.inr ⟨by decide, by decide, by decide, rfl⟩)
  have O2 : OkS n B (sndG i (clr (andn (s.1 11 i) (s.1 0 i)) i) (12, 0, 0, []) 0 n (sndG i (clr (s.1 0 i) i) (11, s.1 12 i, s.1 0 i, []) 0 n s)) := OkS.oG ⟨by show 12 ≤ 12; decide, Nat.zero_le _, Nat.zero_le _, by simp⟩ _ _ O1
  rw [clr_self (show (andn (s.1 11 i) (s.1 0 i)).testBit i = false by rw [andn_bit, h0]; simp)] at R2 O2
  have w12 : (sndG i (andn (s.1 11 i) (s.1 0 i)) (12, 0, 0, []) 0 n (sndG i (clr (s.1 0 i) i) (11, s.1 12 i, s.1 0 i, []) 0 n s)).1 12 i = s.1 12 i := by rw [sG_1, sG_1]
  obtain ⟨h3, e3, R3⟩ := M_begin R2 O2 (i := i) (m := s.1 0 i) hi (by
    intro j hj
    rw [sG_1, sG_1] at hj
    rw [sG_2, sG_2]
    exact av j hj)
  rw [w12] at e3
  refine ⟨h3, ?_, R3⟩
  simp only [f_X9_found, R.r11, R.g0 hi, R.r3, R.g11 hi, R.r8, R.g12 hi, Option.bind_some, R.ob, if_true, e1, R1.ob, han.1, e2, R2.r8, R2.v12 hi w12, R2.ob, e3]
end MB
