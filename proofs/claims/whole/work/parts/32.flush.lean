/-! own numbers, flushing, asking: the class over a state -/
theorem xor_neg {x y : Int32} (hx : x.toInt < 0) (hy : 0 ≤ y.toInt) : ¬ 0 ≤ x ^^^ y := by
  intro h
  have h1 : (0 : Int) ≤ (x ^^^ y).toInt := by simpa using Int32.le_iff_toInt_le.mp h
  have m1 : x.toBitVec.msb = true := by rw [BitVec.msb_eq_toInt]; exact decide_eq_true hx
  have hy2 : ¬ y.toInt < 0 := by omega
  have m2 : y.toBitVec.msb = false := by rw [BitVec.msb_eq_toInt]; exact decide_eq_false hy2
  have m3 : (x ^^^ y).toBitVec.msb = true := by rw [Int32.toBitVec_xor, BitVec.msb_xor, m1, m2]; rfl
  rw [BitVec.msb_eq_toInt] at m3
  have m4 : (x ^^^ y).toInt < 0 := of_decide_eq_true m3
  omega
theorem xor_pos0 : ((List.range 8).all fun a => (List.range 8).all fun b => decide (0 ≤ (nI a ^^^ nI b))) = true := by decide +kernel
theorem xor_pos {a b : Nat} (ha : a < 8) (hb : b < 8) : 0 ≤ (nI a ^^^ nI b) := by
  have h := List.all_eq_true.mp (List.all_eq_true.mp xor_pos0 a (List.mem_range.mpr ha)) b (List.mem_range.mpr hb)
  simpa using h
theorem negRem {m n : Nat} (hm : m < 2 ^ 30) (hn : 0 < n) (hn2 : n ≤ 7) {x : Int32} (hx : x.toInt = -(m : Int)) : (x - x / nI n * nI n).toInt = -((m % n : Nat) : Int) := by
  have hnI : (nI n).toInt = (n : Int) := nI_toInt (by omega)
  have hne : nI n ≠ -1 := fun q => by
    have := congrArg Int32.toInt q
    rw [hnI] at this
    have e : (-1 : Int32).toInt = -1 := by decide
    rw [e] at this
    omega
  have hd : (x / nI n).toInt = -((m / n : Nat) : Int) := by
    rw [Int32.toInt_div_of_ne_right _ _ hne, hx, hnI, Int.neg_tdiv]
    rfl
  have hq : m / n * n ≤ m := Nat.div_mul_le_self m n
  have hmul : (x / nI n * nI n).toInt = -((m / n * n : Nat) : Int) := by
    rw [Int32.toInt_mul, hd, hnI]
    rw [show -((m / n : Nat) : Int) * (n : Int) = -((m / n * n : Nat) : Int) by rw [Int.neg_mul]; rfl]
    exact Int.bmod_eq_of_le (by omega) (by omega)
  have hmod : m / n * n + m % n = m := Nat.div_add_mod' m n
  have hml : m % n < n := Nat.mod_lt _ hn
  rw [Int32.toInt_sub, hx, hmul]
  rw [show -(m : Int) - -((m / n * n : Nat) : Int) = -((m % n : Nat) : Int) by omega]
  exact Int.bmod_eq_of_le (by omega) (by omega)
theorem C_floorMod {i q n : Nat} (hi : i < n) (hn : n ≤ 7) (hq : q < 2 ^ 30) (h : HP) : f_J9_floorMod_7cf53 (nI i - nI q) (nI n) h = some (nI (if q % n ≤ i then i - q % n else i + n - q % n), h) := by
  have hn0 : ¬ nI n = 0 := nI_ne0 (by omega) (by omega)
  unfold f_J9_floorMod_7cf53 f_J9_floorMod_7cf53_18
  rw [if_neg hn0]
  by_cases hc : q ≤ i
  · have e1 : q % n = q := Nat.mod_eq_of_lt (by omega)
    rw [pk_sub hc, if_pos (xor_pos (by omega) (by omega)), pk_rem (by omega) (by omega) (by omega), Nat.mod_eq_of_lt (show i - q < n by omega), e1, if_pos hc]
  · have hx : (nI i - nI q).toInt = -((q - i : Nat) : Int) := by
      rw [pk_sub_toInt (by omega) (by omega)]
      omega
    generalize nI i - nI q = x at hx
    have hr := negRem (show q - i < 2 ^ 30 by omega) (show 0 < n by omega) hn hx
    have hml : (q - i) % n < n := Nat.mod_lt _ (by omega)
    have hqn : q % n < n := Nat.mod_lt _ (by omega)
    rw [if_neg (xor_neg (by omega) (by rw [nI_toInt (by omega)]; omega))]
    have hrel : (if q % n ≤ i then i - q % n else i + n - q % n) = if (q - i) % n = 0 then 0 else n - (q - i) % n := by
      have d1 := Nat.div_add_mod q n
      have d2 := Nat.div_add_mod (q - i) n
      generalize hA : q % n = A at *
      generalize hM : (q - i) % n = M at *
      generalize hK : q / n = K at *
      generalize hJ : (q - i) / n = J at *
      have hs : n * K + A = n * J + M + i := by omega
      by_cases c1 : A ≤ i
      · rw [if_pos c1]
        by_cases c2 : M = 0
        · rw [if_pos c2]
          subst c2
          have : n * K = n * J + (i - A) := by omega
          have h2 : (i - A) % n = 0 := by
            have h3 : (n * K) % n = (n * J + (i - A)) % n := by rw [this]
            rw [Nat.mul_mod_right, Nat.mul_add_mod] at h3
            exact h3.symm
          rw [Nat.mod_eq_of_lt (by omega)] at h2
          exact h2
        · rw [if_neg c2]
          have : n * K = n * J + (M + (i - A)) := by omega
          have h3 : (n * K) % n = (n * J + (M + (i - A))) % n := by rw [this]
          rw [Nat.mul_mod_right, Nat.mul_add_mod] at h3
          have h4 : M + (i - A) < 2 * n := by omega
          have h5 : M + (i - A) = n := by
            rcases Nat.lt_or_ge (M + (i - A)) n with h6 | h6
            · rw [Nat.mod_eq_of_lt h6] at h3
              omega
            · have h7 : M + (i - A) = n + (M + (i - A) - n) := by omega
              rw [h7, Nat.add_mod_left, Nat.mod_eq_of_lt (by omega)] at h3
              omega
          omega
      · rw [if_neg c1]
        have : n * K + (A - i) = n * J + M := by omega
        have h3 : (n * K + (A - i)) % n = (n * J + M) % n := by rw [this]
        rw [Nat.mul_add_mod, Nat.mul_add_mod, Nat.mod_eq_of_lt (by omega), Nat.mod_eq_of_lt (by omega)] at h3
        rw [if_neg (by omega)]
        omega
    rw [hrel]
    by_cases c2 : (q - i) % n = 0
    · have hz : x - x / nI n * nI n = 0 := by
        apply Int32.toInt_inj.mp
        rw [hr, c2]
        decide
      rw [if_pos hz, hz, if_pos c2]
      rfl
    · have hz : ¬ x - x / nI n * nI n = 0 := fun e => by
        have := congrArg Int32.toInt e
        rw [hr] at this
        have e0 : (0 : Int32).toInt = 0 := by decide
        rw [e0] at this
        omega
      rw [if_neg hz, if_neg c2]
      have e5 : x - x / nI n * nI n + nI n = nI (n - (q - i) % n) := by
        apply Int32.toInt_inj.mp
        rw [Int32.toInt_add, hr, nI_toInt (by omega), nI_toInt (by omega)]
        rw [show -(((q - i) % n : Nat) : Int) + (n : Int) = ((n - (q - i) % n : Nat) : Int) by omega]
        exact Int.bmod_eq_of_le (by omega) (by omega)
      rw [e5]
theorem sv_eq (f i x : Nat) (s : SS) : (sv f i x s).1 f i = x := up2_same _ _ _ _
theorem sv_ne {f g i j x : Nat} {s : SS} (h : ¬ g = f) : (sv f i x s).1 g j = s.1 g j := up2_a h
theorem sc_1 (t x : Nat) (s : SS) : (sc t x s).1 = s.1 := rfl
theorem inc_1 (t : Nat) (s : SS) : (inc t s).1 = s.1 := rfl
theorem sw_1 (g i : Nat) (f : Nat → Int32) (s : SS) : (sw g i f s).1 = s.1 := rfl
theorem sb_1 (i : Nat) (xs : List Int32) (s : SS) : (sb i xs s).1 = s.1 := rfl
theorem wX_1 (s : SS) (X : List (Nat × Bool × LL)) : (wX s X).1 = s.1 := rfl
theorem sG_1 (x m : Nat) (ℓ : LL) (t k : Nat) (s : SS) : (sndG x m ℓ t k s).1 = s.1 := (sndG_V x m ℓ k t s).1
theorem sG_2 (x m : Nat) (ℓ : LL) (t k : Nat) (s : SS) : (sndG x m ℓ t k s).2.1 = s.2.1 := (sndG_V x m ℓ k t s).2.1
theorem sG_3 (x m : Nat) (ℓ : LL) (t k : Nat) (s : SS) : (sndG x m ℓ t k s).2.2.1 = s.2.2.1 := (sndG_V x m ℓ k t s).2.2.1
theorem sG_X (x m : Nat) (ℓ : LL) (t k : Nat) (s : SS) : (sndG x m ℓ t k s).2.2.2.2.2 = s.2.2.2.2.2 := (sndG_V x m ℓ k t s).2.2.2
section FL
variable {n B : Nat} {h : HP} {s : SS}
theorem C_nxt (R : RepC n h s) (O : OkS n B s) {i : Nat} (hi : i < n) : f_X4_nextOwnNumber (some (nd n i)) h = some (nI (nxt n i (s.1 12 i)), h) := by
  have hn := R.rng
  have hB := O.1
  obtain ⟨-, b2, -⟩ := O.num hi
  simp only [f_X4_nextOwnNumber, R.g12 hi, R.id hi, R.gs hi, Option.bind_some, nI_add]
  rw [C_floorMod hi hn.2 (show s.1 12 i + 1 < 2 ^ 30 by omega)]
  simp only [Option.bind_some, nI_add]
  unfold nxt
  split <;> rfl
theorem nxt_le {n i p : Nat} (hi : i < n) : nxt n i p ≤ p + n ∧ p < nxt n i p := by
  have : (p + 1) % n < n := Nat.mod_lt _ (by omega)
  unfold nxt
  split <;> omega
theorem beS_lt (O : OkS n B s) {i : Nat} (hi : i < n) : beS s i < 128 := (bt_andn (O.sml hi).2.2.2.1 (O.sml hi).2.2.2.2.1).2
theorem C_flush (R : RepC n h s) (O : OkS n B s) (hB7 : B + 7 < 2 ^ 29) {i : Nat} (hi : i < n) : ∃ h', f_X4_flush (some (nd n i)) h = some h' ∧ RepC n h' (flu n i s) := by
  have hn := R.rng
  have hB := O.1
  have hb := beS_lt O hi
  obtain ⟨b20, -, -, b11, b15, -⟩ := O.sml hi
  obtain ⟨-, b12, b13, -⟩ := O.num hi
  have hx := nxt_le (p := s.1 12 i) hi
  have hcl := (bt_k hb (show i < 7 by omega)).1
  simp only [f_X4_flush, R.g11 hi, R.g15 hi, Option.bind_some, R.obN hi, if_true, (bt_andn b11 b15).1, C_areMost R hi (show andn (s.1 11 i) (s.1 15 i) < 128 from hb)]
  unfold flu
  rw [show andn (s.1 11 i) (s.1 15 i) = beS s i from rfl]
  cases hm : most n (beS s i) with
  | false =>
    simp only [Bool.false_eq_true, if_false, z0T, if_true]
    obtain ⟨h1, e1, R1⟩ := R.s9 hi 0
    exact ⟨h1, by simp only [e1, Option.bind_some], R1⟩
  | true =>
    simp only [if_true, z1F, if_false, C_nxt R O hi, Option.bind_some, reduceCtorEq]
    obtain ⟨h1, e1, R1⟩ := R.s12 hi (nxt n i (s.1 12 i))
    replace R1 : RepC n h1 (sv 12 i (nxt n i (s.1 12 i)) s) := R1
    simp only [e1, Option.bind_some]
    obtain ⟨h2, e2, R2⟩ := R1.s9 hi 3
    replace R2 : RepC n h2 (sv 9 i 3 (sv 12 i (nxt n i (s.1 12 i)) s)) := R2
    simp only [e2, Option.bind_some, R2.r3 hi, R2.tl 4 (by decide), nI_add]
    obtain ⟨h3, e3, R3⟩ := R2.sT 4 (by decide) (s.2.2.2.2.1 4 + 1)
    replace e3 : hz_pF h2 (some 2) 7 4 (.int (nI ((sv 9 i 3 (sv 12 i (nxt n i (s.1 12 i)) s)).2.2.2.2.1 4 + 1))) = some h3 := e3
    replace R3 : RepC n h3 (inc 4 (sv 9 i 3 (sv 12 i (nxt n i (s.1 12 i)) s))) := R3
    simp only [e3, Option.bind_some, R3.r6 hi, R3.id hi, R3.v13 hi (v := s.1 13 i) rfl, R3.r4 hi, R3.obR hi, if_true]
    obtain ⟨b, h4, e4, R4⟩ := C_copy R3 hi b20
    replace R4 : RepC n h4 (wX (inc 4 (sv 9 i 3 (sv 12 i (nxt n i (s.1 12 i)) s))) ((b, false, (0, 0, 0, rowL (s.2.1 0 i) (s.1 20 i))) :: s.2.2.2.2.2)) := R4
    generalize hX : (b, false, (0, 0, 0, rowL (s.2.1 0 i) (s.1 20 i))) :: s.2.2.2.2.2 = X at R4
    simp only [e4, Option.bind_some, R4.obC hi, if_true, f_X0_start, f_X8_without, hcl.1]
    obtain ⟨h5, e5, R5⟩ := R4.s0 hi (beS s i)
    replace R5 : RepC n h5 (sv 0 i (beS s i) (wX (inc 4 (sv 9 i 3 (sv 12 i (nxt n i (s.1 12 i)) s))) X)) := R5
    simp only [e5, Option.bind_some]
    obtain ⟨h6, e6, R6⟩ := R5.s1 hi (clr (beS s i) i)
    replace R6 : RepC n h6 (sv 1 i (clr (beS s i) i) (sv 0 i (beS s i) (wX (inc 4 (sv 9 i 3 (sv 12 i (nxt n i (s.1 12 i)) s))) X))) := R6
    simp only [e6, Option.bind_some]
    obtain ⟨h7, e7, R7⟩ := R6.s4 hi i
    replace R7 : RepC n h7 (sv 4 i i (sv 1 i (clr (beS s i) i) (sv 0 i (beS s i) (wX (inc 4 (sv 9 i 3 (sv 12 i (nxt n i (s.1 12 i)) s))) X)))) := R7
    simp only [e7, Option.bind_some]
    obtain ⟨h8, e8, R8⟩ := R7.s3 hi (s.1 13 i)
    replace R8 : RepC n h8 (sv 3 i (s.1 13 i) (sv 4 i i (sv 1 i (clr (beS s i) i) (sv 0 i (beS s i) (wX (inc 4 (sv 9 i 3 (sv 12 i (nxt n i (s.1 12 i)) s))) X))))) := R8
    simp only [e8, Option.bind_some]
    obtain ⟨h9, e9, R9⟩ := R8.sB hi (b := b) (xs := rowL (s.2.1 0 i) (s.1 20 i)) (Or.inr (by show _ ∈ X; rw [← hX]; exact List.mem_cons_self))
    simp only [e9, Option.bind_some, R9.r2 hi, R9.id hi, R9.r6 hi, R9.v1 hi (v := clr (beS s i) i) (by rw [sb_1, sv_ne (by decide), sv_ne (by decide), sv_eq]), R9.v12 hi (v := nxt n i (s.1 12 i)) (by rw [sb_1, sv_ne (by decide), sv_ne (by decide), sv_ne (by decide), sv_ne (by decide), wX_1, inc_1, sv_ne (by decide), sv_eq]), R9.obP, if_true]
    obtain ⟨h10, e10, R10⟩ := C_send R9 (x := i) (mask := clr (beS s i) i) (k := 7) (nr := nxt n i (s.1 12 i)) (d := beS s i) (b := 0) (xs := []) hi hcl.2 (by show va_up s.2.2.2.2.1 4 (s.2.2.2.2.1 4 + 1) 5 ≤ 500; simp [va_up]; exact O.2.2.1) (Or.inl ⟨rfl, rfl⟩)
    refine ⟨h10, by simp only [e10, Option.bind_some], ?_⟩
    have R11 := R10.more (X := s.2.2.2.2.2) (fun w hw => by rw [sG_X]; show w ∈ X; rw [← hX]; exact List.mem_cons_of_mem _ hw)
    rw [wX_sndG] at R11
    exact R11
theorem OkS.up (O : OkS n B s) {B' : Nat} (hb : B ≤ B') (h2 : B' < 2 ^ 29) : OkS n B' s := by
  refine ⟨⟨by have := O.1.1; omega, h2⟩, fun f i hi => Nat.le_trans (O.b hi f) ?_, O.2.2.1, O.2.2.2.1, fun x y ℓ hx hy hm => ?_⟩
  · unfold bnd
    repeat' split
    all_goals omega
  · obtain ⟨l1, l2, l3, l4⟩ := O.2.2.2.2 x y ℓ hx hy hm
    exact ⟨l1, by omega, by omega, l4⟩
theorem OkS.oFlu (O : OkS n B s) (hB7 : B + 7 < 2 ^ 29) {i : Nat} (hi : i < n) (hn : n ≤ 7) : OkS n (B + 7) (flu n i s) := by
  have hB := O.1
  have O1 := O.up (B' := B + 7) (by omega) hB7
  have hb := beS_lt O hi
  have hcl := (bt_k hb (show i < 7 by omega)).1.2
  obtain ⟨b20, -⟩ := O.sml hi
  obtain ⟨-, b12, b13, -⟩ := O.num hi
  have hx := nxt_le (p := s.1 12 i) hi
  unfold flu
  split
  · exact O1.oV (by simp [bnd])
  · refine OkS.oG ⟨by show 7 ≤ 12; decide, by show nxt n i (s.1 12 i) ≤ B + 7; omega, by show beS s i ≤ B + 7; omega, by simp⟩ _ _ ?_
    exact (((((((O1.oV (f := 12) (i := i) (x := nxt n i (s.1 12 i)) (by simp [bnd]; omega)).oV (f := 9) (i := i) (x := 3) (by simp [bnd])).oI (by decide)).oV (f := 0) (i := i) (x := beS s i) (by simp [bnd]; omega)).oV (f := 1) (i := i) (x := clr (beS s i) i) (by simp [bnd]; omega)).oV (f := 4) (i := i) (x := i) (by simp [bnd]; omega)).oV (f := 3) (i := i) (x := s.1 13 i) (by simp [bnd]; omega)).oB (by rw [rowL_len]; exact b20)
theorem C_ask (R : RepC n h s) (O : OkS n B s) (hB7 : B + 7 < 2 ^ 29) {i : Nat} (hi : i < n) : ∃ h', f_X4_ask (some (nd n i)) h = some h' ∧ RepC n h' (askS n i s) := by
  have hn := R.rng
  have hB := O.1
  have hb := beS_lt O hi
  obtain ⟨b20, -, -, b11, b15, -⟩ := O.sml hi
  have hab := (bt_k hb (show i < 7 by omega)).2.1
  obtain ⟨h1, e1, R1⟩ := R.s9 hi 1
  replace R1 : RepC n h1 (sv 9 i 1 s) := R1
  have O1 : OkS n B (sv 9 i 1 s) := O.oV (by simp [bnd])
  simp only [f_X4_ask, f_X4_ask_53, e1, Option.bind_some, R1.v11 hi (v := s.1 11 i) rfl, R1.v15 hi (v := s.1 15 i) rfl, R1.id hi, (bt_andn b11 b15).1, f_X8_allAbove]
  rw [show andn (s.1 11 i) (s.1 15 i) = beS s i from rfl, hab.1]
  unfold askS
  by_cases c : abv (beS s i) i = 0
  · rw [c]
    simp only [z0T, if_true, R1.obN hi]
    obtain ⟨h2, e2, R2⟩ := C_flush R1 O1 hB7 hi
    exact ⟨h2, by simp only [e2, Option.bind_some], R2⟩
  · rw [if_neg (nI_ne0 (by omega) (by omega)), if_neg c]
    simp only [R1.r2 hi, R1.id hi, R1.obP, if_true, Option.bind_some]
    obtain ⟨h2, e2, R2⟩ := C_send R1 (x := i) (mask := abv (beS s i) i) (k := 5) (nr := 0) (d := 0) (b := 0) (xs := []) hi hab.2 O.2.2.1 (Or.inl ⟨rfl, rfl⟩)
    exact ⟨h2, by simp only [e2, Option.bind_some], R2⟩
theorem OkS.oAsk (O : OkS n B s) (hB7 : B + 7 < 2 ^ 29) {i : Nat} (hi : i < n) (hn : n ≤ 7) : OkS n (B + 7) (askS n i s) := by
  have O1 : OkS n B (sv 9 i 1 s) := O.oV (by simp [bnd])
  unfold askS
  split
  · exact O1.oFlu hB7 hi hn
  · exact OkS.oG ⟨by show 5 ≤ 12; decide, Nat.zero_le _, Nat.zero_le _, by simp⟩ _ _ (O1.up (by omega) hB7)
end FL
