/-! letters that come: the model over a state -/
section MCO
variable {n B : Nat} {h : HP} {s : SS} {G : GG} {x i : Nat} {ℓ : LL}
theorem RepM.kx (R : RepM n h s G (some (x, i, ℓ))) : hz_aI h (some 22) 0 (nI 500) = some (nI x) := by
  obtain ⟨Z, A, rfl, r⟩ := R
  rw [mm_aI (by decide) (show 500 < 501 by decide), (r.2.2.2.2.2.2.2.2 _ _ _ rfl).1]
theorem RepM.ky (R : RepM n h s G (some (x, i, ℓ))) : hz_aI h (some 23) 0 (nI 500) = some (nI i) := by
  obtain ⟨Z, A, rfl, r⟩ := R
  rw [mm_aI (by decide) (show 500 < 501 by decide), (r.2.2.2.2.2.2.2.2 _ _ _ rfl).2.1]
theorem RepM.kk (R : RepM n h s G (some (x, i, ℓ))) : hz_aI h (some 24) 0 (nI 500) = some (nI ℓ.1) := by
  obtain ⟨Z, A, rfl, r⟩ := R
  rw [mm_aI (by decide) (show 500 < 501 by decide), (r.2.2.2.2.2.2.2.2 _ _ _ rfl).2.2.1]
theorem RepM.kn (R : RepM n h s G (some (x, i, ℓ))) : hz_aI h (some 25) 0 (nI 500) = some (nI ℓ.2.1) := by
  obtain ⟨Z, A, rfl, r⟩ := R
  rw [mm_aI (by decide) (show 500 < 501 by decide), (r.2.2.2.2.2.2.2.2 _ _ _ rfl).2.2.2.1]
theorem RepM.kt (R : RepM n h s G (some (x, i, ℓ))) : hz_aI h (some 26) 0 (nI 500) = some (nI ℓ.2.2.1) := by
  obtain ⟨Z, A, rfl, r⟩ := R
  rw [mm_aI (by decide) (show 500 < 501 by decide), (r.2.2.2.2.2.2.2.2 _ _ _ rfl).2.2.2.2.1]
theorem RepM.ks (R : RepM n h s G (some (x, i, ℓ))) : hz_aI h (some 27) 0 (nI 500) = some (nI ℓ.2.2.2.length) := by
  obtain ⟨Z, A, rfl, r⟩ := R
  rw [mm_aI (by decide) (show 500 < 501 by decide), (r.2.2.2.2.2.2.2.2 _ _ _ rfl).2.2.2.2.2.1]
theorem RepM.kr (R : RepM n h s G (some (x, i, ℓ))) {j : Nat} (hj : j < ℓ.2.2.2.length) (h60 : j < 60) : hz_aI h (some 28) 0 (nI (30000 + j)) = ℓ.2.2.2[j]? := by
  obtain ⟨Z, A, rfl, r⟩ := R
  rw [mm_aI (by decide) (show 30000 + j < 30060 by omega), (r.2.2.2.2.2.2.2.2 _ _ _ rfl).2.2.2.2.2.2 j hj]
theorem RepM.k1 (R : RepM n h s G (some (x, i, ℓ))) {act : Int32} (ha : ℓ.2.2.2 = [act]) : hz_aI h (some 28) 0 (nI 60 * nI 500) = some act := by
  have := R.kr (j := 0) (by rw [ha]; simp) (by decide)
  rw [ha] at this
  rw [nI_mul]
  exact this
theorem M_lost (R : RepM n h s G (some (x, i, ℓ))) : ∃ h', f_X9_come_129 (some 1) h = some h' ∧ RepM n h' (inc 1 s) G (some (x, i, ℓ)) := by
  obtain ⟨h1, e1, R1⟩ := R.c1 (s.2.2.2.2.1 1 + 1)
  exact ⟨h1, by simp only [f_X9_come_129, f_X9_come_433, R.t1, Option.bind_some, nI_add, e1], R1⟩
theorem M_come1 (R : RepM n h s G (some (x, i, ℓ))) (O : OkS n B s) (hi : i < n) (av : AcV s i) (hk : ℓ.1 = 1) {act : Int32} (hact : ℓ.2.2.2 = [act]) (ha : isA act = true) (hS : s.2.2.2.2.1 0 + 14 < 2 ^ 31) : ∃ h', f_X9_come (some 1) (nI 500) h = some h' ∧ RepM n h' (onPassS n i ℓ s) G (some (x, i, ℓ)) := by
  have hn := R.rng
  have hB := O.1
  obtain ⟨b20, b21, b14, b11, -⟩ := O.sml hi
  obtain ⟨b10, b12, -⟩ := O.num hi
  have hl := ld_lt hn.1 s i
  obtain ⟨hz, ez, Rz⟩ := M_lost R
  rw [f_X9_come, R.r22, Option.bind_some, R.ky, Option.bind_some, R.r21, Option.bind_some, R.kx, Option.bind_some, R.r23, Option.bind_some, R.kk, Option.bind_some, hk, if_pos rfl, if_pos R.ob, M_leader R hi b11, Option.bind_some]
  unfold onPassS lub
  have je := pk_nI_inj (show ld n s i < 2 ^ 31 by omega) (show i < 2 ^ 31 by omega)
  by_cases c1 : ld n s i = i
  · rw [if_pos (show nI (ld n s i) = nI i by rw [c1]), if_pos R.ob, M_isBlocked R hi (by omega) (by omega), Option.bind_some]
    cases hb : blk s i with
    | true =>
      simp only [if_true, z1F, if_false, Bool.not_true, Bool.and_false, Bool.false_eq_true, false_and]
      exact ⟨hz, ez, Rz⟩
    | false =>
      simp only [Bool.false_eq_true, if_false, z0T, if_true, R.r5, R.g20 hi, Option.bind_some, c1, beq_self_eq_true, Bool.not_false, Bool.and_self, true_and]
      by_cases hd : s.1 20 i < 60
      · rw [if_neg (fun q => by have := (nI_leI (by omega) (by omega)).mp q; omega), if_pos hd]
        obtain ⟨h1, e1, R1⟩ := M_add R O hi hd av ha hS
        refine ⟨h1, by simp only [R.r27, Option.bind_some, R.k1 hact, R.ob, if_true, e1, f_X9_come_433], ?_⟩
        rw [hact]
        exact R1
      · rw [if_pos ((nI_leI (by omega) (by omega)).mpr (by omega)), if_neg hd]
        exact ⟨hz, ez, Rz⟩
  · rw [if_neg (fun q => c1 (je.mp q))]
    have : (ld n s i == i) = false := by simp [c1]
    simp only [this, Bool.false_and, Bool.false_eq_true, false_and, if_false]
    exact ⟨hz, ez, Rz⟩
theorem M_come2 (R : RepM n h s G (some (x, i, ℓ))) (O : OkS n B s) (hi : i < n) (hx : x < n) (hL : LOk B ℓ) (hk : ℓ.1 = 2) {act : Int32} (hact : ℓ.2.2.2 = [act]) (h60 : ℓ.2.2.1 < 60) (hS : s.2.2.2.2.1 0 + 7 < 2 ^ 31) : ∃ h', f_X9_come (some 1) (nI 500) h = some h' ∧ RepM n h' (onOrderS n i x ℓ s) G (some (x, i, ℓ)) := by
  have hn := R.rng
  have hB := O.1
  obtain ⟨b20, b21, b14, b11, -⟩ := O.sml hi
  obtain ⟨b10, b12, -⟩ := O.num hi
  obtain ⟨l1, l2, l3, l4⟩ := hL
  have jn := pk_nI_inj (show ℓ.2.1 < 2 ^ 31 by omega) (show s.1 10 i < 2 ^ 31 by omega)
  have jd := pk_nI_inj (show s.1 20 i < 2 ^ 31 by omega) (show ℓ.2.2.1 < 2 ^ 31 by omega)
  rw [f_X9_come, R.r22, Option.bind_some, R.ky, Option.bind_some, R.r21, Option.bind_some, R.kx, Option.bind_some, R.r23, Option.bind_some, R.kk, Option.bind_some, hk, if_neg (by decide), if_pos rfl, R.r24, Option.bind_some, R.kn, Option.bind_some, R.r2, Option.bind_some, R.g10 hi, Option.bind_some]
  unfold onOrderS
  by_cases c1 : ℓ.2.1 = s.1 10 i
  · rw [if_pos (jn.mpr c1), if_pos R.ob, M_isBlocked R hi (by omega) (by omega), Option.bind_some]
    cases hb : blk s i with
    | true =>
      simp only [if_true, z1F, if_false, reduceCtorEq, false_and, and_false]
      exact ⟨h, rfl, R⟩
    | false =>
      simp only [Bool.false_eq_true, if_false, z0T, if_true, R.r5, R.g20 hi, R.r25, R.kt, Option.bind_some]
      by_cases c2 : s.1 20 i = ℓ.2.2.1
      · have c3 : s.1 20 i < 60 := by omega
        rw [if_pos (jd.mpr c2)]
        have cc : ℓ.2.1 = s.1 10 i ∧ True ∧ s.1 20 i = ℓ.2.2.1 ∧ s.1 20 i < 60 := ⟨c1, trivial, c2, c3⟩
        rw [if_pos cc]
        obtain ⟨h1, e1, R1⟩ := R.sR hi c3 act
        obtain ⟨h2, e2, R2⟩ := R1.s20 hi (s.1 20 i + 1)
        obtain ⟨h3, e3, R3⟩ := M_send R2 (a := i) (b := x) (k := 3) (nr := s.1 10 i) (d := s.1 20 i + 1) (many := 0) (act := nI 0) (xs := []) hi hx (by decide) (show s.2.2.2.2.1 0 + 1 < 2 ^ 31 by omega) O.2.2.1 (Or.inr ⟨by decide, by decide, by decide, rfl⟩)
        refine ⟨h3, ?_, ?_⟩
        · have kn2 := R2.kn
          rw [c1] at kn2
          have k1' := R.k1 hact
          rw [nI_mul] at k1'
          simp only [R.r4, R.r5, R.g20 hi, R.r27, Option.bind_some, k1', nI_mul, nI_add, e1, R1.r5, R1.v20 hi (v := s.1 20 i) rfl, e2, R2.r24, kn2, R2.r5, R2.v20 hi (v := s.1 20 i + 1) (sv_eq _ _ _ _), R2.ob, if_true, e3, f_X9_come_433]
        · unfold rpl
          rw [sndG_one hx, hact]
          exact R3
      · rw [if_neg (fun q => c2 (jd.mp q)), if_neg (fun q => c2 q.2.2.1)]
        exact ⟨h, rfl, R⟩
  · rw [if_neg (fun q => c1 (jn.mp q)), if_neg (fun q => c1 q.1)]
    exact ⟨h, rfl, R⟩
theorem M_come3 (R : RepM n h s G (some (x, i, ℓ))) (O : OkS n B s) (hi : i < n) (hx : x < n) (hne : ¬ i = x) (av : AcV s i) (hL : LOk B ℓ) (hk : ℓ.1 = 3) (hS : s.2.2.2.2.1 0 + 7 < 2 ^ 31) : ∃ h', f_X9_come (some 1) (nI 500) h = some h' ∧ RepM n h' (onHeldS n i x ℓ s) G (some (x, i, ℓ)) := by
  have hn := R.rng
  have hB := O.1
  obtain ⟨b20, b21, b14, b11, -⟩ := O.sml hi
  obtain ⟨b10, b12, -⟩ := O.num hi
  obtain ⟨l1, l2, l3, l4⟩ := hL
  have hl := ld_lt hn.1 s i
  have jn := pk_nI_inj (show ℓ.2.1 < 2 ^ 31 by omega) (show s.1 10 i < 2 ^ 31 by omega)
  have je := pk_nI_inj (show ld n s i < 2 ^ 31 by omega) (show i < 2 ^ 31 by omega)
  rw [f_X9_come, R.r22, Option.bind_some, R.ky, Option.bind_some, R.r21, Option.bind_some, R.kx, Option.bind_some, R.r23, Option.bind_some, R.kk, Option.bind_some, hk, if_neg (by decide), if_neg (by decide), if_pos rfl, if_pos R.ob, M_leader R hi b11, Option.bind_some]
  unfold onHeldS lub
  by_cases c0 : ld n s i = i
  · rw [if_pos (je.mpr c0), R.r24, Option.bind_some, R.kn, Option.bind_some, R.r2, Option.bind_some, R.g10 hi, Option.bind_some]
    by_cases c1 : ℓ.2.1 = s.1 10 i
    · rw [if_pos (jn.mpr c1), if_pos R.ob, M_isBlocked R hi (by omega) (by omega), Option.bind_some]
      cases hb : blk s i with
      | true =>
        simp only [if_true, z1F, if_false, Bool.not_true, Bool.and_false, Bool.false_eq_true, and_false]
        exact ⟨h, rfl, R⟩
      | false =>
        simp only [Bool.false_eq_true, if_false, z0T, if_true, R.r25, R.kt, R.r13, Option.bind_some, nI_mul, nI_add, R.gH hi hx hne, c0, beq_self_eq_true, Bool.not_false, Bool.and_self, and_true, c1]
        unfold mx32
        by_cases c2 : nI ℓ.2.2.1 ≤ s.2.1 2 i x
        · rw [if_pos c2, if_neg (fun q => absurd q (nlt32.mpr c2)), va_up_id]
          have : sw 2 i (s.2.1 2 i) s = s := by
            unfold sw up3
            rw [up2_id]
          rw [this]
          obtain ⟨h1, e1, R1⟩ := M_look R O hi av hS
          exact ⟨h1, by simp only [f_X9_come_314, f_X9_come_433, R.ob, if_true, e1, Option.bind_some], R1⟩
        · have c3 : s.2.1 2 i x < nI ℓ.2.2.1 := Int32.not_le.mp c2
          rw [if_neg c2, if_pos c3]
          obtain ⟨h1, e1, R1⟩ := R.sH hi hx (nI ℓ.2.2.1)
          obtain ⟨h2, e2, R2⟩ := M_look R1 O.oW hi av hS
          exact ⟨h2, by simp only [e1, Option.bind_some, f_X9_come_314, f_X9_come_433, R1.ob, if_true, e2], R2⟩
    · rw [if_neg (fun q => c1 (jn.mp q)), if_neg (fun q => c1 q.1)]
      exact ⟨h, rfl, R⟩
  · rw [if_neg (fun q => c0 (je.mp q))]
    have : (ld n s i == i) = false := by simp [c0]
    simp only [this, Bool.false_and, Bool.false_eq_true, and_false, if_false]
    exact ⟨h, rfl, R⟩
theorem M_come4 (R : RepM n h s G (some (x, i, ℓ))) (O : OkS n B s) (hi : i < n) (av : AcV s i) (hL : LOk B ℓ) (hk : ℓ.1 = 4) : ∃ h', f_X9_come (some 1) (nI 500) h = some h' ∧ RepM n h' (onDoS i ℓ s) G (some (x, i, ℓ)) := by
  have hn := R.rng
  have hB := O.1
  obtain ⟨b20, b21, b14, b11, -⟩ := O.sml hi
  obtain ⟨b10, b12, -⟩ := O.num hi
  obtain ⟨l1, l2, l3, l4⟩ := hL
  have jn := pk_nI_inj (show ℓ.2.1 < 2 ^ 31 by omega) (show s.1 10 i < 2 ^ 31 by omega)
  rw [f_X9_come, R.r22, Option.bind_some, R.ky, Option.bind_some, R.r21, Option.bind_some, R.kx, Option.bind_some, R.r23, Option.bind_some, R.kk, Option.bind_some, hk, if_neg (by decide), if_neg (by decide), if_neg (by decide), if_pos rfl, R.r24, Option.bind_some, R.kn, Option.bind_some, R.r2, Option.bind_some, R.g10 hi, Option.bind_some]
  unfold onDoS
  by_cases c1 : ℓ.2.1 = s.1 10 i
  · rw [if_pos (jn.mpr c1), if_pos R.ob, M_isBlocked R hi (by omega) (by omega), Option.bind_some]
    cases hb : blk s i with
    | true =>
      simp only [if_true, z1F, if_false, reduceCtorEq, and_false]
      exact ⟨h, rfl, R⟩
    | false =>
      simp only [Bool.false_eq_true, if_false, z0T, if_true, R.r25, R.kt, Option.bind_some, c1, and_self, R.ob]
      obtain ⟨h1, e1, R1⟩ := M_carryTo R hi (m := ℓ.2.2.1) (by omega) b20 b14 b21 av
      exact ⟨h1, by rw [e1]; rfl, R1⟩
  · rw [if_neg (fun q => c1 (jn.mp q)), if_neg (fun q => c1 q.1)]
    exact ⟨h, rfl, R⟩
def gElect (n i x : Nat) (s : SS) (G : GG) : GG := if x < i then (if s.1 9 i = 0 then gAsk n i (rpl n i x 6 0 0 s) G else G) else G
theorem M_come5 (R : RepM n h s G (some (x, i, ℓ))) (O : OkS n B s) (hi : i < n) (hx : x < n) (hne : ¬ i = x) (hm : s.1 11 i < 2 ^ n) (hk : ℓ.1 = 5) (hS : s.2.2.2.2.1 0 + 14 < 2 ^ 31) (hB7 : B + 7 < 2 ^ 29) : ∃ h', f_X9_come (some 1) (nI 500) h = some h' ∧ RepM n h' (onElectS n i x s) (gElect n i x s G) (some (x, i, ℓ)) := by
  have hn := R.rng
  have hB := O.1
  obtain ⟨b20, b21, b14, b11, b15, b0, b1, b9, -⟩ := O.sml hi
  rw [f_X9_come, R.r22, Option.bind_some, R.ky, Option.bind_some, R.r21, Option.bind_some, R.kx, Option.bind_some, R.r23, Option.bind_some, R.kk, Option.bind_some, hk, if_neg (by decide), if_neg (by decide), if_neg (by decide), if_neg (by decide), if_pos rfl]
  unfold onElectS gElect
  by_cases c1 : x < i
  · rw [if_pos ((nI_leI (by omega) (by omega)).mpr (by omega)), if_pos R.ob, if_pos c1, if_pos c1]
    obtain ⟨h1, e1, R1⟩ := M_send R (a := i) (b := x) (k := 6) (nr := 0) (d := 0) (many := 0) (act := nI 0) (xs := []) hi hx (by decide) (show s.2.2.2.2.1 0 + 1 < 2 ^ 31 by omega) O.2.2.1 (Or.inr ⟨by decide, by decide, by decide, rfl⟩)
    have R1' : RepM n h1 (rpl n i x 6 0 0 s) G (some (x, i, ℓ)) := by
      unfold rpl
      rw [sndG_one hx]
      exact R1
    have O1 : OkS n B (rpl n i x 6 0 0 s) := O.oRpl (by decide) (by omega) (by omega)
    have v9 : (rpl n i x 6 0 0 s).1 9 i = s.1 9 i := by unfold rpl; rw [sG_1]
    have v11 : (rpl n i x 6 0 0 s).1 11 i = s.1 11 i := by unfold rpl; rw [sG_1]
    have c0 : (rpl n i x 6 0 0 s).2.2.2.2.1 0 ≤ s.2.2.2.2.1 0 + n := sndG_c0 _ _ _ _ _ _
    rw [e1, Option.bind_some, R1'.r10, Option.bind_some, R1'.v9 hi v9, Option.bind_some]
    by_cases c2 : s.1 9 i = 0
    · rw [if_pos (show nI (s.1 9 i) = 0 by rw [c2]; rfl), if_pos R1'.ob, if_pos c2, if_pos c2]
      obtain ⟨h2, e2, R2⟩ := M_ask R1' O1 hi (by rw [v11]; exact hm) (by omega) hB7
      exact ⟨h2, by rw [e2]; rfl, R2⟩
    · rw [if_neg (nI_ne0 (by omega) (by omega)), if_neg c2, if_neg c2]
      exact ⟨h1, rfl, R1'⟩
  · rw [if_neg (fun q => by have := (nI_leI (by omega) (by omega)).mp q; omega), if_neg c1, if_neg c1]
    exact ⟨h, rfl, R⟩
theorem M_come6 (R : RepM n h s G (some (x, i, ℓ))) (O : OkS n B s) (hi : i < n) (hk : ℓ.1 = 6) : ∃ h', f_X9_come (some 1) (nI 500) h = some h' ∧ RepM n h' (onWaitS i s) G (some (x, i, ℓ)) := by
  obtain ⟨b20, b21, b14, b11, b15, b0, b1, b9, -⟩ := O.sml hi
  have j9 := pk_nI_inj (show s.1 9 i < 2 ^ 31 by omega) (show 1 < 2 ^ 31 by decide)
  rw [f_X9_come, R.r22, Option.bind_some, R.ky, Option.bind_some, R.r21, Option.bind_some, R.kx, Option.bind_some, R.r23, Option.bind_some, R.kk, Option.bind_some, hk, if_neg (by decide), if_neg (by decide), if_neg (by decide), if_neg (by decide), if_neg (by decide), if_pos rfl, R.r10, Option.bind_some, R.g9 hi, Option.bind_some]
  unfold onWaitS
  by_cases c1 : s.1 9 i = 1
  · rw [if_pos (j9.mpr c1), if_pos c1, Option.bind_some]
    obtain ⟨h1, e1, R1⟩ := R.s9 hi 2
    exact ⟨h1, by rw [e1]; rfl, R1⟩
  · rw [if_neg (fun q => c1 (j9.mp q)), if_neg c1]
    exact ⟨h, rfl, R⟩
theorem M_come12 (R : RepM n h s G (some (x, i, ℓ))) (hi : i < n) (hk : ℓ.1 = 12) : ∃ h', f_X9_come (some 1) (nI 500) h = some h' ∧ RepM n h' (sv 8 i 2 s) G (some (x, i, ℓ)) := by
  rw [f_X9_come, R.r22, Option.bind_some, R.ky, Option.bind_some, R.r21, Option.bind_some, R.kx, Option.bind_some, R.r23, Option.bind_some, R.kk, Option.bind_some, hk, if_neg (by decide), if_neg (by decide), if_neg (by decide), if_neg (by decide), if_neg (by decide), if_neg (by decide), if_neg (by decide), if_neg (by decide), if_neg (by decide), if_neg (by decide), if_neg (by decide), if_pos rfl, R.r1, Option.bind_some]
  obtain ⟨h1, e1, R1⟩ := R.s8 hi 2
  exact ⟨h1, by rw [e1]; rfl, R1⟩
end MCO
