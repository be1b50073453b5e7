/-! letters of a change of view: the model over a state -/
theorem M_vcL {Z : Nat → Nat → Int32} {i j len : Nat} (hi : i < 7) (hj : j < 7) (hlen : len ≤ 60) : ∀ (m t fuel : Nat) (A : Nat → Nat → Int32), A 27 500 = nI len → t + m = len → m < fuel → ∃ (fu : Nat) (A' : Nat → Nat → Int32), f_X9_comeOfView_200 fuel (some 1) (nI 500) (nI i) (nI j) (nI t) (mm Z A) = f_X9_comeOfView_200 (fu + 1) (some 1) (nI 500) (nI i) (nI j) (nI len) (mm Z A') ∧ (∀ r : Nat, ¬ r = 18 → A' r = A r) ∧ (∀ k : Nat, k < 420 * i + 60 * j + t ∨ 420 * i + 60 * j + len ≤ k → A' 18 k = A 18 k) ∧ ∀ l : Nat, t ≤ l → l < len → A' 18 (420 * i + 60 * j + l) = A 28 (30000 + l)
  | 0, t, fuel, A, h6, ht, hf => by
    obtain ⟨fu, rfl⟩ : ∃ fu, fuel = fu + 1 := ⟨fuel - 1, by omega⟩
    have : t = len := by omega
    subst this
    exact ⟨fu, A, rfl, fun _ _ => rfl, fun _ _ => rfl, fun l h1 h2 => by omega⟩
  | m + 1, t, fuel, A, h6, ht, hf => by
    obtain ⟨fu, rfl⟩ : ∃ fu, fuel = fu + 1 := ⟨fuel - 1, by omega⟩
    rw [f_X9_comeOfView_200, mm_r26, Option.bind_some, mm_aI (by decide) (show 500 < 501 by decide), h6, Option.bind_some, if_neg (fun q => by have := (nI_leI (by omega) (by omega)).mp q; omega)]
    rw [mm_r17, Option.bind_some, mm_r27, Option.bind_some, nI_mul, nI_add, show 60 * 500 + t = 30000 + t from rfl, mm_aI (by decide) (show 30000 + t < 30060 by omega), Option.bind_some, nI_mul, nI_mul, nI_add, nI_add, mm_aS (by decide) (show 420 * i + 60 * j + t < 2940 by omega), Option.bind_some, nI_add]
    obtain ⟨fu', A', e, q1, q2, q3⟩ := M_vcL (Z := Z) hi hj hlen m (t + 1) fu (up2 A 18 (420 * i + 60 * j + t) (A 28 (30000 + t))) (by rw [up2_row (by decide)]; exact h6) (by omega) (by omega)
    refine ⟨fu', A', e, fun r hr => by rw [q1 r hr, up2_row hr], fun k hk => ?_, fun l h1 h2 => ?_⟩
    · rw [q2 k (by omega), up2_k (by omega)]
    · by_cases e : l = t
      · subst e
        rw [q2 _ (by omega), up2_same]
      · rw [q3 l (by omega) h2, up2_row (by decide)]
section MV
variable {n B : Nat} {h : HP} {s : SS} {G : GG} {x i : Nat} {ℓ : LL}
theorem M_comeV (R : RepM n h s G (some (x, i, ℓ))) (hk : ℓ.1 = 7 ∨ ℓ.1 = 8 ∨ ℓ.1 = 9 ∨ ℓ.1 = 10 ∨ ℓ.1 = 11) : f_X9_come (some 1) (nI 500) h = f_X9_comeOfView (some 1) (nI 500) (nI i) (nI x) h := by
  have e : ∀ o : Option HP, (o.bind fun p => some p) = o := fun o => by cases o <;> rfl
  rw [f_X9_come, R.r22, Option.bind_some, R.ky, Option.bind_some, R.r21, Option.bind_some, R.kx, Option.bind_some, R.r23, Option.bind_some, R.kk, Option.bind_some]
  simp only [f_X9_come_433, R.ob, if_true, e]
  rcases hk with q | q | q | q | q <;> rw [q]
  · rw [if_neg (by decide), if_neg (by decide), if_neg (by decide), if_neg (by decide), if_neg (by decide), if_neg (by decide), if_pos rfl]
  · rw [if_neg (by decide), if_neg (by decide), if_neg (by decide), if_neg (by decide), if_neg (by decide), if_neg (by decide), if_neg (by decide), if_pos rfl]
  · rw [if_neg (by decide), if_neg (by decide), if_neg (by decide), if_neg (by decide), if_neg (by decide), if_neg (by decide), if_neg (by decide), if_neg (by decide), if_pos rfl]
  · rw [if_neg (by decide), if_neg (by decide), if_neg (by decide), if_neg (by decide), if_neg (by decide), if_neg (by decide), if_neg (by decide), if_neg (by decide), if_neg (by decide), if_pos rfl]
  · rw [if_neg (by decide), if_neg (by decide), if_neg (by decide), if_neg (by decide), if_neg (by decide), if_neg (by decide), if_neg (by decide), if_neg (by decide), if_neg (by decide), if_neg (by decide), if_pos rfl]
theorem M_come7 (R : RepM n h s G (some (x, i, ℓ))) (O : OkS n B s) (hi : i < n) (hx : x < n) (hL : LOk B ℓ) (hk : ℓ.1 = 7) (hS : s.2.2.2.2.1 0 + 7 < 2 ^ 31) : ∃ h', f_X9_come (some 1) (nI 500) h = some h' ∧ RepM n h' (onFlushS n i x ℓ s) G (some (x, i, ℓ)) := by
  have hn := R.rng
  have hB := O.1
  obtain ⟨b20, b21, b14, b11, -⟩ := O.sml hi
  obtain ⟨b10, b12, -⟩ := O.num hi
  obtain ⟨l1, l2, l3, l4⟩ := hL
  rw [M_comeV R (Or.inl hk), f_X9_comeOfView, R.r23, Option.bind_some, R.kk, Option.bind_some, hk, if_pos rfl, R.r24, Option.bind_some, R.kn, Option.bind_some, R.r8, Option.bind_some, R.g12 hi, Option.bind_some]
  unfold onFlushS
  by_cases c : ℓ.2.1 ≤ s.1 12 i
  · rw [if_neg (fun q => by have := (nI_ltI (by omega) (by omega)).mp q; omega), if_pos c]
    exact ⟨h, rfl, R⟩
  · rw [if_pos ((nI_ltI (by omega) (by omega)).mpr (by omega)), if_neg c]
    obtain ⟨h1, e1, R1⟩ := R.s12 hi ℓ.2.1
    obtain ⟨h2, e2, R2⟩ := R1.s9 hi 0
    obtain ⟨h3, e3, R3⟩ := R2.s16 hi (x + 1) (v := nI x) (by
      rw [← nI_add]
      show nI x = nI x + nI 1 + (-1)
      rw [Int32.add_assoc, show nI 1 + (-1 : Int32) = 0 by decide, Int32.add_zero])
    have hst : sv 16 i (x + 1) (sv 9 i 0 (sv 12 i ℓ.2.1 s)) = sv 9 i 0 (sv 16 i (x + 1) (sv 12 i ℓ.2.1 s)) := sv_comm _ _ _ _ _ (by decide)
    rw [hst] at R3
    obtain ⟨h4, e4, R4⟩ := M_send R3 (a := i) (b := x) (k := 8) (nr := ℓ.2.1) (d := s.1 13 i) (many := s.1 20 i) (act := nI 0) (xs := rowL (s.2.1 0 i) (s.1 20 i)) hi hx (by decide) (show s.2.2.2.2.1 0 + 1 < 2 ^ 31 by omega) O.2.2.1 (Or.inr ⟨by decide, by decide, b20, rfl⟩)
    refine ⟨h4, ?_, ?_⟩
    · simp only [f_X9_comeOfView_484, R.r24, R.kn, Option.bind_some, e1, R1.r10, e2, R2.r12, e3, R3.r24, R3.kn, R3.r7, R3.v13 hi (v := s.1 13 i) rfl, R3.r5, R3.v20 hi (v := s.1 20 i) rfl, R3.ob, if_true, e4]
    · rw [sndG_one hx]
      exact R4
theorem M_303L {xs : List Int32} (hi : i < n) (hxs : ℓ.2.2.2 = xs) (hl : xs.length ≤ 60) : ∀ (m t fuel : Nat) (h : HP) (s : SS), RepM n h s G (some (x, i, ℓ)) → t + m = xs.length → m < fuel → ∃ (fu : Nat) (h' : HP), f_X9_comeOfView_303 fuel (some 1) (nI 500) (nI i) (nI x) (nI t) h = f_X9_comeOfView_303 (fu + 1) (some 1) (nI 500) (nI i) (nI x) (nI xs.length) h' ∧ RepM n h' (sw 0 i (fun j => if t ≤ j ∧ j < xs.length then xs.getD j 0 else s.2.1 0 i j) s) G (some (x, i, ℓ))
  | 0, t, fuel, h, s, R, ht, hf => by
    obtain ⟨fu, rfl⟩ : ∃ fu, fuel = fu + 1 := ⟨fuel - 1, by omega⟩
    have : t = xs.length := by omega
    rw [this]
    refine ⟨fu, h, rfl, ?_⟩
    have : (fun j => if xs.length ≤ j ∧ j < xs.length then xs.getD j 0 else s.2.1 0 i j) = s.2.1 0 i := by
      funext j
      rw [if_neg (by omega)]
    rw [this]
    have : sw 0 i (s.2.1 0 i) s = s := by
      unfold sw up3
      rw [up2_id]
    rw [this]
    exact R
  | m + 1, t, fuel, h, s, R, ht, hf => by
    obtain ⟨fu, rfl⟩ : ∃ fu, fuel = fu + 1 := ⟨fuel - 1, by omega⟩
    have hn := R.rng
    have ga := R.kr (j := t) (by rw [hxs]; omega) (by omega)
    rw [hxs, getD_at (show t < xs.length by omega) 0] at ga
    have gs := R.ks
    rw [hxs] at gs
    obtain ⟨h1, e1, R1⟩ := R.sR hi (j := t) (by omega) (xs.getD t 0)
    obtain ⟨fu', h2, e2, R2⟩ := M_303L hi hxs hl m (t + 1) fu h1 _ R1 (by omega) (by omega)
    refine ⟨fu', h2, ?_, ?_⟩
    · rw [f_X9_comeOfView_303, R.r26, Option.bind_some, gs, Option.bind_some, if_neg (fun q => by have := (nI_leI (by omega) (by omega)).mp q; omega), R.r4, Option.bind_some, R.r27, Option.bind_some, nI_mul, nI_add, show 60 * 500 + t = 30000 + t from rfl, ga, Option.bind_some, nI_mul, nI_add, e1, Option.bind_some, nI_add]
      exact e2
    · have : sw 0 i (fun j => if t + 1 ≤ j ∧ j < xs.length then xs.getD j 0 else (sw 0 i (va_up (s.2.1 0 i) t (xs.getD t 0)) s).2.1 0 i j) (sw 0 i (va_up (s.2.1 0 i) t (xs.getD t 0)) s) = sw 0 i (fun j => if t ≤ j ∧ j < xs.length then xs.getD j 0 else s.2.1 0 i j) s := by
        unfold sw up3
        show (s.1, up2 (up2 s.2.1 0 i _) 0 i (fun j => if t + 1 ≤ j ∧ j < xs.length then xs.getD j 0 else up2 s.2.1 0 i (va_up (s.2.1 0 i) t (xs.getD t 0)) 0 i j), s.2.2) = _
        rw [up2_up2]
        congr 3
        funext j
        rw [up2_same]
        by_cases c : j = t
        · subst c
          rw [if_neg (by omega), if_pos (by omega), va_eq]
        · rw [va_ne c]
          by_cases c2 : t + 1 ≤ j ∧ j < xs.length
          · rw [if_pos c2, if_pos (by omega)]
          · rw [if_neg c2, if_neg (by omega)]
      rw [← this]
      exact R2
theorem bec_eq (i : Nat) (xs : List Int32) (s : SS) : sw 0 i (fun j => if 0 ≤ j ∧ j < xs.length then xs.getD j 0 else (sv 20 i xs.length s).2.1 0 i j) (sv 20 i xs.length s) = becS i xs s := by
  unfold becS
  congr 1
  funext j
  unfold becF
  by_cases c : j < xs.length
  · rw [if_pos ⟨by omega, c⟩]
    have h1 := getD_at c (0 : Int32)
    have h2 := getD_at c (s.2.1 0 i j)
    rw [h1] at h2
    simpa using h2
  · rw [if_neg (by omega), List.getD_eq_getElem?_getD, List.getElem?_eq_none (by omega)]
    rfl
theorem M_come9 (R : RepM n h s G (some (x, i, ℓ))) (O : OkS n B s) (hi : i < n) (hx : x < n) (hL : LOk B ℓ) (hk : ℓ.1 = 9) (hS : s.2.2.2.2.1 0 + 7 < 2 ^ 31) : ∃ h', f_X9_come (some 1) (nI 500) h = some h' ∧ RepM n h' (onSyncS n i x ℓ s) G (some (x, i, ℓ)) := by
  have hn := R.rng
  have hB := O.1
  obtain ⟨b20, b21, b14, b11, -⟩ := O.sml hi
  obtain ⟨b10, b12, -⟩ := O.num hi
  obtain ⟨l1, l2, l3, l4⟩ := hL
  have jn := pk_nI_inj (show ℓ.2.1 < 2 ^ 31 by omega) (show s.1 12 i < 2 ^ 31 by omega)
  rw [M_comeV R (Or.inr (Or.inr (Or.inl hk))), f_X9_comeOfView, R.r23, Option.bind_some, R.kk, Option.bind_some, hk, if_neg (by decide), if_neg (by decide), if_pos rfl, R.r24, Option.bind_some, R.kn, Option.bind_some, R.r8, Option.bind_some, R.g12 hi, Option.bind_some]
  unfold onSyncS
  by_cases c : ℓ.2.1 = s.1 12 i
  · rw [if_pos (jn.mpr c), if_pos c]
    obtain ⟨h1, e1, R1⟩ := R.s20 hi ℓ.2.2.2.length
    obtain ⟨fu, h2, e2, R2⟩ := M_303L hi rfl l4 ℓ.2.2.2.length 0 600 h1 _ R1 (by omega) (by omega)
    rw [bec_eq] at R2
    obtain ⟨h3, e3, R3⟩ := R2.s13 hi (s.1 12 i)
    obtain ⟨h4, e4, R4⟩ := M_send R3 (a := i) (b := x) (k := 10) (nr := s.1 12 i) (d := 0) (many := 0) (act := nI 0) (xs := []) hi hx (by decide) (show s.2.2.2.2.1 0 + 1 < 2 ^ 31 by omega) O.2.2.1 (Or.inr ⟨by decide, by decide, by decide, rfl⟩)
    refine ⟨h4, ?_, ?_⟩
    · have k2 := R2.kn
      rw [c] at k2
      have k3 := R3.kn
      rw [c] at k3
      rw [R.r5, Option.bind_some, R.r26, Option.bind_some, R.ks, Option.bind_some, e1, Option.bind_some, e2, f_X9_comeOfView_303, R2.r26, Option.bind_some, R2.ks, Option.bind_some, if_pos ((nI_leI (by omega) (by omega)).mpr (Nat.le_refl _))]
      simp only [f_X9_comeOfView_484, R2.r7, R2.r24, k2, Option.bind_some, e3, R3.r24, k3, R3.ob, if_true, e4]
    · unfold rpl
      rw [sndG_one hx]
      exact R4
  · rw [if_neg (fun q => c (jn.mp q)), if_neg c]
    exact ⟨h, rfl, R⟩
theorem M_come11 (R : RepM n h s G (some (x, i, ℓ))) (O : OkS n B s) (hi : i < n) (av : AcV s i) (hL : LOk B ℓ) (hk : ℓ.1 = 11) : ∃ h', f_X9_come (some 1) (nI 500) h = some h' ∧ RepM n h' (onBeginS n i ℓ s) G (some (x, i, ℓ)) := by
  have hn := R.rng
  have hB := O.1
  obtain ⟨b10, b12, -⟩ := O.num hi
  obtain ⟨l1, l2, l3, l4⟩ := hL
  have jn := pk_nI_inj (show ℓ.2.1 < 2 ^ 31 by omega) (show s.1 12 i < 2 ^ 31 by omega)
  rw [M_comeV R (Or.inr (Or.inr (Or.inr (Or.inr hk)))), f_X9_comeOfView, R.r23, Option.bind_some, R.kk, Option.bind_some, hk, if_neg (by decide), if_neg (by decide), if_neg (by decide), if_neg (by decide), R.r24, Option.bind_some, R.kn, Option.bind_some, R.r8, Option.bind_some, R.g12 hi, Option.bind_some]
  unfold onBeginS
  by_cases c : ℓ.2.1 = s.1 12 i
  · rw [if_pos (jn.mpr c), if_pos c]
    obtain ⟨h1, e1, R1⟩ := M_begin R O (m := ℓ.2.2.1) hi av
    refine ⟨h1, ?_, R1⟩
    have kn := R.kn
    rw [c] at kn
    simp only [Option.bind_some, kn, R.r25, R.kt, R.ob, if_true, e1, f_X9_comeOfView_484]
  · rw [if_neg (fun q => c (jn.mp q)), if_neg c]
    exact ⟨h, rfl, R⟩
theorem M_come10n (R : RepM n h s G (some (x, i, ℓ))) (O : OkS n B s) (hi : i < n) (hx : x < n) (hL : LOk B ℓ) (hk : ℓ.1 = 10) (hc : ¬ s.1 9 i = 4 ∨ ¬ ℓ.2.1 = s.1 12 i ∨ (s.1 0 i).testBit x = false) : f_X9_come (some 1) (nI 500) h = some h := by
  have hn := R.rng
  have hB := O.1
  obtain ⟨b20, b21, b14, b11, b15, b0, b1, b9, -⟩ := O.sml hi
  obtain ⟨b10, b12, -⟩ := O.num hi
  obtain ⟨l1, l2, l3, l4⟩ := hL
  have jn := pk_nI_inj (show ℓ.2.1 < 2 ^ 31 by omega) (show s.1 12 i < 2 ^ 31 by omega)
  have j9 := pk_nI_inj (show s.1 9 i < 2 ^ 31 by omega) (show 4 < 2 ^ 31 by decide)
  rw [M_comeV R (Or.inr (Or.inr (Or.inr (Or.inl hk)))), f_X9_comeOfView, R.r23, Option.bind_some, R.kk, Option.bind_some, hk, if_neg (by decide), if_neg (by decide), if_neg (by decide), if_pos rfl, R.r10, Option.bind_some, R.g9 hi, Option.bind_some]
  by_cases c1 : s.1 9 i = 4
  · rw [if_pos (j9.mpr c1), R.r24, Option.bind_some, R.kn, Option.bind_some, R.r8, Option.bind_some, R.g12 hi, Option.bind_some]
    by_cases c2 : ℓ.2.1 = s.1 12 i
    · have c3 : (s.1 0 i).testBit x = false := (hc.resolve_left (fun q => q c1)).resolve_left (fun q => q c2)
      rw [if_pos (jn.mpr c2), R.r11, Option.bind_some, R.g0 hi, Option.bind_some, M_has b0 (by omega), Option.bind_some, c3]
      simp only [Bool.false_eq_true, if_false, z0T, if_true, f_X9_comeOfView_484]
    · rw [if_neg (fun q => c2 (jn.mp q))]
      rfl
  · rw [if_neg (fun q => c1 (j9.mp q))]
    rfl
theorem M_come10 (R : RepM n h s G (some (x, i, ℓ))) (O : OkS n B s) (hi : i < n) (hx : x < n) (av : AcV s i) (hL : LOk B ℓ) (hk : ℓ.1 = 10) (c1 : s.1 9 i = 4) (c2 : ℓ.2.1 = s.1 12 i) (c3 : (s.1 0 i).testBit x = true) (hg : G.1 i < 128) (h0 : (s.1 0 i).testBit i = true) (hS : s.2.2.2.2.1 0 + 14 < 2 ^ 31) : ∃ h', f_X9_come (some 1) (nI 500) h = some h' ∧ RepM n h' (if setb (G.1 i) x = s.1 0 i then bgnS n i (answ i x s) else answ i x s) (va_up G.1 i (setb (G.1 i) x), G.2) (some (x, i, ℓ)) := by
  have hn := R.rng
  have hB := O.1
  obtain ⟨b20, b21, b14, b11, b15, b0, b1, b9, -⟩ := O.sml hi
  obtain ⟨b10, b12, -⟩ := O.num hi
  obtain ⟨l1, l2, l3, l4⟩ := hL
  have hst := (bt_k hg (show x < 7 by omega)).2.2
  have hcl := (bt_k b1 (show x < 7 by omega)).1.2
  obtain ⟨h1, e1, R1⟩ := R.sG hi (setb (G.1 i) x)
  have R2 : RepM n h1 (answ i x s) (va_up G.1 i (setb (G.1 i) x), G.2) (some (x, i, ℓ)) := R1.fr (f := 1) rfl (by decide)
  have O2 : OkS n B (answ i x s) := O.oV (f := 1) (by simp [bnd]; omega)
  have gg : hz_aI h1 (some 15) 0 (nI i) = some (nI (setb (G.1 i) x)) := (R1.gG hi).trans (congrArg (fun x => some (nI x)) (va_eq _ _ _))
  have jg := pk_nI_inj (show setb (G.1 i) x < 2 ^ 31 by omega) (show s.1 0 i < 2 ^ 31 by omega)
  rw [M_comeV R (Or.inr (Or.inr (Or.inr (Or.inl hk)))), f_X9_comeOfView, R.r23, Option.bind_some, R.kk, Option.bind_some, hk, if_neg (by decide), if_neg (by decide), if_neg (by decide), if_pos rfl, R.r10, Option.bind_some, R.g9 hi, Option.bind_some, c1, if_pos rfl, R.r24, Option.bind_some, R.kn, Option.bind_some, R.r8, Option.bind_some, R.g12 hi, Option.bind_some, c2, if_pos rfl, R.r11, Option.bind_some, R.g0 hi, Option.bind_some, M_has b0 (by omega), Option.bind_some, c3]
  simp only [if_true, z1F, if_false, R.r14, R.gG hi, Option.bind_some, hst.1, e1, R1.r14, gg, R1.r11, R1.v0 hi (v := s.1 0 i) rfl, R1.ob, f_X9_comeOfView_484]
  by_cases c4 : setb (G.1 i) x = s.1 0 i
  · rw [if_pos (jg.mpr c4), if_pos c4]
    obtain ⟨h3, e3, R3⟩ := M_found R2 O2 hi av h0 hS
    exact ⟨h3, by rw [e3]; rfl, R3⟩
  · rw [if_neg (fun q => c4 (jg.mp q)), if_neg c4]
    exact ⟨h1, rfl, R2⟩
end MV
