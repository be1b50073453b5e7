/-! the model chooses -/
theorem getD_at {xs : List Int32} {t : Nat} (h : t < xs.length) (d : Int32) : xs[t]? = some (xs.getD t d) := by
  rw [List.getD_eq_getElem?_getD, List.getElem?_eq_getElem h]
  rfl
theorem rowL_bec (xs : List Int32) (old : Nat → Int32) : rowL (becF xs old) xs.length = xs := by
  apply List.ext_getElem?
  intro k
  by_cases c : k < xs.length
  · rw [rowL_at _ c]
    exact (getD_at c _).symm
  · rw [List.getElem?_eq_none (by rw [rowL_len]; omega), List.getElem?_eq_none (by omega)]
theorem selS_lt (P : Nat → Bool) (E : Nat → Nat × List Int32) : ∀ (t k : Nat), selS P E t = some k → k < t ∧ P k = true
  | 0, k, h => by simp [selS] at h
  | t + 1, k, h => by
    unfold selS at h
    split at h
    · rename_i c
      cases hs : selS P E t with
      | none =>
        rw [hs] at h
        have : t = k := by simpa [nxB] using h
        subst this
        exact ⟨by omega, c⟩
      | some b =>
        rw [hs] at h
        have hb := selS_lt P E t b hs
        have h : (if bett (E t) (E b) = true then some t else some b) = some k := h
        split at h
        · have : t = k := by simpa using h
          subst this
          exact ⟨by omega, c⟩
        · have : b = k := by simpa using h
          subst this
          exact ⟨by omega, hb.2⟩
    · have := selS_lt P E t k h
      exact ⟨by omega, this.2⟩
section MCH
variable {n B : Nat} {K : KK}
theorem M_216L {G : GG} {i b : Nat} {xs : List Int32} (hi : i < n) (hb : b < n) (hxs : (G.2 i b).2 = xs) : ∀ (m t fuel : Nat) (h : HP) (s : SS), RepM n h s G K → s.1 20 i = xs.length → t + m = xs.length → m < fuel → ∃ (fu : Nat) (h' : HP), f_X9_choose_216 fuel (some 1) (nI i) (nI b) (nI t) h = f_X9_choose_216 (fu + 1) (some 1) (nI i) (nI b) (nI xs.length) h' ∧ RepM n h' (sw 0 i (fun j => if t ≤ j ∧ j < xs.length then xs.getD j 0 else s.2.1 0 i j) s) G K
  | 0, t, fuel, h, s, R, h20, ht, hf => by
    obtain ⟨fu, rfl⟩ : ∃ fu, fuel = fu + 1 := ⟨fuel - 1, by omega⟩
    have : t = xs.length := by omega
    rw [this]
    refine ⟨fu, h, rfl, ?_⟩
    have : (fun j => if xs.length ≤ j ∧ j < xs.length then xs.getD j 0 else s.2.1 0 i j) = s.2.1 0 i := by
      funext j
      rw [if_neg (by omega)]
    rw [this]
    have : sw 0 i (s.2.1 0 i) s = s := by
      unfold sw up3
      rw [up2_id]
    rw [this]
    exact R
  | m + 1, t, fuel, h, s, R, h20, ht, hf => by
    obtain ⟨fu, rfl⟩ : ∃ fu, fuel = fu + 1 := ⟨fuel - 1, by omega⟩
    have hn := R.rng
    obtain ⟨g1, g2, g3, g4⟩ := R.gE hi hb
    rw [hxs] at g3 g4
    have ga := g4 t (by omega)
    rw [getD_at (show t < xs.length by omega) 0] at ga
    obtain ⟨h1, e1, R1⟩ := R.sR hi (j := t) (by omega) (xs.getD t 0)
    obtain ⟨fu', h2, e2, R2⟩ := M_216L hi hb hxs m (t + 1) fu h1 _ R1 h20 (by omega) (by omega)
    refine ⟨fu', h2, ?_, ?_⟩
    · rw [f_X9_choose_216, R.r5, Option.bind_some, R.v20 hi h20, Option.bind_some, if_neg (fun q => by have := (nI_leI (by omega) (by omega)).mp q; omega)]
      simp only [R.r4, R.r17, Option.bind_some, nI_mul, nI_add, ga, e1]
      exact e2
    · have : sw 0 i (fun j => if t + 1 ≤ j ∧ j < xs.length then xs.getD j 0 else (sw 0 i (va_up (s.2.1 0 i) t (xs.getD t 0)) s).2.1 0 i j) (sw 0 i (va_up (s.2.1 0 i) t (xs.getD t 0)) s) = sw 0 i (fun j => if t ≤ j ∧ j < xs.length then xs.getD j 0 else s.2.1 0 i j) s := by
        unfold sw up3
        show (s.1, up2 (up2 s.2.1 0 i _) 0 i (fun j => if t + 1 ≤ j ∧ j < xs.length then xs.getD j 0 else up2 s.2.1 0 i (va_up (s.2.1 0 i) t (xs.getD t 0)) 0 i j), s.2.2) = _
        rw [up2_up2]
        congr 3
        funext j
        rw [up2_same]
        by_cases c : j = t
        · subst c
          rw [if_neg (by omega), if_pos (by omega), va_eq]
        · rw [va_ne c]
          by_cases c2 : t + 1 ≤ j ∧ j < xs.length
          · rw [if_pos c2, if_pos (by omega)]
          · rw [if_neg c2, if_neg (by omega)]
      rw [← this]
      exact R2
theorem M_chEnd {h : HP} {s : SS} {G : GG} (R : RepM n h s G K) (O : OkS n B s) {i b : Nat} (hi : i < n) (hb : b < n) (hxs : (G.2 i b).2 = s.2.2.1 i) (hne : ¬ s.1 0 i = 2 ^ i) (hS : s.2.2.2.2.1 0 + 7 < 2 ^ 31) (fu : Nat) : ∃ h', f_X9_choose_4 (fu + 1) (some 1) (nI i) (nI b) (nI n) h = some h' ∧ RepM n h' (givS n i s) (va_up G.1 i (2 ^ i), G.2) K := by
  have hn := R.rng
  have hB := O.1
  obtain ⟨b20, b21, b14, b11, b15, b0, -⟩ := O.sml hi
  obtain ⟨b10, b12, -⟩ := O.num hi
  obtain ⟨g1, g2, g3, g4⟩ := R.gE hi hb
  rw [hxs] at g2 g3
  generalize hx : s.2.2.1 i = xs at *
  obtain ⟨h1, e1, R1⟩ := R.s20 hi xs.length
  obtain ⟨fu2, h2, e2, R2⟩ := M_216L hi hb hxs xs.length 0 600 h1 _ R1 (sv_eq _ _ _ _) (by omega) (by omega)
  have hbec : sw 0 i (fun j => if 0 ≤ j ∧ j < xs.length then xs.getD j 0 else (sv 20 i xs.length s).2.1 0 i j) (sv 20 i xs.length s) = becS i xs s := by
    unfold becS
    congr 1
    funext j
    unfold becF
    by_cases c : j < xs.length
    · rw [if_pos ⟨by omega, c⟩]
      have h1 := getD_at c (0 : Int32)
      have h2 := getD_at c (s.2.1 0 i j)
      rw [h1] at h2
      simpa using h2
    · rw [if_neg (by omega), List.getD_eq_getElem?_getD, List.getElem?_eq_none (by omega)]
      rfl
  rw [hbec] at R2
  obtain ⟨h3, e3, R3⟩ := R2.s13 hi (s.1 12 i)
  obtain ⟨h4, e4, R4⟩ := R3.s9 hi 4
  obtain ⟨h5, e5, R5⟩ := R4.sG hi (2 ^ i)
  have R6 : RepM n h5 (sv 1 i (clr (s.1 0 i) i) (sv 9 i 4 (sv 13 i (s.1 12 i) (becS i xs s)))) (va_up G.1 i (2 ^ i), G.2) K := R5.fr (f := 1) rfl (by decide)
  have hw0 : (sv 1 i (clr (s.1 0 i) i) (sv 9 i 4 (sv 13 i (s.1 12 i) (becS i xs s)))).2.1 0 i = becF xs (s.2.1 0 i) := up2_same _ _ _ _
  obtain ⟨h7, e7, R7⟩ := M_sendAll R6 (k := 9) (nr := s.1 12 i) (d := 0) (many := xs.length) (act := nI 0) (xs := xs) (mask := s.1 0 i) hi (by decide) b0 hS O.2.2.1 (Or.inr ⟨by decide, by decide, g3, by rw [hw0, rowL_bec]⟩)
  have hone := bt_one (show i < 7 by omega)
  refine ⟨h7, ?_, ?_⟩
  · have gg : hz_aI h7 (some 15) 0 (nI i) = some (nI (2 ^ i)) := (R7.gG hi).trans (congrArg (fun x => some (nI x)) (va_eq _ _ _))
    have v20 : (becS i xs s).1 20 i = xs.length := up2_same _ _ _ _
    have w20 : (sv 1 i (clr (s.1 0 i) i) (sv 9 i 4 (sv 13 i (s.1 12 i) (becS i xs s)))).1 20 i = xs.length := up2_same _ _ _ _
    have w0 : (sndG i (clr (s.1 0 i) i) (9, s.1 12 i, 0, xs) 0 n (sv 1 i (clr (s.1 0 i) i) (sv 9 i 4 (sv 13 i (s.1 12 i) (becS i xs s))))).1 0 i = s.1 0 i := by rw [sG_1]; rfl
    have hne2 : ¬ nI (2 ^ i) = nI (s.1 0 i) := fun q => hne ((nI_eq (by omega) (by omega)).mp q).symm
    rw [f_X9_choose_4, R.n0, Option.bind_some, if_pos ((nI_leI (by omega) (by omega)).mpr (Nat.le_refl _)), R.r5, Option.bind_some, R.r16, Option.bind_some, nI_mul, nI_add, g2, Option.bind_some, e1, Option.bind_some, e2, f_X9_choose_216, R2.r5, Option.bind_some, R2.v20 hi v20, Option.bind_some, if_pos ((nI_leI (by omega) (by omega)).mpr (Nat.le_refl _))]
    simp only [f_X9_choose_335, R2.r7, R2.r8, R2.v12 hi (v := s.1 12 i) rfl, Option.bind_some, e3, R3.r10, e4, R4.r14, hone.1, e5, R6.r11, R6.v0 hi (v := s.1 0 i) rfl, R6.r8, R6.v12 hi (v := s.1 12 i) rfl, R6.r5, R6.v20 hi w20, R6.ob, if_true, e7, R7.r14, gg, R7.r11, R7.v0 hi w0, if_neg hne2]
  · unfold givS
    rw [hx]
    exact R7
theorem M_ch4 {s : SS} {G : GG} (O : OkS n B s) {i b : Nat} (hi : i < n) (hG : ∀ a c : Nat, a < n → c < n → (G.2 a c).1 < 2 ^ 31) (h0 : (s.1 0 i).testBit i = true) (hsel : selS (s.1 0 i).testBit (up2 G.2 i i (s.1 13 i, rowL (s.2.1 0 i) (s.1 20 i)) i) n = some b) (hxs : (up2 G.2 i i (s.1 13 i, rowL (s.2.1 0 i) (s.1 20 i)) i b).2 = s.2.2.1 i) (hne : ¬ s.1 0 i = 2 ^ i) (hS : s.2.2.2.2.1 0 + 7 < 2 ^ 31) : ∀ (m t fuel : Nat) (h : HP), t + m = n → m < fuel → RepM n h s (if i < t then (G.1, up2 G.2 i i (s.1 13 i, rowL (s.2.1 0 i) (s.1 20 i))) else G) K → ∃ h', f_X9_choose_4 fuel (some 1) (nI i) (encO (selS (s.1 0 i).testBit (up2 G.2 i i (s.1 13 i, rowL (s.2.1 0 i) (s.1 20 i)) i) t)) (nI t) h = some h' ∧ RepM n h' (givS n i s) (va_up G.1 i (2 ^ i), up2 G.2 i i (s.1 13 i, rowL (s.2.1 0 i) (s.1 20 i))) K
  | 0, t, fuel, h, ht, hf, R => by
    obtain ⟨fu, rfl⟩ : ∃ fu, fuel = fu + 1 := ⟨fuel - 1, by omega⟩
    have : t = n := by omega
    subst this
    rw [if_pos hi] at R
    rw [hsel]
    have hb := (selS_lt _ _ _ _ hsel).1
    exact M_chEnd R O hi hb hxs hne hS fu
  | m + 1, t, fuel, h, ht, hf, R => by
    obtain ⟨fu, rfl⟩ : ∃ fu, fuel = fu + 1 := ⟨fuel - 1, by omega⟩
    have hn := R.rng
    have hB := O.1
    obtain ⟨b20, b21, b14, b11, b15, b0, -⟩ := O.sml hi
    obtain ⟨b10, b12, b13, -⟩ := O.num hi
    have ih := M_ch4 O hi hG h0 hsel hxs hne hS m (t + 1) fu
    rw [f_X9_choose_4, R.n0, Option.bind_some, if_neg (fun q => by have := (nI_leI (by omega) (by omega)).mp q; omega), R.r11, Option.bind_some, R.g0 hi, Option.bind_some, M_has b0 (by omega), Option.bind_some]
    cases hP : (s.1 0 i).testBit t with
    | false =>
      have hti : ¬ t = i := fun q => by rw [q, h0] at hP; simp at hP
      simp only [Bool.false_eq_true, if_false, z0T, if_true, f_X9_choose_191, nI_add]
      have hs : selS (s.1 0 i).testBit (up2 G.2 i i (s.1 13 i, rowL (s.2.1 0 i) (s.1 20 i)) i) (t + 1) = selS (s.1 0 i).testBit (up2 G.2 i i (s.1 13 i, rowL (s.2.1 0 i) (s.1 20 i)) i) t := by
        rw [selS, hP]
        rfl
      rw [hs] at ih
      refine ih h (by omega) (by omega) ?_
      by_cases c : i < t
      · rw [if_pos c] at R
        rw [if_pos (by omega)]
        exact R
      · rw [if_neg c] at R
        rw [if_neg (by omega)]
        exact R
    | true =>
      simp only [if_true, z1F, if_false, pk_nI_inj (show t < 2 ^ 31 by omega) (show i < 2 ^ 31 by omega)]
      have hs : selS (s.1 0 i).testBit (up2 G.2 i i (s.1 13 i, rowL (s.2.1 0 i) (s.1 20 i)) i) (t + 1) = nxB (up2 G.2 i i (s.1 13 i, rowL (s.2.1 0 i) (s.1 20 i)) i) t (selS (s.1 0 i).testBit (up2 G.2 i i (s.1 13 i, rowL (s.2.1 0 i) (s.1 20 i)) i) t) := by
        rw [selS, hP, if_pos rfl]
      have hblt : ∀ k : Nat, selS (s.1 0 i).testBit (up2 G.2 i i (s.1 13 i, rowL (s.2.1 0 i) (s.1 20 i)) i) t = some k → k < t := fun k hk => (selS_lt _ _ _ _ hk).1
      have hG1 : ∀ a c : Nat, a < n → c < n → (up2 G.2 i i (s.1 13 i, rowL (s.2.1 0 i) (s.1 20 i)) a c).1 < 2 ^ 31 := fun a c ha hc => by
        by_cases e : a = i ∧ c = i
        · obtain ⟨rfl, rfl⟩ := e
          rw [up2_same]
          show s.1 13 _ < 2 ^ 31
          omega
        · have : up2 G.2 i i (s.1 13 i, rowL (s.2.1 0 i) (s.1 20 i)) a c = G.2 a c := by simp only [up2, if_neg e]
          rw [this]
          exact hG a c ha hc
      by_cases c : t = i
      · rw [if_pos c]
        subst c
        rw [if_neg (by omega)] at R
        obtain ⟨h1, h2, h3, e1, e2, e3, e4, e5, e6, R3⟩ := M_own R hi b20 (f_X9_choose_4 fu) (encO (selS (s.1 0 t).testBit (up2 G.2 t t (s.1 13 t, rowL (s.2.1 0 t) (s.1 20 t)) t) t))
        simp only [R.r15, R.r7, R.g13 hi, Option.bind_some, nI_mul, nI_add, e1, e2, e3, e4, e5, e6]
        rw [M_ch117 R3 hG1 hi hi (fun k hk => by have := hblt k hk; omega)]
        show ∃ h', f_X9_choose_4 fu (some 1) (nI t) (encO (nxB (up2 G.2 t t (s.1 13 t, rowL (s.2.1 0 t) (s.1 20 t)) t) t _)) (nI (t + 1)) h3 = some h' ∧ _
        rw [← hs]
        refine ih h3 (by omega) (by omega) ?_
        rw [if_pos (by omega)]
        exact R3
      · rw [if_neg c]
        by_cases c2 : i < t
        · rw [if_pos c2] at R
          rw [M_ch117 R hG1 hi (by omega) (fun k hk => by have := hblt k hk; omega)]
          show ∃ h', f_X9_choose_4 fu (some 1) (nI i) (encO (nxB (up2 G.2 i i (s.1 13 i, rowL (s.2.1 0 i) (s.1 20 i)) i) t _)) (nI (t + 1)) h = some h' ∧ _
          rw [← hs]
          refine ih h (by omega) (by omega) ?_
          rw [if_pos (by omega)]
          exact R
        · rw [if_neg c2] at R
          rw [M_ch117 R hG hi (by omega) (fun k hk => by have := hblt k hk; omega)]
          have hnx : nxB (G.2 i) t (selS (s.1 0 i).testBit (up2 G.2 i i (s.1 13 i, rowL (s.2.1 0 i) (s.1 20 i)) i) t) = nxB (up2 G.2 i i (s.1 13 i, rowL (s.2.1 0 i) (s.1 20 i)) i) t (selS (s.1 0 i).testBit (up2 G.2 i i (s.1 13 i, rowL (s.2.1 0 i) (s.1 20 i)) i) t) := by
            cases hq : selS (s.1 0 i).testBit (up2 G.2 i i (s.1 13 i, rowL (s.2.1 0 i) (s.1 20 i)) i) t with
            | none => rfl
            | some k =>
              have hk := hblt k hq
              show (if bett (G.2 i t) (G.2 i k) = true then some t else some k) = (if bett (up2 G.2 i i (s.1 13 i, rowL (s.2.1 0 i) (s.1 20 i)) i t) (up2 G.2 i i (s.1 13 i, rowL (s.2.1 0 i) (s.1 20 i)) i k) = true then some t else some k)
              rw [up2_k (by omega), up2_k (by omega)]
          rw [hnx, ← hs]
          refine ih h (by omega) (by omega) ?_
          rw [if_neg (by omega)]
          exact R
theorem M_choose {h : HP} {s : SS} {G : GG} (R : RepM n h s G K) (O : OkS n B s) {i b : Nat} (hi : i < n) (hG : ∀ a c : Nat, a < n → c < n → (G.2 a c).1 < 2 ^ 31) (h0 : (s.1 0 i).testBit i = true) (hsel : selS (s.1 0 i).testBit (up2 G.2 i i (s.1 13 i, rowL (s.2.1 0 i) (s.1 20 i)) i) n = some b) (hxs : (up2 G.2 i i (s.1 13 i, rowL (s.2.1 0 i) (s.1 20 i)) i b).2 = s.2.2.1 i) (hne : ¬ s.1 0 i = 2 ^ i) (hS : s.2.2.2.2.1 0 + 7 < 2 ^ 31) : ∃ h', f_X9_choose (some 1) (nI i) h = some h' ∧ RepM n h' (givS n i s) (va_up G.1 i (2 ^ i), up2 G.2 i i (s.1 13 i, rowL (s.2.1 0 i) (s.1 20 i))) K := by
  have hn := R.rng
  have e0 : (-1 : Int32) = encO (selS (s.1 0 i).testBit (up2 G.2 i i (s.1 13 i, rowL (s.2.1 0 i) (s.1 20 i)) i) 0) := rfl
  have R0 : RepM n h s (if i < 0 then (G.1, up2 G.2 i i (s.1 13 i, rowL (s.2.1 0 i) (s.1 20 i))) else G) K := by
    rw [if_neg (by omega)]
    exact R
  have k := M_ch4 O hi hG h0 hsel hxs hne hS n 0 600 h (by omega) (by omega) R0
  rw [← e0] at k
  exact k
end MCH
