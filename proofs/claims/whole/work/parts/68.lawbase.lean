/-! the law's two worlds -/
/-- what a heap's cells name lies in it -/
def rkC (n : Nat) (c : HC) : Prop := match c with
  | .inl a => match a.2.2 with
    | .inr (.inr (.inr (.inr f))) => ∀ j : Nat, j < a.2.1 → ∀ r : Nat, f j = some r → r ≤ n
    | _ => True
  | .inr o => ∀ v ∈ o.2, ∀ r : Nat, v = .ref r → r ≤ n
def rk (h : HP) : Prop := ∀ k : Nat, 1 ≤ k → k ≤ h.1 → rkC h.1 (h.2 k)
theorem arrV_cong {cA : ClassId} {n : Nat} {f g : Nat → Value} (h : ∀ j : Nat, j < n → f j = g j) : arrV cA n f = arrV cA n g := by
  unfold arrV
  congr 1
  first
    | (apply Array.ext_getElem?; intro j; simp; by_cases hj : j < n <;> simp [hj, h])
    | (simp [h])
theorem hz_move {D : va_G} {cA : Nat → ClassId} {ad ad' : Nat → Nat} {h : HP} {H : Heap} (hr : rk h) (ha : ∀ k : Nat, k ≤ h.1 → ad' k = ad k) (hP : va_P D vwCl (hz_w (D, cA, ad) h) H) : va_P D vwCl (hz_w (D, cA, ad') h) H := by
  intro k q hq
  obtain ⟨hk, rfl⟩ := hz_wof hq
  have h1 := hz_wget (E := (D, cA, ad)) (h := h) (a := k + 1) (by omega) (by omega)
  rw [Nat.add_sub_cancel] at h1
  have h2 := hP k _ h1
  have e : ad' (k + 1) = ad (k + 1) := ha (k + 1) (by omega)
  have hrk := hr (k + 1) (by omega) (by omega)
  cases hc : h.2 (k + 1) with
  | inl a =>
    rw [hc] at h2 hrk
    obtain ⟨t, n, x⟩ := a
    have h3 : H[ad (k + 1)]? = some (vp_cell (cA t) (hz_A (D, cA, ad) (n, x))) := h2
    show H[ad' (k + 1)]? = some (vp_cell (cA t) (hz_A (D, cA, ad') (n, x)))
    rw [e, h3]
    match x with
    | .inl f => rfl
    | .inr (.inl f) => rfl
    | .inr (.inr (.inl f)) => rfl
    | .inr (.inr (.inr (.inl f))) => rfl
    | .inr (.inr (.inr (.inr f))) =>
      show some (arrV (cA t) n (fun j => va_rf ((f j).map ad))) = some (arrV (cA t) n (fun j => va_rf ((f j).map ad')))
      congr 1
      refine arrV_cong fun j hj => ?_
      cases hf : f j with
      | none => rfl
      | some r =>
        have := hrk j hj r hf
        show Value.ref (ad r) = Value.ref (ad' r)
        rw [ha r this]
  | inr o =>
    rw [hc] at h2 hrk
    obtain ⟨r, h3, h4⟩ := h2
    refine ⟨r, h3, ?_⟩
    have e2 : o.2.map (hz_v (D, cA, ad')) = o.2.map (hz_v (D, cA, ad)) := by
      refine List.map_congr_left fun v hv => ?_
      cases v with
      | ref x =>
        show Value.ref (ad' x) = Value.ref (ad x)
        rw [ha x (hrk _ hv x rfl)]
      | _ => rfl
    show t_OB (ad' (k + 1)) _ _ _ H (vp_V (o.2.map (hz_v (D, cA, ad'))))
    rw [e2, e]
    exact h4
theorem rf_eq {r : Option Nat} {x : Nat} (h : va_rf r = .ref x) : r = some x := by
  cases r with
  | none => cases h
  | some y => cases h; rfl
theorem rk_m (Z A : Nat → Nat → Int32) : rk (mm Z A) := by
  intro k h1 h2
  show rkC 29 (hm_c (KM k) (LM k) (Z k) (PM k) (A k))
  by_cases c : k = 1
  · subst c
    show ∀ v ∈ hm_fl 9 (Z 1) (PM 1), ∀ r : Nat, v = .ref r → r ≤ 29
    intro v hv r hr
    subst hr
    simp [hm_fl, PM, va_rf] at hv
    rcases hv with rfl | rfl | rfl | rfl | rfl | rfl | rfl | rfl | rfl | rfl | rfl | rfl | rfl | rfl | rfl | rfl | rfl | rfl | rfl | rfl | rfl | rfl | rfl | rfl | rfl | rfl | rfl | rfl <;> omega
  · unfold KM
    rw [if_neg c]
    split <;> exact trivial
theorem rk_c {n : Nat} {h : HP} (R : RepC n h (s0 n)) (hc1 : h.1 + 1 = bsA n) : rk h := by
  obtain ⟨c, kd, ln, Z, P, A, Q, rfl, r⟩ := R
  have hc : c + 1 = bsA n := hc1
  obtain ⟨⟨hn, -, ⟨k1, p10, p11, p12⟩, k2, ⟨k3, -, p31, p32⟩, ⟨k4, l4, p4⟩, ⟨k5, l5, p5⟩, nds⟩, -, -, -, -, -, hbest, hch, -⟩ := r
  unfold bsA at hc
  have hn4 : 4 ≤ n * n := Nat.mul_le_mul hn.1 hn.1
  intro k h1 h2
  have h2' : k ≤ c := h2
  show rkC c (hm_c (kd k) (ln k) (Z k) (P k) (A k))
  by_cases c1 : k = 1
  · subst c1
    rw [k1]
    show ∀ v ∈ [va_rf (P 1 0), va_rf (P 1 1), va_rf (P 1 2)], ∀ r : Nat, v = .ref r → r ≤ c
    rw [p10, p11, p12]
    intro v hv r hr
    subst hr
    simp [va_rf] at hv
    rcases hv with rfl | rfl | rfl <;> omega
  by_cases c2 : k = 2
  · subst c2
    rw [k2]
    show ∀ v ∈ [Value.int (Z 2 0), .int (Z 2 1), .int (Z 2 2), .int (Z 2 3), .int (Z 2 4)], ∀ r : Nat, v = .ref r → r ≤ c
    intro v hv r hr
    subst hr
    simp at hv
  by_cases c3 : k = 3
  · subst c3
    rw [k3]
    show ∀ v ∈ [Value.int (Z 3 0), va_rf (P 3 1), va_rf (P 3 2), .int (Z 3 3)], ∀ r : Nat, v = .ref r → r ≤ c
    rw [p31, p32]
    intro v hv r hr
    subst hr
    simp [va_rf] at hv
    rcases hv with rfl | rfl <;> omega
  by_cases c4 : k = 4
  · subst c4
    rw [k4]
    show ∀ j : Nat, j < ln 4 → ∀ r : Nat, P 4 j = some r → r ≤ c
    intro j hj r hr
    rw [l4] at hj
    rw [(p4 j hj).1] at hr
    have := Option.some.inj hr
    omega
  by_cases c5 : k < 5 + n * n
  · obtain ⟨e, rfl⟩ : ∃ e, k = 5 + e := ⟨k - 5, by omega⟩
    have he : e < n * n := by omega
    rw [(p4 e he).2]
    have hdm : e = e / n * n + e % n := by
      have := Nat.div_add_mod e n
      rw [Nat.mul_comm] at this
      omega
    have hx : e / n < n := Nat.div_lt_of_lt_mul he
    have hy : e % n < n := Nat.mod_lt _ (by omega)
    obtain ⟨q1, q2, -, q4, -⟩ := hch (e / n) (e % n) hx hy
    rw [← hdm] at q1 q2 q4
    have hQ : Q e = [] := List.eq_nil_of_length_eq_zero q4
    rw [hQ] at q1 q2
    show ∀ v ∈ [va_rf (P (5 + e) 0), va_rf (P (5 + e) 1), .int (Z (5 + e) 2)], ∀ r : Nat, v = .ref r → r ≤ c
    rw [q1, q2]
    intro v hv r hr
    subst hr
    simp [va_rf] at hv
  by_cases c6 : k = 5 + n * n
  · subst c6
    rw [k5]
    show ∀ j : Nat, j < ln (5 + n * n) → ∀ r : Nat, P (5 + n * n) j = some r → r ≤ c
    intro j hj r hr
    rw [l5] at hj
    rw [p5 j hj] at hr
    have := Option.some.inj hr
    unfold nd at this
    omega
  · obtain ⟨i, d, hd, rfl⟩ : ∃ i d, d < 7 ∧ k = nd n i + d := ⟨(k - (6 + n * n)) / 7, (k - (6 + n * n)) % 7, Nat.mod_lt _ (by omega), by unfold nd; omega⟩
    have hi : i < n := by unfold nd at h2'; omega
    have hnd : nd n i = 6 + n * n + 7 * i := rfl
    have hb := hbest i hi
    obtain ⟨⟨d0, -, -⟩, ⟨w2, w3, w4, w5, w6, w7⟩, ⟨d1, x1, d2, -⟩, ⟨d3, x3, d4, -⟩, d5, d6, -⟩ := nds i hi
    have hcase : d = 0 ∨ d = 1 ∨ d = 2 ∨ d = 3 ∨ d = 4 ∨ d = 5 ∨ d = 6 := by omega
    rcases hcase with rfl | rfl | rfl | rfl | rfl | rfl | rfl
    · rw [Nat.add_zero, d0]
      show ∀ v ∈ [Value.int (Z (nd n i) 0), .int (Z (nd n i) 1), va_rf (P (nd n i) 2), va_rf (P (nd n i) 3), va_rf (P (nd n i) 4), va_rf (P (nd n i) 5), va_rf (P (nd n i) 6), va_rf (P (nd n i) 7), .int (Z (nd n i) 8), .int (Z (nd n i) 9), .int (Z (nd n i) 10), .int (Z (nd n i) 11), .int (Z (nd n i) 12), .int (Z (nd n i) 13), .int (Z (nd n i) 14), .int (Z (nd n i) 15), .int (Z (nd n i) 16)], ∀ r : Nat, v = .ref r → r ≤ c
      rw [w2, w3, w4, w5, w6, w7]
      intro v hv r hr
      subst hr
      simp [va_rf] at hv
      rcases hv with rfl | rfl | rfl | rfl | rfl | rfl <;> omega
    · rw [d1]
      show ∀ v ∈ [va_rf (P (nd n i + 1) 0), Value.int (Z (nd n i + 1) 1)], ∀ r : Nat, v = .ref r → r ≤ c
      rw [x1]
      intro v hv r hr
      subst hr
      simp [va_rf] at hv
      subst hv
      omega
    · rw [d2]
      exact trivial
    · rw [d3]
      show ∀ v ∈ [va_rf (P (nd n i + 3) 0), Value.int (Z (nd n i + 3) 1)], ∀ r : Nat, v = .ref r → r ≤ c
      rw [x3]
      intro v hv r hr
      subst hr
      simp [va_rf] at hv
      subst hv
      omega
    · rw [d4]
      exact trivial
    · rw [d5]
      obtain ⟨b, e1, e2⟩ := hb
      show ∀ v ∈ [Value.int (Z (nd n i + 5) 0), .int (Z (nd n i + 5) 1), va_rf (P (nd n i + 5) 2), .int (Z (nd n i + 5) 3), .int (Z (nd n i + 5) 4)], ∀ r : Nat, v = .ref r → r ≤ c
      rw [e1]
      intro v hv r hr
      subst hr
      simp [va_rf] at hv
      subst hv
      rcases e2 with ⟨e3, -⟩ | ⟨q0, q, -⟩
      · rw [e3]
        exact Nat.zero_le _
      · unfold bsA at q0
        omega
    · rw [d6]
      exact trivial
