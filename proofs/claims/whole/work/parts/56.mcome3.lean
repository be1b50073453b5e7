/-! what is told to who flushes: the model over a state -/
section MV8
variable {n B : Nat} {h : HP} {s : SS} {G : GG} {x i : Nat} {ℓ : LL}
theorem M_ent (R : RepM n h s G (some (x, i, ℓ))) (hi : i < n) (hx : x < n) (hl : ℓ.2.2.2.length ≤ 60) : ∃ (h1 h2 h3 : HP) (fu : Nat), hz_aS h (some 16) 0 (nI (7 * i + x)) (nI ℓ.2.2.1) = some h1 ∧ hz_gR h1 (some 1) 9 16 = some (some 17) ∧ hz_gR h1 (some 1) 9 26 = some (some 27) ∧ hz_aI h1 (some 27) 0 (nI 500) = some (nI ℓ.2.2.2.length) ∧ hz_aS h1 (some 17) 0 (nI (7 * i + x)) (nI ℓ.2.2.2.length) = some h2 ∧ f_X9_comeOfView_200 600 (some 1) (nI 500) (nI i) (nI x) (nI 0) h2 = f_X9_comeOfView_200 (fu + 1) (some 1) (nI 500) (nI i) (nI x) (nI ℓ.2.2.2.length) h3 ∧ RepM n h3 s (G.1, up2 G.2 i x (ℓ.2.2.1, ℓ.2.2.2)) (some (x, i, ℓ)) := by
  have hn := R.rng
  obtain ⟨Z, A, rfl, r⟩ := R
  obtain ⟨-, -, -, -, -, h6, h7⟩ := r.2.2.2.2.2.2.2.2 _ _ _ rfl
  obtain ⟨fu, A', e, q1, q2, q3⟩ := M_vcL (Z := Z) (i := i) (j := x) (len := ℓ.2.2.2.length) (by omega) (by omega) hl ℓ.2.2.2.length 0 600 (up2 (up2 A 16 (7 * i + x) (nI ℓ.2.2.1)) 17 (7 * i + x) (nI ℓ.2.2.2.length)) (by rw [up2_row (by decide), up2_row (by decide)]; exact h6) (by omega) (by omega)
  refine ⟨mm Z (up2 A 16 (7 * i + x) (nI ℓ.2.2.1)), mm Z (up2 (up2 A 16 (7 * i + x) (nI ℓ.2.2.1)) 17 (7 * i + x) (nI ℓ.2.2.2.length)), mm Z A', fu, mm_aS (by decide) (show 7 * i + x < 49 by omega) _, hk_gR (kd := KM) (by omega) rfl (by decide) (by decide), mm_r26, by rw [mm_aI (by decide) (show 500 < 501 by decide), up2_row (by decide), h6], mm_aS (by decide) (show 7 * i + x < 49 by omega) _, e, Z, A', rfl, ?_⟩
  refine r.got (fun a ha => by rw [q1 a (by omega), up2_row (by omega), up2_row (by omega)]) ?_
  refine GotR.put hn.2 hi hx r.2.2.2.2.2.2.2.1 (by rw [q1 15 (by decide), up2_row (by decide), up2_row (by decide)]) (fun k hk => ⟨by rw [q1 16 (by decide), up2_row (by decide), up2_k hk], by rw [q1 17 (by decide), up2_k hk, up2_row (by decide)]⟩) (by rw [q1 16 (by decide), up2_row (by decide), up2_same]) (by rw [q1 17 (by decide), up2_same]) hl (fun k hk => by rw [q2 k (by omega), up2_row (by decide), up2_row (by decide)]) (fun t ht => ?_)
  rw [q3 t (by omega) ht, up2_row (by decide), up2_row (by decide)]
  exact h7 t ht
theorem M_come8n (R : RepM n h s G (some (x, i, ℓ))) (O : OkS n B s) (hi : i < n) (hx : x < n) (hL : LOk B ℓ) (hk : ℓ.1 = 8) (hc : ¬ s.1 9 i = 3 ∨ ¬ ℓ.2.1 = s.1 12 i) : f_X9_come (some 1) (nI 500) h = some h := by
  have hn := R.rng
  have hB := O.1
  obtain ⟨b20, b21, b14, b11, b15, b0, b1, b9, -⟩ := O.sml hi
  obtain ⟨b10, b12, -⟩ := O.num hi
  obtain ⟨l1, l2, l3, l4⟩ := hL
  have jn := pk_nI_inj (show ℓ.2.1 < 2 ^ 31 by omega) (show s.1 12 i < 2 ^ 31 by omega)
  have j9 := pk_nI_inj (show s.1 9 i < 2 ^ 31 by omega) (show 3 < 2 ^ 31 by decide)
  rw [M_comeV R (Or.inr (Or.inl hk)), f_X9_comeOfView, R.r23, Option.bind_some, R.kk, Option.bind_some, hk, if_neg (by decide), if_pos rfl, R.r10, Option.bind_some, R.g9 hi, Option.bind_some]
  by_cases c1 : s.1 9 i = 3
  · rw [if_pos (j9.mpr c1), R.r24, Option.bind_some, R.kn, Option.bind_some, R.r8, Option.bind_some, R.g12 hi, Option.bind_some]
    have c2 : ¬ ℓ.2.1 = s.1 12 i := hc.resolve_left (fun q => q c1)
    rw [if_neg (fun q => c2 (jn.mp q))]
    rfl
  · rw [if_neg (fun q => c1 (j9.mp q))]
    rfl
theorem wgh_fr (R : RepM n h s G (some (x, i, ℓ))) : RepM n h (answ i x (wghS i x ℓ s)) G (some (x, i, ℓ)) := by
  have R1 : RepM n h (wghS i x ℓ s) G (some (x, i, ℓ)) := by
    unfold wghS
    split
    · exact ((R.fr (f := 4) rfl (by decide)).fr (f := 3) rfl (by decide)).frb
    · exact R
  exact R1.fr (f := 1) rfl (by decide)
theorem M_come8 (R : RepM n h s G (some (x, i, ℓ))) (O : OkS n B s) (hi : i < n) (hx : x < n) (hL : LOk B ℓ) (hk : ℓ.1 = 8) (c1 : s.1 9 i = 3) (c2 : ℓ.2.1 = s.1 12 i) (c3 : (s.1 0 i).testBit x = true) (hg : G.1 i < 128) {b : Nat} (hG : ∀ a c : Nat, a < n → c < n → (G.2 a c).1 < 2 ^ 31) (h0 : (s.1 0 i).testBit i = true) (hch : setb (G.1 i) x = s.1 0 i → selS (s.1 0 i).testBit (up2 (up2 G.2 i x (ℓ.2.2.1, ℓ.2.2.2)) i i (s.1 13 i, rowL (s.2.1 0 i) (s.1 20 i)) i) n = some b ∧ (up2 (up2 G.2 i x (ℓ.2.2.1, ℓ.2.2.2)) i i (s.1 13 i, rowL (s.2.1 0 i) (s.1 20 i)) i b).2 = (answ i x (wghS i x ℓ s)).2.2.1 i) (hne : ¬ s.1 0 i = 2 ^ i) (hS : s.2.2.2.2.1 0 + 7 < 2 ^ 31) : ∃ (h' : HP) (G' : GG), f_X9_come (some 1) (nI 500) h = some h' ∧ (if setb (G.1 i) x = s.1 0 i then G' = (va_up (va_up G.1 i (setb (G.1 i) x)) i (2 ^ i), up2 (up2 G.2 i x (ℓ.2.2.1, ℓ.2.2.2)) i i (s.1 13 i, rowL (s.2.1 0 i) (s.1 20 i))) else G' = (va_up G.1 i (setb (G.1 i) x), up2 G.2 i x (ℓ.2.2.1, ℓ.2.2.2))) ∧ RepM n h' (if setb (G.1 i) x = s.1 0 i then givS n i (answ i x (wghS i x ℓ s)) else answ i x (wghS i x ℓ s)) G' (some (x, i, ℓ)) := by
  have hn := R.rng
  have hB := O.1
  obtain ⟨b20, b21, b14, b11, b15, b0, b1, b9, -⟩ := O.sml hi
  obtain ⟨b10, b12, -⟩ := O.num hi
  have hL' := hL
  obtain ⟨l1, l2, l3, l4⟩ := hL
  have hst := (bt_k hg (show x < 7 by omega)).2.2
  obtain ⟨h1, e1, R1⟩ := R.sG hi (setb (G.1 i) x)
  obtain ⟨h2, h3, h4, fu, e2, e3, e4, e5, e6, e7, R4⟩ := M_ent R1 hi hx l4
  have gg : hz_aI h4 (some 15) 0 (nI i) = some (nI (setb (G.1 i) x)) := (R4.gG hi).trans (congrArg (fun x => some (nI x)) (va_eq _ _ _))
  have jg := pk_nI_inj (show setb (G.1 i) x < 2 ^ 31 by omega) (show s.1 0 i < 2 ^ 31 by omega)
  have O5 : OkS n B (wghS i x ℓ s) := O.oWgh hx hn.2 hL'
  have hcl := (bt_k (O5.sml hi).2.2.2.2.2.2.1 (show x < 7 by omega)).1.2
  have O6 : OkS n B (answ i x (wghS i x ℓ s)) := O5.oV (f := 1) (by simp [bnd]; omega)
  have R6 := wgh_fr R4
  have t1 : hz_aI h1 (some 26) 0 (nI 500) = some (nI ℓ.2.2.1) := R1.kt
  rw [M_comeV R (Or.inr (Or.inl hk)), f_X9_comeOfView, R.r23, Option.bind_some, R.kk, Option.bind_some, hk, if_neg (by decide), if_pos rfl, R.r10, Option.bind_some, R.g9 hi, Option.bind_some, c1, if_pos rfl, R.r24, Option.bind_some, R.kn, Option.bind_some, R.r8, Option.bind_some, R.g12 hi, Option.bind_some, c2, if_pos rfl, R.r11, Option.bind_some, R.g0 hi, Option.bind_some, M_has b0 (by omega), Option.bind_some, c3]
  simp only [if_true, z1F, if_false, R.r14, R.gG hi, Option.bind_some, hst.1, e1, R1.r15, R1.r25, t1, nI_mul, nI_add, e2, e3, e4, e5, e6, e7]
  rw [f_X9_comeOfView_200, R4.r26, Option.bind_some, R4.ks, Option.bind_some, if_pos ((nI_leI (by omega) (by omega)).mpr (Nat.le_refl _)), R4.r14, Option.bind_some, gg, Option.bind_some, R4.r11, Option.bind_some, R4.g0 hi, Option.bind_some]
  have s1 : (answ i x (wghS i x ℓ s)).1 0 i = s.1 0 i ∧ (answ i x (wghS i x ℓ s)).1 13 i = s.1 13 i ∧ (answ i x (wghS i x ℓ s)).1 20 i = s.1 20 i ∧ (answ i x (wghS i x ℓ s)).2.1 = s.2.1 ∧ (answ i x (wghS i x ℓ s)).2.2.2.2.1 = s.2.2.2.2.1 := by
    unfold answ wghS
    split <;> exact ⟨rfl, rfl, rfl, rfl, rfl⟩
  obtain ⟨s0, s13, s20, sw0, sc0⟩ := s1
  by_cases c4 : setb (G.1 i) x = s.1 0 i
  · rw [if_pos (jg.mpr c4)]
    simp only [if_pos c4]
    obtain ⟨ch1, ch2⟩ := hch c4
    have hG2 : ∀ a c : Nat, a < n → c < n → (up2 G.2 i x (ℓ.2.2.1, ℓ.2.2.2) a c).1 < 2 ^ 31 := fun a c ha hc => by
      by_cases e : a = i ∧ c = x
      · obtain ⟨rfl, rfl⟩ := e
        rw [up2_same]
        show ℓ.2.2.1 < 2 ^ 31
        omega
      · have : up2 G.2 i x (ℓ.2.2.1, ℓ.2.2.2) a c = G.2 a c := by simp only [up2, if_neg e]
        rw [this]
        exact hG a c ha hc
    have key := M_choose (i := i) (b := b) R6 O6 hi hG2 (by rw [s0]; exact h0) (by rw [s0, s13, s20, sw0]; exact ch1) (by rw [s13, s20, sw0]; exact ch2) (by rw [s0]; exact hne) (by rw [sc0]; exact hS)
    rw [s13, s20, sw0] at key
    obtain ⟨h7, e8, R7⟩ := key
    refine ⟨h7, _, ?_, rfl, R7⟩
    rw [if_pos R4.ob, e8]
    rfl
  · rw [if_neg (fun q => c4 (jg.mp q))]
    simp only [if_neg c4]
    exact ⟨h4, _, rfl, rfl, R6⟩
end MV8
