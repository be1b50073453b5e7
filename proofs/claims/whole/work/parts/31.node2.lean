/-! what most hold, and carrying out: the class over a state -/
theorem C_max {a b : Nat} (ha : a < 2 ^ 31) (hb : b < 2 ^ 31) (h : HP) : f_J9_max_7cf53 (nI a) (nI b) h = some (nI (max a b), h) := by
  unfold f_J9_max_7cf53 f_J9_max_7cf53_10
  by_cases c : a < b
  · rw [if_pos ((nI_ltI ha hb).mpr c), Nat.max_eq_right (by omega)]
  · rw [if_neg (fun q => c ((nI_ltI ha hb).mp q)), Nat.max_eq_left (by omega)]
theorem carryN_V (i : Nat) : ∀ (k p : Nat) (s : SS), (∀ f j : Nat, ¬ f = 21 → (carryN i p k s).1 f j = s.1 f j) ∧ (∀ g : Nat, ¬ g = 1 → (carryN i p k s).2.1 g = s.2.1 g) ∧ (carryN i p k s).2.2.1 = s.2.2.1 ∧ (carryN i p k s).2.2.2.1 = s.2.2.2.1 ∧ (∀ t : Nat, ¬ t = 2 → (carryN i p k s).2.2.2.2.1 t = s.2.2.2.2.1 t) ∧ (carryN i p k s).2.2.2.2.2 = s.2.2.2.2.2
  | 0, _, _ => ⟨fun _ _ _ => rfl, fun _ _ => rfl, rfl, rfl, fun _ _ => rfl, rfl⟩
  | k + 1, p, s => by
    obtain ⟨h1, h2, h3, h4, h5, h6⟩ := carryN_V i k (p + 1) (inc 2 (sMach s i (mach (s.1 21 i) (s.2.1 1 i) (s.2.1 0 i p))))
    refine ⟨fun f j hf => (h1 f j hf).trans ?_, fun g hg => (h2 g hg).trans ?_, h3, h4, fun t ht => (h5 t ht).trans ?_, h6⟩
    · show up2 s.1 21 i _ f j = s.1 f j
      exact up2_a hf
    · show up2 s.2.1 1 i _ g = s.2.1 g
      exact up2_row hg
    · show va_up s.2.2.2.2.1 2 _ t = _
      simp [va_up, ht]
theorem OkS.oN {n B i : Nat} (hi : i < n) : ∀ (k p : Nat) {s : SS}, OkS n B s → OkS n B (carryN i p k s)
  | 0, _, _, O => O
  | k + 1, p, s, O => OkS.oN hi k (p + 1) ((O.oM hi _).oI (by decide))
theorem OkS.oT {n B i m : Nat} {s : SS} (O : OkS n B s) (hi : i < n) : OkS n B (carryTo i m s) := by
  obtain ⟨b1, -, b2, -⟩ := O.sml hi
  exact (OkS.oN hi _ _ O).oV (by simp [bnd]; omega)
section N2
variable {n B : Nat} {h : HP} {s : SS}
theorem C_holdersL (R : RepC n h s) (O : OkS n B s) {i k : Nat} (hi : i < n) (hk : k < 2 ^ 31) : ∀ (m t fuel : Nat), t + m = n → m < fuel → f_X4_holdersOf_4 fuel (some (nd n i)) (nI k) (nI (msk (fun j => hld s i j k) t)) (nI t) h = some (nI (msk (fun j => hld s i j k) n), h)
  | 0, t, fuel, ht, hf => by
    obtain ⟨fu, rfl⟩ : ∃ fu, fuel = fu + 1 := ⟨fuel - 1, by omega⟩
    have hn := R.rng
    rw [f_X4_holdersOf_4]
    rw [R.gs hi, Option.bind_some, if_pos ((nI_leI (by omega) (by omega)).mpr (by omega)), show t = n by omega]
  | m + 1, t, fuel, ht, hf => by
    obtain ⟨fu, rfl⟩ : ∃ fu, fuel = fu + 1 := ⟨fuel - 1, by omega⟩
    have hn := R.rng
    obtain ⟨b20, -, -, b11, -⟩ := O.sml hi
    have ih := C_holdersL R O hi hk m (t + 1) fu (by omega) (by omega)
    have hmt : msk (fun j => hld s i j k) t < 128 := msk_128 _ (by omega)
    have hst := (bt_k hmt (show t < 7 by omega)).2.2.1
    rw [f_X4_holdersOf_4]
    rw [R.gs hi, Option.bind_some, if_neg (fun q => by have := (nI_leI (by omega) (by omega)).mp q; omega), R.id hi, Option.bind_some]
    have hms : msk (fun j => hld s i j k) (t + 1) = if hld s i t k then setb (msk (fun j => hld s i j k) t) t else msk (fun j => hld s i j k) t := rfl
    by_cases hti : t = i
    · subst hti
      simp only [if_true, R.r4 hi, R.g20 hi, Option.bind_some, f_X4_holdersOf_36, f_X4_holdersOf_61, R.g11 hi, C_has b11 (show t < 7 by omega), nI_add, hst]
      have hh : hld s t t k = ((s.1 11 t).testBit t && decide (k ≤ s.1 20 t)) := by simp [hld]
      cases hb : (s.1 11 t).testBit t with
      | false =>
        simp only [Bool.false_eq_true, if_false, z0T, if_true]
        rw [hms, hh, hb] at ih
        simpa using ih
      | true =>
        simp only [if_true, z1F, if_false]
        by_cases hc : s.1 20 t < k
        · rw [if_pos ((nI_ltI (by omega) (by omega)).mpr hc)]
          have : ¬ k ≤ s.1 20 t := by omega
          rw [hms, hh, hb] at ih
          simpa [this] using ih
        · rw [if_neg (fun q => hc ((nI_ltI (by omega) (by omega)).mp q))]
          have : k ≤ s.1 20 t := by omega
          rw [hms, hh, hb] at ih
          simpa [this] using ih
    · have hne : ¬ nI t = nI i := fun q => hti ((nI_eq (by omega) (by omega)).mp q)
      rw [if_neg hne]
      simp only [R.r7 hi, Option.bind_some, R.gW hi 2 (by decide) (a := nd n i + 6) rfl (show t < wl n 2 by show t < n; omega), f_X4_holdersOf_36, f_X4_holdersOf_61, R.g11 hi, C_has b11 (show t < 7 by omega), nI_add, hst]
      have hh : hld s i t k = ((s.1 11 i).testBit t && decide (nI k ≤ s.2.1 2 i t)) := by simp [hld, hti]
      cases hb : (s.1 11 i).testBit t with
      | false =>
        simp only [Bool.false_eq_true, if_false, z0T, if_true]
        rw [hms, hh, hb] at ih
        simpa using ih
      | true =>
        simp only [if_true, z1F, if_false]
        by_cases hc : s.2.1 2 i t < nI k
        · rw [if_pos hc]
          have : ¬ nI k ≤ s.2.1 2 i t := Int32.not_le.mpr hc
          rw [hms, hh, hb] at ih
          simpa [this] using ih
        · rw [if_neg hc]
          have : nI k ≤ s.2.1 2 i t := Int32.not_lt.mp hc
          rw [hms, hh, hb] at ih
          simpa [this] using ih
theorem C_holders (R : RepC n h s) (O : OkS n B s) {i k : Nat} (hi : i < n) (hk : k < 2 ^ 31) : f_X4_holdersOf (some (nd n i)) (nI k) h = some (nI (msk (fun j => hld s i j k) n), h) := by
  have hn := R.rng
  exact C_holdersL R O hi hk n 0 600 (by omega) (by omega)
theorem C_hbmL (R : RepC n h s) (O : OkS n B s) {i : Nat} (hi : i < n) : ∀ (k fuel : Nat), k < fuel → k < 2 ^ 31 → f_X4_heldByMost_8 fuel (some (nd n i)) (nI k) h = some (nI (hbm (fun k => decide (n < hcnt n s i k * 2)) k), h)
  | 0, fuel, hf, _ => by
    obtain ⟨fu, rfl⟩ : ∃ fu, fuel = fu + 1 := ⟨fuel - 1, by omega⟩
    rw [f_X4_heldByMost_8]
    rw [if_pos (show nI 0 ≤ 0 by decide)]
    rfl
  | k + 1, fuel, hf, hk => by
    obtain ⟨fu, rfl⟩ : ∃ fu, fuel = fu + 1 := ⟨fuel - 1, by omega⟩
    have hn := R.rng
    have ih := C_hbmL R O hi k fu (by omega) (by omega)
    rw [f_X4_heldByMost_8]
    rw [if_neg (nI_nle (by omega) (by omega))]
    simp only [R.obN hi, if_true, C_holders R O hi hk, Option.bind_some, C_areMost R hi (msk_128 (fun j => hld s i j (k + 1)) hn.2), most, pcn_msk (fun j => hld s i j (k + 1)) hn.2]
    unfold hbm
    by_cases c : n < hcnt n s i (k + 1) * 2
    · have c' : n < List.countP (fun j => hld s i j (k + 1)) (List.range n) * 2 := c
      simp only [c', decide_true, if_true, z1F, if_false, c]
    · have c' : ¬ n < List.countP (fun j => hld s i j (k + 1)) (List.range n) * 2 := c
      simp only [c', decide_false, Bool.false_eq_true, if_false, z0T, if_true, pk_m1, c]
      exact ih
theorem C_hbm (R : RepC n h s) (O : OkS n B s) {i : Nat} (hi : i < n) : f_X4_heldByMost (some (nd n i)) h = some (nI (lookM n s i), h) := by
  obtain ⟨b20, -⟩ := O.sml hi
  simp only [f_X4_heldByMost, R.r4 hi, R.g20 hi, Option.bind_some]
  exact C_hbmL R O hi (s.1 20 i) 600 (by omega) (by omega)
theorem hbm_le (p : Nat → Bool) : ∀ k : Nat, hbm p k ≤ k
  | 0 => Nat.le_refl _
  | k + 1 => by
    unfold hbm
    split
    · exact Nat.le_refl _
    · exact Nat.le_succ_of_le (hbm_le p k)
theorem C_carryL {i e : Nat} (hi : i < n) (he : e ≤ 60) : ∀ (m p fuel : Nat) (h : HP) (s : SS), RepC n h s → OkS n B s → p ≤ 60 → e - p = m → m < fuel → ∃ h', f_X4_carryOutUpTo_17 fuel (some (nd n i)) (nI e) (nI p) h = some h' ∧ RepC n h' (sv 14 i (max (s.1 14 i) e) (carryN i p m s))
  | 0, p, fuel, h, s, R, O, hp, hm, hf => by
    obtain ⟨fu, rfl⟩ : ∃ fu, fuel = fu + 1 := ⟨fuel - 1, by omega⟩
    obtain ⟨-, -, b14, -⟩ := O.sml hi
    rw [f_X4_carryOutUpTo_17]
    rw [if_pos ((nI_leI (by omega) (by omega)).mpr (by omega)), R.g14 hi, Option.bind_some, C_max (by omega) (by omega), Option.bind_some]
    obtain ⟨h1, e1, R1⟩ := R.s14 hi (max (s.1 14 i) e)
    exact ⟨h1, by simp only [e1, Option.bind_some], R1⟩
  | m + 1, p, fuel, h, s, R, O, hp, hm, hf => by
    obtain ⟨fu, rfl⟩ : ∃ fu, fuel = fu + 1 := ⟨fuel - 1, by omega⟩
    obtain ⟨-, b21, b14, -⟩ := O.sml hi
    rw [f_X4_carryOutUpTo_17]
    rw [if_neg (fun q => by have := (nI_leI (by omega) (by omega)).mp q; omega)]
    simp only [R.r5 hi, R.r4 hi, R.row hi, Option.bind_some, R.gW hi 0 (by decide) (a := nd n i + 2) rfl (show p < wl n 0 by show p < 60; omega), R.obM hi, if_true]
    obtain ⟨h1, e1, R1⟩ := C_carryOut R hi b21 (s.2.1 0 i p)
    simp only [e1, Option.bind_some, R1.r3 hi, R1.tl 2 (by decide), nI_add]
    obtain ⟨h2, e2, R2⟩ := R1.sT 2 (by decide) ((sMach s i (mach (s.1 21 i) (s.2.1 1 i) (s.2.1 0 i p))).2.2.2.2.1 2 + 1)
    simp only [e2, Option.bind_some]
    obtain ⟨h3, e3, R3⟩ := C_carryL hi he m (p + 1) fu h2 _ R2 ((O.oM hi (s.2.1 0 i p)).oI (by decide)) (by omega) (by omega) (by omega)
    refine ⟨h3, e3, ?_⟩
    have hv : (sMach s i (mach (s.1 21 i) (s.2.1 1 i) (s.2.1 0 i p))).1 14 i = s.1 14 i := rfl
    have R4 : RepC n h3 (sv 14 i (max ((sMach s i (mach (s.1 21 i) (s.2.1 1 i) (s.2.1 0 i p))).1 14 i) e) (carryN i (p + 1) m (inc 2 (sMach s i (mach (s.1 21 i) (s.2.1 1 i) (s.2.1 0 i p)))))) := R3
    rw [hv] at R4
    exact R4
theorem C_carryTo (R : RepC n h s) (O : OkS n B s) {i m : Nat} (hi : i < n) (hm : m < 2 ^ 31) : ∃ h', f_X4_carryOutUpTo (some (nd n i)) (nI m) h = some h' ∧ RepC n h' (carryTo i m s) := by
  obtain ⟨b20, -, b14, -⟩ := O.sml hi
  simp only [f_X4_carryOutUpTo, R.r4 hi, R.g20 hi, Option.bind_some, C_min hm (show s.1 20 i < 2 ^ 31 by omega), R.g14 hi]
  exact C_carryL hi (show min m (s.1 20 i) ≤ 60 by omega) _ _ 600 h s R O b14 rfl (by omega)
theorem carryTo_V (i m : Nat) (s : SS) : (∀ f j : Nat, ¬ f = 21 → ¬ f = 14 → (carryTo i m s).1 f j = s.1 f j) ∧ (∀ g : Nat, ¬ g = 1 → (carryTo i m s).2.1 g = s.2.1 g) ∧ (carryTo i m s).2.2.1 = s.2.2.1 ∧ (carryTo i m s).2.2.2.1 = s.2.2.2.1 ∧ (∀ t : Nat, ¬ t = 2 → (carryTo i m s).2.2.2.2.1 t = s.2.2.2.2.1 t) ∧ (carryTo i m s).2.2.2.2.2 = s.2.2.2.2.2 := by
  obtain ⟨h1, h2, h3, h4, h5, h6⟩ := carryN_V i (min m (s.1 20 i) - s.1 14 i) (s.1 14 i) s
  refine ⟨fun f j hf hf2 => ?_, h2, h3, h4, h5, h6⟩
  show up2 (carryN i (s.1 14 i) (min m (s.1 20 i) - s.1 14 i) s).1 14 i _ f j = _
  rw [up2_a hf2]
  exact h1 f j hf
theorem C_look (R : RepC n h s) (O : OkS n B s) {i : Nat} (hi : i < n) : ∃ h', f_X4_carryOutWhatMostHold (some (nd n i)) h = some h' ∧ RepC n h' (look n i s) := by
  have hn := R.rng
  obtain ⟨b20, -, b14, -⟩ := O.sml hi
  have hl : lookM n s i ≤ 60 := Nat.le_trans (hbm_le _ _) b20
  simp only [f_X4_carryOutWhatMostHold, f_X4_carryOutWhatMostHold_42, R.obN hi, if_true, C_hbm R O hi, Option.bind_some, R.g14 hi]
  unfold look
  by_cases hc : lookM n s i ≤ s.1 14 i
  · rw [if_pos ((nI_leI (by omega) (by omega)).mpr hc), if_pos hc]
    exact ⟨h, rfl, R⟩
  · rw [if_neg (fun q => hc ((nI_leI (by omega) (by omega)).mp q)), if_neg hc]
    obtain ⟨h1, e1, R1⟩ := C_carryTo R O hi (m := lookM n s i) (by omega)
    have O1 : OkS n B (carryTo i (lookM n s i) s) := O.oT hi
    obtain ⟨v1, -, -, -, v5, -⟩ := carryTo_V i (lookM n s i) s
    have eo : oth (carryTo i (lookM n s i) s) i = oth s i := by
      unfold oth
      rw [v1 11 i (by decide) (by decide)]
    simp only [e1, Option.bind_some, R1.r2 hi, R1.id hi, R1.obN hi, if_true, C_others R1 O1 hi, R1.g10 hi, R1.obP, eo, v1 10 i (by decide) (by decide)]
    obtain ⟨h2, e2, R2⟩ := C_send R1 (x := i) (mask := oth s i) (k := 4) (nr := s.1 10 i) (d := lookM n s i) (b := 0) (xs := []) hi (oth_lt O hi hn.2) O1.2.2.1 (Or.inl ⟨rfl, rfl⟩)
    exact ⟨h2, by simp only [e2, Option.bind_some], R2⟩
theorem OkS.oLook (O : OkS n B s) {i : Nat} (hi : i < n) : OkS n B (look n i s) := by
  obtain ⟨b20, -, b14, -⟩ := O.sml hi
  have hB := O.1
  have hl : lookM n s i ≤ 60 := Nat.le_trans (hbm_le _ _) b20
  unfold look
  split
  · exact O
  · exact OkS.oG ⟨by show 4 ≤ 12; decide, (O.num hi).1, by show lookM n s i ≤ B; omega, by simp⟩ _ _ (O.oT hi)
theorem OkS.oPut (O : OkS n B s) {i : Nat} (hi : i < n) (hd : s.1 20 i < 60) (act : Int32) : OkS n B (putO n i act s) := by
  have hB := O.1
  exact OkS.oG ⟨by show 2 ≤ 12; decide, (O.num hi).1, by show s.1 20 i ≤ B; omega, by simp⟩ _ _ ((O.oV (f := 20) (i := i) (x := s.1 20 i + 1) (by simp [bnd]; omega)).oW (g := 0) (i := i))
end N2
