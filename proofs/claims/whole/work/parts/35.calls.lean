/-! the calls' inner parts over a state -/
def trnS (n i p : Nat) (s : SS) : SS := if ((s.1 9 i = 3 ∨ s.1 9 i = 4) ∧ (s.1 0 i).testBit p = true) ∨ (lub n s i = true ∧ (s.1 11 i).testBit p = true) then flu n i (sv 15 i (setb (s.1 15 i) p) s) else if s.1 9 i = 0 ∧ (p = ld n s i ∨ p + 1 = s.1 16 i) then askS n i (sv 15 i (setb (s.1 15 i) p) s) else sv 15 i (setb (s.1 15 i) p) s
def losS (n i : Nat) (s : SS) : SS := if s.1 9 i = 2 then askS n i s else if s.1 9 i = 0 then s else flu n i s
def telS (n i : Nat) (w : Int32) (s : SS) : Int32 := if w = nI 0 then nI (s.1 8 i) else if w = nI 1 then nI (s.1 9 i) else if w = nI 2 then nI (s.1 10 i) else if w = nI 3 then nI (s.1 11 i) else if w = nI 4 then nI (ld n s i) else if w = nI 5 then nI (s.1 12 i) else if w = nI 6 then nI (s.1 15 i) else if w = nI 7 then nI (s.1 20 i) else if w = nI 8 then nI (s.1 14 i) else if w = nI 9 then nI (s.1 13 i) else if w = nI 10 then (if blk s i = true then nI 1 else nI 0) else if w = nI 11 then (if s.1 9 i = 3 ∨ s.1 9 i = 4 then nI (s.1 0 i) else nI 0) else -1
theorem lfl0 : ((List.range 7).all fun p => (List.range 8).all fun v => decide (nI p = nI v + (-1)) == decide (p + 1 = v)) = true := by decide +kernel
theorem lfl {p v : Nat} (hp : p < 7) (hv : v ≤ 7) : (nI p = nI v + (-1)) = (p + 1 = v) := by
  have h1 := List.all_eq_true.mp lfl0 p (List.mem_range.mpr hp)
  have h2 := List.all_eq_true.mp h1 v (List.mem_range.mpr (by omega))
  simp only [beq_iff_eq, decide_eq_decide] at h2
  exact propext h2
theorem so_ite {c : Prop} [Decidable c] (a b : Int32) (h : HP) : (if c then some (a, h) else some (b, h)) = some (if c then a else b, h) := by
  split <;> rfl
section N5
variable {n B : Nat} {h : HP} {s : SS}
theorem C_trn (R : RepC n h s) (O : OkS n B s) (hB7 : B + 7 < 2 ^ 29) {i p : Nat} (hi : i < n) (hp : p < n) : ∃ h', f_X4_turnAgainst (some (nd n i)) (nI p) h = some h' ∧ RepC n h' (trnS n i p s) := by
  have hn := R.rng
  obtain ⟨-, -, -, b11, b15, b0, -, b9, -, -, b16⟩ := O.sml hi
  have hst := (bt_k b15 (show p < 7 by omega)).2.2
  obtain ⟨h1, e1, R1⟩ := R.s15 hi (setb (s.1 15 i) p)
  replace R1 : RepC n h1 (sv 15 i (setb (s.1 15 i) p) s) := R1
  have O1 : OkS n B (sv 15 i (setb (s.1 15 i) p) s) := O.oV (by simp [bnd]; omega)
  obtain ⟨hf, ef, Rf⟩ := C_flush R1 O1 hB7 hi
  obtain ⟨ha, ea, Ra⟩ := C_ask R1 O1 hB7 hi
  have hl : ld n (sv 15 i (setb (s.1 15 i) p) s) i = ld n s i := rfl
  have hlu : lub n (sv 15 i (setb (s.1 15 i) p) s) i = lub n s i := rfl
  have hld := ld_lt hn.1 s i
  have E61 : f_X4_turnAgainst_61 (some (nd n i)) h1 = some hf := by simp only [f_X4_turnAgainst_61, f_X4_turnAgainst_95, R1.obN hi, if_true, ef, Option.bind_some]
  have E91 : f_X4_turnAgainst_91 (some (nd n i)) h1 = some ha := by simp only [f_X4_turnAgainst_91, f_X4_turnAgainst_95, R1.obN hi, if_true, ea, Option.bind_some]
  have K68 : ∃ h', f_X4_turnAgainst_68 (some (nd n i)) (nI p) h1 = some h' ∧ RepC n h' (if s.1 9 i = 0 ∧ (p = ld n s i ∨ p + 1 = s.1 16 i) then askS n i (sv 15 i (setb (s.1 15 i) p) s) else sv 15 i (setb (s.1 15 i) p) s) := by
    simp only [f_X4_turnAgainst_68, f_X4_turnAgainst_95, R1.v9 hi (v := s.1 9 i) rfl, R1.obN hi, if_true, C_leader R1 O1 hi, hl, R1.g16 hi, Option.bind_some, E91]
    rw [show (sv 15 i (setb (s.1 15 i) p) s).1 16 i = s.1 16 i from rfl]
    simp only [lfl (show p < 7 by omega) b16, pk_nI_inj (show p < 2 ^ 31 by omega) (show ld n s i < 2 ^ 31 by omega)]
    by_cases c1 : s.1 9 i = 0
    · rw [if_pos (show nI (s.1 9 i) = 0 by rw [c1]; rfl)]
      by_cases c2 : p = ld n s i
      · rw [if_pos c2, if_pos ⟨c1, Or.inl c2⟩]
        exact ⟨ha, rfl, Ra⟩
      · rw [if_neg c2]
        by_cases c3 : p + 1 = s.1 16 i
        · rw [if_pos c3, if_pos ⟨c1, Or.inr c3⟩]
          exact ⟨ha, rfl, Ra⟩
        · rw [if_neg c3, if_neg (fun q => q.2.elim c2 c3)]
          exact ⟨h1, rfl, R1⟩
    · rw [if_neg (nI_ne0 (by omega) (by omega)), if_neg (fun q => c1 q.1)]
      exact ⟨h1, rfl, R1⟩
  have K38 : ∃ h', f_X4_turnAgainst_38 (some (nd n i)) (nI p) (nI 0) h1 = some h' ∧ RepC n h' (if lub n s i = true ∧ (s.1 11 i).testBit p = true then flu n i (sv 15 i (setb (s.1 15 i) p) s) else if s.1 9 i = 0 ∧ (p = ld n s i ∨ p + 1 = s.1 16 i) then askS n i (sv 15 i (setb (s.1 15 i) p) s) else sv 15 i (setb (s.1 15 i) p) s) := by
    simp only [f_X4_turnAgainst_38, z0T, if_true, R1.obN hi, C_lub R1 O1 hi, hlu, Option.bind_some]
    cases hb : lub n s i with
    | false =>
      simp only [Bool.false_eq_true, if_false, z0T, if_true, false_and]
      exact K68
    | true =>
      simp only [if_true, z1F, if_false, true_and, R1.v11 hi (v := s.1 11 i) rfl, Option.bind_some, C_has b11 (show p < 7 by omega)]
      cases ht : (s.1 11 i).testBit p with
      | false =>
        simp only [Bool.false_eq_true, if_false, z0T, if_true]
        exact K68
      | true =>
        simp only [if_true, z1F, if_false]
        exact ⟨hf, E61, Rf⟩
  simp only [f_X4_turnAgainst, f_X4_turnAgainst_37, R.g15 hi, Option.bind_some, hst.1, e1, R1.obN hi, if_true, C_isChanging R1 O1 hi, R1.r6 hi, R1.v0 hi (v := s.1 0 i) rfl, C_has b0 (show p < 7 by omega)]
  rw [show (sv 15 i (setb (s.1 15 i) p) s).1 9 i = s.1 9 i from rfl]
  unfold trnS
  by_cases c1 : s.1 9 i = 3 ∨ s.1 9 i = 4
  · simp only [if_pos c1, z1F, if_false, c1, true_and]
    cases ht : (s.1 0 i).testBit p with
    | false =>
      simp only [Bool.false_eq_true, if_false, z0T, if_true, false_or]
      exact K38
    | true =>
      simp only [if_true, z1F, if_false, true_or, f_X4_turnAgainst_38]
      exact ⟨hf, E61, Rf⟩
  · simp only [if_neg c1, z0T, if_true, c1, false_and, false_or]
    exact K38
theorem OkS.oTrn (O : OkS n B s) (hB7 : B + 7 < 2 ^ 29) {i p : Nat} (hi : i < n) (hp : p < n) (hn : n ≤ 7) : OkS n (B + 7) (trnS n i p s) := by
  obtain ⟨-, -, -, b11, b15, b0, -, b9, -, -, b16⟩ := O.sml hi
  have hst := (bt_k b15 (show p < 7 by omega)).2.2
  have O1 : OkS n B (sv 15 i (setb (s.1 15 i) p) s) := O.oV (by simp [bnd]; omega)
  unfold trnS
  split
  · exact O1.oFlu hB7 hi hn
  · split
    · exact O1.oAsk hB7 hi hn
    · exact O1.up (by omega) hB7
theorem C_los (R : RepC n h s) (O : OkS n B s) (hB7 : B + 7 < 2 ^ 29) {i : Nat} (hi : i < n) : ∃ h', f_X4_losePatience (some (nd n i)) h = some h' ∧ RepC n h' (losS n i s) := by
  obtain ⟨-, -, -, -, -, -, -, b9, -⟩ := O.sml hi
  simp only [f_X4_losePatience, f_X4_losePatience_26, R.g9 hi, Option.bind_some, pk_nI_inj (show s.1 9 i < 2 ^ 31 by omega) (show 2 < 2 ^ 31 by omega), R.obN hi, if_true]
  unfold losS
  by_cases c1 : s.1 9 i = 2
  · rw [if_pos c1, if_pos c1]
    obtain ⟨ha, ea, Ra⟩ := C_ask R O hB7 hi
    exact ⟨ha, by rw [ea]; rfl, Ra⟩
  · rw [if_neg c1, if_neg c1]
    by_cases c2 : s.1 9 i = 0
    · rw [if_pos (show nI (s.1 9 i) = 0 by rw [c2]; rfl), if_pos c2]
      exact ⟨h, rfl, R⟩
    · rw [if_neg (nI_ne0 (by omega) (by omega)), if_neg c2]
      obtain ⟨ha, ea, Ra⟩ := C_flush R O hB7 hi
      exact ⟨ha, by rw [ea]; rfl, Ra⟩
theorem OkS.oLos (O : OkS n B s) (hB7 : B + 7 < 2 ^ 29) {i : Nat} (hi : i < n) (hn : n ≤ 7) : OkS n (B + 7) (losS n i s) := by
  unfold losS
  split
  · exact O.oAsk hB7 hi hn
  · split
    · exact O.up (by omega) hB7
    · exact O.oFlu hB7 hi hn
theorem C_tel (R : RepC n h s) (O : OkS n B s) {i : Nat} (hi : i < n) (w : Int32) : f_X4_tell (some (nd n i)) w h = some (telS n i w s, h) := by
  obtain ⟨-, -, -, -, -, -, -, b9, -⟩ := O.sml hi
  simp only [f_X4_tell, f_X4_tell_129, f_X4_tell_148, R.g8 hi, R.g9 hi, R.g10 hi, R.g11 hi, R.g12 hi, R.g13 hi, R.g14 hi, R.g15 hi, R.r4 hi, R.g20 hi, R.obN hi, if_true, Option.bind_some, C_leader R O hi, C_isBlocked R O hi, C_isChanging R O hi, R.r6 hi, R.g0 hi, telS]
  have hb : (if (if blk s i = true then nI 1 else nI 0) = 0 then some (nI 0, h) else some (nI 1, h)) = some (if blk s i = true then nI 1 else nI 0, h) := by
    cases blk s i <;> rfl
  have hc : (if (if s.1 9 i = 3 ∨ s.1 9 i = 4 then nI 1 else nI 0) = 0 then some (nI 0, h) else some (nI (s.1 0 i), h)) = some (if s.1 9 i = 3 ∨ s.1 9 i = 4 then nI (s.1 0 i) else nI 0, h) := by
    by_cases c : s.1 9 i = 3 ∨ s.1 9 i = 4
    · simp only [if_pos c, z1F, if_false]
    · simp only [if_neg c, z0T, if_true]
  rw [hb, hc]
  simp only [so_ite]
end N5
