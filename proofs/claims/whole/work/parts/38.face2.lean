/-! the class's face over a state, public calls -/
section N7
variable {n B : Nat} {h : HP} {s : SS}
theorem nI_cs {n : Nat} (hn : n ≤ 7) (a : Int32) : (a < 0 ∨ nI n ≤ a) ∨ ∃ i : Nat, i < n ∧ a = nI i := by
  by_cases c : a < 0
  · exact Or.inl (Or.inl c)
  · obtain ⟨j, hj, rfl⟩ := nI_of c
    rcases Nat.lt_or_ge j n with q | q
    · exact Or.inr ⟨j, q, rfl⟩
    · exact Or.inl (Or.inr ((nI_leI (by omega) hj).mpr q))
theorem nI_nn {a : Nat} (ha : a < 2 ^ 31) : ¬ nI a < 0 := by
  intro q
  have := (nI_ltI (a := a) (b := 0) ha (by omega)).mp q
  omega
theorem C_find (R : RepC n h s) {i : Nat} (hi : i < n) : f_X8_find (some 1) (nI i) h = some (some (nd n i), h) := by
  have hn := R.rng
  simp only [f_X8_find, f_X8_find_23, if_neg (nI_nn (show i < 2 ^ 31 by omega)), R.c2, R.ndl, Option.bind_some, R.nds hi]
  rw [if_neg (fun q => by have := (nI_leI (by omega) (by omega)).mp q; omega)]
theorem C_findN (R : RepC n h s) {a : Int32} (ha : a < 0 ∨ nI n ≤ a) : f_X8_find (some 1) a h = some (none, h) := by
  by_cases c : a < 0
  · simp only [f_X8_find, f_X8_find_22, f_X8_find_23, if_pos c]
  · have c2 : nI n ≤ a := ha.resolve_left c
    simp only [f_X8_find, f_X8_find_22, f_X8_find_23, if_neg c, R.c2, R.ndl, Option.bind_some, if_pos c2]
def isA (a : Int32) : Bool := decide (nI 1 ≤ a ∧ a ≤ nI 5) || decide ((-8000 : Int32) ≤ a ∧ a ≤ nI 8000 ∧ a - a / nI 8 * nI 8 = 0)
theorem nlt32 {a b : Int32} : ¬ a < b ↔ b ≤ a := Int32.not_lt
theorem C_isAct (a : Int32) (h : HP) : f_X8_isAct a h = some (if isA a = true then nI 1 else nI 0, h) := by
  simp only [f_X8_isAct, f_X8_isAct_12, f_X8_isAct_30, f_X8_isAct_31, f_X8_isAct_47, f_X8_isAct_48, z0T, z1F, if_true, if_false, a0T, a1T, isA]
  by_cases c1 : a < nI 1
  · have d1 : ¬ nI 1 ≤ a := fun q => absurd c1 (nlt32.mpr q)
    rw [if_pos c1]
    by_cases c3 : a < (-8000 : Int32)
    · have d3 : ¬ (-8000 : Int32) ≤ a := fun q => absurd c3 (nlt32.mpr q)
      rw [if_pos c3]
      simp [d1, d3]
    · rw [if_neg c3]
      have d3 := nlt32.mp c3
      by_cases c4 : nI 8000 < a
      · have d4 : ¬ a ≤ nI 8000 := fun q => absurd c4 (nlt32.mpr q)
        rw [if_pos c4]
        simp [d1, d4]
      · rw [if_neg c4]
        have d4 := nlt32.mp c4
        by_cases c5 : a - a / nI 8 * nI 8 = 0
        · rw [if_pos c5]
          simp [d1, d3, d4, c5]
        · rw [if_neg c5]
          simp [d1, c5]
  · have d1 := nlt32.mp c1
    rw [if_neg c1]
    by_cases c2 : nI 5 < a
    · have d2 : ¬ a ≤ nI 5 := fun q => absurd c2 (nlt32.mpr q)
      rw [if_pos c2]
      by_cases c3 : a < (-8000 : Int32)
      · have d3 : ¬ (-8000 : Int32) ≤ a := fun q => absurd c3 (nlt32.mpr q)
        rw [if_pos c3]
        simp [d2, d3]
      · rw [if_neg c3]
        have d3 := nlt32.mp c3
        by_cases c4 : nI 8000 < a
        · have d4 : ¬ a ≤ nI 8000 := fun q => absurd c4 (nlt32.mpr q)
          rw [if_pos c4]
          simp [d2, d4]
        · rw [if_neg c4]
          have d4 := nlt32.mp c4
          by_cases c5 : a - a / nI 8 * nI 8 = 0
          · rw [if_pos c5]
            simp [d2, d3, d4, c5]
          · rw [if_neg c5]
            simp [d2, c5]
    · rw [if_neg c2]
      have d2 := nlt32.mp c2
      simp [d1, d2]
def subS (n i : Nat) (act : Int32) (s : SS) : Nat × SS := if s.1 8 i = 0 then accS n i act s else (0, s)
def susS (n i p : Nat) (s : SS) : Nat × SS := if i = p ∨ ¬ s.1 8 i = 0 ∨ (s.1 15 i).testBit p = true then (0, s) else (1, goS n i (trnS n i p s))
def timS (n i : Nat) (s : SS) : Nat × SS := if ¬ s.1 8 i = 0 ∨ s.1 9 i = 0 then (0, s) else (1, goS n i (losS n i s))
def craS (i : Nat) (s : SS) : Nat × SS := if s.1 8 i = 0 then (1, sv 8 i 1 s) else (0, s)
def delL (n x y : Nat) (ℓ : LL) (s : SS) : Nat × SS := if s.1 8 y = 0 then (ℓ.1, goS n y (recS n y x ℓ (tak x y s))) else (20 + ℓ.1, inc 1 (tak x y s))
theorem C_sub (R : RepC n h s) (O : OkS n B s) {i : Nat} (hi : i < n) {act : Int32} (ha : isA act = true) : ∃ h', f_X8_submit (some 1) (nI i) act h = some (nI (subS n i act s).1, h') ∧ RepC n h' (subS n i act s).2 := by
  simp only [f_X8_submit, f_X8_submit_17, f_X8_submit_35, R.obG, if_true, C_find R hi, Option.bind_some, reduceCtorEq, if_false, C_isAct, ha, z1F, R.obN hi, C_isLive R O hi]
  unfold subS
  by_cases c : s.1 8 i = 0
  · simp only [if_pos c, z1F, if_false]
    obtain ⟨h1, e1, R1⟩ := C_accept R O hi act
    exact ⟨h1, by rw [e1]; rfl, R1⟩
  · simp only [if_neg c, z0T, if_true]
    exact ⟨h, rfl, R⟩
theorem C_subN (R : RepC n h s) {a act : Int32} (ha : (a < 0 ∨ nI n ≤ a) ∨ isA act = false) : f_X8_submit (some 1) a act h = some (-1, h) := by
  have hn := R.rng
  simp only [f_X8_submit, f_X8_submit_17, R.obG, if_true]
  rcases nI_cs hn.2 a with q | ⟨i, hi, rfl⟩
  · simp only [C_findN R q, Option.bind_some, if_true]
  · rcases ha with q | q
    · rcases q with q | q
      · exact absurd q (nI_nn (by omega))
      · have := (nI_leI (by omega) (by omega)).mp q
        omega
    · simp only [C_find R hi, Option.bind_some, reduceCtorEq, if_false, C_isAct, q, Bool.false_eq_true, z0T, if_true]
end N7
section N8
variable {n B : Nat} {h : HP} {s : SS}
theorem C_sus (R : RepC n h s) (O : OkS n B s) (hB7 : B + 14 < 2 ^ 29) {i p : Nat} (hi : i < n) (hp : p < n) : ∃ h', f_X8_suspect (some 1) (nI i) (nI p) h = some (nI (susS n i p s).1, h') ∧ RepC n h' (susS n i p s).2 := by
  have hn := R.rng
  obtain ⟨-, -, -, -, b15, -⟩ := O.sml hi
  simp only [f_X8_suspect, f_X8_suspect_18, f_X8_suspect_43, R.obG, if_true, C_find R hi, C_find R hp, Option.bind_some, reduceCtorEq, if_false, pk_nI_inj (show i < 2 ^ 31 by omega) (show p < 2 ^ 31 by omega), R.obN hi, C_isLive R O hi, R.g15 hi, C_has b15 (show p < 7 by omega)]
  unfold susS
  by_cases c1 : i = p
  · rw [if_pos c1, if_pos (Or.inl c1)]
    exact ⟨h, rfl, R⟩
  rw [if_neg c1]
  by_cases c2 : s.1 8 i = 0
  · simp only [if_pos c2, z1F, if_false]
    cases ht : (s.1 15 i).testBit p with
    | true =>
      simp only [if_true, z1F, if_false, or_true]
      exact ⟨h, rfl, R⟩
    | false =>
      simp only [Bool.false_eq_true, if_false, z0T, if_true, c1, c2, not_true, or_self]
      obtain ⟨h1, e1, R1⟩ := C_trn R O (by omega) hi hp
      obtain ⟨h2, e2, R2⟩ := C_goOn R1 (O.oTrn (by omega) hi hp hn.2) hi
      exact ⟨h2, by simp only [e1, Option.bind_some, R1.obN hi, if_true, e2], R2⟩
  · simp only [if_neg c2, z0T, if_true, c2, not_false_eq_true, true_or, or_true]
    exact ⟨h, rfl, R⟩
theorem C_susN (R : RepC n h s) {a b : Int32} (ha : (a < 0 ∨ nI n ≤ a) ∨ (b < 0 ∨ nI n ≤ b)) : f_X8_suspect (some 1) a b h = some (-1, h) := by
  have hn := R.rng
  simp only [f_X8_suspect, f_X8_suspect_18, R.obG, if_true]
  rcases nI_cs hn.2 a with q | ⟨i, hi, rfl⟩
  · simp only [C_findN R q, Option.bind_some, if_true]
  · rcases ha with q | q
    · rcases q with q | q
      · exact absurd q (nI_nn (by omega))
      · have := (nI_leI (by omega) (by omega)).mp q
        omega
    · simp only [C_find R hi, C_findN R q, Option.bind_some, reduceCtorEq, if_false, R.obG, if_true]
theorem C_tim (R : RepC n h s) (O : OkS n B s) (hB7 : B + 14 < 2 ^ 29) {i : Nat} (hi : i < n) : ∃ h', f_X8_timeout (some 1) (nI i) h = some (nI (timS n i s).1, h') ∧ RepC n h' (timS n i s).2 := by
  have hn := R.rng
  obtain ⟨-, -, -, -, -, -, -, b9, -⟩ := O.sml hi
  simp only [f_X8_timeout, f_X8_timeout_26, R.obG, if_true, C_find R hi, Option.bind_some, reduceCtorEq, if_false, R.obN hi, C_isLive R O hi, R.g9 hi]
  unfold timS
  by_cases c2 : s.1 8 i = 0
  · simp only [if_pos c2, z1F, if_false]
    by_cases c3 : s.1 9 i = 0
    · rw [if_pos (show nI (s.1 9 i) = 0 by rw [c3]; rfl), if_pos (Or.inr c3)]
      exact ⟨h, rfl, R⟩
    · rw [if_neg (nI_ne0 (by omega) (by omega)), if_neg (fun q => q.elim (fun z => z c2) c3)]
      obtain ⟨h1, e1, R1⟩ := C_los R O (by omega) hi
      obtain ⟨h2, e2, R2⟩ := C_goOn R1 (O.oLos (by omega) hi hn.2) hi
      exact ⟨h2, by simp only [e1, Option.bind_some, R1.obN hi, if_true, e2], R2⟩
  · simp only [if_neg c2, z0T, if_true, c2, not_false_eq_true, true_or]
    exact ⟨h, rfl, R⟩
theorem C_timN (R : RepC n h s) {a : Int32} (ha : a < 0 ∨ nI n ≤ a) : f_X8_timeout (some 1) a h = some (-1, h) := by
  simp only [f_X8_timeout, R.obG, if_true, C_findN R ha, Option.bind_some]
theorem C_cra (R : RepC n h s) (O : OkS n B s) {i : Nat} (hi : i < n) : ∃ h', f_X8_crash (some 1) (nI i) h = some (nI (craS i s).1, h') ∧ RepC n h' (craS i s).2 := by
  simp only [f_X8_crash, f_X8_crash_17, R.obG, if_true, C_find R hi, Option.bind_some, reduceCtorEq, if_false, R.obN hi, C_isLive R O hi]
  unfold craS
  by_cases c2 : s.1 8 i = 0
  · simp only [if_pos c2, z1F, if_false]
    obtain ⟨h1, e1, R1⟩ := R.s8 hi 1
    exact ⟨h1, by rw [e1]; rfl, R1⟩
  · simp only [if_neg c2, z0T, if_true]
    exact ⟨h, rfl, R⟩
theorem C_craN (R : RepC n h s) {a : Int32} (ha : a < 0 ∨ nI n ≤ a) : f_X8_crash (some 1) a h = some (nI 0, h) := by
  simp only [f_X8_crash, f_X8_crash_17, R.obG, if_true, C_findN R ha, Option.bind_some]
theorem C_node (R : RepC n h s) (O : OkS n B s) {i : Nat} (hi : i < n) (w : Int32) : f_X8_node (some 1) (nI i) w h = some (telS n i w s, h) := by
  simp only [f_X8_node, f_X8_node_19, R.obG, if_true, C_find R hi, Option.bind_some, reduceCtorEq, if_false, R.obN hi, C_tel R O hi]
theorem C_nodeN (R : RepC n h s) {a : Int32} (ha : a < 0 ∨ nI n ≤ a) (w : Int32) : f_X8_node (some 1) a w h = some (-1, h) := by
  simp only [f_X8_node, f_X8_node_19, R.obG, if_true, C_findN R ha, Option.bind_some]
def helS (i : Nat) (w : Int32) (s : SS) : Int32 := if w < 0 then -100001 else if w < nI (s.1 20 i) then s.2.1 0 i w.toNatClampNeg else -100001
theorem C_held (R : RepC n h s) (O : OkS n B s) {i : Nat} (hi : i < n) (w : Int32) : f_X8_held (some 1) (nI i) w h = some (helS i w s, h) := by
  obtain ⟨b20, -⟩ := O.sml hi
  simp only [f_X8_held, f_X8_held_25, R.obG, if_true, C_find R hi, Option.bind_some, reduceCtorEq, if_false, R.r4 hi, R.g20 hi, R.row hi]
  unfold helS
  by_cases c1 : w < 0
  · rw [if_pos c1, if_pos c1]
  · rw [if_neg c1, if_neg c1]
    by_cases c2 : w < nI (s.1 20 i)
    · rw [if_pos c2, if_pos c2]
      obtain ⟨j, hj, rfl⟩ := nI_of c1
      have := (nI_ltI hj (by omega)).mp c2
      rw [R.gW hi 0 (by decide) (a := nd n i + 2) rfl (show j < 60 by omega), nI_clamp hj]
      rfl
    · rw [if_neg c2, if_neg c2]
theorem C_heldN (R : RepC n h s) {a : Int32} (ha : a < 0 ∨ nI n ≤ a) (w : Int32) : f_X8_held (some 1) a w h = some (-100001, h) := by
  simp only [f_X8_held, f_X8_held_25, R.obG, if_true, C_findN R ha, Option.bind_some]
theorem C_depth (R : RepC n h s) {i : Nat} (hi : i < n) : f_X8_depth (some 1) (nI i) h = some (nI (s.1 21 i), h) := by
  simp only [f_X8_depth, f_X8_depth_21, R.obG, if_true, C_find R hi, Option.bind_some, reduceCtorEq, if_false, R.r5 hi, R.g21 hi]
theorem C_depthN (R : RepC n h s) {a : Int32} (ha : a < 0 ∨ nI n ≤ a) : f_X8_depth (some 1) a h = some (-1, h) := by
  simp only [f_X8_depth, f_X8_depth_21, R.obG, if_true, C_findN R ha, Option.bind_some]
def topS (i : Nat) (x : Int32) (s : SS) : Int32 := if x < 0 then nI 0 else if nI (s.1 21 i) ≤ x then nI 0 else s.2.1 1 i (s.1 21 i - 1 - x.toNatClampNeg)
theorem C_top (R : RepC n h s) (O : OkS n B s) {i : Nat} (hi : i < n) (w : Int32) : f_X8_top (some 1) (nI i) w h = some (topS i w s, h) := by
  obtain ⟨-, b21, -⟩ := O.sml hi
  simp only [f_X8_top, f_X8_top_22, R.obG, if_true, C_find R hi, Option.bind_some, reduceCtorEq, if_false, R.r5 hi, R.obM hi, C_fromTop R hi b21]
  rfl
theorem C_topN (R : RepC n h s) {a : Int32} (ha : a < 0 ∨ nI n ≤ a) (w : Int32) : f_X8_top (some 1) a w h = some (nI 0, h) := by
  simp only [f_X8_top, f_X8_top_22, R.obG, if_true, C_findN R ha, Option.bind_some]
def couS (w : Int32) (s : SS) : Int32 := if w = nI 0 then nI (s.2.2.2.2.1 0) else if w = nI 1 then nI (s.2.2.2.2.1 1) else if w = nI 2 then nI (s.2.2.2.2.1 2) else if w = nI 3 then nI (s.2.2.2.2.1 3) else if w = nI 4 then nI (s.2.2.2.2.1 4) else -1
theorem C_count (R : RepC n h s) (w : Int32) : f_X8_count (some 1) w h = some (couS w s, h) := by
  simp only [f_X8_count, f_X7_tell, R.c0, R.obT, if_true, Option.bind_some, R.tl 0 (by decide), R.tl 1 (by decide), R.tl 2 (by decide), R.tl 3 (by decide), R.tl 4 (by decide), so_ite, couS]
theorem RepC.chn (R : RepC n h s) {x y : Nat} (hx : x < n) (hy : y < n) : hz_gI h (some (5 + (x * n + y))) 1 2 = some (nI (s.2.2.2.1 x y).length) := by
  obtain ⟨c, kd, ln, Z, P, A, Q, rfl, r⟩ := R
  have be := ch_lt hx hy
  have b1 := bs_ge n
  obtain ⟨e1, e2, e3, e4, e5⟩ := r.2.2.2.2.2.2.2.1 x y hx hy
  rw [hk_gI (r.in (by omega) (by omega)) (r.1.2.2.2.2.2.1.2.2 _ be).2 (by decide) (by decide), e3]
theorem RepC.chE (R : RepC n h s) {x y : Nat} (hx : x < n) (hy : y < n) (hq : s.2.2.2.1 x y = []) : hz_gR h (some (5 + (x * n + y))) 1 0 = some none := by
  obtain ⟨c, kd, ln, Z, P, A, Q, rfl, r⟩ := R
  have be := ch_lt hx hy
  have b1 := bs_ge n
  obtain ⟨e1, e2, e3, e4, e5⟩ := r.2.2.2.2.2.2.2.1 x y hx hy
  rw [hq] at e4
  have hQ : Q (x * n + y) = [] := List.eq_nil_of_length_eq_zero e4
  rw [hk_gR (r.in (by omega) (by omega)) (r.1.2.2.2.2.2.1.2.2 _ be).2 (by decide) (by decide), e1, hQ]
  rfl
theorem RepC.chH (R : RepC n h s) {x y : Nat} (hx : x < n) (hy : y < n) {ℓ : LL} {xs : List LL} (hq : s.2.2.2.1 x y = ℓ :: xs) : ∃ l : Nat, hz_gR h (some (5 + (x * n + y))) 1 0 = some (some l) ∧ RepC n h (wX s ((l, true, ℓ) :: s.2.2.2.2.2)) := by
  obtain ⟨c, kd, ln, Z, P, A, Q, rfl, r⟩ := R
  have be := ch_lt hx hy
  have b1 := bs_ge n
  obtain ⟨e1, e2, e3, e4, e5⟩ := r.2.2.2.2.2.2.2.1 x y hx hy
  rw [hq] at e4
  obtain ⟨l, qs, hQ⟩ : ∃ l qs, Q (x * n + y) = l :: qs := by
    cases hQ : Q (x * n + y) with
    | nil => rw [hQ] at e4; simp at e4
    | cons l qs => exact ⟨l, qs, rfl⟩
  obtain ⟨-, z, ez, Lz⟩ := e5 0 l (by rw [hQ]; rfl)
  rw [hq] at ez
  have : z = ℓ := by simpa using ez.symm
  subst this
  refine ⟨l, ?_, c, kd, ln, Z, P, A, Q, rfl, r.pin ⟨fun _ => Lz, fun q => by simp at q⟩⟩
  rw [hk_gR (r.in (by omega) (by omega)) (r.1.2.2.2.2.2.1.2.2 _ be).2 (by decide) (by decide), e1, hQ]
  rfl
theorem C_fly0 (R : RepC n h s) (b : Int32) : f_X8_flying (some 1) (-1) b h = some (nI (s.2.2.2.2.1 5), h) := by
  simp only [f_X8_flying, if_true, R.c1, R.p3, Option.bind_some]
theorem C_fly (R : RepC n h s) {x y : Nat} (hx : x < n) (hy : y < n) : f_X8_flying (some 1) (nI x) (nI y) h = some (nI (s.2.2.2.1 x y).length, h) := by
  have hn := R.rng
  have hm : ¬ nI x = -1 := fun q => nI_nn (show x < 2 ^ 31 by omega) (by rw [q]; decide)
  simp only [f_X8_flying, f_X8_flying_35, if_neg hm, R.c1, R.obP, if_true, Option.bind_some, C_between R hx hy, reduceCtorEq, if_false, R.chn hx hy]
theorem C_flyN (R : RepC n h s) {a b : Int32} (hm : ¬ a = -1) (ha : (a < 0 ∨ nI n ≤ a) ∨ (b < 0 ∨ nI n ≤ b)) : f_X8_flying (some 1) a b h = some (-1, h) := by
  have hn := R.rng
  simp only [f_X8_flying, f_X8_flying_35, if_neg hm, R.c1, R.obP, if_true, Option.bind_some, C_betweenN R (show a < 0 ∨ nI n ≤ a ∨ b < 0 ∨ nI n ≤ b by rcases ha with (q | q) | q <;> simp [q])]
def letL (w : Int32) (ℓ : LL) : Int32 := if w = nI 0 then nI ℓ.1 else if w = nI 1 then nI ℓ.2.1 else if w = nI 2 then nI ℓ.2.2.1 else if w = nI 3 then nI ℓ.2.2.2.length else -1
def letS (w : Int32) (q : List LL) : Int32 := match q with
  | [] => -1
  | ℓ :: _ => letL w ℓ
theorem C_let (R : RepC n h s) {x y : Nat} (hx : x < n) (hy : y < n) (w : Int32) : f_X8_letter (some 1) (nI x) (nI y) w h = some (letS w (s.2.2.2.1 x y), h) := by
  simp only [f_X8_letter, f_X8_letter_24, R.c1, R.obP, if_true, Option.bind_some, C_between R hx hy, reduceCtorEq, if_false]
  cases hq : s.2.2.2.1 x y with
  | nil =>
    simp only [R.chE hx hy hq, Option.bind_some, if_true]
    rfl
  | cons ℓ xs =>
    obtain ⟨l, el, Rl⟩ := R.chH hx hy hq
    obtain ⟨i0, i1, i2, i3⟩ := Rl.lI (l := l) (ℓ := ℓ) List.mem_cons_self
    obtain ⟨b, eb, Rb⟩ := Rl.lA (l := l) (ℓ := ℓ) List.mem_cons_self
    have ea := Rb.aLen (b := b) (xs := ℓ.2.2.2) (Or.inr List.mem_cons_self)
    simp only [el, Option.bind_some, reduceCtorEq, if_false, i3, if_true, f_X2_tell, i0, i1, i2, eb, ea, so_ite]
    rfl
theorem C_letN (R : RepC n h s) {a b : Int32} (ha : (a < 0 ∨ nI n ≤ a) ∨ (b < 0 ∨ nI n ≤ b)) (w : Int32) : f_X8_letter (some 1) a b w h = some (-1, h) := by
  simp only [f_X8_letter, f_X8_letter_24, R.c1, R.obP, if_true, Option.bind_some, C_betweenN R (show a < 0 ∨ nI n ≤ a ∨ b < 0 ∨ nI n ≤ b by rcases ha with (q | q) | q <;> simp [q])]
theorem C_delN (R : RepC n h s) {a b : Int32} (ha : (a < 0 ∨ nI n ≤ a) ∨ (b < 0 ∨ nI n ≤ b)) : f_X8_deliver (some 1) a b h = some (-1, h) := by
  have hn := R.rng
  simp only [f_X8_deliver, f_X8_deliver_26, R.obG, if_true, Option.bind_some, C_betweenN R (show a < 0 ∨ nI n ≤ a ∨ b < 0 ∨ nI n ≤ b by rcases ha with (q | q) | q <;> simp [q])]
  rcases nI_cs hn.2 b with q | ⟨i, hi, rfl⟩
  · simp only [C_findN R q, Option.bind_some, R.c1, R.obP, if_true, C_betweenN R (show a < 0 ∨ nI n ≤ a ∨ b < 0 ∨ nI n ≤ b by rcases ha with (q | q) | q <;> simp [q])]
  · simp only [C_find R hi, Option.bind_some, R.c1, R.obP, if_true, C_betweenN R (show a < 0 ∨ nI n ≤ a ∨ nI i < 0 ∨ nI n ≤ nI i by rcases ha with (q | q) | q <;> simp [q]), reduceCtorEq, if_false]
theorem C_delE (R : RepC n h s) {x y : Nat} (hx : x < n) (hy : y < n) (hq : s.2.2.2.1 x y = []) : f_X8_deliver (some 1) (nI x) (nI y) h = some (nI 0, h) := by
  simp only [f_X8_deliver, f_X8_deliver_26, R.obG, if_true, Option.bind_some, C_find R hy, R.c1, R.obP, C_between R hx hy, reduceCtorEq, if_false, C_takeE R hx hy hq]
theorem tak_ok (O : OkS n B s) (x y : Nat) : OkS n B (tak x y s) := by
  refine ⟨O.1, O.2.1, ?_, O.2.2.2.1, fun a b ℓ ha hb hm => ?_⟩
  · show va_up s.2.2.2.2.1 5 (s.2.2.2.2.1 5 - 1) 5 ≤ 500
    simp only [va_up, if_true]
    have := O.2.2.1
    omega
  · have hm2 : ℓ ∈ up2 s.2.2.2.1 x y (s.2.2.2.1 x y).tail a b := hm
    by_cases e : a = x ∧ b = y
    · obtain ⟨rfl, rfl⟩ := e
      rw [up2_same] at hm2
      exact O.2.2.2.2 _ _ _ ha hb (List.mem_of_mem_tail hm2)
    · simp only [up2, if_neg e] at hm2
      exact O.2.2.2.2 _ _ _ ha hb hm2
theorem C_del (R : RepC n h s) (O : OkS n B s) (hB7 : B + 14 < 2 ^ 29) {x y : Nat} (hx : x < n) (hy : y < n) {ℓ : LL} {xs : List LL} (hq : s.2.2.2.1 x y = ℓ :: xs) (hfl : 1 ≤ s.2.2.2.2.1 5) (hm : ℓ.1 = 11 → ℓ.2.2.1 < 128) : ∃ h', f_X8_deliver (some 1) (nI x) (nI y) h = some (nI (delL n x y ℓ s).1, h') ∧ RepC n h' (delL n x y ℓ s).2 := by
  have hn := R.rng
  have hL : LOk B ℓ := O.2.2.2.2 x y ℓ hx hy (by rw [hq]; exact List.mem_cons_self)
  obtain ⟨l, h1, e1, R1⟩ := C_take R hx hy hq hfl
  have O1 : OkS n B (wX (tak x y s) ((l, true, ℓ) :: s.2.2.2.2.2)) := tak_ok O x y
  have v8 : (wX (tak x y s) ((l, true, ℓ) :: s.2.2.2.2.2)).1 8 y = s.1 8 y := rfl
  simp only [f_X8_deliver, R.obG, if_true, Option.bind_some, C_find R hy, R.c1, R.obP, C_between R hx hy, reduceCtorEq, if_false, e1, R1.obN hy, C_isLive R1 O1 hy, v8]
  unfold delL
  by_cases c : s.1 8 y = 0
  · simp only [if_pos c, z1F, if_false]
    obtain ⟨h2, e2, R2⟩ := C_rec R1 O1 (by omega) hy hx hL hm List.mem_cons_self
    obtain ⟨h3, e3, R3⟩ := C_goOn R2 (O1.oRec (by omega) hy hx hn.2 hL hm) hy
    rw [wX_rec, wX_go] at R3
    obtain ⟨i0, -⟩ := R3.lI (l := l) (ℓ := ℓ) List.mem_cons_self
    refine ⟨h3, by simp only [e2, Option.bind_some, R2.obN hy, if_true, e3, i0], ?_⟩
    have R4 := R3.more (X := s.2.2.2.2.2) (fun w hw => List.mem_cons_of_mem _ hw)
    rw [wX_wX, ← wX_go, ← wX_rec] at R4
    exact R4
  · simp only [if_neg c, z0T, if_true]
    obtain ⟨h2, e2, R2⟩ := R1.sT 1 (by decide) ((wX (tak x y s) ((l, true, ℓ) :: s.2.2.2.2.2)).2.2.2.2.1 1 + 1)
    obtain ⟨i0, -⟩ := R2.lI (l := l) (ℓ := ℓ) List.mem_cons_self
    refine ⟨h2, by simp only [R1.c0, R1.tl 1 (by decide), Option.bind_some, nI_add, e2, i0], ?_⟩
    exact R2.more (X := s.2.2.2.2.2) (fun w hw => List.mem_cons_of_mem _ hw)
end N8
