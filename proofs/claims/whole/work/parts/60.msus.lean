/-! the model's suspect -/
def gTrn (n i p : Nat) (s : SS) (G : GG) : GG := if ((s.1 9 i = 3 ∨ s.1 9 i = 4) ∧ (s.1 0 i).testBit p = true) ∨ (lub n s i = true ∧ (s.1 11 i).testBit p = true) then gFlu n i (sv 15 i (setb (s.1 15 i) p) s) G else if s.1 9 i = 0 ∧ (p = ld n s i ∨ p + 1 = s.1 16 i) then gAsk n i (sv 15 i (setb (s.1 15 i) p) s) G else G
def gSus (n i p : Nat) (s : SS) (G : GG) : GG := if i = p ∨ ¬ s.1 8 i = 0 ∨ (s.1 15 i).testBit p = true then G else gTrn n i p s G
section MS
variable {n B : Nat} {h : HP} {s : SS} {G : GG} {K : KK}
theorem M_sus (R : RepM n h s G K) (O : OkS n B s) {i p : Nat} (hi : i < n) (hp : p < n) (hm : s.1 11 i < 2 ^ n) (hS : s.2.2.2.2.1 0 + 7 < 2 ^ 31) (hB7 : B + 7 < 2 ^ 29) : ∃ h', f_X9_suspect (some 1) (nI i) (nI p) h = some (nI (susS n i p s).1, h') ∧ RepM n h' (if i = p ∨ ¬ s.1 8 i = 0 ∨ (s.1 15 i).testBit p = true then s else trnS n i p s) (gSus n i p s G) K := by
  have hn := R.rng
  obtain ⟨-, -, -, b11, b15, b0, -, b9, b8, -, b16⟩ := O.sml hi
  have hst := (bt_k b15 (show p < 7 by omega)).2.2
  obtain ⟨h1, e1, R1⟩ := R.s15 hi (setb (s.1 15 i) p)
  have O1 : OkS n B (sv 15 i (setb (s.1 15 i) p) s) := O.oV (by simp [bnd]; omega)
  have hB := O.1
  obtain ⟨n10, n12, -⟩ := O.num hi
  obtain ⟨hf, ef, Rf⟩ := M_flush R1 O1 hi (show (sv 15 i (setb (s.1 15 i) p) s).1 11 i < 2 ^ n from hm) hS hB7
  obtain ⟨ha, ea, Ra⟩ := M_ask R1 O1 hi (show (sv 15 i (setb (s.1 15 i) p) s).1 11 i < 2 ^ n from hm) hS hB7
  have hld := ld_lt hn.1 s i
  have eL : f_X9_leader (some 1) (nI i) h1 = some (nI (ld n s i), h1) := M_leader R1 hi (show (sv 15 i (setb (s.1 15 i) p) s).1 11 i < 128 from b11)
  have eB : f_X9_isBlocked (some 1) (nI i) h1 = some (if blk s i = true then nI 1 else nI 0, h1) := M_isBlocked R1 hi (show (sv 15 i (setb (s.1 15 i) p) s).1 12 i < 2 ^ 31 from (by omega : s.1 12 i < 2 ^ 31)) (show (sv 15 i (setb (s.1 15 i) p) s).1 10 i < 2 ^ 31 from (by omega : s.1 10 i < 2 ^ 31))
  have K147 : ∃ h', f_X9_suspect_147 (some 1) (nI i) h1 = some (nI 1, h') ∧ RepM n h' (if s.1 9 i = 0 then askS n i (sv 15 i (setb (s.1 15 i) p) s) else sv 15 i (setb (s.1 15 i) p) s) (if s.1 9 i = 0 then gAsk n i (sv 15 i (setb (s.1 15 i) p) s) G else G) K := by
    simp only [f_X9_suspect_147, f_X9_suspect_161, R1.r10, R1.v9 hi (v := s.1 9 i) rfl, Option.bind_some, R1.ob, if_true, ea]
    by_cases c1 : s.1 9 i = 0
    · rw [if_pos (show nI (s.1 9 i) = 0 by rw [c1]; rfl), if_pos c1, if_pos c1]
      exact ⟨ha, rfl, Ra⟩
    · rw [if_neg (nI_ne0 (by omega) (by omega)), if_neg c1, if_neg c1]
      exact ⟨h1, rfl, R1⟩
  have K128 : ∃ h', f_X9_suspect_128 (some 1) (nI i) (nI p) h1 = some (nI 1, h') ∧ RepM n h' (if s.1 9 i = 0 ∧ (p = ld n s i ∨ p + 1 = s.1 16 i) then askS n i (sv 15 i (setb (s.1 15 i) p) s) else sv 15 i (setb (s.1 15 i) p) s) (if s.1 9 i = 0 ∧ (p = ld n s i ∨ p + 1 = s.1 16 i) then gAsk n i (sv 15 i (setb (s.1 15 i) p) s) G else G) K := by
    have g16 : hz_aI h1 (some 13) 0 (nI i) = some (nI (s.1 16 i) + (-1)) := R1.g16 hi
    simp only [f_X9_suspect_128, R1.ob, if_true, eL, Option.bind_some, R1.r12, g16]
    by_cases c2 : p = ld n s i
    · rw [if_pos (show nI (ld n s i) = nI p by rw [c2])]
      simp only [show (s.1 9 i = 0 ∧ (p = ld n s i ∨ p + 1 = s.1 16 i)) = (s.1 9 i = 0) from propext ⟨fun q => q.1, fun q => ⟨q, Or.inl c2⟩⟩]
      exact K147
    · rw [if_neg (show ¬ nI (ld n s i) = nI p from fun q => c2 ((nI_eq (by omega) (by omega)).mp q).symm)]
      by_cases c3 : p + 1 = s.1 16 i
      · rw [if_pos (show nI (s.1 16 i) + (-1) = nI p from ((lfl (show p < 7 by omega) b16).mpr c3).symm)]
        simp only [show (s.1 9 i = 0 ∧ (p = ld n s i ∨ p + 1 = s.1 16 i)) = (s.1 9 i = 0) from propext ⟨fun q => q.1, fun q => ⟨q, Or.inr c3⟩⟩]
        exact K147
      · have c4 : ¬ (s.1 9 i = 0 ∧ (p = ld n s i ∨ p + 1 = s.1 16 i)) := fun q => q.2.elim c2 c3
        rw [if_neg (show ¬ nI (s.1 16 i) + (-1) = nI p from fun q => c3 ((lfl (show p < 7 by omega) b16).mp q.symm)), if_neg c4, if_neg c4]
        exact ⟨h1, rfl, R1⟩
  have K90 : ∃ h', f_X9_suspect_90 (some 1) (nI i) (nI p) h1 = some (nI 1, h') ∧ RepM n h' (if lub n s i = true ∧ (s.1 11 i).testBit p = true then flu n i (sv 15 i (setb (s.1 15 i) p) s) else if s.1 9 i = 0 ∧ (p = ld n s i ∨ p + 1 = s.1 16 i) then askS n i (sv 15 i (setb (s.1 15 i) p) s) else sv 15 i (setb (s.1 15 i) p) s) (if lub n s i = true ∧ (s.1 11 i).testBit p = true then gFlu n i (sv 15 i (setb (s.1 15 i) p) s) G else if s.1 9 i = 0 ∧ (p = ld n s i ∨ p + 1 = s.1 16 i) then gAsk n i (sv 15 i (setb (s.1 15 i) p) s) G else G) K := by
    simp only [f_X9_suspect_90, f_X9_suspect_161, R1.ob, if_true, eB, eL, Option.bind_some, R1.r3, R1.v11 hi (v := s.1 11 i) rfl, M_has b11 (show p < 7 by omega), ef]
    cases hb : blk s i with
    | true =>
      have c4 : ¬ (lub n s i = true ∧ (s.1 11 i).testBit p = true) := fun q => by
        have := q.1
        simp [lub, hb] at this
      simp only [if_true, z1F, if_false]
      rw [if_neg c4, if_neg c4]
      exact K128
    | false =>
      simp only [Bool.false_eq_true, if_false, z0T, if_true]
      by_cases c2 : ld n s i = i
      · rw [if_pos (show nI (ld n s i) = nI i by rw [c2])]
        have hl : lub n s i = true := by simp [lub, hb, c2]
        cases ht : (s.1 11 i).testBit p with
        | true =>
          simp only [if_true, z1F, if_false, hl, and_self]
          exact ⟨hf, rfl, Rf⟩
        | false =>
          simp only [Bool.false_eq_true, if_false, z0T, if_true, and_false]
          exact K128
      · have c4 : ¬ (lub n s i = true ∧ (s.1 11 i).testBit p = true) := fun q => by
          have := q.1
          simp [lub, c2] at this
        rw [if_neg (show ¬ nI (ld n s i) = nI i from fun q => c2 ((nI_eq (by omega) (by omega)).mp q)), if_neg c4, if_neg c4]
        exact K128
  simp only [f_X9_suspect, f_X9_suspect_45, f_X9_suspect_161, R.ob, if_true, M_isNode R hi, M_isNode R hp, Option.bind_some, z1F, if_false, R.r1, R.g8 hi, R.r9, R.g15 hi, M_has b15 (show p < 7 by omega), pk_nI_inj (show i < 2 ^ 31 by omega) (show p < 2 ^ 31 by omega), hst.1, e1]
  unfold susS gSus
  by_cases c0 : s.1 8 i = 0
  · rw [if_pos (show nI (s.1 8 i) = 0 by rw [c0]; rfl)]
    by_cases c1 : i = p
    · have c4 : i = p ∨ ¬ s.1 8 i = 0 ∨ (s.1 15 i).testBit p = true := Or.inl c1
      rw [if_pos c1, if_pos c4, if_pos c4, if_pos c4]
      exact ⟨h, rfl, R⟩
    rw [if_neg c1]
    cases ht : (s.1 15 i).testBit p with
    | true =>
      simp only [if_true, z1F, if_false, or_true]
      exact ⟨h, rfl, R⟩
    | false =>
      simp only [Bool.false_eq_true, if_false, z0T, if_true, c1, c0, not_true, or_self, R1.r10, R1.v9 hi (v := s.1 9 i) rfl, Option.bind_some, R1.r11, R1.v0 hi (v := s.1 0 i) rfl, M_has b0 (show p < 7 by omega), R1.ob, ef]
      unfold trnS gTrn
      by_cases c2 : s.1 9 i < 3
      · rw [if_pos ((nI_ltI (by omega) (by omega)).mpr c2)]
        have c5 : ((s.1 9 i = 3 ∨ s.1 9 i = 4) ∧ (s.1 0 i).testBit p = true) = False := eq_false (by omega)
        simp only [c5, false_or]
        exact K90
      · rw [if_neg (fun q => c2 ((nI_ltI (by omega) (by omega)).mp q))]
        cases ht : (s.1 0 i).testBit p with
        | true =>
          have c5 : ((s.1 9 i = 3 ∨ s.1 9 i = 4) ∧ true = true) = True := eq_true (by simp; omega)
          simp only [c5, true_or, if_true, z1F, if_false]
          exact ⟨hf, rfl, Rf⟩
        | false =>
          simp only [Bool.false_eq_true, if_false, z0T, if_true, and_false, false_or]
          exact K90
  · have c4 : i = p ∨ ¬ s.1 8 i = 0 ∨ (s.1 15 i).testBit p = true := Or.inr (Or.inl c0)
    rw [if_neg (nI_ne0 (by omega) (by omega)), if_pos c4, if_pos c4, if_pos c4]
    exact ⟨h, rfl, R⟩
theorem M_susN (R : RepM n h s G K) {a b : Int32} (ha : (a < 0 ∨ nI n ≤ a) ∨ (b < 0 ∨ nI n ≤ b)) : f_X9_suspect (some 1) a b h = some (-1, h) := by
  have hn := R.rng
  rw [f_X9_suspect, R.ob, if_pos rfl]
  rcases nI_cs hn.2 a with q | ⟨i, hi, rfl⟩
  · simp only [M_isNodeN R q, Option.bind_some, z0T, if_true, f_X9_suspect_16]
  · rcases ha with q | q
    · rcases q with q | q
      · exact absurd q (nI_nn (by omega))
      · have := (nI_leI (by omega) (by omega)).mp q
        omega
    · simp only [M_isNode R hi, M_isNodeN R q, Option.bind_some, R.ob, z0T, z1F, if_true, if_false, f_X9_suspect_16]
theorem M_delN (R : RepM n h s G K) {a b : Int32} (ha : (a < 0 ∨ nI n ≤ a) ∨ (b < 0 ∨ nI n ≤ b)) : f_X9_deliver (some 1) a b h = some (-1, h) := by
  have hn := R.rng
  rw [f_X9_deliver, R.ob, if_pos rfl]
  rcases nI_cs hn.2 a with q | ⟨i, hi, rfl⟩
  · simp only [M_isNodeN R q, Option.bind_some, z0T, if_true, f_X9_deliver_16]
  · rcases ha with q | q
    · rcases q with q | q
      · exact absurd q (nI_nn (by omega))
      · have := (nI_leI (by omega) (by omega)).mp q
        omega
    · simp only [M_isNode R hi, M_isNodeN R q, Option.bind_some, R.ob, z0T, z1F, if_true, if_false, f_X9_deliver_16]
theorem M_delE (R : RepM n h s G K) (hS : s.2.2.2.2.1 0 < 2 ^ 31) {x y : Nat} (hx : x < n) (hy : y < n) (hq : s.2.2.2.1 x y = []) : f_X9_deliver (some 1) (nI x) (nI y) h = some (nI 0, h) := by
  have hn := R.rng
  rw [f_X9_deliver, R.ob, if_pos rfl, M_isNode R hx, Option.bind_some, if_neg (of_eq_false z1F), R.ob, if_pos rfl, M_isNode R hy, Option.bind_some, if_neg (of_eq_false z1F), R.ob, if_pos rfl]
  obtain ⟨Z, A, rfl, r⟩ := R
  obtain ⟨g, P⟩ := r.2.2.2.2.2.2.1
  rw [M_oldest (Z := Z) P hS hn.2 hx hy, Option.bind_some]
  obtain ⟨p1, p2, p3⟩ := P.2.2 x y hx hy
  have hsl : g.2.2.2.2.2 x y = [] := by
    rw [hq] at p3
    exact List.map_eq_nil_iff.mp p3.symm
  rw [hsl, if_pos (show (encO ([] : List Nat).head?, mm Z A).1 = -1 from rfl)]
/-- a letter to a dead one is lost -/
theorem M_delD (R : RepM n h s G K) (O : OkS n B s) {x y : Nat} (hx : x < n) (hy : y < n) {ℓ : LL} {rest : List LL} (hq : s.2.2.2.1 x y = ℓ :: rest) (hS : s.2.2.2.2.1 0 < 2 ^ 31) (h8 : ¬ s.1 8 y = 0) : ∃ h', f_X9_deliver (some 1) (nI x) (nI y) h = some (nI (20 + ℓ.1), h') ∧ RepM n h' (inc 1 (tak x y s)) G none := by
  obtain ⟨-, -, -, -, -, -, -, -, b8, -⟩ := O.sml hy
  obtain ⟨l, Z, A, Z', A', o, hl, rfl, e1, e2, e3, e4, r, hSl, h5⟩ := M_take R hx hy hq hS O.2.2.1
  have R1 : RepM n (mm Z' A') (tak x y s) G none := ⟨Z', A', rfl, r⟩
  have hm : ¬ (nI l, mm Z A).1 = -1 := fun q => nI_nn (show l < 2 ^ 31 by omega) (by rw [show nI l = -1 from q]; decide)
  obtain ⟨h6, e6, R6⟩ := R1.c1 ((tak x y s).2.2.2.2.1 1 + 1)
  obtain ⟨Z6, A6, rfl, r6⟩ := R6
  have hA6 : A6 24 l = nI ℓ.1 := by
    have q := e6
    rw [mm_p31] at q
    have q2 := congrArg (fun z => hz_aI z (some 24) 0 (nI l)) (Option.some.inj q)
    simp only [mm_aI (a := 24) (j := l) (by omega) (show l < 501 by omega)] at q2
    rw [← Option.some.inj q2]
    exact hSl.2.2.1
  have R7 : RepM n (mm Z6 A6) (inc 1 (tak x y s)) G none := ⟨Z6, A6, rfl, r6⟩
  refine ⟨mm Z6 A6, ?_, R7⟩
  rw [f_X9_deliver, R.ob, if_pos rfl, M_isNode R hx, Option.bind_some, if_neg (of_eq_false z1F), R.ob, if_pos rfl, M_isNode R hy, Option.bind_some, if_neg (of_eq_false z1F), R.ob, if_pos rfl, e1, Option.bind_some, if_neg hm]
  simp only [R.r20, Option.bind_some, e2, e3, e4, R1.r1, R1.v8 hy (v := s.1 8 y) rfl]
  rw [if_neg (nI_ne0 (by omega) (by omega))]
  simp only [R1.t1, Option.bind_some, nI_add, e6, R7.r23, mm_aI (Z := Z6) (A := A6) (a := 24) (j := l) (by omega) (show l < 501 by omega), hA6]
/-- a letter to a live one comes -/
theorem M_delC (R : RepM n h s G K) (O : OkS n B s) {x y : Nat} (hx : x < n) (hy : y < n) {ℓ : LL} {rest : List LL} (hq : s.2.2.2.1 x y = ℓ :: rest) (hS : s.2.2.2.2.1 0 < 2 ^ 31) (h8 : s.1 8 y = 0) {s' : SS} {G' : GG} (hc : ∀ h1 : HP, RepM n h1 (tak x y s) G (some (x, y, ℓ)) → ∃ h', f_X9_come (some 1) (nI 500) h1 = some h' ∧ RepM n h' s' G' (some (x, y, ℓ))) : ∃ h', f_X9_deliver (some 1) (nI x) (nI y) h = some (nI ℓ.1, h') ∧ RepM n h' s' G' none := by
  obtain ⟨l, Z, A, Z', A', o, hl, rfl, e1, e2, e3, e4, r, hSl, h5⟩ := M_take R hx hy hq hS O.2.2.1
  have R1 : RepM n (mm Z' A') (tak x y s) G none := ⟨Z', A', rfl, r⟩
  have hm : ¬ (nI l, mm Z A).1 = -1 := fun q => nI_nn (show l < 2 ^ 31 by omega) (by rw [show nI l = -1 from q]; decide)
  obtain ⟨A2, e5, k1, k2, k3, k4⟩ := M_keep (Z := Z') hl hSl
  have R2 : RepM n (mm Z' A2) (tak x y s) G (some (x, y, ℓ)) := ⟨Z', A2, rfl, r.keep k1 k2 k3 k4⟩
  obtain ⟨h3, e6, R3⟩ := hc _ R2
  refine ⟨h3, ?_, R3.drop⟩
  rw [f_X9_deliver, R.ob, if_pos rfl, M_isNode R hx, Option.bind_some, if_neg (of_eq_false z1F), R.ob, if_pos rfl, M_isNode R hy, Option.bind_some, if_neg (of_eq_false z1F), R.ob, if_pos rfl, e1, Option.bind_some, if_neg hm]
  simp only [R.r20, Option.bind_some, e2, e3, e4, R1.r1, R1.v8 hy (v := s.1 8 y) rfl]
  rw [if_pos (show nI (s.1 8 y) = 0 by rw [h8]; rfl)]
  simp only [R1.r23, Option.bind_some, mm_aI (Z := Z') (A := A') (a := 24) (j := l) (by omega) (show l < 501 by omega), hSl.2.2.1, R1.ob, if_true, e5, R2.ob, e6]
end MS
