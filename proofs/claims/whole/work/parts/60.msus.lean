/-! the model's suspect -/
def gTrn (n i p : Nat) (s : SS) (G : GG) : GG := if ((s.1 9 i = 3 ∨ s.1 9 i = 4) ∧ (s.1 0 i).testBit p = true) ∨ (lub n s i = true ∧ (s.1 11 i).testBit p = true) then gFlu n i (sv 15 i (setb (s.1 15 i) p) s) G else if s.1 9 i = 0 ∧ (p = ld n s i ∨ p + 1 = s.1 16 i) then gAsk n i (sv 15 i (setb (s.1 15 i) p) s) G else G
def gSus (n i p : Nat) (s : SS) (G : GG) : GG := if i = p ∨ ¬ s.1 8 i = 0 ∨ (s.1 15 i).testBit p = true then G else gTrn n i p s G
theorem lfl_s {p v : Nat} (hp : p < 7) (hv : v ≤ 7) : (nI v + (-1) = nI p) = (p + 1 = v) := by
  have h := lfl hp hv
  apply propext
  constructor
  · intro q
    rw [← h]
    exact q.symm
  · intro q
    rw [← h] at q
    exact q.symm
section MS
variable {n B : Nat} {h : HP} {s : SS} {G : GG} {K : KK}
theorem M_s147 {p : Nat} {s : SS} {h1 : HP} (R1 : RepM n h1 s G K) (O1 : OkS n B s) {i : Nat} (hi : i < n) (hm : s.1 11 i < 2 ^ n) (hS : s.2.2.2.2.1 0 + 7 < 2 ^ 31) (hB7 : B + 7 < 2 ^ 29) : ∃ h', f_X9_suspect_147 (some 1) (nI i) h1 = some (nI 1, h') ∧ RepM n h' (if s.1 9 i = 0 then askS n i s else s) (if s.1 9 i = 0 then gAsk n i s G else G) K := by
  obtain ⟨-, -, -, -, -, -, -, b9, -⟩ := O1.sml hi
  obtain ⟨ha, ea, Ra⟩ := M_ask R1 O1 hi hm hS hB7
  simp only [f_X9_suspect_147, f_X9_suspect_161, R1.r10, R1.g9 hi, Option.bind_some, R1.ob, if_true, ea]
  by_cases c1 : s.1 9 i = 0
  · rw [if_pos (show nI (s.1 9 i) = 0 by rw [c1]; rfl), if_pos c1, if_pos c1]
    exact ⟨ha, rfl, Ra⟩
  · rw [if_neg (nI_ne0 (by omega) (by omega)), if_neg c1, if_neg c1]
    exact ⟨h1, rfl, R1⟩
theorem M_s128a {s : SS} {h1 : HP} (R1 : RepM n h1 s G K) {i p : Nat} (hi : i < n) (hp : p < 7) (b11 : s.1 11 i < 128) (b16 : s.1 16 i ≤ 7) (hld : ld n s i < 7) : f_X9_suspect_128 (some 1) (nI i) (nI p) h1 = if p = ld n s i then f_X9_suspect_147 (some 1) (nI i) h1 else if p + 1 = s.1 16 i then f_X9_suspect_147 (some 1) (nI i) h1 else some (nI 1, h1) := by
  rw [f_X9_suspect_128, R1.ob, if_pos rfl, M_leader R1 hi b11, Option.bind_some]
  by_cases c2 : p = ld n s i
  · rw [if_pos c2, c2]
    exact if_pos rfl
  · have c2' : ¬ nI (ld n s i) = nI p := fun q => c2 ((nI_eq (by omega) (by omega)).mp q).symm
    rw [if_neg c2, if_neg c2', R1.r12, Option.bind_some, R1.g16 hi, Option.bind_some]
    by_cases c3 : p + 1 = s.1 16 i
    · have c4 : nI (s.1 16 i) + (-1) = nI p := by rw [lfl_s hp b16]; exact c3
      rw [if_pos c3, if_pos c4]
    · have c4 : ¬ nI (s.1 16 i) + (-1) = nI p := by rw [lfl_s hp b16]; exact c3
      rw [if_neg c3, if_neg c4]
      rfl
theorem M_s128 {s : SS} {h1 : HP} (R1 : RepM n h1 s G K) (O1 : OkS n B s) {i p : Nat} (hi : i < n) (hp : p < n) (hm : s.1 11 i < 2 ^ n) (hS : s.2.2.2.2.1 0 + 7 < 2 ^ 31) (hB7 : B + 7 < 2 ^ 29) : ∃ h', f_X9_suspect_128 (some 1) (nI i) (nI p) h1 = some (nI 1, h') ∧ RepM n h' (if s.1 9 i = 0 ∧ (p = ld n s i ∨ p + 1 = s.1 16 i) then askS n i s else s) (if s.1 9 i = 0 ∧ (p = ld n s i ∨ p + 1 = s.1 16 i) then gAsk n i s G else G) K := by
  have hn := R1.rng
  obtain ⟨-, -, -, b11, -, -, -, b9, -, -, b16⟩ := O1.sml hi
  have hld := ld_lt hn.1 s i
  obtain ⟨h2, e2, R2⟩ := M_s147 (p := p) R1 O1 hi hm hS hB7
  rw [M_s128a R1 hi (show p < 7 by omega) b11 b16 (show ld n s i < 7 by omega)]
  by_cases q : p = ld n s i ∨ p + 1 = s.1 16 i
  · refine ⟨h2, ?_, ?_⟩
    · by_cases c2 : p = ld n s i
      · rw [if_pos c2]
        exact e2
      · rw [if_neg c2, if_pos (q.resolve_left c2)]
        exact e2
    · by_cases c : s.1 9 i = 0
      · have cc : s.1 9 i = 0 ∧ (p = ld n s i ∨ p + 1 = s.1 16 i) := ⟨c, q⟩
        rw [if_pos c, if_pos c] at R2
        rw [if_pos cc, if_pos cc]
        exact R2
      · have cc : ¬ (s.1 9 i = 0 ∧ (p = ld n s i ∨ p + 1 = s.1 16 i)) := fun z => c z.1
        rw [if_neg c, if_neg c] at R2
        rw [if_neg cc, if_neg cc]
        exact R2
  · have cc : ¬ (s.1 9 i = 0 ∧ (p = ld n s i ∨ p + 1 = s.1 16 i)) := fun z => q z.2
    refine ⟨h1, ?_, ?_⟩
    · rw [if_neg (fun z => q (Or.inl z)), if_neg (fun z => q (Or.inr z))]
    · rw [if_neg cc, if_neg cc]
      exact R1
theorem M_s90 {s : SS} {h1 : HP} (R1 : RepM n h1 s G K) (O1 : OkS n B s) {i p : Nat} (hi : i < n) (hp : p < n) (hm : s.1 11 i < 2 ^ n) (hS : s.2.2.2.2.1 0 + 7 < 2 ^ 31) (hB7 : B + 7 < 2 ^ 29) : ∃ h', f_X9_suspect_90 (some 1) (nI i) (nI p) h1 = some (nI 1, h') ∧ RepM n h' (if lub n s i = true ∧ (s.1 11 i).testBit p = true then flu n i s else if s.1 9 i = 0 ∧ (p = ld n s i ∨ p + 1 = s.1 16 i) then askS n i s else s) (if lub n s i = true ∧ (s.1 11 i).testBit p = true then gFlu n i s G else if s.1 9 i = 0 ∧ (p = ld n s i ∨ p + 1 = s.1 16 i) then gAsk n i s G else G) K := by
  have hn := R1.rng
  obtain ⟨-, -, -, b11, -, -, -, b9, -, -, b16⟩ := O1.sml hi
  have hB := O1.1
  obtain ⟨n10, n12, -⟩ := O1.num hi
  have hld := ld_lt hn.1 s i
  obtain ⟨hf, ef, Rf⟩ := M_flush R1 O1 hi hm hS hB7
  have K128 := M_s128 R1 O1 hi hp hm hS hB7
  have no : ¬ (lub n s i = true ∧ (s.1 11 i).testBit p = true) → ∃ h', f_X9_suspect_128 (some 1) (nI i) (nI p) h1 = some (nI 1, h') ∧ RepM n h' (if lub n s i = true ∧ (s.1 11 i).testBit p = true then flu n i s else if s.1 9 i = 0 ∧ (p = ld n s i ∨ p + 1 = s.1 16 i) then askS n i s else s) (if lub n s i = true ∧ (s.1 11 i).testBit p = true then gFlu n i s G else if s.1 9 i = 0 ∧ (p = ld n s i ∨ p + 1 = s.1 16 i) then gAsk n i s G else G) K := fun c => by
    rw [if_neg c, if_neg c]
    exact K128
  simp only [f_X9_suspect_90, f_X9_suspect_161, R1.ob, if_true, M_isBlocked R1 hi (show s.1 12 i < 2 ^ 31 by omega) (show s.1 10 i < 2 ^ 31 by omega), M_leader R1 hi b11, Option.bind_some, R1.r3, R1.g11 hi, M_has b11 (show p < 7 by omega), ef]
  by_cases hb : blk s i = true
  · rw [if_pos hb, if_neg (of_eq_false z1F)]
    refine no (fun q => ?_)
    have := q.1
    simp [lub, hb] at this
  · rw [if_neg hb, if_pos (of_eq_true z0T)]
    by_cases c2 : ld n s i = i
    · rw [if_pos (show nI (ld n s i) = nI i by rw [c2])]
      have hl : lub n s i = true := by simp [lub, hb, c2]
      by_cases ht : (s.1 11 i).testBit p = true
      · rw [if_pos ht, if_neg (of_eq_false z1F), if_pos ⟨hl, ht⟩, if_pos ⟨hl, ht⟩]
        exact ⟨hf, rfl, Rf⟩
      · rw [if_neg ht, if_pos (of_eq_true z0T)]
        exact no (fun q => ht q.2)
    · rw [if_neg (show ¬ nI (ld n s i) = nI i from fun q => c2 ((nI_eq (by omega) (by omega)).mp q))]
      refine no (fun q => ?_)
      have := q.1
      simp [lub, c2] at this
theorem M_sus (R : RepM n h s G K) (O : OkS n B s) {i p : Nat} (hi : i < n) (hp : p < n) (hm : s.1 11 i < 2 ^ n) (hS : s.2.2.2.2.1 0 + 7 < 2 ^ 31) (hB7 : B + 7 < 2 ^ 29) : ∃ h', f_X9_suspect (some 1) (nI i) (nI p) h = some (nI (susS n i p s).1, h') ∧ RepM n h' (if i = p ∨ ¬ s.1 8 i = 0 ∨ (s.1 15 i).testBit p = true then s else trnS n i p s) (gSus n i p s G) K := by
  have hn := R.rng
  obtain ⟨-, -, -, b11, b15, b0, -, b9, b8, -, b16⟩ := O.sml hi
  have hst := (bt_k b15 (show p < 7 by omega)).2.2
  have no : (i = p ∨ ¬ s.1 8 i = 0 ∨ (s.1 15 i).testBit p = true) → ∃ h', some (nI 0, h) = some (nI (susS n i p s).1, h') ∧ RepM n h' (if i = p ∨ ¬ s.1 8 i = 0 ∨ (s.1 15 i).testBit p = true then s else trnS n i p s) (gSus n i p s G) K := fun c => by
    unfold susS gSus
    rw [if_pos c, if_pos c, if_pos c]
    exact ⟨h, rfl, R⟩
  obtain ⟨h1, e1, R1⟩ := R.s15 hi (setb (s.1 15 i) p)
  have O1 : OkS n B (sv 15 i (setb (s.1 15 i) p) s) := O.oV (by simp [bnd]; omega)
  have hm1 : (sv 15 i (setb (s.1 15 i) p) s).1 11 i < 2 ^ n := hm
  obtain ⟨hf, ef, Rf⟩ := M_flush R1 O1 hi hm1 hS hB7
  obtain ⟨h9, e9, R9⟩ := M_s90 R1 O1 hi hp hm1 hS hB7
  have v9 : hz_aI h1 (some 11) 0 (nI i) = some (nI (s.1 9 i)) := R1.g9 hi
  have v0 : hz_aI h1 (some 12) 0 (nI i) = some (nI (s.1 0 i)) := R1.g0 hi
  simp only [f_X9_suspect, f_X9_suspect_45, f_X9_suspect_161, R.ob, if_true, M_isNode R hi, M_isNode R hp, Option.bind_some, z1F, if_false, R.r1, R.g8 hi, R.r9, R.g15 hi, M_has b15 (show p < 7 by omega), pk_nI_inj (show i < 2 ^ 31 by omega) (show p < 2 ^ 31 by omega), hst.1, e1]
  by_cases c0 : s.1 8 i = 0
  · rw [if_pos (show nI (s.1 8 i) = 0 by rw [c0]; rfl)]
    by_cases c1 : i = p
    · rw [if_pos c1]
      exact no (Or.inl c1)
    rw [if_neg c1]
    by_cases ht : (s.1 15 i).testBit p = true
    · rw [if_pos ht, if_neg (of_eq_false z1F)]
      exact no (Or.inr (Or.inr ht))
    · have cc : ¬ (i = p ∨ ¬ s.1 8 i = 0 ∨ (s.1 15 i).testBit p = true) := fun q => q.elim c1 (fun z => z.elim (fun y => y c0) ht)
      rw [if_neg ht, if_pos (of_eq_true z0T)]
      simp only [R1.r10, v9, Option.bind_some, R1.r11, v0, M_has b0 (show p < 7 by omega), R1.ob, if_true, ef]
      unfold susS gSus
      rw [if_neg cc, if_neg cc, if_neg cc]
      unfold trnS gTrn
      have K90 : ¬ ((s.1 9 i = 3 ∨ s.1 9 i = 4) ∧ (s.1 0 i).testBit p = true) → RepM n h9 (if ((s.1 9 i = 3 ∨ s.1 9 i = 4) ∧ (s.1 0 i).testBit p = true) ∨ (lub n s i = true ∧ (s.1 11 i).testBit p = true) then flu n i (sv 15 i (setb (s.1 15 i) p) s) else if s.1 9 i = 0 ∧ (p = ld n s i ∨ p + 1 = s.1 16 i) then askS n i (sv 15 i (setb (s.1 15 i) p) s) else sv 15 i (setb (s.1 15 i) p) s) (if ((s.1 9 i = 3 ∨ s.1 9 i = 4) ∧ (s.1 0 i).testBit p = true) ∨ (lub n s i = true ∧ (s.1 11 i).testBit p = true) then gFlu n i (sv 15 i (setb (s.1 15 i) p) s) G else if s.1 9 i = 0 ∧ (p = ld n s i ∨ p + 1 = s.1 16 i) then gAsk n i (sv 15 i (setb (s.1 15 i) p) s) G else G) K := fun c => by
        by_cases c5 : lub n s i = true ∧ (s.1 11 i).testBit p = true
        · have c6 : lub n (sv 15 i (setb (s.1 15 i) p) s) i = true ∧ ((sv 15 i (setb (s.1 15 i) p) s).1 11 i).testBit p = true := c5
          rw [if_pos (Or.inr c5), if_pos (Or.inr c5)]
          rw [if_pos c6, if_pos c6] at R9
          exact R9
        · have c6 : ¬ (lub n (sv 15 i (setb (s.1 15 i) p) s) i = true ∧ ((sv 15 i (setb (s.1 15 i) p) s).1 11 i).testBit p = true) := c5
          have c55 : ¬ (((s.1 9 i = 3 ∨ s.1 9 i = 4) ∧ (s.1 0 i).testBit p = true) ∨ (lub n s i = true ∧ (s.1 11 i).testBit p = true)) := fun q => q.elim c c5
          rw [if_neg c55, if_neg c55]
          rw [if_neg c6, if_neg c6] at R9
          by_cases c7 : s.1 9 i = 0 ∧ (p = ld n s i ∨ p + 1 = s.1 16 i)
          · have c8 : (sv 15 i (setb (s.1 15 i) p) s).1 9 i = 0 ∧ (p = ld n (sv 15 i (setb (s.1 15 i) p) s) i ∨ p + 1 = (sv 15 i (setb (s.1 15 i) p) s).1 16 i) := c7
            rw [if_pos c7, if_pos c7]
            rw [if_pos c8, if_pos c8] at R9
            exact R9
          · have c8 : ¬ ((sv 15 i (setb (s.1 15 i) p) s).1 9 i = 0 ∧ (p = ld n (sv 15 i (setb (s.1 15 i) p) s) i ∨ p + 1 = (sv 15 i (setb (s.1 15 i) p) s).1 16 i)) := c7
            rw [if_neg c7, if_neg c7]
            rw [if_neg c8, if_neg c8] at R9
            exact R9
      by_cases c2 : s.1 9 i < 3
      · rw [if_pos ((nI_ltI (by omega) (by omega)).mpr c2)]
        exact ⟨h9, e9, K90 (fun q => by omega)⟩
      · rw [if_neg (fun q => c2 ((nI_ltI (by omega) (by omega)).mp q))]
        by_cases hv : (s.1 0 i).testBit p = true
        · have c5 : ((s.1 9 i = 3 ∨ s.1 9 i = 4) ∧ (s.1 0 i).testBit p = true) ∨ (lub n s i = true ∧ (s.1 11 i).testBit p = true) := Or.inl ⟨by omega, hv⟩
          rw [if_pos hv, if_neg (of_eq_false z1F), if_pos c5, if_pos c5]
          exact ⟨hf, rfl, Rf⟩
        · rw [if_neg hv, if_pos (of_eq_true z0T)]
          exact ⟨h9, e9, K90 (fun q => hv q.2)⟩
  · rw [if_neg (nI_ne0 (by omega) (by omega))]
    exact no (Or.inr (Or.inl c0))
theorem M_susN (R : RepM n h s G K) {a b : Int32} (ha : (a < 0 ∨ nI n ≤ a) ∨ (b < 0 ∨ nI n ≤ b)) : f_X9_suspect (some 1) a b h = some (-1, h) := by
  have hn := R.rng
  rw [f_X9_suspect, R.ob, if_pos rfl]
  rcases nI_cs hn.2 a with q | ⟨i, hi, rfl⟩
  · simp only [M_isNodeN R q, Option.bind_some, z0T, if_true, f_X9_suspect_16]
  · rcases ha with q | q
    · rcases q with q | q
      · exact absurd q (nI_nn (by omega))
      · have := (nI_leI (by omega) (by omega)).mp q
        omega
    · simp only [M_isNode R hi, M_isNodeN R q, Option.bind_some, R.ob, z0T, z1F, if_true, if_false, f_X9_suspect_16]
theorem M_delN (R : RepM n h s G K) {a b : Int32} (ha : (a < 0 ∨ nI n ≤ a) ∨ (b < 0 ∨ nI n ≤ b)) : f_X9_deliver (some 1) a b h = some (-1, h) := by
  have hn := R.rng
  rw [f_X9_deliver, R.ob, if_pos rfl]
  rcases nI_cs hn.2 a with q | ⟨i, hi, rfl⟩
  · simp only [M_isNodeN R q, Option.bind_some, z0T, if_true, f_X9_deliver_16]
  · rcases ha with q | q
    · rcases q with q | q
      · exact absurd q (nI_nn (by omega))
      · have := (nI_leI (by omega) (by omega)).mp q
        omega
    · simp only [M_isNode R hi, M_isNodeN R q, Option.bind_some, R.ob, z0T, z1F, if_true, if_false, f_X9_deliver_16]
theorem M_delE (R : RepM n h s G K) (hS : s.2.2.2.2.1 0 < 2 ^ 31) {x y : Nat} (hx : x < n) (hy : y < n) (hq : s.2.2.2.1 x y = []) : f_X9_deliver (some 1) (nI x) (nI y) h = some (nI 0, h) := by
  have hn := R.rng
  rw [f_X9_deliver, R.ob, if_pos rfl, M_isNode R hx, Option.bind_some, if_neg (of_eq_false z1F), R.ob, if_pos rfl, M_isNode R hy, Option.bind_some, if_neg (of_eq_false z1F), R.ob, if_pos rfl]
  obtain ⟨Z, A, rfl, r⟩ := R
  obtain ⟨g, P⟩ := r.2.2.2.2.2.2.1
  rw [M_oldest (Z := Z) P hS hn.2 hx hy, Option.bind_some]
  obtain ⟨p1, p2, p3⟩ := P.2.2 x y hx hy
  have hsl : g.2.2.2.2.2 x y = [] := by
    rw [hq] at p3
    exact List.map_eq_nil_iff.mp p3.symm
  rw [hsl, if_pos (show (encO ([] : List Nat).head?, mm Z A).1 = -1 from rfl)]
/-- a letter to a dead one is lost -/
theorem M_delD (R : RepM n h s G K) (O : OkS n B s) {x y : Nat} (hx : x < n) (hy : y < n) {ℓ : LL} {rest : List LL} (hq : s.2.2.2.1 x y = ℓ :: rest) (hS : s.2.2.2.2.1 0 < 2 ^ 31) (h8 : ¬ s.1 8 y = 0) : ∃ h', f_X9_deliver (some 1) (nI x) (nI y) h = some (nI (20 + ℓ.1), h') ∧ RepM n h' (inc 1 (tak x y s)) G none := by
  obtain ⟨-, -, -, -, -, -, -, -, b8, -⟩ := O.sml hy
  obtain ⟨l, Z, A, Z', A', o, hl, rfl, e1, e2, e3, e4, r, hSl, h5⟩ := M_take R hx hy hq hS O.2.2.1
  have R1 : RepM n (mm Z' A') (tak x y s) G none := ⟨Z', A', rfl, r⟩
  have hm : ¬ (nI l, mm Z A).1 = -1 := fun q => nI_nn (show l < 2 ^ 31 by omega) (by rw [show nI l = -1 from q]; decide)
  obtain ⟨h6, e6, R6⟩ := R1.c1 ((tak x y s).2.2.2.2.1 1 + 1)
  obtain ⟨Z6, A6, rfl, r6⟩ := R6
  have hA6 : A6 24 l = nI ℓ.1 := by
    have q := e6
    rw [mm_p31] at q
    have q2 := congrArg (fun z => hz_aI z (some 24) 0 (nI l)) (Option.some.inj q)
    simp only [mm_aI (a := 24) (j := l) (by omega) (show l < 501 by omega)] at q2
    rw [← Option.some.inj q2]
    exact hSl.2.2.1
  have R7 : RepM n (mm Z6 A6) (inc 1 (tak x y s)) G none := ⟨Z6, A6, rfl, r6⟩
  refine ⟨mm Z6 A6, ?_, R7⟩
  rw [f_X9_deliver, R.ob, if_pos rfl, M_isNode R hx, Option.bind_some, if_neg (of_eq_false z1F), R.ob, if_pos rfl, M_isNode R hy, Option.bind_some, if_neg (of_eq_false z1F), R.ob, if_pos rfl, e1, Option.bind_some, if_neg hm]
  simp only [R.r20, Option.bind_some, e2, e3, e4, R1.r1, R1.v8 hy (v := s.1 8 y) rfl]
  rw [if_neg (nI_ne0 (by omega) (by omega))]
  simp only [R1.t1, Option.bind_some, nI_add, e6, R7.r23, mm_aI (Z := Z6) (A := A6) (a := 24) (j := l) (by omega) (show l < 501 by omega), hA6]
/-- a letter to a live one comes -/
theorem M_delC (R : RepM n h s G K) (O : OkS n B s) {x y : Nat} (hx : x < n) (hy : y < n) {ℓ : LL} {rest : List LL} (hq : s.2.2.2.1 x y = ℓ :: rest) (hS : s.2.2.2.2.1 0 < 2 ^ 31) (h8 : s.1 8 y = 0) {s' : SS} {G' : GG} (hc : ∀ h1 : HP, RepM n h1 (tak x y s) G (some (x, y, ℓ)) → ∃ h', f_X9_come (some 1) (nI 500) h1 = some h' ∧ RepM n h' s' G' (some (x, y, ℓ))) : ∃ h', f_X9_deliver (some 1) (nI x) (nI y) h = some (nI ℓ.1, h') ∧ RepM n h' s' G' none := by
  obtain ⟨l, Z, A, Z', A', o, hl, rfl, e1, e2, e3, e4, r, hSl, h5⟩ := M_take R hx hy hq hS O.2.2.1
  have R1 : RepM n (mm Z' A') (tak x y s) G none := ⟨Z', A', rfl, r⟩
  have hm : ¬ (nI l, mm Z A).1 = -1 := fun q => nI_nn (show l < 2 ^ 31 by omega) (by rw [show nI l = -1 from q]; decide)
  obtain ⟨A2, e5, k1, k2, k3, k4⟩ := M_keep (Z := Z') hl hSl
  have R2 : RepM n (mm Z' A2) (tak x y s) G (some (x, y, ℓ)) := ⟨Z', A2, rfl, r.keep k1 k2 k3 k4⟩
  obtain ⟨h3, e6, R3⟩ := hc _ R2
  refine ⟨h3, ?_, R3.drop⟩
  rw [f_X9_deliver, R.ob, if_pos rfl, M_isNode R hx, Option.bind_some, if_neg (of_eq_false z1F), R.ob, if_pos rfl, M_isNode R hy, Option.bind_some, if_neg (of_eq_false z1F), R.ob, if_pos rfl, e1, Option.bind_some, if_neg hm]
  simp only [R.r20, Option.bind_some, e2, e3, e4, R1.r1, R1.v8 hy (v := s.1 8 y) rfl]
  rw [if_pos (show nI (s.1 8 y) = 0 by rw [h8]; rfl)]
  simp only [R1.r23, Option.bind_some, mm_aI (Z := Z') (A := A') (a := 24) (j := l) (by omega) (show l < 501 by omega), hSl.2.2.1, R1.ob, if_true, e5, R2.ob, e6]
end MS
