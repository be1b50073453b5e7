/-! the model's public calls, but deliver -/
section MP
variable {n B : Nat} {h : HP} {s : SS} {G : GG} {K : KK}
theorem M_cra (R : RepM n h s G K) (O : OkS n B s) {i : Nat} (hi : i < n) : ∃ h', f_X9_crash (some 1) (nI i) h = some (nI (craS i s).1, h') ∧ RepM n h' (craS i s).2 G K := by
  obtain ⟨-, -, -, -, -, -, -, -, b8, -⟩ := O.sml hi
  simp only [f_X9_crash, f_X9_crash_17, R.ob, if_true, M_isNode R hi, Option.bind_some, z1F, if_false, R.r1, R.g8 hi]
  unfold craS
  by_cases c : s.1 8 i = 0
  · rw [if_pos c, if_pos (show nI (s.1 8 i) = 0 by rw [c]; rfl)]
    obtain ⟨h1, e1, R1⟩ := R.s8 hi 1
    exact ⟨h1, by simp only [e1, Option.bind_some], R1⟩
  · rw [if_neg c, if_neg (nI_ne0 (by omega) (by omega))]
    exact ⟨h, rfl, R⟩
theorem M_craN (R : RepM n h s G K) {a : Int32} (ha : a < 0 ∨ nI n ≤ a) : f_X9_crash (some 1) a h = some (nI 0, h) := by
  simp only [f_X9_crash, f_X9_crash_17, R.ob, if_true, M_isNodeN R ha, Option.bind_some, z0T]
def gLos (n i : Nat) (s : SS) (G : GG) : GG := if s.1 9 i = 2 then gAsk n i s G else if s.1 9 i = 0 then G else gFlu n i s G
def gTim (n i : Nat) (s : SS) (G : GG) : GG := if ¬ s.1 8 i = 0 ∨ s.1 9 i = 0 then G else gLos n i s G
theorem M_tim (R : RepM n h s G K) (O : OkS n B s) {i : Nat} (hi : i < n) (hm : s.1 11 i < 2 ^ n) (hS : s.2.2.2.2.1 0 + 7 < 2 ^ 31) (hB7 : B + 7 < 2 ^ 29) : ∃ h', f_X9_timeout (some 1) (nI i) h = some (nI (timS n i s).1, h') ∧ RepM n h' (if ¬ s.1 8 i = 0 ∨ s.1 9 i = 0 then s else losS n i s) (gTim n i s G) K := by
  obtain ⟨-, -, -, -, -, -, -, b9, b8, -⟩ := O.sml hi
  simp only [f_X9_timeout, f_X9_timeout_28, f_X9_timeout_53, R.ob, if_true, M_isNode R hi, Option.bind_some, z1F, if_false, R.r1, R.g8 hi, R.r10, R.g9 hi]
  unfold timS gTim
  by_cases c : s.1 8 i = 0
  · rw [if_pos (show nI (s.1 8 i) = 0 by rw [c]; rfl)]
    by_cases c3 : s.1 9 i = 0
    · rw [if_pos (show nI (s.1 9 i) = 0 by rw [c3]; rfl), if_pos (show ¬ s.1 8 i = 0 ∨ s.1 9 i = 0 from Or.inr c3), if_pos (show ¬ s.1 8 i = 0 ∨ s.1 9 i = 0 from Or.inr c3), if_pos (show ¬ s.1 8 i = 0 ∨ s.1 9 i = 0 from Or.inr c3)]
      exact ⟨h, rfl, R⟩
    · have c4 : ¬ (¬ s.1 8 i = 0 ∨ s.1 9 i = 0) := fun q => q.elim (fun z => z c) c3
      rw [if_neg (nI_ne0 (by omega) (by omega)), if_neg c4, if_neg c4, if_neg c4]
      unfold losS gLos
      by_cases c5 : s.1 9 i = 2
      · rw [if_pos (show nI (s.1 9 i) = nI 2 by rw [c5]), if_pos c5, if_pos c5]
        obtain ⟨h1, e1, R1⟩ := M_ask R O hi hm hS hB7
        exact ⟨h1, by simp only [e1, Option.bind_some], R1⟩
      · rw [if_neg (show ¬ nI (s.1 9 i) = nI 2 from fun q => c5 ((nI_eq (by omega) (by omega)).mp q)), if_neg c5, if_neg c5, if_neg c3, if_neg c3]
        obtain ⟨h1, e1, R1⟩ := M_flush R O hi hm hS hB7
        exact ⟨h1, by simp only [e1, Option.bind_some], R1⟩
  · have c4 : ¬ s.1 8 i = 0 ∨ s.1 9 i = 0 := Or.inl c
    rw [if_neg (nI_ne0 (by omega) (by omega)), if_pos c4, if_pos c4, if_pos c4]
    exact ⟨h, rfl, R⟩
theorem M_timN (R : RepM n h s G K) {a : Int32} (ha : a < 0 ∨ nI n ≤ a) : f_X9_timeout (some 1) a h = some (-1, h) := by
  simp only [f_X9_timeout, R.ob, if_true, M_isNodeN R ha, Option.bind_some, z0T]
theorem M_node (R : RepM n h s G K) (O : OkS n B s) {i : Nat} (hi : i < n) (w : Int32) : f_X9_node (some 1) (nI i) w h = some (telS n i w s, h) := by
  obtain ⟨-, -, -, b11, -, -, -, b9, b8, -⟩ := O.sml hi
  have hB := O.1
  have b12 : s.1 12 i ≤ B := O.b hi 12
  have b10 : s.1 10 i ≤ B := O.b hi 10
  have e3 : (nI (s.1 9 i) < nI 3) = (s.1 9 i < 3) := propext (nI_ltI (by omega) (by omega))
  have e4 : (s.1 9 i = 3 ∨ s.1 9 i = 4) = ¬ s.1 9 i < 3 := by apply propext; omega
  have bl1 : ((if blk s i = true then nI 1 else nI 0) = 0) = ¬ (blk s i = true) := by
    cases blk s i
    · simp [z0T]
    · simp [z1F]
  simp only [f_X9_node, f_X9_node_154, f_X9_node_175, R.ob, if_true, M_isNode R hi, Option.bind_some, z1F, if_false, R.r1, R.g8 hi, R.r10, R.g9 hi, R.r2, R.g10 hi, R.r3, R.g11 hi, M_leader R hi b11, R.r8, R.g12 hi, R.r9, R.g15 hi, R.r5, R.g20 hi, R.r6, R.g14 hi, R.r7, R.g13 hi, M_isBlocked R hi (show s.1 12 i < 2 ^ 31 by omega) (show s.1 10 i < 2 ^ 31 by omega), R.r11, R.g0 hi, bl1, e3, so_ite, telS, e4, ite_not]
theorem M_nodeN (R : RepM n h s G K) {a : Int32} (ha : a < 0 ∨ nI n ≤ a) (w : Int32) : f_X9_node (some 1) a w h = some (-1, h) := by
  simp only [f_X9_node, R.ob, if_true, M_isNodeN R ha, Option.bind_some, z0T]
theorem M_held (R : RepM n h s G K) (O : OkS n B s) {i : Nat} (hi : i < n) (w : Int32) : f_X9_held (some 1) (nI i) w h = some (helS i w s, h) := by
  obtain ⟨b20, -⟩ := O.sml hi
  have hn := R.rng
  simp only [f_X9_held, f_X9_held_36, f_X9_held_38, R.ob, if_true, M_isNode R hi, Option.bind_some, z1F, if_false, R.r5, R.g20 hi, R.r4]
  unfold helS
  by_cases c1 : w < 0
  · rw [if_pos c1, if_pos c1]
  · rw [if_neg c1, if_neg c1]
    by_cases c2 : w < nI (s.1 20 i)
    · rw [if_neg (fun q => absurd c2 (nlt32.mpr q)), if_pos c2]
      obtain ⟨j, hj, rfl⟩ := nI_of c1
      have := (nI_ltI hj (by omega)).mp c2
      rw [nI_mul, nI_add, R.gR hi (show j < 60 by omega), nI_clamp hj]
      rfl
    · rw [if_pos (nlt32.mp c2), if_neg c2]
theorem M_heldN (R : RepM n h s G K) {a : Int32} (ha : a < 0 ∨ nI n ≤ a) (w : Int32) : f_X9_held (some 1) a w h = some (-100001, h) := by
  simp only [f_X9_held, f_X9_held_36, f_X9_held_38, R.ob, if_true, M_isNodeN R ha, Option.bind_some, z0T]
theorem M_depth (R : RepM n h s G K) {i : Nat} (hi : i < n) : f_X9_depth (some 1) (nI i) h = some (nI (s.1 21 i), h) := by
  simp only [f_X9_depth, f_X9_depth_18, R.ob, if_true, M_isNode R hi, Option.bind_some, z1F, if_false, R.r19, R.g21 hi]
theorem M_depthN (R : RepM n h s G K) {a : Int32} (ha : a < 0 ∨ nI n ≤ a) : f_X9_depth (some 1) a h = some (-1, h) := by
  simp only [f_X9_depth, f_X9_depth_18, R.ob, if_true, M_isNodeN R ha, Option.bind_some, z0T]
theorem M_top (R : RepM n h s G K) (O : OkS n B s) {i : Nat} (hi : i < n) (w : Int32) : f_X9_top (some 1) (nI i) w h = some (topS i w s, h) := by
  obtain ⟨-, b21, -⟩ := O.sml hi
  have hn := R.rng
  simp only [f_X9_top, f_X9_top_45, f_X9_top_46, R.ob, if_true, M_isNode R hi, Option.bind_some, z1F, if_false, R.r19, R.g21 hi, R.r18]
  unfold topS
  by_cases c1 : w < 0
  · rw [if_pos c1, if_pos c1]
  · rw [if_neg c1, if_neg c1]
    by_cases c2 : nI (s.1 21 i) ≤ w
    · rw [if_pos c2, if_pos c2]
    · rw [if_neg c2, if_neg c2]
      obtain ⟨j, hj, rfl⟩ := nI_of c1
      have h3 : ¬ s.1 21 i ≤ j := fun q => c2 ((nI_leI (by omega) hj).mpr q)
      rw [tp1 (show 1 ≤ s.1 21 i by omega), pk_sub (show j ≤ 20 * i + (s.1 21 i - 1) by omega), show 20 * i + (s.1 21 i - 1) - j = 20 * i + (s.1 21 i - 1 - j) by omega, R.gS hi (show s.1 21 i - 1 - j < 20 by omega), nI_clamp hj]
      rfl
theorem M_topN (R : RepM n h s G K) {a : Int32} (ha : a < 0 ∨ nI n ≤ a) (w : Int32) : f_X9_top (some 1) a w h = some (nI 0, h) := by
  simp only [f_X9_top, f_X9_top_45, f_X9_top_46, R.ob, if_true, M_isNodeN R ha, Option.bind_some, z0T]
theorem M_count (R : RepM n h s G K) (w : Int32) : f_X9_count (some 1) w h = some (couS w s, h) := by
  simp only [f_X9_count, R.t0, R.t1, R.t2, R.t3, R.t4, Option.bind_some, so_ite, couS]
theorem M_fly0 (R : RepM n h s G K) (b : Int32) : f_X9_flying (some 1) (-1) b h = some (nI (s.2.2.2.2.1 5), h) := by
  simp only [f_X9_flying, if_true, R.t5, Option.bind_some]
theorem M_fly (R : RepM n h s G K) {x y : Nat} (hx : x < n) (hy : y < n) : f_X9_flying (some 1) (nI x) (nI y) h = some (nI (s.2.2.2.1 x y).length, h) := by
  have hn := R.rng
  have hm : ¬ nI x = -1 := fun q => nI_nn (show x < 2 ^ 31 by omega) (by rw [q]; decide)
  rw [f_X9_flying, if_neg hm, R.ob, if_pos rfl, M_isNode R hx, Option.bind_some, if_neg (of_eq_false z1F), R.ob, if_pos rfl, M_isNode R hy, Option.bind_some, if_neg (of_eq_false z1F)]
  obtain ⟨Z, A, rfl, r⟩ := R
  obtain ⟨g, P⟩ := r.2.2.2.2.2.2.1
  have q := M_flyL (Z := Z) P hn.2 hx hy 500 0 600 (by omega) (by omega)
  rw [pool_len P hx hy] at q
  exact q
theorem M_flyN (R : RepM n h s G K) {a b : Int32} (hm : ¬ a = -1) (ha : (a < 0 ∨ nI n ≤ a) ∨ (b < 0 ∨ nI n ≤ b)) : f_X9_flying (some 1) a b h = some (-1, h) := by
  have hn := R.rng
  rw [f_X9_flying, if_neg hm, R.ob, if_pos rfl]
  rcases nI_cs hn.2 a with q | ⟨i, hi, rfl⟩
  · simp only [M_isNodeN R q, Option.bind_some, z0T, if_true, f_X9_flying_26]
  · rcases ha with q | q
    · rcases q with q | q
      · exact absurd q (nI_nn (by omega))
      · have := (nI_leI (by omega) (by omega)).mp q
        omega
    · simp only [M_isNode R hi, M_isNodeN R q, Option.bind_some, R.ob, z0T, z1F, if_true, if_false, f_X9_flying_26]
theorem M_let (R : RepM n h s G K) (hS : s.2.2.2.2.1 0 < 2 ^ 31) {x y : Nat} (hx : x < n) (hy : y < n) (w : Int32) : f_X9_letter (some 1) (nI x) (nI y) w h = some (letS w (s.2.2.2.1 x y), h) := by
  have hn := R.rng
  rw [f_X9_letter, R.ob, if_pos rfl, M_isNode R hx, Option.bind_some, if_neg (of_eq_false z1F), R.ob, if_pos rfl, M_isNode R hy, Option.bind_some, if_neg (of_eq_false z1F), R.ob, if_pos rfl]
  obtain ⟨Z, A, rfl, r⟩ := R
  obtain ⟨g, P⟩ := r.2.2.2.2.2.2.1
  rw [M_oldest (Z := Z) P hS hn.2 hx hy, Option.bind_some]
  obtain ⟨p1, p2, p3⟩ := P.2.2 x y hx hy
  cases hsl : g.2.2.2.2.2 x y with
  | nil =>
    rw [hsl] at p3
    rw [p3, if_pos (show (encO ([] : List Nat).head?, mm Z A).1 = -1 from rfl)]
    rfl
  | cons l rest =>
    rw [hsl] at p3
    obtain ⟨l1, l2, l3, l4⟩ := (p2 l).mp (by rw [hsl]; exact List.mem_cons_self)
    obtain ⟨⟨-, -, a24, a25, a26, a27, -⟩, -⟩ := (P.1 l l1).2 l2
    have hm : ¬ (encO (l :: rest).head?, mm Z A).1 = -1 := fun q => nI_nn (show l < 2 ^ 31 by omega) (by rw [show nI l = -1 from q]; decide)
    have e0 : encO (l :: rest).head? = nI l := rfl
    rw [p3, if_neg hm]
    simp only [e0, mm_r23, mm_r24, mm_r25, mm_r26, Option.bind_some, mm_aI (Z := Z) (A := A) (a := 24) (j := l) (by omega) (show l < 501 by omega), mm_aI (Z := Z) (A := A) (a := 25) (j := l) (by omega) (show l < 501 by omega), mm_aI (Z := Z) (A := A) (a := 26) (j := l) (by omega) (show l < 501 by omega), mm_aI (Z := Z) (A := A) (a := 27) (j := l) (by omega) (show l < 501 by omega), a24, a25, a26, a27, so_ite]
    rfl
theorem M_letN (R : RepM n h s G K) {a b : Int32} (ha : (a < 0 ∨ nI n ≤ a) ∨ (b < 0 ∨ nI n ≤ b)) (w : Int32) : f_X9_letter (some 1) a b w h = some (-1, h) := by
  have hn := R.rng
  rw [f_X9_letter, R.ob, if_pos rfl]
  rcases nI_cs hn.2 a with q | ⟨i, hi, rfl⟩
  · simp only [M_isNodeN R q, Option.bind_some, z0T, if_true, f_X9_letter_16]
  · rcases ha with q | q
    · rcases q with q | q
      · exact absurd q (nI_nn (by omega))
      · have := (nI_leI (by omega) (by omega)).mp q
        omega
    · simp only [M_isNode R hi, M_isNodeN R q, Option.bind_some, R.ob, z0T, z1F, if_true, if_false, f_X9_letter_16]
end MP
