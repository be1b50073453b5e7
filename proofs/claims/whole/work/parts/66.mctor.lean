/-! the model when it is made -/
abbrev Z00 : Nat → Nat → Int32 := fun _ _ => 0
def PK (k : Nat) : Nat → Nat → Option Nat := fun a j => if a = 1 ∧ 1 ≤ j ∧ j ≤ k then some (j + 1) else none
theorem PK_s {k : Nat} (h : 1 ≤ k) : up2 (PK (k - 1)) 1 k (some (k + 1)) = PK k := by
  funext a j
  unfold up2 PK
  by_cases c : a = 1
  · by_cases c2 : j = k
    · rw [if_pos ⟨c, c2⟩, if_pos ⟨c, by omega, by omega⟩, c2]
    · rw [if_neg (fun q => c2 q.2)]
      by_cases c3 : 1 ≤ j ∧ j ≤ k - 1
      · rw [if_pos ⟨c, c3⟩, if_pos ⟨c, by omega, by omega⟩]
      · rw [if_neg (fun q => c3 q.2), if_neg (fun q => by omega)]
  · rw [if_neg (fun q => c q.1), if_neg (fun q => c q.1), if_neg (fun q => c q.1)]
theorem mst {k t cap : Nat} (hk1 : 1 ≤ k) (ht : t < 2) (hkd : KM (k + 1) = 10 + t) (hl : LM (k + 1) = cap) (hcap : cap < 2 ^ 31) (hr : hm_ref 9 k = true) (f : HP → Option HP) : ((hz_nA (hk k KM LM Z00 (PK (k - 1)) A0) t cap (nI cap)).bind fun h2 => (hz_pF h2 (some 1) 9 k (va_rf (some ((hk k KM LM Z00 (PK (k - 1)) A0).1 + 1)))).bind f) = f (hk (k + 1) KM LM Z00 (PK k) A0) := by
  rw [k0_A (c := k) ht (Nat.le_refl _) hcap hkd hl rfl, Option.bind_some]
  have e1 : (hk k KM LM Z00 (PK (k - 1)) A0).1 = k := rfl
  rw [e1, hk_pFR (by omega) (show KM 1 = 9 from rfl) (by decide) hr, Option.bind_some, PK_s hk1]
theorem M_mk (a : Int32) : f_X9_init (some 1) a (hk 1 KM LM Z00 (PK 0) A0) = (if a < nI 2 then f_X9_init_256 (some 1) (some 1) (hk 29 KM LM Z00 (PK 28) A0) else if nI 7 < a then f_X9_init_256 (some 1) (some 1) (hk 29 KM LM Z00 (PK 28) A0) else f_X9_init_257 (some 1) (some 1) a (hk 29 KM LM Z00 (PK 28) A0)) := by
  unfold f_X9_init
  rw [if_neg (by simp), mst (k := 1) (t := 0) (cap := 7) (by decide) (by decide) rfl rfl (by decide) rfl, mst (k := 2) (t := 0) (cap := 7) (by decide) (by decide) rfl rfl (by decide) rfl, mst (k := 3) (t := 0) (cap := 7) (by decide) (by decide) rfl rfl (by decide) rfl, mst (k := 4) (t := 0) (cap := 420) (by decide) (by decide) rfl rfl (by decide) rfl, mst (k := 5) (t := 0) (cap := 7) (by decide) (by decide) rfl rfl (by decide) rfl, mst (k := 6) (t := 0) (cap := 7) (by decide) (by decide) rfl rfl (by decide) rfl, mst (k := 7) (t := 0) (cap := 7) (by decide) (by decide) rfl rfl (by decide) rfl, mst (k := 8) (t := 0) (cap := 7) (by decide) (by decide) rfl rfl (by decide) rfl, mst (k := 9) (t := 0) (cap := 7) (by decide) (by decide) rfl rfl (by decide) rfl, mst (k := 10) (t := 0) (cap := 7) (by decide) (by decide) rfl rfl (by decide) rfl, mst (k := 11) (t := 0) (cap := 7) (by decide) (by decide) rfl rfl (by decide) rfl, mst (k := 12) (t := 0) (cap := 7) (by decide) (by decide) rfl rfl (by decide) rfl, mst (k := 13) (t := 0) (cap := 49) (by decide) (by decide) rfl rfl (by decide) rfl, mst (k := 14) (t := 0) (cap := 7) (by decide) (by decide) rfl rfl (by decide) rfl, mst (k := 15) (t := 0) (cap := 49) (by decide) (by decide) rfl rfl (by decide) rfl, mst (k := 16) (t := 0) (cap := 49) (by decide) (by decide) rfl rfl (by decide) rfl, mst (k := 17) (t := 0) (cap := 2940) (by decide) (by decide) rfl rfl (by decide) rfl, mst (k := 18) (t := 0) (cap := 140) (by decide) (by decide) rfl rfl (by decide) rfl, mst (k := 19) (t := 0) (cap := 7) (by decide) (by decide) rfl rfl (by decide) rfl, mst (k := 20) (t := 1) (cap := 500) (by decide) (by decide) rfl rfl (by decide) rfl, mst (k := 21) (t := 0) (cap := 501) (by decide) (by decide) rfl rfl (by decide) rfl, mst (k := 22) (t := 0) (cap := 501) (by decide) (by decide) rfl rfl (by decide) rfl, mst (k := 23) (t := 0) (cap := 501) (by decide) (by decide) rfl rfl (by decide) rfl, mst (k := 24) (t := 0) (cap := 501) (by decide) (by decide) rfl rfl (by decide) rfl, mst (k := 25) (t := 0) (cap := 501) (by decide) (by decide) rfl rfl (by decide) rfl, mst (k := 26) (t := 0) (cap := 501) (by decide) (by decide) rfl rfl (by decide) rfl, mst (k := 27) (t := 0) (cap := 30060) (by decide) (by decide) rfl rfl (by decide) rfl, mst (k := 28) (t := 0) (cap := 501) (by decide) (by decide) rfl rfl (by decide) rfl]
theorem mm_P (Z A : Nat → Nat → Int32) : hk 29 KM LM Z (PK 28) A = mm Z A := by
  refine Prod.ext rfl (funext fun a => ?_)
  show hm_c (KM a) (LM a) (Z a) (PK 28 a) (A a) = hm_c (KM a) (LM a) (Z a) (PM a) (A a)
  by_cases c : a = 1
  · subst c
    rfl
  · unfold KM
    rw [if_neg c]
    split <;> rfl
theorem mm_r3 {Z A : Nat → Nat → Int32} : hz_gR (mm Z A) (some 1) 9 3 = some (some 4) := hk_gR (kd := KM) (by omega) rfl (by decide) (by decide)
theorem mm_r12 {Z A : Nat → Nat → Int32} : hz_gR (mm Z A) (some 1) 9 12 = some (some 13) := hk_gR (kd := KM) (by omega) rfl (by decide) (by decide)
theorem mm_i0 {Z A : Nat → Nat → Int32} : hz_gI (mm Z A) (some 1) 9 0 = some (Z 1 0) := hk_gI (kd := KM) (by omega) rfl (by decide) (by decide)
theorem M_initL {n : Nat} (hn : n ≤ 7) {Z : Nat → Nat → Int32} (hZ : Z 1 0 = nI n) : ∀ (m t fuel : Nat) (A : Nat → Nat → Int32), t + m = n → m < fuel → ∃ A' : Nat → Nat → Int32, f_X9_init_262 fuel (some 1) (nI t) (mm Z A) = some (mm Z A') ∧ (∀ r : Nat, ¬ r = 4 → ¬ r = 13 → A' r = A r) ∧ (∀ j : Nat, j < t → A' 4 j = A 4 j ∧ A' 13 j = A 13 j) ∧ ∀ j : Nat, t ≤ j → j < n → A' 4 j = nI (2 ^ n - 1) ∧ A' 13 j = -1
  | 0, t, fuel, A, ht, hf => by
    obtain ⟨fu, rfl⟩ : ∃ fu, fuel = fu + 1 := ⟨fuel - 1, by omega⟩
    rw [f_X9_init_262, mm_i0, Option.bind_some, hZ, if_pos ((nI_leI (by omega) (by omega)).mpr (by omega))]
    exact ⟨A, rfl, fun _ _ _ => rfl, fun _ _ => ⟨rfl, rfl⟩, fun j h1 h2 => by omega⟩
  | m + 1, t, fuel, A, ht, hf => by
    obtain ⟨fu, rfl⟩ : ∃ fu, fuel = fu + 1 := ⟨fuel - 1, by omega⟩
    rw [f_X9_init_262, mm_i0, Option.bind_some, hZ, if_neg (fun q => by have := (nI_leI (by omega) (by omega)).mp q; omega), mm_r3, Option.bind_some, Option.bind_some, bt_all hn, mm_aS (a := 4) (by decide) (show t < 7 by omega), Option.bind_some, mm_r12, Option.bind_some, mm_aS (a := 13) (by decide) (show t < 7 by omega), Option.bind_some, nI_add]
    obtain ⟨A', e, q1, q2, q3⟩ := M_initL hn hZ m (t + 1) fu (up2 (up2 A 4 t (nI (2 ^ n - 1))) 13 t (-1)) (by omega) (by omega)
    refine ⟨A', e, fun r h4 h13 => ?_, fun j hj => ?_, fun j h1 h2 => ?_⟩
    · rw [q1 r h4 h13, up2_row h13, up2_row h4]
    · obtain ⟨w1, w2⟩ := q2 j (by omega)
      rw [w1, w2, up2_k (by omega), up2_k (by omega), up2_k (by omega), up2_k (by omega)]
      exact ⟨rfl, rfl⟩
    · by_cases c : j = t
      · obtain ⟨w1, w2⟩ := q2 j (by omega)
        rw [w1, w2, c, up2_same, up2_a (by decide), up2_same]
        exact ⟨rfl, rfl⟩
      · exact q3 j (by omega) h2
def G00 : GG := (fun _ => 0, fun _ _ => (0, []))
theorem M_made {n : Nat} (hn : 2 ≤ n ∧ n ≤ 7) : ∃ h', f_X9_init_257 (some 1) (some 1) (nI n) (hk 29 KM LM Z00 (PK 28) A0) = some h' ∧ RepM n h' (s0 n) G00 none := by
  rw [mm_P, f_X9_init_257]
  have e0 : hz_pF (mm Z00 A0) (some 1) 9 0 (.int (nI n)) = some (mm (up2 Z00 1 0 (nI n)) A0) := hk_pFI (kd := KM) (by omega) rfl (by decide) (by decide) _
  rw [e0, Option.bind_some]
  have hZ : (up2 Z00 1 0 (nI n)) 1 0 = nI n := up2_same _ _ _ _
  have hZ0 : ∀ k : Nat, ¬ k = 0 → (up2 Z00 1 0 (nI n)) 1 k = 0 := fun k hk2 => up2_k hk2
  obtain ⟨A', e1, q1, q2, q3⟩ := M_initL hn.2 hZ n 0 600 A0 (by omega) (by omega)
  have e00 : f_X9_init_262 600 (some 1) (nI 0) (mm (up2 Z00 1 0 (nI n)) A0) = some (mm (up2 Z00 1 0 (nI n)) A') := e1
  rw [e00]
  have z : ∀ r j : Nat, ¬ r = 4 → ¬ r = 13 → A' r j = nI 0 := fun r j h4 h13 => by
    rw [q1 r h4 h13]
    exact nI_0.symm
  refine ⟨_, rfl, _, A', rfl, ⟨hn, hZ⟩, fun f hf i hi => ?_, fun i hi => ?_, fun g hg i hi j hj => ?_, fun i j hi hj hne => ?_, ⟨fun t ht => ?_, ?_⟩, ⟨(fun _ => false, fun _ => 0, fun _ => 0, fun _ => 0, fun _ => (0, 0, 0, []), fun _ _ => []), fun l hl => ⟨?_, fun q => by cases q⟩, ?_, fun x y hx hy => ⟨List.Pairwise.nil, fun l => ?_, rfl⟩⟩, ⟨fun i hi => ?_, fun i j hi hj => ⟨?_, ?_, by simp [G00], fun t ht => by simp [G00] at ht⟩⟩, fun x y ℓ q => by cases q⟩
  · show A' (mo f) i = nI (if f = 11 then 2 ^ n - 1 else 0)
    by_cases c : f = 11
    · subst c
      exact (q3 i (by omega) hi).1
    · rw [if_neg c]
      obtain ⟨⟨-, -, -, h13, -⟩, -, -, hinj⟩ := mo_i hf
      refine z (mo f) i (fun q => c (hinj 11 rfl q)) h13
  · rw [(q3 i (by omega) hi).2]
    show (-1 : Int32) = nI 0 + (-1)
    decide
  · show A' (ma g) (ml g * i + j) = 0
    rw [z (ma g) _ (by unfold ma; split <;> decide) (by unfold ma; split <;> decide)]
    exact nI_0
  · show A' 14 (7 * i + j) = 0
    rw [z 14 _ (by decide) (by decide)]
    exact nI_0
  · rw [hZ0 (30 + t) (by omega)]
    exact nI_0.symm
  · rw [hZ0 29 (by omega)]
    exact nI_0.symm
  · show A' 21 l = nI 0
    exact z 21 l (by decide) (by decide)
  · show (List.range 500).countP (fun _ => false) = 0
    rw [List.countP_eq_zero]
    simp
  · simp
  · exact z 15 i (by decide) (by decide)
  · exact z 16 _ (by decide) (by decide)
  · exact z 17 _ (by decide) (by decide)
theorem M_ctor (a : Int32) : ∃ h', f_X9_init (some 1) a (hk 1 KM LM Z00 (PK 0) A0) = some h' ∧ RepM (nOf a) h' (s0 (nOf a)) G00 none := by
  obtain ⟨hn, hc⟩ := nOf_s a
  obtain ⟨h', e, R⟩ := M_made hn
  refine ⟨h', ?_, R⟩
  rw [M_mk]
  rcases hc with ⟨c1, c2⟩ | ⟨c1, c2, c3⟩ | ⟨c1, c2, c3⟩
  · rw [if_pos c1, f_X9_init_256, ← c2]
    exact e
  · rw [if_neg c1, if_pos c2, f_X9_init_256, ← c3]
    exact e
  · rw [if_neg c1, if_neg c2]
    generalize nOf a = m at *
    subst c3
    exact e
theorem ok0 {n : Nat} (hn : 2 ≤ n ∧ n ≤ 7) : OkS n 200 (s0 n) := by
  have h := p7 hn.2
  refine ⟨by omega, fun f i hi => ?_, by simp [s0], fun i hi => by simp [s0], fun x y ℓ hx hy hm => by simp [s0] at hm⟩
  show (if f = 11 then 2 ^ n - 1 else 0) ≤ bnd 200 f
  by_cases c : f = 11
  · rw [if_pos c, c]
    simp [bnd]
    omega
  · rw [if_neg c]
    exact Nat.zero_le _
theorem inv0 (n : Nat) : Inv n (s0 n) G00 := by
  refine ⟨fun i hi => ⟨?_, ?_, ?_, Nat.le_refl _, fun j hj => by simp [s0] at hj, fun a ha => by simp [s0] at ha⟩, fun x y hx hy => ⟨fun ℓ hl => by simp [s0] at hl, List.Pairwise.nil⟩, fun i hi => ⟨fun q => ?_, fun q => ?_⟩⟩
  · show 2 ^ n - 1 < 2 ^ n
    have := Nat.two_pow_pos n
    omega
  · show (2 ^ n - 1).testBit i = true
    rw [Nat.testBit_two_pow_sub_one]
    simpa using hi
  · show (0 : Nat).testBit i = false
    exact Nat.zero_testBit i
  · have q' : (0 : Nat) = 3 ∨ (0 : Nat) = 4 := q
    omega
  · have q' : (0 : Nat) = 3 := q
    omega
/-- both are made alike -/
theorem B_new (a : Int32) : ∃ hc hm : HP, f_X8_init (some 1) a (hz_nO (hk 0 (KD (nOf a)) (LN (nOf a)) (fun _ _ => 0) (fun _ _ => none) A0) 8 [.null, .null, .null]) = some hc ∧ f_X9_init (some 1) a (hk 1 KM LM Z00 (PK 0) A0) = some hm ∧ RepC (nOf a) hc (s0 (nOf a)) ∧ hc.1 + 1 = bsA (nOf a) ∧ Btx 200 0 hc hm := by
  obtain ⟨hc, e1, R, hc1⟩ := C_ctor a
  obtain ⟨hm, e2, M⟩ := M_ctor a
  exact ⟨hc, hm, e1, e2, R, hc1, nOf a, s0 (nOf a), G00, R, M, ok0 (nOf_s a).1, inv0 _, fun _ _ _ _ => by simp [G00], Nat.le_refl _⟩
