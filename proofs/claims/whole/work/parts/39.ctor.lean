/-! the class when it is made -/
section CT
variable {c : Nat} {kd ln : Nat → Nat} {Z : Nat → Nat → Int32} {P : Nat → Nat → Option Nat} {A : Nat → Nat → Int32}
theorem k0_same {x : HC} (hx : hm_c (kd (c + 1)) (ln (c + 1)) (Z (c + 1)) (P (c + 1)) (A (c + 1)) = x) : ((c + 1, va_up (hk c kd ln Z P A).2 (c + 1) x) : HP) = hk (c + 1) kd ln Z P A := by
  refine Prod.ext rfl (funext fun a => ?_)
  by_cases e : a = c + 1
  · subst e
    show va_up (hk c kd ln Z P A).2 (c + 1) x (c + 1) = hm_c (kd (c + 1)) (ln (c + 1)) (Z (c + 1)) (P (c + 1)) (A (c + 1))
    rw [hx]
    simp [va_up]
  · show va_up (hk c kd ln Z P A).2 (c + 1) x a = _
    simp only [va_up, if_neg e]
    rfl
theorem k0_O {ci : Nat} {fs : List Value} (hkd : kd (c + 1) = ci) (hc : ci < 10) (hf : hm_fl ci (Z (c + 1)) (P (c + 1)) = fs) : hz_nO (hk c kd ln Z P A) ci fs = hk (c + 1) kd ln Z P A := by
  refine k0_same (c := c) ?_
  rw [hkd, ← hf]
  exact if_pos hc
theorem k0_A {t cap m : Nat} (ht : t < 2) (hm' : m ≤ cap) (hcap : cap < 2 ^ 31) (hkd : kd (c + 1) = 10 + t) (hl : ln (c + 1) = m) (hA : A (c + 1) = fun _ => 0) : hz_nA (hk c kd ln Z P A) t cap (nI m) = some (hk (c + 1) kd ln Z P A) := by
  unfold hz_nA
  rw [nI_clamp (by omega), if_pos ⟨nI_pos' (by omega), hm'⟩]
  congr 1
  refine k0_same (c := c) ?_
  rw [hkd, hl, hA]
  match t, ht with
  | 0, _ => simp [hm_c]
  | 1, _ => simp [hm_c]
theorem k0_Q {t cap m : Nat} (ht : t = 2 ∨ t = 3) (hm' : m ≤ cap) (hcap : cap < 2 ^ 31) (hkd : kd (c + 1) = 10 + t) (hl : ln (c + 1) = m) (hP : P (c + 1) = fun _ => none) : hz_nQ (hk c kd ln Z P A) t cap (nI m) = some (hk (c + 1) kd ln Z P A) := by
  unfold hz_nQ
  rw [nI_clamp (by omega), if_pos ⟨nI_pos' (by omega), hm'⟩]
  congr 1
  refine k0_same (c := c) ?_
  rw [hkd, hl, hP]
  rcases ht with rfl | rfl <;> simp [hm_c]
theorem hk_aT {a ci : Nat} (t : Nat) (ht : t = 2 ∨ t = 3) (ha : 1 ≤ a ∧ a ≤ c) (hkd : kd a = 10 + t) {j : Nat} (hj : j < ln a) (hl : ln a < 2 ^ 31) {v : Option Nat} (hv : hz_ob (hk c kd ln Z P A) v ci = true) : hz_aT (hk c kd ln Z P A) (some a) t ci (nI j) v = some (hk c kd ln Z (up2 P a j v) A) := by
  have h1 : (nI j).toNatClampNeg = j := nI_clamp (by omega)
  have hq : hz_aq (hk c kd ln Z P A) (some a) t = some (ln a, P a) := by
    show (if 1 ≤ a ∧ a ≤ c then (match (hk c kd ln Z P A).2 a with
      | .inl x => if x.1 = t then (match x.2.2 with
        | .inr (.inr (.inr (.inr f))) => some (x.2.1, f)
        | _ => none) else none
      | .inr _ => none) else none) = _
    rw [if_pos ha, hk_at, hkd]
    rcases ht with rfl | rfl <;> rfl
  unfold hz_aT
  rw [hq]
  show (if (0 ≤ nI j ∧ (nI j).toNatClampNeg < ln a) ∧ _ then some (hz_pQ _ _ _ _ (va_up (P a) (nI j).toNatClampNeg v)) else none) = _
  rw [h1, if_pos ⟨⟨nI_pos' (by omega), hj⟩, hv⟩]
  congr 1
  refine Prod.ext rfl (funext fun b => ?_)
  show va_up (hk c kd ln Z P A).2 a _ b = hm_c (kd b) (ln b) (Z b) (up2 P a j v b) (A b)
  by_cases e : b = a
  · subst e
    rw [up2_at, hkd]
    rcases ht with rfl | rfl <;> simp [va_up, hm_c]
  · rw [up2_row e]
    simp only [va_up, if_neg e]
    rfl
end CT
def KD (n a : Nat) : Nat := if a = 1 then 8 else if a = 2 then 7 else if a = 3 then 5 else if a = 4 then 12 else if a < 5 + n * n then 1 else if a = 5 + n * n then 13 else if (a - (6 + n * n)) % 7 = 0 then 4 else if (a - (6 + n * n)) % 7 = 1 then 6 else if (a - (6 + n * n)) % 7 = 2 then 10 else if (a - (6 + n * n)) % 7 = 3 then 3 else if (a - (6 + n * n)) % 7 = 4 then 10 else if (a - (6 + n * n)) % 7 = 5 then 0 else 10
def LN (n a : Nat) : Nat := if a = 4 then n * n else if a = 5 + n * n then n else if (a - (6 + n * n)) % 7 = 2 then 60 else if (a - (6 + n * n)) % 7 = 4 then 20 else n
def s0 (n : Nat) : SS := (fun f _ => if f = 11 then 2 ^ n - 1 else 0, fun _ _ _ => 0, fun _ => [], fun _ _ => [], fun _ => 0, [])
theorem KD_nd (n i d : Nat) (hd : d < 7) : KD n (nd n i + d) = (if d = 0 then 4 else if d = 1 then 6 else if d = 2 then 10 else if d = 3 then 3 else if d = 4 then 10 else if d = 5 then 0 else 10) := by
  have h1 : nd n i + d - (6 + n * n) = 7 * i + d := by unfold nd; omega
  have h2 := nd_ge n i
  have h3 : (7 * i + d) % 7 = d := by omega
  unfold KD
  rw [if_neg (by omega), if_neg (by omega), if_neg (by omega), if_neg (by omega), if_neg (by omega), if_neg (by omega), h1, h3]
theorem LN_nd (n i d : Nat) (hd : d < 7) : LN n (nd n i + d) = (if d = 2 then 60 else if d = 4 then 20 else n) := by
  have h1 : nd n i + d - (6 + n * n) = 7 * i + d := by unfold nd; omega
  have h2 := nd_ge n i
  have h3 : (7 * i + d) % 7 = d := by omega
  unfold LN
  rw [if_neg (by omega), if_neg (by omega), h1, h3]
def zN (n j : Nat) : Nat → Int32 := fun k => if k = 11 then nI (2 ^ n - 1) else if k = 1 then nI n else if k = 0 then nI j else if k = 16 then -1 else 0
def pN (a : Nat) : Nat → Option Nat := fun k => if k = 7 then some (a + 6) else if k = 3 then some 2 else if k = 2 then some 3 else if k = 6 then some (a + 5) else if k = 5 then some (a + 3) else if k = 4 then some (a + 1) else none
def oN (a k : Nat) (d : Nat) : Option Nat := if d = 1 ∧ k = 0 then some (a + 2) else if d = 3 ∧ k = 0 then some (a + 4) else if d = 5 ∧ k = 2 then some 0 else none
def NI (n j : Nat) (Z : Nat → Nat → Int32) (P : Nat → Nat → Option Nat) : Prop := Z (nd n j) = zN n j ∧ P (nd n j) = pN (nd n j) ∧ ∀ d : Nat, 1 ≤ d → d < 7 → ∀ k : Nat, Z (nd n j + d) k = 0 ∧ P (nd n j + d) k = oN (nd n j) k d
def PI (n m t : Nat) (Z : Nat → Nat → Int32) (P : Nat → Nat → Option Nat) : Prop := (Z 2 = fun _ => 0) ∧ (∀ k : Nat, Z 3 k = if k = 0 then nI n else 0) ∧ (P 3 1 = some 2 ∧ P 3 2 = some 4) ∧ (∀ k : Nat, k < m → P 4 k = some (5 + k)) ∧ (∀ a : Nat, 5 ≤ a → a < 5 + n * n → (Z a = fun _ => 0) ∧ P a = fun _ => none) ∧ (∀ k : Nat, k < t → P (5 + n * n) k = some (nd n k) ∧ NI n k Z P) ∧ ∀ a : Nat, nd n t ≤ a → (Z a = fun _ => 0) ∧ P a = fun _ => none
abbrev A0 : Nat → Nat → Int32 := fun _ _ => 0
theorem bt_all0 : ((List.range 8).all fun n => decide (((nI 1) <<< (nI n &&& 31)) - (nI 1) = nI (2 ^ n - 1))) = true := by decide +kernel
theorem bt_all {n : Nat} (hn : n ≤ 7) : ((nI 1) <<< (nI n &&& 31)) - (nI 1) = nI (2 ^ n - 1) := by
  have := List.all_eq_true.mp bt_all0 n (List.mem_range.mpr (by omega))
  simpa using this
theorem C_new4 {n t : Nat} {Z : Nat → Nat → Int32} {P : Nat → Nat → Option Nat} (hn : n ≤ 7) (ht : t < n) (hb : ∀ a : Nat, nd n t ≤ a → (Z a = fun _ => 0) ∧ P a = fun _ => none) : ∃ (Z' : Nat → Nat → Int32) (P' : Nat → Nat → Option Nat), f_X4_init (some (nd n t)) (nI t) (nI n) (some 3) (some 2) (hk (nd n t) (KD n) (LN n) Z P A0) = some (hk (nd n t + 6) (KD n) (LN n) Z' P' A0) ∧ NI n t Z' P' ∧ (∀ a : Nat, a < nd n t ∨ nd n t + 6 < a → Z' a = Z a ∧ P' a = P a) := by
  have k0 : KD n (nd n t) = 4 := KD_nd n t 0 (by omega)
  have k1 : KD n (nd n t + 1) = 6 := KD_nd n t 1 (by omega)
  have k2 : KD n (nd n t + 2) = 10 := KD_nd n t 2 (by omega)
  have k3 : KD n (nd n t + 3) = 3 := KD_nd n t 3 (by omega)
  have k4 : KD n (nd n t + 4) = 10 := KD_nd n t 4 (by omega)
  have k5 : KD n (nd n t + 5) = 0 := KD_nd n t 5 (by omega)
  have k6 : KD n (nd n t + 6) = 10 := KD_nd n t 6 (by omega)
  have l2 : LN n (nd n t + 2) = 60 := LN_nd n t 2 (by omega)
  have l4 : LN n (nd n t + 4) = 20 := LN_nd n t 4 (by omega)
  have l6 : LN n (nd n t + 6) = n := LN_nd n t 6 (by omega)
  have hg := nd_ge n t
  generalize ha : nd n t = a at *
  have z : ∀ d : Nat, Z (a + d) = fun _ => 0 := fun d => (hb (a + d) (by omega)).1
  have p : ∀ d : Nat, P (a + d) = fun _ => none := fun d => (hb (a + d) (by omega)).2
  have q0 : P a = fun _ => none := p 0
  have y0 : Z a = fun _ => 0 := z 0
  have hkk : ∀ (c : Nat) (Z : Nat → Nat → Int32) (P : Nat → Nat → Option Nat), (hk c (KD n) (LN n) Z P A0).1 = c := fun _ _ _ => rfl
  have e0 : hz_nO (hk a (KD n) (LN n) Z P A0) 6 [.null, .int 0] = hk (a + 1) (KD n) (LN n) Z P A0 := k0_O (c := a) k1 (by decide) (by rw [show Z (a + 1) = fun _ => 0 by rw [z 1], show P (a + 1) = fun _ => none by rw [p 1]]; rfl)
  have e1 : hz_nA (hk (a + 1) (KD n) (LN n) Z P A0) 0 60 (nI 60) = some (hk (a + 2) (KD n) (LN n) Z P A0) := k0_A (c := (a + 1)) (m := 60) (by decide) (by omega) (by decide) k2 l2 rfl
  obtain ⟨P1, hP1⟩ : ∃ P1, P1 = up2 P (a + 1) 0 (some (a + 2)) := ⟨_, rfl⟩
  have e2 : hz_pF (hk (a + 2) (KD n) (LN n) Z P A0) (some (a + 1)) 6 0 (va_rf (some (a + 2))) = some (hk (a + 2) (KD n) (LN n) Z P1 A0) := by rw [hP1]; exact hk_pFR (by omega) k1 (by decide) (by decide) _
  obtain ⟨P2, hP2⟩ : ∃ P2, P2 = up2 P1 a 4 (some (a + 1)) := ⟨_, rfl⟩
  have e3 : hz_pF (hk (a + 2) (KD n) (LN n) Z P1 A0) (some a) 4 4 (va_rf (some (a + 1))) = some (hk (a + 2) (KD n) (LN n) Z P2 A0) := by rw [hP2]; exact hk_pFR (by omega) k0 (by decide) (by decide) _
  have e4 : hz_nO (hk (a + 2) (KD n) (LN n) Z P2 A0) 3 [.null, .int 0] = hk (a + 3) (KD n) (LN n) Z P2 A0 := k0_O (c := (a + 2)) k3 (by decide) (by rw [show Z ((a + 2) + 1) = fun _ => 0 by rw [z 3], show P2 ((a + 2) + 1) = fun _ => none by rw [hP2, up2_row (by omega), hP1, up2_row (by omega), p 3]]; rfl)
  have e5 : hz_nA (hk (a + 3) (KD n) (LN n) Z P2 A0) 0 20 (nI 20) = some (hk (a + 4) (KD n) (LN n) Z P2 A0) := k0_A (c := (a + 3)) (m := 20) (by decide) (by omega) (by decide) k4 l4 rfl
  obtain ⟨P3, hP3⟩ : ∃ P3, P3 = up2 P2 (a + 3) 0 (some (a + 4)) := ⟨_, rfl⟩
  have e6 : hz_pF (hk (a + 4) (KD n) (LN n) Z P2 A0) (some (a + 3)) 3 0 (va_rf (some (a + 4))) = some (hk (a + 4) (KD n) (LN n) Z P3 A0) := by rw [hP3]; exact hk_pFR (by omega) k3 (by decide) (by decide) _
  obtain ⟨P4, hP4⟩ : ∃ P4, P4 = up2 P3 a 5 (some (a + 3)) := ⟨_, rfl⟩
  have e7 : hz_pF (hk (a + 4) (KD n) (LN n) Z P3 A0) (some a) 4 5 (va_rf (some (a + 3))) = some (hk (a + 4) (KD n) (LN n) Z P4 A0) := by rw [hP4]; exact hk_pFR (by omega) k0 (by decide) (by decide) _
  have e8 : hz_nO (hk (a + 4) (KD n) (LN n) Z P4 A0) 0 [.int 0, .int 0, .null, .int 0, .int 0] = hk (a + 5) (KD n) (LN n) Z P4 A0 := k0_O (c := (a + 4)) k5 (by decide) (by rw [show Z ((a + 4) + 1) = fun _ => 0 by rw [z 5], show P4 ((a + 4) + 1) = fun _ => none by rw [hP4, up2_row (by omega), hP3, up2_row (by omega), hP2, up2_row (by omega), hP1, up2_row (by omega), p 5]]; rfl)
  obtain ⟨P5, hP5⟩ : ∃ P5, P5 = up2 P4 (a + 5) 2 (some 0) := ⟨_, rfl⟩
  have e9 : hz_pF (hk (a + 5) (KD n) (LN n) Z P4 A0) (some (a + 5)) 0 2 (va_rf (some 0)) = some (hk (a + 5) (KD n) (LN n) Z P5 A0) := by rw [hP5]; exact hk_pFR (by omega) k5 (by decide) (by decide) _
  obtain ⟨P6, hP6⟩ : ∃ P6, P6 = up2 P5 a 6 (some (a + 5)) := ⟨_, rfl⟩
  have e10 : hz_pF (hk (a + 5) (KD n) (LN n) Z P5 A0) (some a) 4 6 (va_rf (some (a + 5))) = some (hk (a + 5) (KD n) (LN n) Z P6 A0) := by rw [hP6]; exact hk_pFR (by omega) k0 (by decide) (by decide) _
  obtain ⟨Z1, hZ1⟩ : ∃ Z1, Z1 = up2 Z a 8 (nI 0) := ⟨_, rfl⟩
  have e11 : hz_pF (hk (a + 5) (KD n) (LN n) Z P6 A0) (some a) 4 8 (.int (nI 0)) = some (hk (a + 5) (KD n) (LN n) Z1 P6 A0) := by rw [hZ1]; exact hk_pFI (by omega) k0 (by decide) (by decide) _
  obtain ⟨Z2, hZ2⟩ : ∃ Z2, Z2 = up2 Z1 a 9 (nI 0) := ⟨_, rfl⟩
  have e12 : hz_pF (hk (a + 5) (KD n) (LN n) Z1 P6 A0) (some a) 4 9 (.int (nI 0)) = some (hk (a + 5) (KD n) (LN n) Z2 P6 A0) := by rw [hZ2]; exact hk_pFI (by omega) k0 (by decide) (by decide) _
  obtain ⟨Z3, hZ3⟩ : ∃ Z3, Z3 = up2 Z2 a 16 ((-1 : Int32)) := ⟨_, rfl⟩
  have e13 : hz_pF (hk (a + 5) (KD n) (LN n) Z2 P6 A0) (some a) 4 16 (.int ((-1 : Int32))) = some (hk (a + 5) (KD n) (LN n) Z3 P6 A0) := by rw [hZ3]; exact hk_pFI (by omega) k0 (by decide) (by decide) _
  obtain ⟨Z4, hZ4⟩ : ∃ Z4, Z4 = up2 Z3 a 0 (nI t) := ⟨_, rfl⟩
  have e14 : hz_pF (hk (a + 5) (KD n) (LN n) Z3 P6 A0) (some a) 4 0 (.int (nI t)) = some (hk (a + 5) (KD n) (LN n) Z4 P6 A0) := by rw [hZ4]; exact hk_pFI (by omega) k0 (by decide) (by decide) _
  obtain ⟨Z5, hZ5⟩ : ∃ Z5, Z5 = up2 Z4 a 1 (nI n) := ⟨_, rfl⟩
  have e15 : hz_pF (hk (a + 5) (KD n) (LN n) Z4 P6 A0) (some a) 4 1 (.int (nI n)) = some (hk (a + 5) (KD n) (LN n) Z5 P6 A0) := by rw [hZ5]; exact hk_pFI (by omega) k0 (by decide) (by decide) _
  obtain ⟨P7, hP7⟩ : ∃ P7, P7 = up2 P6 a 2 (some 3) := ⟨_, rfl⟩
  have e16 : hz_pF (hk (a + 5) (KD n) (LN n) Z5 P6 A0) (some a) 4 2 (va_rf (some 3)) = some (hk (a + 5) (KD n) (LN n) Z5 P7 A0) := by rw [hP7]; exact hk_pFR (by omega) k0 (by decide) (by decide) _
  obtain ⟨P8, hP8⟩ : ∃ P8, P8 = up2 P7 a 3 (some 2) := ⟨_, rfl⟩
  have e17 : hz_pF (hk (a + 5) (KD n) (LN n) Z5 P7 A0) (some a) 4 3 (va_rf (some 2)) = some (hk (a + 5) (KD n) (LN n) Z5 P8 A0) := by rw [hP8]; exact hk_pFR (by omega) k0 (by decide) (by decide) _
  have e18 : hz_nA (hk (a + 5) (KD n) (LN n) Z5 P8 A0) 0 64 (nI n) = some (hk (a + 6) (KD n) (LN n) Z5 P8 A0) := k0_A (c := (a + 5)) (m := n) (by decide) (by omega) (by decide) k6 l6 rfl
  obtain ⟨P9, hP9⟩ : ∃ P9, P9 = up2 P8 a 7 (some (a + 6)) := ⟨_, rfl⟩
  have e19 : hz_pF (hk (a + 6) (KD n) (LN n) Z5 P8 A0) (some a) 4 7 (va_rf (some (a + 6))) = some (hk (a + 6) (KD n) (LN n) Z5 P9 A0) := by rw [hP9]; exact hk_pFR (by omega) k0 (by decide) (by decide) _
  obtain ⟨Z6, hZ6⟩ : ∃ Z6, Z6 = up2 Z5 a 11 (nI (2 ^ n - 1)) := ⟨_, rfl⟩
  have e20 : hz_pF (hk (a + 6) (KD n) (LN n) Z5 P9 A0) (some a) 4 11 (.int (nI (2 ^ n - 1))) = some (hk (a + 6) (KD n) (LN n) Z6 P9 A0) := by rw [hZ6]; exact hk_pFI (by omega) k0 (by decide) (by decide) _
  refine ⟨Z6, P9, ?_, ⟨?_, ?_, ?_⟩, ?_⟩
  · have q1 : a + 1 + 1 = a + 2 := rfl
    have q2 : a + 2 + 1 = a + 3 := rfl
    have q3 : a + 3 + 1 = a + 4 := rfl
    have q4 : a + 4 + 1 = a + 5 := rfl
    have q5 : a + 5 + 1 = a + 6 := rfl
    simp only [f_X4_init, f_X6_init, f_X3_init, f_X0_init, reduceCtorEq, if_false, Option.bind_some, hkk, q1, q2, q3, q4, q5, bt_all hn, e0, e1, e2, e3, e4, e5, e6, e7, e8, e9, e10, e11, e12, e13, e14, e15, e16, e17, e18, e19, e20]
  · rw [hZ6, hZ5, hZ4, hZ3, hZ2, hZ1]
    funext k
    simp only [ha, up2, true_and, y0]
    unfold zN
    repeat' split
    all_goals first | rfl | exact nI_0 | omega
  · rw [hP9, hP8, hP7, hP6, hP5, hP4, hP3, hP2, hP1]
    funext k
    simp only [ha, up2, true_and, q0, show (a = a + 5) = False from eq_false (by omega), show (a = a + 3) = False from eq_false (by omega), show (a = a + 1) = False from eq_false (by omega), false_and, if_false]
    rfl
  · intro d h1 h2 k
    rw [ha]
    refine ⟨?_, ?_⟩
    · rw [hZ6, up2_row (by omega), hZ5, up2_row (by omega), hZ4, up2_row (by omega), hZ3, up2_row (by omega), hZ2, up2_row (by omega), hZ1, up2_row (by omega), z d]
    · rw [hP9, hP8, hP7, hP6, hP5, hP4, hP3, hP2, hP1]
      simp only [up2, p d, show (a + d = a) = False from eq_false (by omega), false_and, if_false, Nat.add_left_cancel_iff]
      unfold oN
      repeat' split
      all_goals first | rfl | omega
  · intro b hb2
    refine ⟨?_, ?_⟩
    · rw [hZ6, up2_row (by omega), hZ5, up2_row (by omega), hZ4, up2_row (by omega), hZ3, up2_row (by omega), hZ2, up2_row (by omega), hZ1, up2_row (by omega)]
    · rw [hP9, up2_row (by omega), hP8, up2_row (by omega), hP7, up2_row (by omega), hP6, up2_row (by omega), hP5, up2_row (by omega), hP4, up2_row (by omega), hP3, up2_row (by omega), hP2, up2_row (by omega), hP1, up2_row (by omega)]
theorem C_chL {n : Nat} (hn : 2 ≤ n ∧ n ≤ 7) : ∀ (m t fuel : Nat) (Z : Nat → Nat → Int32) (P : Nat → Nat → Option Nat), t + m = n * n → m < fuel → P 3 2 = some 4 → (∀ k : Nat, k < t → P 4 k = some (5 + k)) → (∀ a : Nat, 5 ≤ a → (Z a = fun _ => 0) ∧ P a = fun _ => none) → ∃ P' : Nat → Nat → Option Nat, f_X5_init_26 fuel (some 3) (nI t) (hk (4 + t) (KD n) (LN n) Z P A0) = some (hk (4 + n * n) (KD n) (LN n) Z P' A0) ∧ (∀ k : Nat, k < n * n → P' 4 k = some (5 + k)) ∧ ∀ a : Nat, ¬ a = 4 → P' a = P a
  | 0, t, fuel, Z, P, ht, hf, h3, h4, hb => by
    obtain ⟨fu, rfl⟩ : ∃ fu, fuel = fu + 1 := ⟨fuel - 1, by omega⟩
    have hnn : n * n ≤ 49 := Nat.mul_le_mul hn.2 hn.2
    have k4 : KD n 4 = 12 := rfl
    have l4 : LN n 4 = n * n := rfl
    refine ⟨P, ?_, fun k hk => h4 k (by omega), fun _ _ => rfl⟩
    rw [f_X5_init_26]
    rw [hk_gR (by omega) (show KD n 3 = 5 from rfl) (by decide) (by decide), h3, Option.bind_some, hk_aL (by omega) (by rw [k4]; omega), l4, Option.bind_some, if_pos ((nI_leI (by omega) (by omega)).mpr (by omega))]
    rw [show t = n * n by omega]
  | m + 1, t, fuel, Z, P, ht, hf, h3, h4, hb => by
    obtain ⟨fu, rfl⟩ : ∃ fu, fuel = fu + 1 := ⟨fuel - 1, by omega⟩
    have hnn : n * n ≤ 49 := Nat.mul_le_mul hn.2 hn.2
    have k4 : KD n 4 = 12 := rfl
    have l4 : LN n 4 = n * n := rfl
    have kt : KD n (4 + t + 1) = 1 := by unfold KD; rw [if_neg (by omega), if_neg (by omega), if_neg (by omega), if_neg (by omega), if_pos (by omega)]
    rw [f_X5_init_26]
    rw [hk_gR (by omega) (show KD n 3 = 5 from rfl) (by decide) (by decide), h3, Option.bind_some, hk_aL (by omega) (by rw [k4]; omega), l4, Option.bind_some, if_neg (fun q => by have := (nI_leI (by omega) (by omega)).mp q; omega)]
    rw [Option.bind_some, Option.bind_some, k0_O kt (by decide) (by rw [(hb (4 + t + 1) (by omega)).1, (hb (4 + t + 1) (by omega)).2]; rfl)]
    have e1 : f_X1_init (some ((hk (4 + t) (KD n) (LN n) Z P A0).1 + 1)) (hk (4 + t + 1) (KD n) (LN n) Z P A0) = some (hk (4 + t + 1) (KD n) (LN n) Z P A0) := by
      unfold f_X1_init
      rw [if_neg (by simp)]
    have hkk1 : (hk (4 + t) (KD n) (LN n) Z P A0).1 = 4 + t := rfl
    rw [e1, Option.bind_some, hkk1, hk_aT 2 (Or.inl rfl) (by omega) k4 (show t < LN n 4 by rw [l4]; omega) (by rw [l4]; omega) (hk_ob (show 1 ≤ 4 + t + 1 ∧ 4 + t + 1 ≤ 4 + t + 1 by omega) kt (by decide)), Option.bind_some, nI_add]
    obtain ⟨P', e2, q1, q2⟩ := C_chL hn m (t + 1) fu Z (up2 P 4 t (some (4 + t + 1))) (by omega) (by omega) (by rw [up2_row (by omega)]; exact h3) (fun k hk => by
      by_cases e : k = t
      · subst e; rw [up2_same]; congr 1; omega
      · rw [up2_k e]; exact h4 k (by omega)) (fun a ha => by rw [up2_row (by omega)]; exact hb a ha)
    exact ⟨P', e2, q1, fun a ha => by rw [q2 a ha, up2_row ha]⟩
