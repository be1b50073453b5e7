/-! memories: what each address is (kinds 0..9 the classes, 10 int[], 11 boolean[], 12 Channel[], 13 Node[]), how long, its ints, its refs, its elements -/
abbrev MM : Type := Nat × (Nat → Nat) × (Nat → Nat) × (Nat → Nat → Int32) × (Nat → Nat → Option Nat) × (Nat → Nat → Int32)
def up2 {α : Type} (f : Nat → Nat → α) (a k : Nat) (x : α) : Nat → Nat → α := fun b j => if b = a ∧ j = k then x else f b j
theorem up2_same {α : Type} (f : Nat → Nat → α) (a k : Nat) (x : α) : up2 f a k x a k = x := by simp [up2]
theorem up2_a {α : Type} {f : Nat → Nat → α} {a k b j : Nat} {x : α} (h : ¬ b = a) : up2 f a k x b j = f b j := by simp [up2, h]
theorem up2_k {α : Type} {f : Nat → Nat → α} {a k b j : Nat} {x : α} (h : ¬ j = k) : up2 f a k x b j = f b j := by simp [up2, h]
theorem up2_row {α : Type} {f : Nat → Nat → α} {a k b : Nat} {x : α} (h : ¬ b = a) : up2 f a k x b = f b := by funext j; simp [up2, h]
theorem up2_at {α : Type} (f : Nat → Nat → α) (a k : Nat) (x : α) : up2 f a k x a = va_up (f a) k x := by funext j; simp [up2, va_up]
def hm_fl (ci : Nat) (z : Nat → Int32) (p : Nat → Option Nat) : List Value := match ci with
  | 0 => [.int (z 0), .int (z 1), va_rf (p 2), .int (z 3), .int (z 4)]
  | 1 => [va_rf (p 0), va_rf (p 1), .int (z 2)]
  | 2 => [.int (z 0), .int (z 1), .int (z 2), va_rf (p 3), va_rf (p 4)]
  | 3 => [va_rf (p 0), .int (z 1)]
  | 4 => [.int (z 0), .int (z 1), va_rf (p 2), va_rf (p 3), va_rf (p 4), va_rf (p 5), va_rf (p 6), va_rf (p 7), .int (z 8), .int (z 9), .int (z 10), .int (z 11), .int (z 12), .int (z 13), .int (z 14), .int (z 15), .int (z 16)]
  | 5 => [.int (z 0), va_rf (p 1), va_rf (p 2), .int (z 3)]
  | 6 => [va_rf (p 0), .int (z 1)]
  | 7 => [.int (z 0), .int (z 1), .int (z 2), .int (z 3), .int (z 4)]
  | 8 => [va_rf (p 0), va_rf (p 1), va_rf (p 2)]
  | _ => [.int (z 0), va_rf (p 1), va_rf (p 2), va_rf (p 3), va_rf (p 4), va_rf (p 5), va_rf (p 6), va_rf (p 7), va_rf (p 8), va_rf (p 9), va_rf (p 10), va_rf (p 11), va_rf (p 12), va_rf (p 13), va_rf (p 14), va_rf (p 15), va_rf (p 16), va_rf (p 17), va_rf (p 18), va_rf (p 19), va_rf (p 20), va_rf (p 21), va_rf (p 22), va_rf (p 23), va_rf (p 24), va_rf (p 25), va_rf (p 26), va_rf (p 27), va_rf (p 28), .int (z 29), .int (z 30), .int (z 31), .int (z 32), .int (z 33), .int (z 34)]
def hm_int (ci k : Nat) : Bool := match ci with
  | 0 => [true, true, false, true, true].getD k false
  | 1 => [false, false, true].getD k false
  | 2 => [true, true, true, false, false].getD k false
  | 3 => [false, true].getD k false
  | 4 => [true, true, false, false, false, false, false, false, true, true, true, true, true, true, true, true, true].getD k false
  | 5 => [true, false, false, true].getD k false
  | 6 => [false, true].getD k false
  | 7 => [true, true, true, true, true].getD k false
  | 8 => [false, false, false].getD k false
  | _ => [true, false, false, false, false, false, false, false, false, false, false, false, false, false, false, false, false, false, false, false, false, false, false, false, false, false, false, false, false, true, true, true, true, true, true].getD k false
def hm_ref (ci k : Nat) : Bool := match ci with
  | 0 => [false, false, true, false, false].getD k false
  | 1 => [true, true, false].getD k false
  | 2 => [false, false, false, true, true].getD k false
  | 3 => [true, false].getD k false
  | 4 => [false, false, true, true, true, true, true, true, false, false, false, false, false, false, false, false, false].getD k false
  | 5 => [false, true, true, false].getD k false
  | 6 => [true, false].getD k false
  | 7 => [false, false, false, false, false].getD k false
  | 8 => [true, true, true].getD k false
  | _ => [false, true, true, true, true, true, true, true, true, true, true, true, true, true, true, true, true, true, true, true, true, true, true, true, true, true, true, true, true, false, false, false, false, false, false].getD k false
def hm_c (kd ln : Nat) (z : Nat → Int32) (p : Nat → Option Nat) (e : Nat → Int32) : HC := if kd < 10 then .inr (kd, hm_fl kd z p) else if kd = 10 then .inl (0, ln, .inl e) else if kd = 11 then .inl (1, ln, .inl e) else if kd = 12 then .inl (2, ln, .inr (.inr (.inr (.inr p)))) else .inl (3, ln, .inr (.inr (.inr (.inr p))))
def hm (M : MM) : HP := (M.1, fun a => hm_c (M.2.1 a) (M.2.2.1 a) (M.2.2.2.1 a) (M.2.2.2.2.1 a) (M.2.2.2.2.2 a))
abbrev hk (c : Nat) (kd ln : Nat → Nat) (Z : Nat → Nat → Int32) (P : Nat → Nat → Option Nat) (A : Nat → Nat → Int32) : HP := hm (c, kd, ln, Z, P, A)
theorem hm_fi {ci k : Nat} (h : hm_int ci k = true) (hc : ci < 10) (z : Nat → Int32) (p : Nat → Option Nat) : (hm_fl ci z p)[k]? = some (.int (z k)) := by
  match ci, hc, k, h with
  | 0, _, 0, _ => rfl
  | 0, _, 1, _ => rfl
  | 0, _, 3, _ => rfl
  | 0, _, 4, _ => rfl
  | 1, _, 2, _ => rfl
  | 2, _, 0, _ => rfl
  | 2, _, 1, _ => rfl
  | 2, _, 2, _ => rfl
  | 3, _, 1, _ => rfl
  | 4, _, 0, _ => rfl
  | 4, _, 1, _ => rfl
  | 4, _, 8, _ => rfl
  | 4, _, 9, _ => rfl
  | 4, _, 10, _ => rfl
  | 4, _, 11, _ => rfl
  | 4, _, 12, _ => rfl
  | 4, _, 13, _ => rfl
  | 4, _, 14, _ => rfl
  | 4, _, 15, _ => rfl
  | 4, _, 16, _ => rfl
  | 5, _, 0, _ => rfl
  | 5, _, 3, _ => rfl
  | 6, _, 1, _ => rfl
  | 7, _, 0, _ => rfl
  | 7, _, 1, _ => rfl
  | 7, _, 2, _ => rfl
  | 7, _, 3, _ => rfl
  | 7, _, 4, _ => rfl
  | 9, _, 0, _ => rfl
  | 9, _, 29, _ => rfl
  | 9, _, 30, _ => rfl
  | 9, _, 31, _ => rfl
  | 9, _, 32, _ => rfl
  | 9, _, 33, _ => rfl
  | 9, _, 34, _ => rfl
  | 0, _, k + 5, h => exact absurd h (by simp [hm_int, hm_ref])
  | 0, _, 2, h => exact absurd h (by decide)
  | 1, _, k + 3, h => exact absurd h (by simp [hm_int, hm_ref])
  | 1, _, 0, h => exact absurd h (by decide)
  | 1, _, 1, h => exact absurd h (by decide)
  | 2, _, k + 5, h => exact absurd h (by simp [hm_int, hm_ref])
  | 2, _, 3, h => exact absurd h (by decide)
  | 2, _, 4, h => exact absurd h (by decide)
  | 3, _, k + 2, h => exact absurd h (by simp [hm_int, hm_ref])
  | 3, _, 0, h => exact absurd h (by decide)
  | 4, _, k + 17, h => exact absurd h (by simp [hm_int, hm_ref])
  | 4, _, 2, h => exact absurd h (by decide)
  | 4, _, 3, h => exact absurd h (by decide)
  | 4, _, 4, h => exact absurd h (by decide)
  | 4, _, 5, h => exact absurd h (by decide)
  | 4, _, 6, h => exact absurd h (by decide)
  | 4, _, 7, h => exact absurd h (by decide)
  | 5, _, k + 4, h => exact absurd h (by simp [hm_int, hm_ref])
  | 5, _, 1, h => exact absurd h (by decide)
  | 5, _, 2, h => exact absurd h (by decide)
  | 6, _, k + 2, h => exact absurd h (by simp [hm_int, hm_ref])
  | 6, _, 0, h => exact absurd h (by decide)
  | 7, _, k + 5, h => exact absurd h (by simp [hm_int, hm_ref])
  | 8, _, k + 3, h => exact absurd h (by simp [hm_int, hm_ref])
  | 8, _, 0, h => exact absurd h (by decide)
  | 8, _, 1, h => exact absurd h (by decide)
  | 8, _, 2, h => exact absurd h (by decide)
  | 9, _, k + 35, h => exact absurd h (by simp [hm_int, hm_ref])
  | 9, _, 1, h => exact absurd h (by decide)
  | 9, _, 2, h => exact absurd h (by decide)
  | 9, _, 3, h => exact absurd h (by decide)
  | 9, _, 4, h => exact absurd h (by decide)
  | 9, _, 5, h => exact absurd h (by decide)
  | 9, _, 6, h => exact absurd h (by decide)
  | 9, _, 7, h => exact absurd h (by decide)
  | 9, _, 8, h => exact absurd h (by decide)
  | 9, _, 9, h => exact absurd h (by decide)
  | 9, _, 10, h => exact absurd h (by decide)
  | 9, _, 11, h => exact absurd h (by decide)
  | 9, _, 12, h => exact absurd h (by decide)
  | 9, _, 13, h => exact absurd h (by decide)
  | 9, _, 14, h => exact absurd h (by decide)
  | 9, _, 15, h => exact absurd h (by decide)
  | 9, _, 16, h => exact absurd h (by decide)
  | 9, _, 17, h => exact absurd h (by decide)
  | 9, _, 18, h => exact absurd h (by decide)
  | 9, _, 19, h => exact absurd h (by decide)
  | 9, _, 20, h => exact absurd h (by decide)
  | 9, _, 21, h => exact absurd h (by decide)
  | 9, _, 22, h => exact absurd h (by decide)
  | 9, _, 23, h => exact absurd h (by decide)
  | 9, _, 24, h => exact absurd h (by decide)
  | 9, _, 25, h => exact absurd h (by decide)
  | 9, _, 26, h => exact absurd h (by decide)
  | 9, _, 27, h => exact absurd h (by decide)
  | 9, _, 28, h => exact absurd h (by decide)
theorem hm_fr {ci k : Nat} (h : hm_ref ci k = true) (hc : ci < 10) (z : Nat → Int32) (p : Nat → Option Nat) : (hm_fl ci z p)[k]? = some (va_rf (p k)) := by
  match ci, hc, k, h with
  | 0, _, 2, _ => rfl
  | 1, _, 0, _ => rfl
  | 1, _, 1, _ => rfl
  | 2, _, 3, _ => rfl
  | 2, _, 4, _ => rfl
  | 3, _, 0, _ => rfl
  | 4, _, 2, _ => rfl
  | 4, _, 3, _ => rfl
  | 4, _, 4, _ => rfl
  | 4, _, 5, _ => rfl
  | 4, _, 6, _ => rfl
  | 4, _, 7, _ => rfl
  | 5, _, 1, _ => rfl
  | 5, _, 2, _ => rfl
  | 6, _, 0, _ => rfl
  | 8, _, 0, _ => rfl
  | 8, _, 1, _ => rfl
  | 8, _, 2, _ => rfl
  | 9, _, 1, _ => rfl
  | 9, _, 2, _ => rfl
  | 9, _, 3, _ => rfl
  | 9, _, 4, _ => rfl
  | 9, _, 5, _ => rfl
  | 9, _, 6, _ => rfl
  | 9, _, 7, _ => rfl
  | 9, _, 8, _ => rfl
  | 9, _, 9, _ => rfl
  | 9, _, 10, _ => rfl
  | 9, _, 11, _ => rfl
  | 9, _, 12, _ => rfl
  | 9, _, 13, _ => rfl
  | 9, _, 14, _ => rfl
  | 9, _, 15, _ => rfl
  | 9, _, 16, _ => rfl
  | 9, _, 17, _ => rfl
  | 9, _, 18, _ => rfl
  | 9, _, 19, _ => rfl
  | 9, _, 20, _ => rfl
  | 9, _, 21, _ => rfl
  | 9, _, 22, _ => rfl
  | 9, _, 23, _ => rfl
  | 9, _, 24, _ => rfl
  | 9, _, 25, _ => rfl
  | 9, _, 26, _ => rfl
  | 9, _, 27, _ => rfl
  | 9, _, 28, _ => rfl
  | 0, _, k + 5, h => exact absurd h (by simp [hm_int, hm_ref])
  | 0, _, 0, h => exact absurd h (by decide)
  | 0, _, 1, h => exact absurd h (by decide)
  | 0, _, 3, h => exact absurd h (by decide)
  | 0, _, 4, h => exact absurd h (by decide)
  | 1, _, k + 3, h => exact absurd h (by simp [hm_int, hm_ref])
  | 1, _, 2, h => exact absurd h (by decide)
  | 2, _, k + 5, h => exact absurd h (by simp [hm_int, hm_ref])
  | 2, _, 0, h => exact absurd h (by decide)
  | 2, _, 1, h => exact absurd h (by decide)
  | 2, _, 2, h => exact absurd h (by decide)
  | 3, _, k + 2, h => exact absurd h (by simp [hm_int, hm_ref])
  | 3, _, 1, h => exact absurd h (by decide)
  | 4, _, k + 17, h => exact absurd h (by simp [hm_int, hm_ref])
  | 4, _, 0, h => exact absurd h (by decide)
  | 4, _, 1, h => exact absurd h (by decide)
  | 4, _, 8, h => exact absurd h (by decide)
  | 4, _, 9, h => exact absurd h (by decide)
  | 4, _, 10, h => exact absurd h (by decide)
  | 4, _, 11, h => exact absurd h (by decide)
  | 4, _, 12, h => exact absurd h (by decide)
  | 4, _, 13, h => exact absurd h (by decide)
  | 4, _, 14, h => exact absurd h (by decide)
  | 4, _, 15, h => exact absurd h (by decide)
  | 4, _, 16, h => exact absurd h (by decide)
  | 5, _, k + 4, h => exact absurd h (by simp [hm_int, hm_ref])
  | 5, _, 0, h => exact absurd h (by decide)
  | 5, _, 3, h => exact absurd h (by decide)
  | 6, _, k + 2, h => exact absurd h (by simp [hm_int, hm_ref])
  | 6, _, 1, h => exact absurd h (by decide)
  | 7, _, k + 5, h => exact absurd h (by simp [hm_int, hm_ref])
  | 7, _, 0, h => exact absurd h (by decide)
  | 7, _, 1, h => exact absurd h (by decide)
  | 7, _, 2, h => exact absurd h (by decide)
  | 7, _, 3, h => exact absurd h (by decide)
  | 7, _, 4, h => exact absurd h (by decide)
  | 8, _, k + 3, h => exact absurd h (by simp [hm_int, hm_ref])
  | 9, _, k + 35, h => exact absurd h (by simp [hm_int, hm_ref])
  | 9, _, 0, h => exact absurd h (by decide)
  | 9, _, 29, h => exact absurd h (by decide)
  | 9, _, 30, h => exact absurd h (by decide)
  | 9, _, 31, h => exact absurd h (by decide)
  | 9, _, 32, h => exact absurd h (by decide)
  | 9, _, 33, h => exact absurd h (by decide)
  | 9, _, 34, h => exact absurd h (by decide)
theorem hm_si {ci k : Nat} (h : hm_int ci k = true) (hc : ci < 10) (z : Nat → Int32) (p : Nat → Option Nat) (x : Int32) : (hm_fl ci z p).set k (.int x) = hm_fl ci (va_up z k x) p := by
  match ci, hc, k, h with
  | 0, _, 0, _ => rfl
  | 0, _, 1, _ => rfl
  | 0, _, 3, _ => rfl
  | 0, _, 4, _ => rfl
  | 1, _, 2, _ => rfl
  | 2, _, 0, _ => rfl
  | 2, _, 1, _ => rfl
  | 2, _, 2, _ => rfl
  | 3, _, 1, _ => rfl
  | 4, _, 0, _ => rfl
  | 4, _, 1, _ => rfl
  | 4, _, 8, _ => rfl
  | 4, _, 9, _ => rfl
  | 4, _, 10, _ => rfl
  | 4, _, 11, _ => rfl
  | 4, _, 12, _ => rfl
  | 4, _, 13, _ => rfl
  | 4, _, 14, _ => rfl
  | 4, _, 15, _ => rfl
  | 4, _, 16, _ => rfl
  | 5, _, 0, _ => rfl
  | 5, _, 3, _ => rfl
  | 6, _, 1, _ => rfl
  | 7, _, 0, _ => rfl
  | 7, _, 1, _ => rfl
  | 7, _, 2, _ => rfl
  | 7, _, 3, _ => rfl
  | 7, _, 4, _ => rfl
  | 9, _, 0, _ => rfl
  | 9, _, 29, _ => rfl
  | 9, _, 30, _ => rfl
  | 9, _, 31, _ => rfl
  | 9, _, 32, _ => rfl
  | 9, _, 33, _ => rfl
  | 9, _, 34, _ => rfl
  | 0, _, k + 5, h => exact absurd h (by simp [hm_int, hm_ref])
  | 0, _, 2, h => exact absurd h (by decide)
  | 1, _, k + 3, h => exact absurd h (by simp [hm_int, hm_ref])
  | 1, _, 0, h => exact absurd h (by decide)
  | 1, _, 1, h => exact absurd h (by decide)
  | 2, _, k + 5, h => exact absurd h (by simp [hm_int, hm_ref])
  | 2, _, 3, h => exact absurd h (by decide)
  | 2, _, 4, h => exact absurd h (by decide)
  | 3, _, k + 2, h => exact absurd h (by simp [hm_int, hm_ref])
  | 3, _, 0, h => exact absurd h (by decide)
  | 4, _, k + 17, h => exact absurd h (by simp [hm_int, hm_ref])
  | 4, _, 2, h => exact absurd h (by decide)
  | 4, _, 3, h => exact absurd h (by decide)
  | 4, _, 4, h => exact absurd h (by decide)
  | 4, _, 5, h => exact absurd h (by decide)
  | 4, _, 6, h => exact absurd h (by decide)
  | 4, _, 7, h => exact absurd h (by decide)
  | 5, _, k + 4, h => exact absurd h (by simp [hm_int, hm_ref])
  | 5, _, 1, h => exact absurd h (by decide)
  | 5, _, 2, h => exact absurd h (by decide)
  | 6, _, k + 2, h => exact absurd h (by simp [hm_int, hm_ref])
  | 6, _, 0, h => exact absurd h (by decide)
  | 7, _, k + 5, h => exact absurd h (by simp [hm_int, hm_ref])
  | 8, _, k + 3, h => exact absurd h (by simp [hm_int, hm_ref])
  | 8, _, 0, h => exact absurd h (by decide)
  | 8, _, 1, h => exact absurd h (by decide)
  | 8, _, 2, h => exact absurd h (by decide)
  | 9, _, k + 35, h => exact absurd h (by simp [hm_int, hm_ref])
  | 9, _, 1, h => exact absurd h (by decide)
  | 9, _, 2, h => exact absurd h (by decide)
  | 9, _, 3, h => exact absurd h (by decide)
  | 9, _, 4, h => exact absurd h (by decide)
  | 9, _, 5, h => exact absurd h (by decide)
  | 9, _, 6, h => exact absurd h (by decide)
  | 9, _, 7, h => exact absurd h (by decide)
  | 9, _, 8, h => exact absurd h (by decide)
  | 9, _, 9, h => exact absurd h (by decide)
  | 9, _, 10, h => exact absurd h (by decide)
  | 9, _, 11, h => exact absurd h (by decide)
  | 9, _, 12, h => exact absurd h (by decide)
  | 9, _, 13, h => exact absurd h (by decide)
  | 9, _, 14, h => exact absurd h (by decide)
  | 9, _, 15, h => exact absurd h (by decide)
  | 9, _, 16, h => exact absurd h (by decide)
  | 9, _, 17, h => exact absurd h (by decide)
  | 9, _, 18, h => exact absurd h (by decide)
  | 9, _, 19, h => exact absurd h (by decide)
  | 9, _, 20, h => exact absurd h (by decide)
  | 9, _, 21, h => exact absurd h (by decide)
  | 9, _, 22, h => exact absurd h (by decide)
  | 9, _, 23, h => exact absurd h (by decide)
  | 9, _, 24, h => exact absurd h (by decide)
  | 9, _, 25, h => exact absurd h (by decide)
  | 9, _, 26, h => exact absurd h (by decide)
  | 9, _, 27, h => exact absurd h (by decide)
  | 9, _, 28, h => exact absurd h (by decide)
theorem hm_sr {ci k : Nat} (h : hm_ref ci k = true) (hc : ci < 10) (z : Nat → Int32) (p : Nat → Option Nat) (x : Option Nat) : (hm_fl ci z p).set k (va_rf x) = hm_fl ci z (va_up p k x) := by
  match ci, hc, k, h with
  | 0, _, 2, _ => rfl
  | 1, _, 0, _ => rfl
  | 1, _, 1, _ => rfl
  | 2, _, 3, _ => rfl
  | 2, _, 4, _ => rfl
  | 3, _, 0, _ => rfl
  | 4, _, 2, _ => rfl
  | 4, _, 3, _ => rfl
  | 4, _, 4, _ => rfl
  | 4, _, 5, _ => rfl
  | 4, _, 6, _ => rfl
  | 4, _, 7, _ => rfl
  | 5, _, 1, _ => rfl
  | 5, _, 2, _ => rfl
  | 6, _, 0, _ => rfl
  | 8, _, 0, _ => rfl
  | 8, _, 1, _ => rfl
  | 8, _, 2, _ => rfl
  | 9, _, 1, _ => rfl
  | 9, _, 2, _ => rfl
  | 9, _, 3, _ => rfl
  | 9, _, 4, _ => rfl
  | 9, _, 5, _ => rfl
  | 9, _, 6, _ => rfl
  | 9, _, 7, _ => rfl
  | 9, _, 8, _ => rfl
  | 9, _, 9, _ => rfl
  | 9, _, 10, _ => rfl
  | 9, _, 11, _ => rfl
  | 9, _, 12, _ => rfl
  | 9, _, 13, _ => rfl
  | 9, _, 14, _ => rfl
  | 9, _, 15, _ => rfl
  | 9, _, 16, _ => rfl
  | 9, _, 17, _ => rfl
  | 9, _, 18, _ => rfl
  | 9, _, 19, _ => rfl
  | 9, _, 20, _ => rfl
  | 9, _, 21, _ => rfl
  | 9, _, 22, _ => rfl
  | 9, _, 23, _ => rfl
  | 9, _, 24, _ => rfl
  | 9, _, 25, _ => rfl
  | 9, _, 26, _ => rfl
  | 9, _, 27, _ => rfl
  | 9, _, 28, _ => rfl
  | 0, _, k + 5, h => exact absurd h (by simp [hm_int, hm_ref])
  | 0, _, 0, h => exact absurd h (by decide)
  | 0, _, 1, h => exact absurd h (by decide)
  | 0, _, 3, h => exact absurd h (by decide)
  | 0, _, 4, h => exact absurd h (by decide)
  | 1, _, k + 3, h => exact absurd h (by simp [hm_int, hm_ref])
  | 1, _, 2, h => exact absurd h (by decide)
  | 2, _, k + 5, h => exact absurd h (by simp [hm_int, hm_ref])
  | 2, _, 0, h => exact absurd h (by decide)
  | 2, _, 1, h => exact absurd h (by decide)
  | 2, _, 2, h => exact absurd h (by decide)
  | 3, _, k + 2, h => exact absurd h (by simp [hm_int, hm_ref])
  | 3, _, 1, h => exact absurd h (by decide)
  | 4, _, k + 17, h => exact absurd h (by simp [hm_int, hm_ref])
  | 4, _, 0, h => exact absurd h (by decide)
  | 4, _, 1, h => exact absurd h (by decide)
  | 4, _, 8, h => exact absurd h (by decide)
  | 4, _, 9, h => exact absurd h (by decide)
  | 4, _, 10, h => exact absurd h (by decide)
  | 4, _, 11, h => exact absurd h (by decide)
  | 4, _, 12, h => exact absurd h (by decide)
  | 4, _, 13, h => exact absurd h (by decide)
  | 4, _, 14, h => exact absurd h (by decide)
  | 4, _, 15, h => exact absurd h (by decide)
  | 4, _, 16, h => exact absurd h (by decide)
  | 5, _, k + 4, h => exact absurd h (by simp [hm_int, hm_ref])
  | 5, _, 0, h => exact absurd h (by decide)
  | 5, _, 3, h => exact absurd h (by decide)
  | 6, _, k + 2, h => exact absurd h (by simp [hm_int, hm_ref])
  | 6, _, 1, h => exact absurd h (by decide)
  | 7, _, k + 5, h => exact absurd h (by simp [hm_int, hm_ref])
  | 7, _, 0, h => exact absurd h (by decide)
  | 7, _, 1, h => exact absurd h (by decide)
  | 7, _, 2, h => exact absurd h (by decide)
  | 7, _, 3, h => exact absurd h (by decide)
  | 7, _, 4, h => exact absurd h (by decide)
  | 8, _, k + 3, h => exact absurd h (by simp [hm_int, hm_ref])
  | 9, _, k + 35, h => exact absurd h (by simp [hm_int, hm_ref])
  | 9, _, 0, h => exact absurd h (by decide)
  | 9, _, 29, h => exact absurd h (by decide)
  | 9, _, 30, h => exact absurd h (by decide)
  | 9, _, 31, h => exact absurd h (by decide)
  | 9, _, 32, h => exact absurd h (by decide)
  | 9, _, 33, h => exact absurd h (by decide)
  | 9, _, 34, h => exact absurd h (by decide)
section MEM
variable {c : Nat} {kd ln : Nat → Nat} {Z : Nat → Nat → Int32} {P : Nat → Nat → Option Nat} {A : Nat → Nat → Int32} {a k ci : Nat}
theorem hk_at : (hk c kd ln Z P A).2 a = hm_c (kd a) (ln a) (Z a) (P a) (A a) := rfl
theorem hk_obj (hkd : kd a = ci) (hc : ci < 10) : (hk c kd ln Z P A).2 a = .inr (ci, hm_fl ci (Z a) (P a)) := by
  rw [hk_at, hkd]
  exact if_pos hc
theorem hk_gF (ha : 1 ≤ a ∧ a ≤ c) (hkd : kd a = ci) (hc : ci < 10) : hz_gF (hk c kd ln Z P A) (some a) ci k = (hm_fl ci (Z a) (P a))[k]? := by
  show (if 1 ≤ a ∧ a ≤ c then (match (hk c kd ln Z P A).2 a with
    | .inr o => if o.1 = ci then o.2[k]? else none
    | .inl _ => none) else none) = _
  rw [if_pos ha, hk_obj hkd hc]
  exact if_pos rfl
theorem hk_gI (ha : 1 ≤ a ∧ a ≤ c) (hkd : kd a = ci) (hc : ci < 10) (hf : hm_int ci k = true) : hz_gI (hk c kd ln Z P A) (some a) ci k = some (Z a k) := by
  unfold hz_gI
  rw [hk_gF ha hkd hc, hm_fi hf hc]
  rfl
theorem hk_gR (ha : 1 ≤ a ∧ a ≤ c) (hkd : kd a = ci) (hc : ci < 10) (hf : hm_ref ci k = true) : hz_gR (hk c kd ln Z P A) (some a) ci k = some (P a k) := by
  unfold hz_gR
  rw [hk_gF ha hkd hc, hm_fr hf hc]
  cases P a k <;> rfl
theorem hk_ob (ha : 1 ≤ a ∧ a ≤ c) (hkd : kd a = ci) (hc : ci < 10) : hz_ob (hk c kd ln Z P A) (some a) ci = true := by
  show (if 1 ≤ a ∧ a ≤ c then (match (hk c kd ln Z P A).2 a with
    | .inr o => decide (o.1 = ci)
    | .inl _ => false) else false) = true
  rw [if_pos ha, hk_obj hkd hc]
  simp
theorem hm_flen {ci k : Nat} (hc : ci < 10) (h : hm_int ci k = true ∨ hm_ref ci k = true) (z : Nat → Int32) (p : Nat → Option Nat) : k < (hm_fl ci z p).length := by
  rcases h with h | h
  · exact (List.getElem?_eq_some_iff.mp (hm_fi h hc z p)).1
  · exact (List.getElem?_eq_some_iff.mp (hm_fr h hc z p)).1
theorem hk_pFI (ha : 1 ≤ a ∧ a ≤ c) (hkd : kd a = ci) (hc : ci < 10) (hf : hm_int ci k = true) (x : Int32) : hz_pF (hk c kd ln Z P A) (some a) ci k (.int x) = some (hk c kd ln (up2 Z a k x) P A) := by
  show (if 1 ≤ a ∧ a ≤ c then (match (hk c kd ln Z P A).2 a with
    | .inr o => if o.1 = ci ∧ k < o.2.length then some (c, va_up (hk c kd ln Z P A).2 a (.inr (ci, o.2.set k (.int x)))) else none
    | .inl _ => none) else none) = _
  rw [if_pos ha, hk_obj hkd hc]
  show (if ci = ci ∧ k < (hm_fl ci (Z a) (P a)).length then _ else _) = _
  rw [if_pos ⟨rfl, hm_flen hc (Or.inl hf) _ _⟩]
  show some (c, va_up (hk c kd ln Z P A).2 a (.inr (ci, (hm_fl ci (Z a) (P a)).set k (.int x)))) = _
  rw [hm_si hf hc]
  congr 1
  show (c, _) = (c, _)
  congr 1
  funext b
  show va_up _ a _ b = hm_c (kd b) (ln b) (up2 Z a k x b) (P b) (A b)
  by_cases hb : b = a
  · subst hb
    rw [hkd, up2_at]
    simp [va_up, hm_c, hc]
  · rw [up2_row hb]
    simp [va_up, hb, hm]
theorem hk_pFR (ha : 1 ≤ a ∧ a ≤ c) (hkd : kd a = ci) (hc : ci < 10) (hf : hm_ref ci k = true) (x : Option Nat) : hz_pF (hk c kd ln Z P A) (some a) ci k (va_rf x) = some (hk c kd ln Z (up2 P a k x) A) := by
  show (if 1 ≤ a ∧ a ≤ c then (match (hk c kd ln Z P A).2 a with
    | .inr o => if o.1 = ci ∧ k < o.2.length then some (c, va_up (hk c kd ln Z P A).2 a (.inr (ci, o.2.set k (va_rf x)))) else none
    | .inl _ => none) else none) = _
  rw [if_pos ha, hk_obj hkd hc]
  show (if ci = ci ∧ k < (hm_fl ci (Z a) (P a)).length then _ else _) = _
  rw [if_pos ⟨rfl, hm_flen hc (Or.inr hf) _ _⟩]
  show some (c, va_up (hk c kd ln Z P A).2 a (.inr (ci, (hm_fl ci (Z a) (P a)).set k (va_rf x)))) = _
  rw [hm_sr hf hc]
  congr 1
  show (c, _) = (c, _)
  congr 1
  funext b
  show va_up _ a _ b = hm_c (kd b) (ln b) (Z b) (up2 P a k x b) (A b)
  by_cases hb : b = a
  · subst hb
    rw [hkd, up2_at]
    simp [va_up, hm_c, hc]
  · rw [up2_row hb]
    simp [va_up, hb, hm]
theorem hk_ar (t : Nat) (ht : t < 2) (ha : 1 ≤ a ∧ a ≤ c) (hkd : kd a = 10 + t) : hz_ar (hk c kd ln Z P A) (some a) t = some (ln a, A a) := by
  show (if 1 ≤ a ∧ a ≤ c then (match (hk c kd ln Z P A).2 a with
    | .inl x => if x.1 = t then (match x.2.2 with
      | .inl f => some (x.2.1, f)
      | .inr _ => none) else none
    | .inr _ => none) else none) = _
  rw [if_pos ha, hk_at, hkd]
  match t, ht with
  | 0, _ => rfl
  | 1, _ => rfl
theorem hk_aI (t : Nat) (ht : t < 2) (ha : 1 ≤ a ∧ a ≤ c) (hkd : kd a = 10 + t) {j : Nat} (hj : j < ln a) (hl : ln a < 2 ^ 31) : hz_aI (hk c kd ln Z P A) (some a) t (nI j) = some (A a j) := by
  unfold hz_aI
  rw [hk_ar t ht ha hkd]
  have h1 : (nI j).toNatClampNeg = j := nI_clamp (by omega)
  show (if 0 ≤ nI j ∧ (nI j).toNatClampNeg < ln a then some (A a (nI j).toNatClampNeg) else none) = _
  rw [h1, if_pos ⟨nI_pos' (by omega), hj⟩]
theorem hk_aS (t : Nat) (ht : t < 2) (ha : 1 ≤ a ∧ a ≤ c) (hkd : kd a = 10 + t) {j : Nat} (hj : j < ln a) (hl : ln a < 2 ^ 31) (x : Int32) : hz_aS (hk c kd ln Z P A) (some a) t (nI j) x = some (hk c kd ln Z P (up2 A a j (hz_nar t x))) := by
  unfold hz_aS
  rw [hk_ar t ht ha hkd]
  have h1 : (nI j).toNatClampNeg = j := nI_clamp (by omega)
  show (if 0 ≤ nI j ∧ (nI j).toNatClampNeg < ln a then some (hz_pA (hk c kd ln Z P A) (some a) t (ln a) (va_up (A a) (nI j).toNatClampNeg (hz_nar t x))) else none) = _
  rw [h1, if_pos ⟨nI_pos' (by omega), hj⟩]
  congr 1
  show (c, va_up (hk c kd ln Z P A).2 a (.inl (t, ln a, .inl (va_up (A a) j (hz_nar t x))))) = (c, _)
  congr 1
  funext b
  show va_up _ a _ b = hm_c (kd b) (ln b) (Z b) (P b) (up2 A a j (hz_nar t x) b)
  by_cases hb : b = a
  · subst hb
    rw [hkd, up2_at]
    match t, ht with
    | 0, _ => simp [va_up, hm_c]
    | 1, _ => simp [va_up, hm_c]
  · rw [up2_row hb]
    simp [va_up, hb, hm]
theorem hk_aL (ha : 1 ≤ a ∧ a ≤ c) (hkd : 10 ≤ kd a) : hz_aL (hk c kd ln Z P A) (some a) = some (nI (ln a)) := by
  show (if a = 0 then some 0 else if a ≤ c then (match (hk c kd ln Z P A).2 a with
    | .inl x => if x.1 < 4 then some (Int32.ofNat x.2.1) else none
    | .inr _ => none) else none) = _
  rw [if_neg (by omega), if_pos ha.2, hk_at]
  unfold hm_c
  rw [if_neg (by omega)]
  by_cases h1 : kd a = 10
  · simp [h1, nI]
  · by_cases h2 : kd a = 11
    · simp [h2, nI]
    · by_cases h3 : kd a = 12
      · simp [h3, nI]
      · simp [h1, h2, h3, nI]
theorem hk_aL0 : hz_aL (hk c kd ln Z P A) (some 0) = some (nI 0) := rfl
theorem hk_aR (t : Nat) (ht : t = 2 ∨ t = 3) (ha : 1 ≤ a ∧ a ≤ c) (hkd : kd a = 10 + t) {j : Nat} (hj : j < ln a) (hl : ln a < 2 ^ 31) : hz_aR (hk c kd ln Z P A) (some a) t (nI j) = some (P a j) := by
  have h1 : (nI j).toNatClampNeg = j := nI_clamp (by omega)
  have hq : hz_aq (hk c kd ln Z P A) (some a) t = some (ln a, P a) := by
    show (if 1 ≤ a ∧ a ≤ c then (match (hk c kd ln Z P A).2 a with
      | .inl x => if x.1 = t then (match x.2.2 with
        | .inr (.inr (.inr (.inr f))) => some (x.2.1, f)
        | _ => none) else none
      | .inr _ => none) else none) = _
    rw [if_pos ha, hk_at, hkd]
    rcases ht with rfl | rfl <;> rfl
  unfold hz_aR
  rw [hq]
  show (if 0 ≤ nI j ∧ (nI j).toNatClampNeg < ln a then some (P a (nI j).toNatClampNeg) else none) = _
  rw [h1, if_pos ⟨nI_pos' (by omega), hj⟩]
end MEM
