/-! what instructions do to abstract heaps: functions that answer none where the machine would throw -/
def hz_gF (h : HP) (r : Option Nat) (ci k : Nat) : Option Value := match r with
  | none => none
  | some a => if 1 ≤ a ∧ a ≤ h.1 then (match h.2 a with
    | .inr o => if o.1 = ci then o.2[k]? else none
    | .inl _ => none) else none
def hz_oI (v : Option Value) : Option Int32 := match v with
  | some (.int x) => some x
  | _ => none
def hz_oR (v : Option Value) : Option (Option Nat) := match v with
  | some .null => some none
  | some (.ref a) => some (some a)
  | _ => none
def hz_gI (h : HP) (r : Option Nat) (ci k : Nat) : Option Int32 := hz_oI (hz_gF h r ci k)
def hz_gR (h : HP) (r : Option Nat) (ci k : Nat) : Option (Option Nat) := hz_oR (hz_gF h r ci k)
def hz_pF (h : HP) (r : Option Nat) (ci k : Nat) (v : Value) : Option HP := match r with
  | none => none
  | some a => if 1 ≤ a ∧ a ≤ h.1 then (match h.2 a with
    | .inr o => if o.1 = ci ∧ k < o.2.length then some (h.1, va_up h.2 a (.inr (ci, o.2.set k v))) else none
    | .inl _ => none) else none
/-- an object of the class is there -/
def hz_ob (h : HP) (r : Option Nat) (ci : Nat) : Bool := match r with
  | none => false
  | some a => if 1 ≤ a ∧ a ≤ h.1 then (match h.2 a with
    | .inr o => decide (o.1 = ci)
    | .inl _ => false) else false
def hz_aL (h : HP) (r : Option Nat) : Option Int32 := match r with
  | none => none
  | some a => if a = 0 then some 0 else if a ≤ h.1 then (match h.2 a with
    | .inl x => if x.1 < 4 then some (Int32.ofNat x.2.1) else none
    | .inr _ => none) else none
/-- an array of ints (t = 0) or booleans (t = 1) -/
def hz_ar (h : HP) (r : Option Nat) (t : Nat) : Option (Nat × (Nat → Int32)) := match r with
  | none => none
  | some a => if 1 ≤ a ∧ a ≤ h.1 then (match h.2 a with
    | .inl x => if x.1 = t then (match x.2.2 with
      | .inl f => some (x.2.1, f)
      | .inr _ => none) else none
    | .inr _ => none) else none
def hz_aI (h : HP) (r : Option Nat) (t : Nat) (i : Int32) : Option Int32 := match hz_ar h r t with
  | none => none
  | some x => if 0 ≤ i ∧ i.toNatClampNeg < x.1 then some (x.2 i.toNatClampNeg) else none
def hz_nar (t : Nat) (x : Int32) : Int32 := if t = 1 then x &&& 1 else x
def hz_pA (h : HP) (r : Option Nat) (t : Nat) (n : Nat) (f : Nat → Int32) : HP := (h.1, va_up h.2 (r.getD 0) (.inl (t, n, .inl f)))
def hz_aS (h : HP) (r : Option Nat) (t : Nat) (i x : Int32) : Option HP := match hz_ar h r t with
  | none => none
  | some y => if 0 ≤ i ∧ i.toNatClampNeg < y.1 then some (hz_pA h r t y.1 (va_up y.2 i.toNatClampNeg (hz_nar t x))) else none
/-- an array of references (t = 2, 3) -/
def hz_aq (h : HP) (r : Option Nat) (t : Nat) : Option (Nat × (Nat → Option Nat)) := match r with
  | none => none
  | some a => if 1 ≤ a ∧ a ≤ h.1 then (match h.2 a with
    | .inl x => if x.1 = t then (match x.2.2 with
      | .inr (.inr (.inr (.inr f))) => some (x.2.1, f)
      | _ => none) else none
    | .inr _ => none) else none
def hz_aR (h : HP) (r : Option Nat) (t : Nat) (i : Int32) : Option (Option Nat) := match hz_aq h r t with
  | none => none
  | some x => if 0 ≤ i ∧ i.toNatClampNeg < x.1 then some (x.2 i.toNatClampNeg) else none
def hz_pQ (h : HP) (r : Option Nat) (t : Nat) (n : Nat) (f : Nat → Option Nat) : HP := (h.1, va_up h.2 (r.getD 0) (.inl (t, n, .inr (.inr (.inr (.inr f))))))
def hz_aT (h : HP) (r : Option Nat) (t ci : Nat) (i : Int32) (v : Option Nat) : Option HP := match hz_aq h r t with
  | none => none
  | some y => if (0 ≤ i ∧ i.toNatClampNeg < y.1) ∧ hz_ob h v ci = true then some (hz_pQ h r t y.1 (va_up y.2 i.toNatClampNeg v)) else none
def hz_nO (h : HP) (ci : Nat) (fs : List Value) : HP := (h.1 + 1, va_up h.2 (h.1 + 1) (.inr (ci, fs)))
def hz_nA (h : HP) (t cap : Nat) (n : Int32) : Option HP := if 0 ≤ n ∧ n.toNatClampNeg ≤ cap then some (h.1 + 1, va_up h.2 (h.1 + 1) (.inl (t, n.toNatClampNeg, .inl (fun _ => 0)))) else none
def hz_nQ (h : HP) (t cap : Nat) (n : Int32) : Option HP := if 0 ≤ n ∧ n.toNatClampNeg ≤ cap then some (h.1 + 1, va_up h.2 (h.1 + 1) (.inl (t, n.toNatClampNeg, .inr (.inr (.inr (.inr (fun _ => none))))))) else none
/-- the source of a copy: the static array is one of no elements -/
def hz_as (h : HP) (r : Option Nat) : Option (Nat × (Nat → Int32)) := if r = some 0 then some (0, fun _ => 0) else hz_ar h r 0
def hz_cp (h : HP) (r0 : Option Nat) (sp : Int32) (r1 : Option Nat) (dp n : Int32) : Option HP := match hz_as h r0, hz_ar h r1 0 with
  | some x, some y => if (0 ≤ sp ∧ 0 ≤ dp ∧ 0 ≤ n) ∧ sp.toNatClampNeg + n.toNatClampNeg ≤ x.1 ∧ dp.toNatClampNeg + n.toNatClampNeg ≤ y.1 then some (hz_pA h r1 0 y.1 (va_cpy x.2 y.2 sp.toNatClampNeg dp.toNatClampNeg n.toNatClampNeg)) else none
  | _, _ => none
/-! what they say when they answer -/
theorem hz_gF_of {h : HP} {r : Option Nat} {ci k : Nat} {v : Value} (H : hz_gF h r ci k = some v) : ∃ (a : Nat) (fs : List Value), r = some a ∧ 1 ≤ a ∧ a ≤ h.1 ∧ h.2 a = .inr (ci, fs) ∧ fs[k]? = some v := by
  unfold hz_gF at H
  split at H
  · cases H
  · rename_i a
    split at H
    · rename_i h1
      split at H
      · rename_i o ho
        split at H
        · rename_i h2
          exact ⟨a, o.2, rfl, h1.1, h1.2, by rw [ho, ← h2], H⟩
        · cases H
      · cases H
    · cases H
theorem hz_gI_of {h : HP} {r : Option Nat} {ci k : Nat} {x : Int32} (H : hz_gI h r ci k = some x) : hz_gF h r ci k = some (.int x) := by
  unfold hz_gI hz_oI at H
  split at H
  · rename_i y e
    rw [e]; cases H; rfl
  · cases H
theorem hz_gR_of {h : HP} {r : Option Nat} {ci k : Nat} {x : Option Nat} (H : hz_gR h r ci k = some x) : hz_gF h r ci k = some (va_rf x) := by
  unfold hz_gR hz_oR at H
  split at H
  · rename_i e
    rw [e]; cases H; rfl
  · rename_i y e
    rw [e]; cases H; rfl
  · cases H
theorem hz_pF_of {h h1 : HP} {r : Option Nat} {ci k : Nat} {v : Value} (H : hz_pF h r ci k v = some h1) : ∃ (a : Nat) (fs : List Value), r = some a ∧ 1 ≤ a ∧ a ≤ h.1 ∧ h.2 a = .inr (ci, fs) ∧ k < fs.length ∧ h1 = (h.1, va_up h.2 a (.inr (ci, fs.set k v))) := by
  unfold hz_pF at H
  split at H
  · cases H
  · rename_i a
    split at H
    · rename_i h1
      split at H
      · rename_i o ho
        split at H
        · rename_i h2
          exact ⟨a, o.2, rfl, h1.1, h1.2, by rw [ho, ← h2.1], h2.2, (Option.some.inj H).symm⟩
        · cases H
      · cases H
    · cases H
theorem hz_ob_of {h : HP} {r : Option Nat} {ci : Nat} (H : hz_ob h r ci = true) : ∃ (a : Nat) (fs : List Value), r = some a ∧ 1 ≤ a ∧ a ≤ h.1 ∧ h.2 a = .inr (ci, fs) := by
  unfold hz_ob at H
  split at H
  · cases H
  · rename_i a
    split at H
    · rename_i h1
      split at H
      · rename_i o ho
        exact ⟨a, o.2, rfl, h1.1, h1.2, by rw [ho, ← of_decide_eq_true H]⟩
      · cases H
    · cases H
theorem hz_ar_of {h : HP} {r : Option Nat} {t : Nat} {x : Nat × (Nat → Int32)} (H : hz_ar h r t = some x) : ∃ a : Nat, r = some a ∧ 1 ≤ a ∧ a ≤ h.1 ∧ h.2 a = .inl (t, x.1, .inl x.2) := by
  unfold hz_ar at H
  split at H
  · cases H
  · rename_i a
    split at H
    · rename_i h1
      split at H
      · rename_i o ho
        split at H
        · rename_i h2
          split at H
          · rename_i f hf
            cases H
            exact ⟨a, rfl, h1.1, h1.2, by rw [ho, ← h2, ← hf]⟩
          · cases H
        · cases H
      · cases H
    · cases H
theorem hz_aq_of {h : HP} {r : Option Nat} {t : Nat} {x : Nat × (Nat → Option Nat)} (H : hz_aq h r t = some x) : ∃ a : Nat, r = some a ∧ 1 ≤ a ∧ a ≤ h.1 ∧ h.2 a = .inl (t, x.1, .inr (.inr (.inr (.inr x.2)))) := by
  unfold hz_aq at H
  split at H
  · cases H
  · rename_i a
    split at H
    · rename_i h1
      split at H
      · rename_i o ho
        split at H
        · rename_i h2
          split at H
          · rename_i f hf
            cases H
            exact ⟨a, rfl, h1.1, h1.2, by rw [ho, ← h2, ← hf]⟩
          · cases H
        · cases H
      · cases H
    · cases H
theorem hz_in {i : Int32} {n : Nat} (h : 0 ≤ i ∧ i.toNatClampNeg < n) : vp_in i n := fun q => q.elim (fun z => absurd h.1 (Int32.not_le.mpr z)) (fun z => by omega)
theorem hz_aI_of {h : HP} {r : Option Nat} {t : Nat} {i x : Int32} (H : hz_aI h r t i = some x) : ∃ (a n : Nat) (f : Nat → Int32), r = some a ∧ 1 ≤ a ∧ a ≤ h.1 ∧ h.2 a = .inl (t, n, .inl f) ∧ vp_in i n ∧ x = f i.toNatClampNeg := by
  unfold hz_aI at H
  split at H
  · cases H
  · rename_i y hy
    obtain ⟨a, e1, e2, e3, e4⟩ := hz_ar_of hy
    split at H
    · rename_i hi
      exact ⟨a, y.1, y.2, e1, e2, e3, e4, hz_in hi, (Option.some.inj H).symm⟩
    · cases H
theorem hz_aS_of {h h1 : HP} {r : Option Nat} {t : Nat} {i x : Int32} (H : hz_aS h r t i x = some h1) : ∃ (a n : Nat) (f : Nat → Int32), r = some a ∧ 1 ≤ a ∧ a ≤ h.1 ∧ h.2 a = .inl (t, n, .inl f) ∧ vp_in i n ∧ h1 = (h.1, va_up h.2 a (.inl (t, n, .inl (va_up f i.toNatClampNeg (hz_nar t x))))) := by
  unfold hz_aS at H
  split at H
  · cases H
  · rename_i y hy
    obtain ⟨a, e1, e2, e3, e4⟩ := hz_ar_of hy
    split at H
    · rename_i hi
      refine ⟨a, y.1, y.2, e1, e2, e3, e4, hz_in hi, ?_⟩
      rw [← Option.some.inj H, hz_pA, e1]
      rfl
    · cases H
theorem hz_aR_of {h : HP} {r : Option Nat} {t : Nat} {i : Int32} {x : Option Nat} (H : hz_aR h r t i = some x) : ∃ (a n : Nat) (f : Nat → Option Nat), r = some a ∧ 1 ≤ a ∧ a ≤ h.1 ∧ h.2 a = .inl (t, n, .inr (.inr (.inr (.inr f)))) ∧ vp_in i n ∧ x = f i.toNatClampNeg := by
  unfold hz_aR at H
  split at H
  · cases H
  · rename_i y hy
    obtain ⟨a, e1, e2, e3, e4⟩ := hz_aq_of hy
    split at H
    · rename_i hi
      exact ⟨a, y.1, y.2, e1, e2, e3, e4, hz_in hi, (Option.some.inj H).symm⟩
    · cases H
theorem hz_aT_of {h h1 : HP} {r v : Option Nat} {t ci : Nat} {i : Int32} (H : hz_aT h r t ci i v = some h1) : ∃ (a n : Nat) (f : Nat → Option Nat) (b : Nat) (fs : List Value), r = some a ∧ 1 ≤ a ∧ a ≤ h.1 ∧ h.2 a = .inl (t, n, .inr (.inr (.inr (.inr f)))) ∧ vp_in i n ∧ v = some b ∧ 1 ≤ b ∧ b ≤ h.1 ∧ h.2 b = .inr (ci, fs) ∧ h1 = (h.1, va_up h.2 a (.inl (t, n, .inr (.inr (.inr (.inr (va_up f i.toNatClampNeg v))))))) := by
  unfold hz_aT at H
  split at H
  · cases H
  · rename_i y hy
    obtain ⟨a, e1, e2, e3, e4⟩ := hz_aq_of hy
    split at H
    · rename_i hi
      obtain ⟨b, fs, g1, g2, g3, g4⟩ := hz_ob_of hi.2
      refine ⟨a, y.1, y.2, b, fs, e1, e2, e3, e4, hz_in hi.1, g1, g2, g3, g4, ?_⟩
      rw [← Option.some.inj H, hz_pQ, e1]
      rfl
    · cases H
theorem hz_aL_of {h : HP} {r : Option Nat} {x : Int32} (H : hz_aL h r = some x) : ∃ a : Nat, r = some a ∧ ((a = 0 ∧ x = 0) ∨ ∃ (t : Nat) (y : vp_A), t < 4 ∧ 1 ≤ a ∧ a ≤ h.1 ∧ h.2 a = .inl (t, y) ∧ x = Int32.ofNat y.1) := by
  unfold hz_aL at H
  split at H
  · cases H
  · rename_i a
    split at H
    · rename_i h0
      exact ⟨a, rfl, Or.inl ⟨h0, (Option.some.inj H).symm⟩⟩
    · rename_i h0
      split at H
      · rename_i h1
        split at H
        · rename_i o ho
          split at H
          · rename_i h2
            exact ⟨a, rfl, Or.inr ⟨o.1, o.2, h2, by omega, h1, ho, (Option.some.inj H).symm⟩⟩
          · cases H
        · cases H
      · cases H
theorem hz_nA_of {h h1 : HP} {t cap : Nat} {n : Int32} (H : hz_nA h t cap n = some h1) : ¬ n < 0 ∧ n.toNatClampNeg ≤ cap ∧ h1 = (h.1 + 1, va_up h.2 (h.1 + 1) (.inl (t, n.toNatClampNeg, .inl (fun _ => 0)))) := by
  unfold hz_nA at H
  split at H
  · rename_i hi
    exact ⟨Int32.not_lt.mpr hi.1, hi.2, (Option.some.inj H).symm⟩
  · cases H
theorem hz_nQ_of {h h1 : HP} {t cap : Nat} {n : Int32} (H : hz_nQ h t cap n = some h1) : ¬ n < 0 ∧ n.toNatClampNeg ≤ cap ∧ h1 = (h.1 + 1, va_up h.2 (h.1 + 1) (.inl (t, n.toNatClampNeg, .inr (.inr (.inr (.inr (fun _ => none))))))) := by
  unfold hz_nQ at H
  split at H
  · rename_i hi
    exact ⟨Int32.not_lt.mpr hi.1, hi.2, (Option.some.inj H).symm⟩
  · cases H
theorem hz_cp_of {h h1 : HP} {r0 r1 : Option Nat} {sp dp n : Int32} (H : hz_cp h r0 sp r1 dp n = some h1) : ∃ (a n0 : Nat) (f : Nat → Int32) (b n1 : Nat) (g : Nat → Int32), r0 = some a ∧ ((a = 0 ∧ n0 = 0) ∨ (1 ≤ a ∧ a ≤ h.1 ∧ h.2 a = .inl (0, n0, .inl f))) ∧ r1 = some b ∧ 1 ≤ b ∧ b ≤ h.1 ∧ h.2 b = .inl (0, n1, .inl g) ∧ ¬ sp < 0 ∧ ¬ dp < 0 ∧ ¬ n < 0 ∧ sp.toNatClampNeg + n.toNatClampNeg ≤ n0 ∧ dp.toNatClampNeg + n.toNatClampNeg ≤ n1 ∧ h1 = (h.1, va_up h.2 b (.inl (0, n1, .inl (va_cpy f g sp.toNatClampNeg dp.toNatClampNeg n.toNatClampNeg)))) := by
  unfold hz_cp at H
  split at H
  · rename_i x y hx hy
    have hsrc : ∃ a : Nat, r0 = some a ∧ ((a = 0 ∧ x.1 = 0) ∨ (1 ≤ a ∧ a ≤ h.1 ∧ h.2 a = .inl (0, x.1, .inl x.2))) := by
      unfold hz_as at hx
      split at hx
      · rename_i h0
        cases hx
        exact ⟨0, h0, Or.inl ⟨rfl, rfl⟩⟩
      · obtain ⟨a, e1, e2, e3, e4⟩ := hz_ar_of hx
        exact ⟨a, e1, Or.inr ⟨e2, e3, e4⟩⟩
    obtain ⟨a, e1, e2⟩ := hsrc
    obtain ⟨b, g1, g2, g3, g4⟩ := hz_ar_of hy
    split at H
    · rename_i hi
      refine ⟨a, x.1, x.2, b, y.1, y.2, e1, e2, g1, g2, g3, g4, Int32.not_lt.mpr hi.1.1, Int32.not_lt.mpr hi.1.2.1, Int32.not_lt.mpr hi.1.2.2, hi.2.1, hi.2.2, ?_⟩
      rw [← Option.some.inj H, hz_pA, g1]
      rfl
    · cases H
  · cases H
