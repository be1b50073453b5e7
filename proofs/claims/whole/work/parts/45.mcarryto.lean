/-! the model carries out up to a number -/
theorem up2_comm {α : Type} (f : Nat → Nat → α) {a b : Nat} (k j : Nat) (x y : α) (h : ¬ a = b) : up2 (up2 f a k x) b j y = up2 (up2 f b j y) a k x := by
  funext c d
  simp only [up2]
  by_cases c1 : c = b ∧ d = j
  · have : ¬ (c = a ∧ d = k) := fun q => h (q.1.symm.trans c1.1)
    rw [if_pos c1, if_neg this, if_pos c1]
  · rw [if_neg c1, if_neg c1]
theorem step_sv (i x : Nat) (s : SS) (act : Int32) : sMach (inc 2 (sv 14 i x s)) i (mach (s.1 21 i) (s.2.1 1 i) act) = sv 14 i x (inc 2 (sMach s i (mach (s.1 21 i) (s.2.1 1 i) act))) := by
  show (up2 (up2 s.1 14 i x) 21 i _, _) = (up2 (up2 s.1 21 i _) 14 i x, _)
  rw [up2_comm _ _ _ _ _ (by decide)]
  rfl
theorem carryN_sv (i x : Nat) : ∀ (k p : Nat) (s : SS), carryN i p k (sv 14 i x s) = sv 14 i x (carryN i p k s)
  | 0, _, _ => rfl
  | k + 1, p, s => by
    show carryN i (p + 1) k (inc 2 (sMach (sv 14 i x s) i (mach (s.1 21 i) (s.2.1 1 i) (s.2.1 0 i p)))) = _
    have : inc 2 (sMach (sv 14 i x s) i (mach (s.1 21 i) (s.2.1 1 i) (s.2.1 0 i p))) = sv 14 i x (inc 2 (sMach s i (mach (s.1 21 i) (s.2.1 1 i) (s.2.1 0 i p)))) := step_sv i x s _
    rw [this, carryN_sv i x k (p + 1)]
    rfl
theorem sv_sv (f i x y : Nat) (s : SS) : sv f i x (sv f i y s) = sv f i x s := by
  unfold sv
  rw [up2_up2]
theorem sv_id (f i : Nat) (s : SS) : sv f i (s.1 f i) s = s := by
  unfold sv
  rw [up2_id]
theorem carryTo_step {i m : Nat} {s : SS} (h : s.1 14 i < min m (s.1 20 i)) : carryTo i m (sMach (inc 2 (sv 14 i (s.1 14 i + 1) s)) i (mach (s.1 21 i) (s.2.1 1 i) (s.2.1 0 i (s.1 14 i)))) = carryTo i m s := by
  rw [step_sv]
  obtain ⟨k, hk⟩ : ∃ k, min m (s.1 20 i) - s.1 14 i = k + 1 := ⟨min m (s.1 20 i) - s.1 14 i - 1, by omega⟩
  have hk2 : min m (s.1 20 i) - (s.1 14 i + 1) = k := by omega
  have e14 : (sv 14 i (s.1 14 i + 1) (inc 2 (sMach s i (mach (s.1 21 i) (s.2.1 1 i) (s.2.1 0 i (s.1 14 i)))))).1 14 i = s.1 14 i + 1 := sv_eq _ _ _ _
  have e20 : (sv 14 i (s.1 14 i + 1) (inc 2 (sMach s i (mach (s.1 21 i) (s.2.1 1 i) (s.2.1 0 i (s.1 14 i)))))).1 20 i = s.1 20 i := rfl
  unfold carryTo
  rw [e14, e20, hk, hk2, carryN_sv, sv_sv]
  rw [show max (s.1 14 i + 1) (min m (s.1 20 i)) = max (s.1 14 i) (min m (s.1 20 i)) by omega]
  rfl
theorem carryTo_end {i m : Nat} {s : SS} (h : min m (s.1 20 i) ≤ s.1 14 i) : carryTo i m s = s := by
  unfold carryTo
  rw [show min m (s.1 20 i) - s.1 14 i = 0 by omega, show max (s.1 14 i) (min m (s.1 20 i)) = s.1 14 i by omega]
  show sv 14 i (s.1 14 i) s = s
  exact sv_id _ _ _
def AcV (s : SS) (i : Nat) : Prop := ∀ j : Nat, j < s.1 20 i → isA (s.2.1 0 i j) = true
section MT
variable {n : Nat} {G : GG} {K : KK}
theorem M_carryL {i m : Nat} (hi : i < n) (hm : m < 2 ^ 31) : ∀ (k fuel : Nat) (h : HP) (s : SS), RepM n h s G K → s.1 20 i ≤ 60 → s.1 14 i ≤ 60 → s.1 21 i ≤ 20 → AcV s i → min m (s.1 20 i) - s.1 14 i = k → k < fuel → ∃ h', f_X9_carryTo_0 fuel (some 1) (nI i) (nI m) h = some h' ∧ RepM n h' (carryTo i m s) G K
  | 0, fuel, h, s, R, b20, b14, b21, av, hk, hf => by
    obtain ⟨fu, rfl⟩ : ∃ fu, fuel = fu + 1 := ⟨fuel - 1, by omega⟩
    rw [carryTo_end (by omega), f_X9_carryTo_0]
    simp only [f_X9_carryTo_33, R.r6, R.g14 hi, R.r5, R.g20 hi, Option.bind_some]
    by_cases c : m ≤ s.1 14 i
    · rw [if_pos ((nI_leI hm (by omega)).mpr c)]
      exact ⟨h, rfl, R⟩
    · rw [if_neg (fun q => c ((nI_leI hm (by omega)).mp q)), if_pos ((nI_leI (by omega) (by omega)).mpr (by omega))]
      exact ⟨h, rfl, R⟩
  | k + 1, fuel, h, s, R, b20, b14, b21, av, hk, hf => by
    obtain ⟨fu, rfl⟩ : ∃ fu, fuel = fu + 1 := ⟨fuel - 1, by omega⟩
    obtain ⟨h1, e1, R1⟩ := M_carry R hi (by omega) b21 (av _ (by omega))
    have b21' := mach_le (f := s.2.1 1 i) (act := s.2.1 0 i (s.1 14 i)) b21
    have v14 : (sMach (inc 2 (sv 14 i (s.1 14 i + 1) s)) i (mach (s.1 21 i) (s.2.1 1 i) (s.2.1 0 i (s.1 14 i)))).1 14 i = s.1 14 i + 1 := by
      rw [step_sv]; exact sv_eq _ _ _ _
    have v21 : (sMach (inc 2 (sv 14 i (s.1 14 i + 1) s)) i (mach (s.1 21 i) (s.2.1 1 i) (s.2.1 0 i (s.1 14 i)))).1 21 i = (mach (s.1 21 i) (s.2.1 1 i) (s.2.1 0 i (s.1 14 i))).1 := up2_same _ _ _ _
    have v20 : (sMach (inc 2 (sv 14 i (s.1 14 i + 1) s)) i (mach (s.1 21 i) (s.2.1 1 i) (s.2.1 0 i (s.1 14 i)))).1 20 i = s.1 20 i := rfl
    obtain ⟨h2, e2, R2⟩ := M_carryL hi hm k fu h1 _ R1 (by rw [v20]; exact b20) (by rw [v14]; omega) (by rw [v21]; exact b21') (fun j hj => av j hj) (by rw [v14, v20]; omega) (by omega)
    rw [carryTo_step (by omega)] at R2
    refine ⟨h2, ?_, R2⟩
    rw [f_X9_carryTo_0]
    simp only [R.r6, R.g14 hi, R.r5, R.g20 hi, Option.bind_some]
    rw [if_neg (fun q => by have := (nI_leI hm (by omega)).mp q; omega), if_neg (fun q => by have := (nI_leI (by omega) (by omega)).mp q; omega), if_pos R.ob, e1, Option.bind_some]
    exact e2
theorem M_carryTo {h : HP} {s : SS} (R : RepM n h s G K) {i m : Nat} (hi : i < n) (hm : m < 2 ^ 31) (b20 : s.1 20 i ≤ 60) (b14 : s.1 14 i ≤ 60) (b21 : s.1 21 i ≤ 20) (av : AcV s i) : ∃ h', f_X9_carryTo (some 1) (nI i) (nI m) h = some h' ∧ RepM n h' (carryTo i m s) G K :=
  M_carryL hi hm _ 600 h s R b20 b14 b21 av rfl (by omega)
end MT
