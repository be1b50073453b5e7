/-! the model sends -/
theorem cnt_up (f : Nat → Bool) {l : Nat} (hl : f l = false) : ∀ N : Nat, (List.range N).countP (va_up f l true) = (List.range N).countP f + (if l < N then 1 else 0)
  | 0 => rfl
  | N + 1 => by
    rw [List.range_succ, List.countP_append, List.countP_append, cnt_up f hl N]
    by_cases e : N = l
    · subst e
      simp [va_up, hl]
    · have : va_up f l true N = f N := by simp [va_up, e]
      simp only [List.countP_singleton, this]
      by_cases c : l < N
      · rw [if_pos c, if_pos (show l < N + 1 by omega)]
        omega
      · rw [if_neg c, if_neg (show ¬ l < N + 1 by omega)]
        omega
theorem cnt_dn (f : Nat → Bool) {l : Nat} (hl : f l = true) : ∀ N : Nat, (List.range N).countP f = (List.range N).countP (va_up f l false) + (if l < N then 1 else 0)
  | 0 => rfl
  | N + 1 => by
    rw [List.range_succ, List.countP_append, List.countP_append, cnt_dn f hl N]
    by_cases e : N = l
    · subst e
      simp [va_up, hl]
    · have : va_up f l false N = f N := by simp [va_up, e]
      simp only [List.countP_singleton, this]
      by_cases c : l < N
      · rw [if_pos c, if_pos (show l < N + 1 by omega)]
        omega
      · rw [if_neg c, if_neg (show ¬ l < N + 1 by omega)]
        omega
theorem first_free (f : Nat → Bool) : ∀ N : Nat, (List.range N).countP f < N → ∃ l : Nat, l < N ∧ f l = false ∧ ∀ k : Nat, k < l → f k = true
  | 0, h => absurd h (by omega)
  | N + 1, h => by
    by_cases c : (List.range N).countP f < N
    · obtain ⟨l, h1, h2⟩ := first_free f N c
      exact ⟨l, by omega, h2⟩
    · have hle : (List.range N).countP f ≤ (List.range N).length := List.countP_le_length
      rw [List.length_range] at hle
      have heq : (List.range N).countP f = (List.range N).length := by rw [List.length_range]; omega
      have hall := List.countP_eq_length.mp heq
      rw [List.range_succ, List.countP_append] at h
      refine ⟨N, by omega, ?_, fun k hk => hall k (List.mem_range.mpr hk)⟩
      cases hb : f N
      · rfl
      · rw [List.countP_singleton, hb] at h
        simp at h
        omega
def gPut (g : PG) (l a b o : Nat) (ℓ : LL) : PG := (va_up g.1 l true, va_up g.2.1 l a, va_up g.2.2.1 l b, va_up g.2.2.2.1 l o, va_up g.2.2.2.2.1 l ℓ, up2 g.2.2.2.2.2 a b (g.2.2.2.2.2 a b ++ [l]))
theorem va_ne {α : Type} {f : Nat → α} {a b : Nat} {x : α} (h : ¬ b = a) : va_up f a x b = f b := by simp [va_up, h]
theorem va_eq {α : Type} (f : Nat → α) (a : Nat) (x : α) : va_up f a x a = x := by simp [va_up]
theorem PoolG.put {A A' : Nat → Nat → Int32} {n snt fly a b l : Nat} {q : Nat → Nat → List LL} {g : PG} {ℓ : LL} (P : PoolG A n snt fly q g) (hl : l < 500) (hf : g.1 l = false) (hS : SlR A' n l a b (snt + 1) ℓ) (h21 : A' 21 l = nI 1) (ho : ∀ r k : Nat, 21 ≤ r → r ≤ 29 → ¬ r = 28 → ¬ k = l → A' r k = A r k) (h28 : ∀ k : Nat, k < 60 * l ∨ 60 * l + 60 ≤ k → A' 28 k = A 28 k) : PoolG A' n (snt + 1) (fly + 1) (up2 q a b (q a b ++ [ℓ])) (gPut g l a b (snt + 1) ℓ) := by
  obtain ⟨p1, p2, p3⟩ := P
  refine ⟨fun k hk => ?_, ?_, fun x y hx hy => ?_⟩
  · by_cases e : k = l
    · subst e
      refine ⟨?_, fun _ => ⟨?_, ?_⟩⟩
      · show A' 21 k = if va_up g.1 k true k = true then nI 1 else nI 0
        rw [va_eq, if_pos rfl, h21]
      · show SlR A' n k (va_up g.2.1 k a k) (va_up g.2.2.1 k b k) (va_up g.2.2.2.1 k (snt + 1) k) (va_up g.2.2.2.2.1 k ℓ k)
        rw [va_eq, va_eq, va_eq, va_eq]
        exact hS
      · show va_up g.2.2.2.1 k (snt + 1) k ≤ snt + 1
        rw [va_eq]
        exact Nat.le_refl _
    · obtain ⟨q1, q2⟩ := p1 k hk
      refine ⟨?_, fun hg => ?_⟩
      · show A' 21 k = if va_up g.1 l true k = true then nI 1 else nI 0
        rw [va_ne e, ho 21 k (by decide) (by decide) (by decide) e]
        exact q1
      · have hg' : va_up g.1 l true k = true := hg
        rw [va_ne e] at hg'
        obtain ⟨⟨s1, s2, s3, s4, s5, s6, s7, s8, s9, s10, s11⟩, w⟩ := q2 hg'
        refine ⟨?_, ?_⟩
        · show SlR A' n k (va_up g.2.1 l a k) (va_up g.2.2.1 l b k) (va_up g.2.2.2.1 l (snt + 1) k) (va_up g.2.2.2.2.1 l ℓ k)
          rw [va_ne e, va_ne e, va_ne e, va_ne e]
          refine ⟨(ho 22 k (by decide) (by decide) (by decide) e).trans s1, (ho 23 k (by decide) (by decide) (by decide) e).trans s2, (ho 24 k (by decide) (by decide) (by decide) e).trans s3, (ho 25 k (by decide) (by decide) (by decide) e).trans s4, (ho 26 k (by decide) (by decide) (by decide) e).trans s5, (ho 27 k (by decide) (by decide) (by decide) e).trans s6, (ho 29 k (by decide) (by decide) (by decide) e).trans s7, s8, s9, s10, fun j hj => ?_⟩
          rw [h28 (60 * k + j) (by omega)]
          exact s11 j hj
        · show va_up g.2.2.2.1 l (snt + 1) k ≤ snt + 1
          rw [va_ne e]
          omega
  · show (List.range 500).countP (va_up g.1 l true) = fly + 1
    rw [cnt_up g.1 hf 500, if_pos hl, p2]
  · obtain ⟨c1, c2, c3⟩ := p3 x y hx hy
    have nl : ∀ k : Nat, k ∈ g.2.2.2.2.2 x y → ¬ k = l := fun k hk e => by
      have := ((c2 k).mp hk).2.1
      rw [e, hf] at this
      simp at this
    have ol : ∀ k : Nat, k ∈ g.2.2.2.2.2 x y → g.2.2.2.1 k ≤ snt := fun k hk => ((p1 k ((c2 k).mp hk).1).2 ((c2 k).mp hk).2.1).2
    have pw : (g.2.2.2.2.2 x y).Pairwise (fun k j => va_up g.2.2.2.1 l (snt + 1) k < va_up g.2.2.2.1 l (snt + 1) j) := by
      refine c1.imp_of_mem fun {k j} hk hj hlt => ?_
      rw [va_ne (nl k hk), va_ne (nl j hj)]
      exact hlt
    have mp : (g.2.2.2.2.2 x y).map (va_up g.2.2.2.2.1 l ℓ) = (g.2.2.2.2.2 x y).map g.2.2.2.2.1 := List.map_congr_left fun k hk => va_ne (nl k hk)
    by_cases e : x = a ∧ y = b
    · obtain ⟨rfl, rfl⟩ := e
      show (up2 g.2.2.2.2.2 x y (g.2.2.2.2.2 x y ++ [l]) x y).Pairwise (fun k j => va_up g.2.2.2.1 l (snt + 1) k < va_up g.2.2.2.1 l (snt + 1) j) ∧ (∀ k : Nat, k ∈ up2 g.2.2.2.2.2 x y (g.2.2.2.2.2 x y ++ [l]) x y ↔ k < 500 ∧ va_up g.1 l true k = true ∧ va_up g.2.1 l x k = x ∧ va_up g.2.2.1 l y k = y) ∧ up2 q x y (q x y ++ [ℓ]) x y = (up2 g.2.2.2.2.2 x y (g.2.2.2.2.2 x y ++ [l]) x y).map (va_up g.2.2.2.2.1 l ℓ)
      rw [up2_same, up2_same]
      refine ⟨List.pairwise_append.mpr ⟨pw, List.pairwise_singleton _ _, fun k hk j hj => ?_⟩, fun k => ?_, ?_⟩
      · rw [List.mem_singleton.mp hj, va_eq, va_ne (nl k hk)]
        have := ol k hk
        omega
      · rw [List.mem_append, List.mem_singleton]
        by_cases e2 : k = l
        · subst e2
          rw [va_eq, va_eq, va_eq]
          exact ⟨fun _ => ⟨hl, rfl, rfl, rfl⟩, fun _ => Or.inr rfl⟩
        · rw [va_ne e2, va_ne e2, va_ne e2, c2 k]
          exact ⟨fun q => q.resolve_right e2, Or.inl⟩
      · rw [List.map_append, mp, ← c3]
        simp [va_up]
    · show (up2 g.2.2.2.2.2 a b (g.2.2.2.2.2 a b ++ [l]) x y).Pairwise (fun k j => va_up g.2.2.2.1 l (snt + 1) k < va_up g.2.2.2.1 l (snt + 1) j) ∧ (∀ k : Nat, k ∈ up2 g.2.2.2.2.2 a b (g.2.2.2.2.2 a b ++ [l]) x y ↔ k < 500 ∧ va_up g.1 l true k = true ∧ va_up g.2.1 l a k = x ∧ va_up g.2.2.1 l b k = y) ∧ up2 q a b (q a b ++ [ℓ]) x y = (up2 g.2.2.2.2.2 a b (g.2.2.2.2.2 a b ++ [l]) x y).map (va_up g.2.2.2.2.1 l ℓ)
      have u1 : up2 g.2.2.2.2.2 a b (g.2.2.2.2.2 a b ++ [l]) x y = g.2.2.2.2.2 x y := by simp only [up2, if_neg e]
      have u2 : up2 q a b (q a b ++ [ℓ]) x y = q x y := by simp only [up2, if_neg e]
      rw [u1, u2, mp]
      refine ⟨pw, fun k => ?_, c3⟩
      rw [c2 k]
      by_cases e2 : k = l
      · subst e2
        rw [va_eq, va_eq, va_eq, hf]
        simp
        intro _ h1 h2
        exact e ⟨h1.symm, h2.symm⟩
      · rw [va_ne e2, va_ne e2, va_ne e2]
