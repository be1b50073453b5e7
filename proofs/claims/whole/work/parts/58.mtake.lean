/-! the model takes a letter out and keeps it -/
def gTak (g : PG) (l x y : Nat) : PG := (va_up g.1 l false, g.2.1, g.2.2.1, g.2.2.2.1, g.2.2.2.2.1, up2 g.2.2.2.2.2 x y (g.2.2.2.2.2 x y).tail)
theorem PoolG.tak {A A' : Nat → Nat → Int32} {n snt fly x y l : Nat} {q : Nat → Nat → List LL} {g : PG} (P : PoolG A n snt fly q g) (hx : x < n) (hy : y < n) {rest : List Nat} (hsl : g.2.2.2.2.2 x y = l :: rest) (h21 : A' 21 = va_up (A 21) l (nI 0)) (ho : ∀ r : Nat, 22 ≤ r → r ≤ 29 → A' r = A r) : PoolG A' n snt (fly - 1) (up2 q x y (q x y).tail) (gTak g l x y) ∧ 1 ≤ fly := by
  obtain ⟨p1, p2, p3⟩ := P
  obtain ⟨c1, c2, c3⟩ := p3 x y hx hy
  have hl : l ∈ g.2.2.2.2.2 x y := by rw [hsl]; exact List.mem_cons_self
  obtain ⟨l5, lb, lx, ly⟩ := (c2 l).mp hl
  have hcnt := cnt_dn g.1 lb 500
  rw [if_pos l5, p2] at hcnt
  refine ⟨⟨fun k hk => ⟨?_, fun hg => ?_⟩, ?_, fun a b ha hb => ?_⟩, by omega⟩
  · show A' 21 k = if va_up g.1 l false k = true then nI 1 else nI 0
    rw [h21]
    by_cases e : k = l
    · subst e
      rw [va_eq, va_eq]
      rfl
    · rw [va_ne e, va_ne e]
      exact (p1 k hk).1
  · have hg' : va_up g.1 l false k = true := hg
    by_cases e : k = l
    · subst e
      rw [va_eq] at hg'
      simp at hg'
    · rw [va_ne e] at hg'
      obtain ⟨s1, s2⟩ := (p1 k hk).2 hg'
      refine ⟨?_, s2⟩
      show SlR A' n k (g.2.1 k) (g.2.2.1 k) (g.2.2.2.1 k) (g.2.2.2.2.1 k)
      unfold SlR
      rw [ho 22 (by decide) (by decide), ho 23 (by decide) (by decide), ho 24 (by decide) (by decide), ho 25 (by decide) (by decide), ho 26 (by decide) (by decide), ho 27 (by decide) (by decide), ho 28 (by decide) (by decide), ho 29 (by decide) (by decide)]
      exact s1
  · show (List.range 500).countP (va_up g.1 l false) = fly - 1
    omega
  · obtain ⟨d1, d2, d3⟩ := p3 a b ha hb
    show (up2 g.2.2.2.2.2 x y (g.2.2.2.2.2 x y).tail a b).Pairwise (fun l k => g.2.2.2.1 l < g.2.2.2.1 k) ∧ (∀ k : Nat, k ∈ up2 g.2.2.2.2.2 x y (g.2.2.2.2.2 x y).tail a b ↔ k < 500 ∧ va_up g.1 l false k = true ∧ g.2.1 k = a ∧ g.2.2.1 k = b) ∧ up2 q x y (q x y).tail a b = (up2 g.2.2.2.2.2 x y (g.2.2.2.2.2 x y).tail a b).map g.2.2.2.2.1
    by_cases e : a = x ∧ b = y
    · obtain ⟨rfl, rfl⟩ := e
      rw [up2_same, up2_same, d3]
      rw [hsl] at d1 d2 ⊢
      obtain ⟨f1, f2⟩ := List.pairwise_cons.mp d1
      refine ⟨f2, fun k => ?_, rfl⟩
      show k ∈ rest ↔ _
      by_cases e2 : k = l
      · subst e2
        rw [va_eq]
        refine ⟨fun hk => ?_, fun w => by simp at w⟩
        have := f1 k hk
        omega
      · rw [va_ne e2, ← d2 k, List.mem_cons]
        exact ⟨Or.inr, fun w => w.resolve_left e2⟩
    · have u1 : up2 g.2.2.2.2.2 x y (g.2.2.2.2.2 x y).tail a b = g.2.2.2.2.2 a b := by simp only [up2, if_neg e]
      have u2 : up2 q x y (q x y).tail a b = q a b := by simp only [up2, if_neg e]
      rw [u1, u2]
      refine ⟨d1, fun k => ?_, d3⟩
      rw [d2 k]
      by_cases e2 : k = l
      · subst e2
        rw [va_eq]
        exact ⟨fun w => absurd ⟨w.2.2.1.symm.trans lx, w.2.2.2.symm.trans ly⟩ e, fun w => by simp at w⟩
      · rw [va_ne e2]
theorem M_keepL {Z : Nat → Nat → Int32} {l : Nat} (hl : l < 500) : ∀ (m t fuel : Nat) (A : Nat → Nat → Int32), t + m = 60 → m < fuel → ∃ A' : Nat → Nat → Int32, f_X9_keepLetter_86 fuel (some 1) (nI l) (nI t) (mm Z A) = some (mm Z A') ∧ (∀ r : Nat, ¬ r = 28 → A' r = A r) ∧ (∀ k : Nat, k < 30000 + t → A' 28 k = A 28 k) ∧ ∀ j : Nat, t ≤ j → j < 60 → A' 28 (30000 + j) = A 28 (60 * l + j)
  | 0, t, fuel, A, ht, hf => by
    obtain ⟨fu, rfl⟩ : ∃ fu, fuel = fu + 1 := ⟨fuel - 1, by omega⟩
    rw [f_X9_keepLetter_86, if_pos ((nI_leI (by omega) (by omega)).mpr (by omega))]
    exact ⟨A, rfl, fun _ _ => rfl, fun _ _ => rfl, fun j h1 h2 => by omega⟩
  | m + 1, t, fuel, A, ht, hf => by
    obtain ⟨fu, rfl⟩ : ∃ fu, fuel = fu + 1 := ⟨fuel - 1, by omega⟩
    rw [f_X9_keepLetter_86, if_neg (fun q => by have := (nI_leI (by omega) (by omega)).mp q; omega), mm_r27, Option.bind_some, Option.bind_some, nI_mul, nI_add, mm_aI (by decide) (show 60 * l + t < 30060 by omega), Option.bind_some, nI_add, mm_aS (by decide) (show 30000 + t < 30060 by omega), Option.bind_some, nI_add]
    obtain ⟨A', e, q1, q2, q3⟩ := M_keepL (Z := Z) hl m (t + 1) fu (up2 A 28 (30000 + t) (A 28 (60 * l + t))) (by omega) (by omega)
    refine ⟨A', e, fun r hr => by rw [q1 r hr, up2_row hr], fun k hk => by rw [q2 k (by omega), up2_k (by omega)], fun j h1 h2 => ?_⟩
    by_cases e : j = t
    · subst e
      rw [q2 _ (by omega), up2_same]
    · rw [q3 j (by omega) h2, up2_k (by omega)]
theorem M_keep {Z A : Nat → Nat → Int32} {n l x y o : Nat} {ℓ : LL} (hl : l < 500) (hS : SlR A n l x y o ℓ) : ∃ A' : Nat → Nat → Int32, f_X9_keepLetter (some 1) (nI l) (mm Z A) = some (mm Z A') ∧ (∀ r : Nat, r < 22 ∨ r = 29 → A' r = A r) ∧ (∀ r k : Nat, 22 ≤ r → r ≤ 27 → k < 500 → A' r k = A r k) ∧ (∀ k : Nat, k < 30000 → A' 28 k = A 28 k) ∧ KepR A' (some (x, y, ℓ)) := by
  obtain ⟨s1, s2, s3, s4, s5, s6, s7, s8, s9, s10, s11⟩ := hS
  obtain ⟨A6, hA6⟩ : ∃ A6, A6 = up2 (up2 (up2 (up2 (up2 (up2 A 22 500 (nI x)) 23 500 (nI y)) 24 500 (nI ℓ.1)) 25 500 (nI ℓ.2.1)) 26 500 (nI ℓ.2.2.1)) 27 500 (nI ℓ.2.2.2.length) := ⟨_, rfl⟩
  obtain ⟨A', e, q1, q2, q3⟩ := M_keepL (Z := Z) hl 60 0 600 A6 (by omega) (by omega)
  have k28 : A6 28 = A 28 := by rw [hA6, up2_row (by decide), up2_row (by decide), up2_row (by decide), up2_row (by decide), up2_row (by decide), up2_row (by decide)]
  refine ⟨A', ?_, fun r hr => ?_, fun r k h1 h2 hk => ?_, fun k hk => by rw [q2 k (by omega), k28], ?_⟩
  · unfold f_X9_keepLetter
    rw [mm_r21, Option.bind_some, Option.bind_some, mm_aI (by decide) (show l < 501 by omega), Option.bind_some, s1, mm_aS (by decide) (show 500 < 501 by decide), Option.bind_some]
    rw [mm_r22, Option.bind_some, Option.bind_some, mm_aI (by decide) (show l < 501 by omega), up2_row (by decide), Option.bind_some, s2, mm_aS (by decide) (show 500 < 501 by decide), Option.bind_some]
    rw [mm_r23, Option.bind_some, Option.bind_some, mm_aI (by decide) (show l < 501 by omega), up2_row (by decide), up2_row (by decide), Option.bind_some, s3, mm_aS (by decide) (show 500 < 501 by decide), Option.bind_some]
    rw [mm_r24, Option.bind_some, Option.bind_some, mm_aI (by decide) (show l < 501 by omega), up2_row (by decide), up2_row (by decide), up2_row (by decide), Option.bind_some, s4, mm_aS (by decide) (show 500 < 501 by decide), Option.bind_some]
    rw [mm_r25, Option.bind_some, Option.bind_some, mm_aI (by decide) (show l < 501 by omega), up2_row (by decide), up2_row (by decide), up2_row (by decide), up2_row (by decide), Option.bind_some, s5, mm_aS (by decide) (show 500 < 501 by decide), Option.bind_some]
    rw [mm_r26, Option.bind_some, Option.bind_some, mm_aI (by decide) (show l < 501 by omega), up2_row (by decide), up2_row (by decide), up2_row (by decide), up2_row (by decide), up2_row (by decide), Option.bind_some, s6, mm_aS (by decide) (show 500 < 501 by decide), Option.bind_some]
    rw [← hA6]
    exact e
  · rw [q1 r (by omega), hA6, up2_row (by omega), up2_row (by omega), up2_row (by omega), up2_row (by omega), up2_row (by omega), up2_row (by omega)]
  · rw [q1 r (by omega), hA6, up2_k (by omega), up2_k (by omega), up2_k (by omega), up2_k (by omega), up2_k (by omega), up2_k (by omega)]
  · intro a b m hm
    have hm2 : (x, y, ℓ) = (a, b, m) := by simpa using hm
    obtain ⟨rfl, rfl, rfl⟩ : x = a ∧ y = b ∧ ℓ = m := by
      simp only [Prod.mk.injEq] at hm2
      exact ⟨hm2.1, hm2.2.1, hm2.2.2⟩
    rw [q1 22 (by decide), q1 23 (by decide), q1 24 (by decide), q1 25 (by decide), q1 26 (by decide), q1 27 (by decide), hA6]
    refine ⟨?_, ?_, ?_, ?_, ?_, ?_, fun j hj => ?_⟩
    · rw [up2_row (by decide), up2_row (by decide), up2_row (by decide), up2_row (by decide), up2_row (by decide), up2_same]
    · rw [up2_row (by decide), up2_row (by decide), up2_row (by decide), up2_row (by decide), up2_same]
    · rw [up2_row (by decide), up2_row (by decide), up2_row (by decide), up2_same]
    · rw [up2_row (by decide), up2_row (by decide), up2_same]
    · rw [up2_row (by decide), up2_same]
    · rw [up2_same]
    · rw [q3 j (by omega) (by omega), k28]
      exact s11 j hj
section TK
variable {n : Nat} {h : HP} {s : SS} {G : GG} {K : KK}
theorem M_take (R : RepM n h s G K) {x y : Nat} (hx : x < n) (hy : y < n) {ℓ : LL} {rest : List LL} (hq : s.2.2.2.1 x y = ℓ :: rest) (hS : s.2.2.2.2.1 0 < 2 ^ 31) (h5 : s.2.2.2.2.1 5 ≤ 500) : ∃ (l : Nat) (Z A Z' A' : Nat → Nat → Int32) (o : Nat), l < 500 ∧ h = mm Z A ∧ f_X9_oldest (some 1) (nI x) (nI y) h = some (nI l, h) ∧ hz_aS h (some 21) 1 (nI l) (nI 0) = some (mm Z A') ∧ hz_gI (mm Z A') (some 1) 9 29 = some (nI (s.2.2.2.2.1 5)) ∧ hz_pF (mm Z A') (some 1) 9 29 (.int (nI (s.2.2.2.2.1 5) - nI 1)) = some (mm Z' A') ∧ RM n Z' A' (tak x y s) G none ∧ SlR A' n l x y o ℓ ∧ 1 ≤ s.2.2.2.2.1 5 := by
  have hn := R.rng
  obtain ⟨Z, A, rfl, r0, r1, r2, r3, r4, ⟨r5, r5'⟩, ⟨g, P⟩, r7, r8⟩ := R
  obtain ⟨c1, c2, c3⟩ := P.2.2 x y hx hy
  rw [hq] at c3
  cases hsl : g.2.2.2.2.2 x y with
  | nil => rw [hsl] at c3; simp at c3
  | cons l rs =>
    have hl : l ∈ g.2.2.2.2.2 x y := by rw [hsl]; exact List.mem_cons_self
    obtain ⟨l5, lb, lx, ly⟩ := (c2 l).mp hl
    rw [hsl] at c3
    have hlt : ℓ = g.2.2.2.2.1 l := (List.cons.inj c3).1
    have sl := ((P.1 l l5).2 lb).1
    rw [lx, ly, ← hlt] at sl
    have ho := M_oldest (Z := Z) P hS hn.2 hx hy
    rw [hsl] at ho
    have h21 : up2 A 21 l (hz_nar 1 (nI 0)) 21 = va_up (A 21) l (nI 0) := by
      rw [up2_at]
      rfl
    obtain ⟨PT, hf⟩ := PoolG.tak (A' := up2 A 21 l (hz_nar 1 (nI 0))) P hx hy hsl h21 (fun r h1 h2 => up2_row (by omega))
    refine ⟨l, Z, A, up2 Z 1 29 (nI (s.2.2.2.2.1 5 - 1)), up2 A 21 l (hz_nar 1 (nI 0)), g.2.2.2.1 l, l5, rfl, ho, mm_bS l5 _, by rw [mm_i29, r5'], by rw [pk_sub hf]; exact mm_p29 _, ?_, ?_, hf⟩
    · have rr : ∀ b : Nat, ¬ b = 21 → up2 A 21 l (hz_nar 1 (nI 0)) b = A b := fun b hb => up2_row hb
      refine ⟨⟨r0.1, by rw [up2_k (by decide)]; exact r0.2⟩, fun f hf i hi => ?_, fun i hi => ?_, fun g' hg' i hi j hj => ?_, fun i j hi hj hne => ?_, ⟨fun t ht => ?_, ?_⟩, ⟨gTak g l x y, ?_⟩, r7.cong fun b h1 h2 => rr b (by omega), fun _ _ _ w => by simp at w⟩
      · obtain ⟨w, -⟩ := mo_i hf
        rw [rr (mo f) (by omega)]
        exact r1 f hf i hi
      · rw [rr 13 (by decide)]
        exact r2 i hi
      · have : ¬ ma g' = 21 := by unfold ma; split <;> omega
        rw [rr _ this]
        exact r3 g' hg' i hi j hj
      · rw [rr 14 (by decide)]
        exact r4 i j hi hj hne
      · show _ = nI (va_up s.2.2.2.2.1 5 (s.2.2.2.2.1 5 - 1) t)
        rw [up2_k (by omega), va_ne (by omega), r5 t ht]
      · show _ = nI (va_up s.2.2.2.2.1 5 (s.2.2.2.2.1 5 - 1) 5)
        rw [up2_same, va_eq]
      · show PoolG _ n (va_up s.2.2.2.2.1 5 (s.2.2.2.2.1 5 - 1) 0) (va_up s.2.2.2.2.1 5 (s.2.2.2.2.1 5 - 1) 5) (up2 s.2.2.2.1 x y (s.2.2.2.1 x y).tail) _
        rw [va_ne (by decide), va_eq]
        exact PT
    · unfold SlR
      rw [up2_row (show ¬ 22 = 21 by decide), up2_row (show ¬ 23 = 21 by decide), up2_row (show ¬ 24 = 21 by decide), up2_row (show ¬ 25 = 21 by decide), up2_row (show ¬ 26 = 21 by decide), up2_row (show ¬ 27 = 21 by decide), up2_row (show ¬ 28 = 21 by decide), up2_row (show ¬ 29 = 21 by decide)]
      exact sl
theorem RM.keep {Z A A' : Nat → Nat → Int32} (r : RM n Z A s G none) {K' : KK} (h1 : ∀ a : Nat, a < 22 ∨ a = 29 → A' a = A a) (h2 : ∀ a k : Nat, 22 ≤ a → a ≤ 27 → k < 500 → A' a k = A a k) (h3 : ∀ k : Nat, k < 30000 → A' 28 k = A 28 k) (hK : KepR A' K') : RM n Z A' s G K' := by
  obtain ⟨r0, r1, r2, r3, r4, r5, ⟨g, p1, p2, p3⟩, r7, r8⟩ := r
  refine ⟨r0, fun f hf i hi => ?_, fun i hi => ?_, fun g' hg' i hi j hj => ?_, fun i j hi hj hne => ?_, r5, ⟨g, fun l hl => ⟨by rw [h1 21 (by omega)]; exact (p1 l hl).1, fun hg => ⟨?_, ((p1 l hl).2 hg).2⟩⟩, p2, p3⟩, r7.cong fun b q1 q2 => h1 b (by omega), hK⟩
  · obtain ⟨w, -⟩ := mo_i hf
    rw [h1 (mo f) (by omega)]
    exact r1 f hf i hi
  · rw [h1 13 (by omega)]
    exact r2 i hi
  · have : ma g' < 22 := by unfold ma; split <;> omega
    rw [h1 _ (Or.inl this)]
    exact r3 g' hg' i hi j hj
  · rw [h1 14 (by omega)]
    exact r4 i j hi hj hne
  · obtain ⟨s1, s2, s3, s4, s5, s6, s7, s8, s9, s10, s11⟩ := ((p1 l hl).2 hg).1
    refine ⟨(h2 22 l (by decide) (by decide) hl).trans s1, (h2 23 l (by decide) (by decide) hl).trans s2, (h2 24 l (by decide) (by decide) hl).trans s3, (h2 25 l (by decide) (by decide) hl).trans s4, (h2 26 l (by decide) (by decide) hl).trans s5, (h2 27 l (by decide) (by decide) hl).trans s6, by rw [h1 29 (by omega)]; exact s7, s8, s9, s10, fun j hj => ?_⟩
    rw [h3 _ (by omega)]
    exact s11 j hj
end TK
