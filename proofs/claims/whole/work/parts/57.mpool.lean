/-! the model's pool is read -/
section PO
variable {Z A : Nat → Nat → Int32} {n snt fly : Nat} {q : Nat → Nat → List LL} {g : PG}
theorem pool_b (P : PoolG A n snt fly q g) {l : Nat} (hl : l < 500) (hb : g.1 l = true) : A 21 l = nI 1 := by
  rw [(P.1 l hl).1, if_pos hb]
theorem pool_f (P : PoolG A n snt fly q g) {l : Nat} (hl : l < 500) (hb : g.1 l = false) : A 21 l = nI 0 := by
  rw [(P.1 l hl).1, hb]
  rfl
theorem M_oldL (P : PoolG A n snt fly q g) (hs : snt < 2 ^ 31) (hn : n ≤ 7) {x y : Nat} (hx : x < n) (hy : y < n) : ∀ (m t fuel : Nat) (f : Option Nat), t + m = 500 → m < fuel → ((f = none ∧ ∀ l : Nat, l < t → ¬ l ∈ g.2.2.2.2.2 x y) ∨ ∃ k : Nat, f = some k ∧ k < t ∧ k ∈ g.2.2.2.2.2 x y ∧ ∀ l : Nat, l < t → l ∈ g.2.2.2.2.2 x y → g.2.2.2.1 k ≤ g.2.2.2.1 l) → f_X9_oldest_5 fuel (some 1) (nI x) (nI y) (encO f) (nI t) (mm Z A) = some (encO (g.2.2.2.2.2 x y).head?, mm Z A)
  | 0, t, fuel, f, ht, hf, hi => by
    obtain ⟨fu, rfl⟩ : ∃ fu, fuel = fu + 1 := ⟨fuel - 1, by omega⟩
    have ht5 : t = 500 := by omega
    subst ht5
    obtain ⟨c1, c2, c3⟩ := P.2.2 x y hx hy
    rw [f_X9_oldest_5, if_pos (by decide)]
    congr 2
    rcases hi with ⟨rfl, h0⟩ | ⟨k, rfl, hk, hm, hmin⟩
    · cases hsl : g.2.2.2.2.2 x y with
      | nil => rfl
      | cons l rest =>
        have hl : l ∈ g.2.2.2.2.2 x y := by rw [hsl]; exact List.mem_cons_self
        exact absurd hl (h0 l ((c2 l).mp hl).1)
    · cases hsl : g.2.2.2.2.2 x y with
      | nil => rw [hsl] at hm; simp at hm
      | cons l rest =>
        have hl : l ∈ g.2.2.2.2.2 x y := by rw [hsl]; exact List.mem_cons_self
        have h1 := hmin l ((c2 l).mp hl).1 hl
        rw [hsl] at hm c1
        rcases List.mem_cons.mp hm with e | e
        · rw [e]
          rfl
        · have := (List.pairwise_cons.mp c1).1 k e
          omega
  | m + 1, t, fuel, f, ht, hf, hi => by
    obtain ⟨fu, rfl⟩ : ∃ fu, fuel = fu + 1 := ⟨fuel - 1, by omega⟩
    obtain ⟨c1, c2, c3⟩ := P.2.2 x y hx hy
    have keep : (¬ t ∈ g.2.2.2.2.2 x y) → ((f = none ∧ ∀ l : Nat, l < t + 1 → ¬ l ∈ g.2.2.2.2.2 x y) ∨ ∃ k : Nat, f = some k ∧ k < t + 1 ∧ k ∈ g.2.2.2.2.2 x y ∧ ∀ l : Nat, l < t + 1 → l ∈ g.2.2.2.2.2 x y → g.2.2.2.1 k ≤ g.2.2.2.1 l) := fun hnm => by
      rcases hi with ⟨h1, h0⟩ | ⟨k, h1, hk, hm, hmin⟩
      · refine Or.inl ⟨h1, fun l hl hm => ?_⟩
        by_cases e : l = t
        · rw [e] at hm; exact hnm hm
        · exact h0 l (by omega) hm
      · refine Or.inr ⟨k, h1, by omega, hm, fun l hl hm2 => ?_⟩
        by_cases e : l = t
        · rw [e] at hm2; exact absurd hm2 hnm
        · exact hmin l (by omega) hm2
    have go : ∀ f', ((f' = none ∧ ∀ l : Nat, l < t + 1 → ¬ l ∈ g.2.2.2.2.2 x y) ∨ ∃ k : Nat, f' = some k ∧ k < t + 1 ∧ k ∈ g.2.2.2.2.2 x y ∧ ∀ l : Nat, l < t + 1 → l ∈ g.2.2.2.2.2 x y → g.2.2.2.1 k ≤ g.2.2.2.1 l) → f_X9_oldest_5 fu (some 1) (nI x) (nI y) (encO f') (nI (t + 1)) (mm Z A) = some (encO (g.2.2.2.2.2 x y).head?, mm Z A) := fun f' h' => M_oldL P hs hn hx hy m (t + 1) fu f' (by omega) (by omega) h'
    rw [f_X9_oldest_5, if_neg (fun w => by have := (nI_leI (show 500 < 2 ^ 31 by decide) (by omega)).mp w; omega), mm_r20, Option.bind_some, mm_bI (by omega), Option.bind_some]
    unfold f_X9_oldest_66 f_X9_oldest_69
    rw [nI_add]
    cases hb : g.1 t with
    | false =>
      rw [pool_f P (by omega) hb, if_pos (by decide)]
      exact go f (keep (fun hm => by have := ((c2 t).mp hm).2.1; rw [hb] at this; simp at this))
    | true =>
      obtain ⟨⟨s1, s2, s3, s4, s5, s6, s7, s8, s9, s10, s11⟩, w⟩ := (P.1 t (by omega)).2 hb
      rw [pool_b P (by omega) hb, if_neg (by decide), mm_r21, Option.bind_some, mm_aI (by decide) (show t < 501 by omega), Option.bind_some, s1]
      by_cases e1 : g.2.1 t = x
      · rw [if_pos (by rw [e1]), mm_r22, Option.bind_some, mm_aI (by decide) (show t < 501 by omega), Option.bind_some, s2]
        by_cases e2 : g.2.2.1 t = y
        · rw [if_pos (by rw [e2])]
          have hmem : t ∈ g.2.2.2.2.2 x y := (c2 t).mpr ⟨by omega, hb, e1, e2⟩
          rcases hi with ⟨h1, h0⟩ | ⟨k, h1, hk, hm, hmin⟩
          · subst h1
            rw [if_pos (show encO none = -1 from rfl)]
            refine go (some t) (Or.inr ⟨t, rfl, by omega, hmem, fun l hl hm2 => ?_⟩)
            by_cases e : l = t
            · rw [e]; exact Nat.le_refl _
            · exact absurd hm2 (h0 l (by omega))
          · subst h1
            have hmk : ¬ encO (some k) = -1 := fun w => nI_nn (show k < 2 ^ 31 by omega) (by have w2 : nI k = -1 := w; rw [w2]; decide)
            obtain ⟨⟨-, -, -, -, -, -, k7, -⟩, wk⟩ := (P.1 k (by omega)).2 ((c2 k).mp hm).2.1
            rw [if_neg hmk]
            show ((hz_gR (mm Z A) (some 1) 9 28).bind fun r13 => (hz_aI (mm Z A) r13 0 (nI t)).bind fun v15 => (hz_gR (mm Z A) (some 1) 9 28).bind fun r17 => (hz_aI (mm Z A) r17 0 (nI k)).bind fun v19 => if v19 ≤ v15 then f_X9_oldest_5 fu (some 1) (nI x) (nI y) (nI k) (nI (t + 1)) (mm Z A) else f_X9_oldest_5 fu (some 1) (nI x) (nI y) (nI t) (nI (t + 1)) (mm Z A)) = _
            rw [mm_r28, Option.bind_some, mm_aI (by decide) (show t < 501 by omega), Option.bind_some, Option.bind_some, mm_aI (by decide) (show k < 501 by omega), Option.bind_some, s7, k7]
            by_cases c : g.2.2.2.1 k ≤ g.2.2.2.1 t
            · rw [if_pos ((nI_leI (by omega) (by omega)).mpr c)]
              refine go (some k) (Or.inr ⟨k, rfl, by omega, hm, fun l hl hm2 => ?_⟩)
              by_cases e : l = t
              · rw [e]; exact c
              · exact hmin l (by omega) hm2
            · rw [if_neg (fun w => c ((nI_leI (by omega) (by omega)).mp w))]
              refine go (some t) (Or.inr ⟨t, rfl, by omega, hmem, fun l hl hm2 => ?_⟩)
              by_cases e : l = t
              · rw [e]; exact Nat.le_refl _
              · have := hmin l (by omega) hm2
                omega
        · rw [if_neg (fun w => e2 ((nI_eq (by omega) (by omega)).mp w))]
          exact go f (keep (fun hm => e2 ((c2 t).mp hm).2.2.2))
      · rw [if_neg (fun w => e1 ((nI_eq (by omega) (by omega)).mp w))]
        exact go f (keep (fun hm => e1 ((c2 t).mp hm).2.2.1))
theorem M_oldest (P : PoolG A n snt fly q g) (hs : snt < 2 ^ 31) (hn : n ≤ 7) {x y : Nat} (hx : x < n) (hy : y < n) : f_X9_oldest (some 1) (nI x) (nI y) (mm Z A) = some (encO (g.2.2.2.2.2 x y).head?, mm Z A) := by
  have := M_oldL (Z := Z) P hs hn hx hy 500 0 600 none (by omega) (by omega) (Or.inl ⟨rfl, fun l hl => by omega⟩)
  unfold f_X9_oldest
  exact this
theorem M_flyL (P : PoolG A n snt fly q g) (hn : n ≤ 7) {x y : Nat} (hx : x < n) (hy : y < n) : ∀ (m t fuel : Nat), t + m = 500 → m < fuel → f_X9_flying_33 fuel (some 1) (nI x) (nI y) (nI ((List.range t).countP (fun l => g.1 l && decide (g.2.1 l = x) && decide (g.2.2.1 l = y)))) (nI t) (mm Z A) = some (nI ((List.range 500).countP (fun l => g.1 l && decide (g.2.1 l = x) && decide (g.2.2.1 l = y))), mm Z A)
  | 0, t, fuel, ht, hf => by
    obtain ⟨fu, rfl⟩ : ∃ fu, fuel = fu + 1 := ⟨fuel - 1, by omega⟩
    have ht5 : t = 500 := by omega
    subst ht5
    rw [f_X9_flying_33, if_pos (by decide)]
  | m + 1, t, fuel, ht, hf => by
    obtain ⟨fu, rfl⟩ : ∃ fu, fuel = fu + 1 := ⟨fuel - 1, by omega⟩
    have go := M_flyL P hn hx hy m (t + 1) fu (by omega) (by omega)
    have hcs : ∀ b : Bool, (g.1 t && decide (g.2.1 t = x) && decide (g.2.2.1 t = y)) = b → (List.range (t + 1)).countP (fun l => g.1 l && decide (g.2.1 l = x) && decide (g.2.2.1 l = y)) = (List.range t).countP (fun l => g.1 l && decide (g.2.1 l = x) && decide (g.2.2.1 l = y)) + (if b = true then 1 else 0) := fun b hb => by
      rw [List.range_succ, List.countP_append, List.countP_singleton, hb]
    rw [f_X9_flying_33, if_neg (fun w => by have := (nI_leI (show 500 < 2 ^ 31 by decide) (by omega)).mp w; omega), mm_r20, Option.bind_some, mm_bI (by omega), Option.bind_some]
    unfold f_X9_flying_78 f_X9_flying_79
    rw [nI_add, nI_add, nI_add]
    cases hb : g.1 t with
    | false =>
      rw [pool_f P (by omega) hb, if_pos (by decide)]
      rw [hcs false (by rw [hb]; rfl)] at go
      exact go
    | true =>
      obtain ⟨⟨s1, s2, s3, s4, s5, s6, s7, s8, s9, s10, s11⟩, w⟩ := (P.1 t (by omega)).2 hb
      rw [pool_b P (by omega) hb, if_neg (by decide), mm_r21, Option.bind_some, mm_aI (by decide) (show t < 501 by omega), Option.bind_some, s1]
      by_cases e1 : g.2.1 t = x
      · rw [if_pos (by rw [e1]), mm_r22, Option.bind_some, mm_aI (by decide) (show t < 501 by omega), Option.bind_some, s2]
        by_cases e2 : g.2.2.1 t = y
        · rw [if_pos (by rw [e2])]
          rw [hcs true (by rw [hb, e1, e2]; simp)] at go
          exact go
        · rw [if_neg (fun w => e2 ((nI_eq (by omega) (by omega)).mp w))]
          rw [hcs false (by rw [hb, e1]; simp [e2])] at go
          exact go
      · rw [if_neg (fun w => e1 ((nI_eq (by omega) (by omega)).mp w))]
        rw [hcs false (by rw [hb]; simp [e1])] at go
        exact go
theorem pool_len (P : PoolG A n snt fly q g) {x y : Nat} (hx : x < n) (hy : y < n) : (List.range 500).countP (fun l => g.1 l && decide (g.2.1 l = x) && decide (g.2.2.1 l = y)) = (q x y).length := by
  obtain ⟨c1, c2, c3⟩ := P.2.2 x y hx hy
  rw [c3, List.length_map, List.countP_eq_length_filter]
  apply List.Perm.length_eq
  have n1 : ((List.range 500).filter (fun l => g.1 l && decide (g.2.1 l = x) && decide (g.2.2.1 l = y))).Nodup := List.nodup_range.filter _
  have n2 : (g.2.2.2.2.2 x y).Nodup := c1.imp (fun {a b} h e => by rw [e] at h; omega)
  refine (List.perm_ext_iff_of_nodup n1 n2).mpr fun l => ?_
  rw [List.mem_filter, List.mem_range, c2 l]
  simp [and_assoc]
end PO
