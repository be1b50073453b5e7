/-! new cells, and the class's channels -/
section NW
variable {c : Nat} {kd ln : Nat → Nat} {Z : Nat → Nat → Int32} {P : Nat → Nat → Option Nat} {A : Nat → Nat → Int32}
theorem hk_ext {c c' : Nat} {kd kd' ln ln' : Nat → Nat} {Z Z' : Nat → Nat → Int32} {P P' : Nat → Nat → Option Nat} {A A' : Nat → Nat → Int32} {x : HC} {a : Nat} (hc : c' = c) (ha : hm_c (kd' a) (ln' a) (Z' a) (P' a) (A' a) = x) (ho : ∀ b : Nat, ¬ b = a → kd' b = kd b ∧ ln' b = ln b ∧ Z' b = Z b ∧ P' b = P b ∧ A' b = A b) : ((c, va_up (hk c kd ln Z P A).2 a x) : HP) = hk c' kd' ln' Z' P' A' := by
  subst hc
  show (c', _) = (c', _)
  congr 1
  funext b
  show va_up _ a _ b = hm_c (kd' b) (ln' b) (Z' b) (P' b) (A' b)
  by_cases hb : b = a
  · subst hb
    rw [ha]
    simp [va_up]
  · obtain ⟨h1, h2, h3, h4, h5⟩ := ho b hb
    rw [h1, h2, h3, h4, h5]
    simp [va_up, hb, hm]
theorem hk_nL : hz_nO (hk c kd ln Z P A) 2 [.int 0, .int 0, .int 0, .null, .null] = hk (c + 1) (va_up kd (c + 1) 2) ln (va_up Z (c + 1) (fun _ => 0)) (va_up P (c + 1) (fun _ => none)) A := by
  show ((c + 1, va_up (hk (c + 1) kd ln Z P A).2 (c + 1) _) : HP) = _
  exact hk_ext rfl (by simp [va_up, hm_c, hm_fl, va_rf]) (fun b hb => by simp [va_up, hb])
theorem hk_nI {t : Nat} {cap m : Nat} (ht : t < 2) (hm' : m ≤ cap) (hcap : cap < 2 ^ 31) : hz_nA (hk c kd ln Z P A) t cap (nI m) = some (hk (c + 1) (va_up kd (c + 1) (10 + t)) (va_up ln (c + 1) m) Z P (va_up A (c + 1) (fun _ => 0))) := by
  unfold hz_nA
  rw [nI_clamp (by omega), if_pos ⟨nI_pos' (by omega), hm'⟩]
  congr 1
  show ((c + 1, va_up (hk (c + 1) kd ln Z P A).2 (c + 1) _) : HP) = _
  refine hk_ext rfl ?_ (fun b hb => by simp [va_up, hb])
  match t, ht with
  | 0, _ => simp [va_up, hm_c]
  | 1, _ => simp [va_up, hm_c]
end NW
/-- what a letter's ints and refs are when it is made -/
def lZ (k nr d : Int32) : Nat → Int32 := va_up (va_up (va_up (fun _ => 0) 0 k) 1 nr) 2 d
def lP (b : Option Nat) : Nat → Option Nat := va_up (fun _ => none) 3 b
theorem up2_va {α : Type} (f : Nat → Nat → α) (a k : Nat) (g : Nat → α) (x : α) : up2 (va_up f a g) a k x = va_up f a (va_up g k x) := by
  funext b j
  by_cases h : b = a
  · subst h
    by_cases h2 : j = k <;> simp [up2, va_up, h2]
  · simp [up2, va_up, h]
theorem C_newL {c : Nat} {kd ln : Nat → Nat} {Z : Nat → Nat → Int32} {P : Nat → Nat → Option Nat} {A : Nat → Nat → Int32} (k nr d : Int32) (b : Option Nat) : f_X2_init (some (c + 1)) k nr d b (hz_nO (hk c kd ln Z P A) 2 [.int 0, .int 0, .int 0, .null, .null]) = some (hk (c + 1) (va_up kd (c + 1) 2) ln (va_up Z (c + 1) (lZ k nr d)) (va_up P (c + 1) (lP b)) A) := by
  have hkd : va_up kd (c + 1) 2 (c + 1) = 2 := by simp [va_up]
  have ha : 1 ≤ c + 1 ∧ c + 1 ≤ c + 1 := ⟨by omega, by omega⟩
  rw [hk_nL]
  unfold f_X2_init
  rw [if_neg (by simp)]
  rw [hk_pFI ha hkd (by decide) (by decide), Option.bind_some, hk_pFI ha hkd (by decide) (by decide), Option.bind_some, hk_pFI ha hkd (by decide) (by decide), Option.bind_some, hk_pFR ha hkd (by decide) (by decide), Option.bind_some, up2_va, up2_va, up2_va, up2_va]
  rfl
section CH
variable {n : Nat} {h : HP} {s : SS}
theorem IsA.grow {c c' : Nat} {kd ln kd' ln' : Nat → Nat} {A A' : Nat → Nat → Int32} {b : Nat} {xs : List Int32} (q : IsA n c kd ln A b xs) (hc : c ≤ c') (hk' : ∀ a : Nat, bsA n ≤ a → a ≤ c → kd' a = kd a ∧ ln' a = ln a ∧ A' a = A a) : IsA n c' kd' ln' A' b xs := by
  rcases q with q | ⟨q1, q2, q3, q4, q5, q6⟩
  · exact Or.inl q
  · obtain ⟨h1, h2, h3⟩ := hk' b q1 q2
    exact Or.inr ⟨q1, by omega, h1.trans q3, h2.trans q4, q5, fun j hj => by rw [h3]; exact q6 j hj⟩
theorem IsL.grow {c c' : Nat} {kd ln kd' ln' : Nat → Nat} {Z Z' : Nat → Nat → Int32} {P P' : Nat → Nat → Option Nat} {A A' : Nat → Nat → Int32} {l : Nat} {x : LL} (q : IsL n c kd ln Z P A l x) (hc : c ≤ c') (hk' : ∀ a : Nat, bsA n ≤ a → a ≤ c → kd' a = kd a ∧ ln' a = ln a ∧ A' a = A a) (hz : ∀ a : Nat, bsA n ≤ a → a ≤ c → Z' a = Z a ∧ P' a 3 = P a 3) : IsL n c' kd' ln' Z' P' A' l x := by
  obtain ⟨q1, q2, q3, q4, q5, q6, b, q7, q8⟩ := q
  obtain ⟨h1, h2⟩ := hz l q1 q2
  exact ⟨q1, by omega, (hk' l q1 q2).1.trans q3, by rw [h1]; exact q4, by rw [h1]; exact q5, by rw [h1]; exact q6, b, h2.trans q7, q8.grow hc hk'⟩
/-- the shape stays when the fixed objects' refs and the frozen ints do -/
theorem ShC.grow {c c' : Nat} {kd ln kd' ln' : Nat → Nat} {Z Z' : Nat → Nat → Int32} {P P' : Nat → Nat → Option Nat} (S : ShC n c kd ln Z P) (hc : c ≤ c') (h1 : ∀ a : Nat, a < bsA n → kd' a = kd a ∧ ln' a = ln a) (h2 : ∀ a : Nat, a < bsA n → (a < 5 ∨ 5 + n * n ≤ a) → ∀ j : Nat, ¬ (∃ i : Nat, i < n ∧ a = nd n i + 5) → P' a j = P a j) (h3 : Z' 3 0 = Z 3 0) (h4 : ∀ i : Nat, i < n → Z' (nd n i) 0 = Z (nd n i) 0 ∧ Z' (nd n i) 1 = Z (nd n i) 1) : ShC n c' kd' ln' Z' P' := by
  obtain ⟨s1, s2, ⟨a1, a2, a3, a4⟩, s4, ⟨s5, s6, s7, s8⟩, ⟨s9, s10, s11⟩, ⟨s12, s13, s14⟩, s15⟩ := S
  have b1 := bs_ge n
  have nf : ∀ a : Nat, a < 6 + n * n → ¬ ∃ i : Nat, i < n ∧ a = nd n i + 5 := fun a ha ⟨i, _, e⟩ => by have := nd_ge n i; omega
  have kk : ∀ a : Nat, a < bsA n → kd' a = kd a := fun a ha => (h1 a ha).1
  have ll : ∀ a : Nat, a < bsA n → ln' a = ln a := fun a ha => (h1 a ha).2
  refine ⟨s1, by omega, ⟨(kk 1 (by omega)).trans a1, (h2 1 (by omega) (Or.inl (by omega)) 0 (nf 1 (by omega))).trans a2, (h2 1 (by omega) (Or.inl (by omega)) 1 (nf 1 (by omega))).trans a3, (h2 1 (by omega) (Or.inl (by omega)) 2 (nf 1 (by omega))).trans a4⟩, (kk 2 (by omega)).trans s4, ⟨(kk 3 (by omega)).trans s5, h3.trans s6, (h2 3 (by omega) (Or.inl (by omega)) 1 (nf 3 (by omega))).trans s7, (h2 3 (by omega) (Or.inl (by omega)) 2 (nf 3 (by omega))).trans s8⟩, ⟨(kk 4 (by omega)).trans s9, (ll 4 (by omega)).trans s10, fun j hj => ⟨(h2 4 (by omega) (Or.inl (by omega)) j (nf 4 (by omega))).trans (s11 j hj).1, (kk (5 + j) (by omega)).trans (s11 j hj).2⟩⟩, ⟨(kk (5 + n * n) (by omega)).trans s12, (ll (5 + n * n) (by omega)).trans s13, fun i hi => (h2 (5 + n * n) (by omega) (Or.inr (by omega)) i (nf (5 + n * n) (by omega))).trans (s14 i hi)⟩, fun i hi => ?_⟩
  obtain ⟨⟨n1, n2, n3⟩, ⟨m2, m3, m4, m5, m6, m7⟩, ⟨n4, n5, n6, n7⟩, ⟨n8, n9, n10, n11⟩, n12, n13, n14⟩ := s15 i hi
  have g := nd_ge n i
  have lt : ∀ d : Nat, d < 7 → nd n i + d < bsA n := fun d hd => nd_lt hi hd
  have l0 := lt 0 (by omega)
  have l1 := lt 1 (by omega)
  have l2 := lt 2 (by omega)
  have l3 := lt 3 (by omega)
  have l4 := lt 4 (by omega)
  have l5 := lt 5 (by omega)
  have l6 := lt 6 (by omega)
  have nn : ∀ d : Nat, d < 7 → ¬ d = 5 → ¬ ∃ j : Nat, j < n ∧ nd n i + d = nd n j + 5 := fun d hd hne ⟨j, _, e⟩ => hne (nd_inj e hd (by omega)).2
  have pp : ∀ d : Nat, d < 7 → ¬ d = 5 → ∀ j : Nat, P' (nd n i + d) j = P (nd n i + d) j := fun d hd hne j => h2 _ (lt d hd) (Or.inr (by omega)) j (nn d hd hne)
  have p0 : ∀ j : Nat, P' (nd n i) j = P (nd n i) j := pp 0 (by omega) (by omega)
  exact ⟨⟨(kk _ l0).trans n1, (h4 i hi).1.trans n2, (h4 i hi).2.trans n3⟩, ⟨(p0 2).trans m2, (p0 3).trans m3, (p0 4).trans m4, (p0 5).trans m5, (p0 6).trans m6, (p0 7).trans m7⟩, ⟨(kk _ l1).trans n4, (pp 1 (by omega) (by omega) 0).trans n5, (kk _ l2).trans n6, (ll _ l2).trans n7⟩, ⟨(kk _ l3).trans n8, (pp 3 (by omega) (by omega) 0).trans n9, (kk _ l4).trans n10, (ll _ l4).trans n11⟩, (kk _ l5).trans n12, (kk _ l6).trans n13, (ll _ l6).trans n14⟩
/-- one letter more on a channel -/
theorem RC.snd {c : Nat} {kd ln kd' : Nat → Nat} {Z Z' : Nat → Nat → Int32} {P P' : Nat → Nat → Option Nat} {A : Nat → Nat → Int32} {Q : Nat → List Nat} (R : RC n c kd ln Z P A Q s) {x y : Nat} (hx : x < n) (hy : y < n) {ℓ : LL} {b : Nat}
    (hkd : ∀ a : Nat, a ≤ c → kd' a = kd a) (hkl : kd' (c + 1) = 2)
    (hZ : ∀ a j : Nat, a ≤ c → ¬ (a = 5 + (x * n + y) ∧ j = 2) → Z' a j = Z a j) (hZe : Z' (5 + (x * n + y)) 2 = nI ((s.2.2.2.1 x y).length + 1))
    (hl0 : Z' (c + 1) 0 = nI ℓ.1) (hl1 : Z' (c + 1) 1 = nI ℓ.2.1) (hl2 : Z' (c + 1) 2 = nI ℓ.2.2.1)
    (hP : ∀ a j : Nat, a ≤ c → ¬ (a = 5 + (x * n + y) ∧ j < 2) → ¬ ((Q (x * n + y)).getLast? = some a ∧ j = 4) → P' a j = P a j)
    (hP0 : P' (5 + (x * n + y)) 0 = (Q (x * n + y) ++ [c + 1]).head?) (hP1 : P' (5 + (x * n + y)) 1 = some (c + 1)) (hPl : ∀ a : Nat, (Q (x * n + y)).getLast? = some a → P' a 4 = some (c + 1))
    (hl3 : P' (c + 1) 3 = some b) (hl4 : P' (c + 1) 4 = none) (hb : IsA n c kd ln A b ℓ.2.2.2) :
    RC n (c + 1) kd' ln Z' P' A (va_up Q (x * n + y) (Q (x * n + y) ++ [c + 1])) (s.1, s.2.1, s.2.2.1, up2 s.2.2.2.1 x y (s.2.2.2.1 x y ++ [ℓ]), s.2.2.2.2) := by
  obtain ⟨r1, r2, r3, r4, r5, r6, r7, r8, r9, r10⟩ := R
  have be := ch_lt hx hy
  have b1 := bs_ge n
  have b2 := r1.2.1
  have hn4 : 4 ≤ n * n := Nat.mul_le_mul r1.1.1 r1.1.1
  obtain ⟨e1, e2, e3, e4, e5⟩ := r8 x y hx hy
  have lt_of : ∀ (x' y' j l : Nat), x' < n → y' < n → (Q (x' * n + y'))[j]? = some l → bsA n ≤ l ∧ l ≤ c := fun x' y' j l hx' hy' hj => by
    obtain ⟨-, z, -, q1, q2, -⟩ := (r8 x' y' hx' hy').2.2.2.2 j l hj
    exact ⟨q1, q2⟩
  have last_of : ∀ a : Nat, (Q (x * n + y)).getLast? = some a → bsA n ≤ a ∧ a ≤ c := fun a ha => by
    rw [List.getLast?_eq_getElem?] at ha
    exact lt_of x y _ a hx hy ha
  have hkA : ∀ a : Nat, bsA n ≤ a → a ≤ c → kd' a = kd a ∧ ln a = ln a ∧ A a = A a := fun a _ h2 => ⟨hkd a h2, rfl, rfl⟩
  have hzA : ∀ a : Nat, bsA n ≤ a → a ≤ c → Z' a = Z a ∧ P' a 3 = P a 3 := fun a h1 h2 => ⟨funext fun j => hZ a j h2 (by omega), hP a 3 h2 (by omega) (by omega)⟩
  refine ⟨r1.grow (by omega) (fun a ha => ⟨hkd a (by omega), rfl⟩) (fun a ha ho j hj => hP a j (by omega) (by omega) (fun q => by have := (last_of a q.1).1; omega)) (hZ 3 0 (by omega) (by omega)) (fun i hi => ?_), fun f hf i hi => ?_, fun i hi => ?_, r4, fun t ht => (hZ 2 t (by omega) (by omega)).trans (r5 t ht), (hZ 3 3 (by omega) (by omega)).trans r6, fun i hi => ?_, fun x' y' hx' hy' => ?_, fun g g' j j' l hg hg' hj hj' => ?_, fun w hw => ⟨fun e => ((r10 w hw).1 e).grow (by omega) hkA hzA, fun e => ((r10 w hw).2 e).grow (by omega) hkA⟩⟩
  · have g := nd_ge n i
    have l := nd_lt hi (d := 0) (by omega)
    exact ⟨hZ _ 0 (by omega) (by omega), hZ _ 1 (by omega) (by omega)⟩
  · have g := nd_ge n i
    have l := nd_lt hi (d := vo f) (by have := vo_lt f; omega)
    exact (hZ _ _ (by omega) (by omega)).trans (r2 f hf i hi)
  · have g := nd_ge n i
    have l := nd_lt hi (d := 0) (by omega)
    exact (hZ _ _ (by omega) (by omega)).trans (r3 i hi)
  · have g := nd_ge n i
    have l := nd_lt hi (d := 5) (by omega)
    obtain ⟨b', q1, q2⟩ := r7 i hi
    exact ⟨b', (hP _ 2 (by omega) (by omega) (by omega)).trans q1, q2.grow (by omega) hkA⟩
  · obtain ⟨c1, c2, c3, c4, c5⟩ := r8 x' y' hx' hy'
    by_cases hee : x' * n + y' = x * n + y
    · have hxx : x' = x := by
        have h1 : (x' * n + y') / n = x' := by rw [Nat.mul_comm, Nat.mul_add_div (by omega)]; rw [Nat.div_eq_of_lt hy']; omega
        have h2 : (x * n + y) / n = x := by rw [Nat.mul_comm, Nat.mul_add_div (by omega)]; rw [Nat.div_eq_of_lt hy]; omega
        rw [← h1, ← h2, hee]
      subst hxx
      have hyy : y' = y := by omega
      subst hyy
      show ChC n (c + 1) kd' ln Z' P' A (x' * n + y') (va_up Q (x' * n + y') (Q (x' * n + y') ++ [c + 1]) (x' * n + y')) (up2 s.2.2.2.1 x' y' (s.2.2.2.1 x' y' ++ [ℓ]) x' y')
      rw [up2_same]
      have hv : va_up Q (x' * n + y') (Q (x' * n + y') ++ [c + 1]) (x' * n + y') = Q (x' * n + y') ++ [c + 1] := by simp [va_up]
      rw [hv]
      refine ⟨hP0, by rw [hP1]; simp, by rw [hZe]; simp, by simp [c4], fun j l hj => ?_⟩
      by_cases hjl : j < (Q (x' * n + y')).length
      · rw [List.getElem?_append_left hjl] at hj
        obtain ⟨d1, z, d2, d3⟩ := c5 j l hj
        obtain ⟨m1, m2⟩ := lt_of x' y' j l hx' hy' hj
        refine ⟨?_, z, by rw [List.getElem?_append_left (by omega)]; exact d2, d3.grow (by omega) hkA hzA⟩
        by_cases hjj : j + 1 < (Q (x' * n + y')).length
        · rw [List.getElem?_append_left hjj, ← d1]
          refine hP l 4 m2 (by omega) (fun q => ?_)
          have q1 := q.1
          rw [List.getLast?_eq_getElem?] at q1
          have := (r9 _ _ _ _ l be be q1 hj).2
          omega
        · rw [List.getElem?_append_right (by omega), show j + 1 - (Q (x' * n + y')).length = 0 by omega]
          refine hPl l ?_
          rw [List.getLast?_eq_getElem?, show (Q (x' * n + y')).length - 1 = j by omega]
          exact hj
      · rw [List.getElem?_append_right (by omega)] at hj
        have hz : j - (Q (x' * n + y')).length < 1 := (List.getElem?_eq_some_iff.mp hj).1
        have hj0 : j = (Q (x' * n + y')).length := by omega
        rw [hj0, Nat.sub_self] at hj
        have hl : l = c + 1 := by simpa using hj.symm
        subst hl
        refine ⟨?_, ℓ, ?_, by omega, by omega, hkl, hl0, hl1, hl2, b, hl3, hb.grow (by omega) hkA⟩
        · rw [hl4, List.getElem?_eq_none (by simp; omega)]
        · rw [hj0, c4, List.getElem?_append_right (by omega), Nat.sub_self]
          rfl
    · have h1 : va_up Q (x * n + y) (Q (x * n + y) ++ [c + 1]) (x' * n + y') = Q (x' * n + y') := by simp [va_up, hee]
      have h2 : up2 s.2.2.2.1 x y (s.2.2.2.1 x y ++ [ℓ]) x' y' = s.2.2.2.1 x' y' := by
        have : ¬ (x' = x ∧ y' = y) := fun q => hee (by rw [q.1, q.2])
        simp [up2, this]
      show ChC n (c + 1) kd' ln Z' P' A (x' * n + y') (va_up Q (x * n + y) (Q (x * n + y) ++ [c + 1]) (x' * n + y')) (up2 s.2.2.2.1 x y (s.2.2.2.1 x y ++ [ℓ]) x' y')
      rw [h1, h2]
      have be' := ch_lt hx' hy'
      have nl : ∀ j, ¬ ((Q (x * n + y)).getLast? = some (5 + (x' * n + y')) ∧ j = 4) := fun j q => by have := (last_of _ q.1).1; omega
      refine ⟨(hP _ 0 (by omega) (by omega) (nl 0)).trans c1, (hP _ 1 (by omega) (by omega) (nl 1)).trans c2, (hZ _ 2 (by omega) (by omega)).trans c3, c4, fun j l hj => ?_⟩
      obtain ⟨d1, z, d2, d3⟩ := c5 j l hj
      obtain ⟨m1, m2⟩ := lt_of x' y' j l hx' hy' hj
      refine ⟨?_, z, d2, d3.grow (by omega) hkA hzA⟩
      rw [← d1]
      refine hP l 4 m2 (by omega) (fun q => ?_)
      have q1 := q.1
      rw [List.getLast?_eq_getElem?] at q1
      exact hee (r9 _ _ _ _ l be be' q1 hj).1.symm
  · have key : ∀ (g j l : Nat), g < n * n → (va_up Q (x * n + y) (Q (x * n + y) ++ [c + 1]) g)[j]? = some l → ((Q g)[j]? = some l ∧ l ≤ c) ∨ (g = x * n + y ∧ j = (Q (x * n + y)).length ∧ l = c + 1) := fun g j l hg hj => by
      have hgl : ∀ j l, (Q g)[j]? = some l → l ≤ c := fun j l hq => by
        have hgx : g = (g / n) * n + g % n := by rw [Nat.mul_comm]; exact (Nat.div_add_mod g n).symm
        have hg1 : g / n < n := Nat.div_lt_of_lt_mul hg
        have hg2 : g % n < n := Nat.mod_lt _ (by omega)
        exact (lt_of (g / n) (g % n) j l hg1 hg2 (by rw [← hgx]; exact hq)).2
      by_cases hge : g = x * n + y
      · subst hge
        have hv : va_up Q (x * n + y) (Q (x * n + y) ++ [c + 1]) (x * n + y) = Q (x * n + y) ++ [c + 1] := by simp [va_up]
        rw [hv] at hj
        by_cases hjl : j < (Q (x * n + y)).length
        · rw [List.getElem?_append_left hjl] at hj
          exact Or.inl ⟨hj, hgl _ _ hj⟩
        · rw [List.getElem?_append_right (by omega)] at hj
          have hz : j - (Q (x * n + y)).length < 1 := (List.getElem?_eq_some_iff.mp hj).1
          have hj0 : j = (Q (x * n + y)).length := by omega
          rw [hj0, Nat.sub_self] at hj
          exact Or.inr ⟨rfl, hj0, by simpa using hj.symm⟩
      · have hv : va_up Q (x * n + y) (Q (x * n + y) ++ [c + 1]) g = Q g := by simp [va_up, hge]
        rw [hv] at hj
        exact Or.inl ⟨hj, hgl _ _ hj⟩
    rcases key g j l hg hj with ⟨q1, q2⟩ | ⟨q1, q2, q3⟩
    · rcases key g' j' l hg' hj' with ⟨w1, w2⟩ | ⟨w1, w2, w3⟩
      · exact r9 g g' j j' l hg hg' q1 w1
      · omega
    · rcases key g' j' l hg' hj' with ⟨w1, w2⟩ | ⟨w1, w2, w3⟩
      · omega
      · exact ⟨by rw [q1, w1], by rw [q2, w2]⟩
end CH
