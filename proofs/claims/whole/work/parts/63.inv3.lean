/-! letters that come keep it -/
theorem clr_andn (a b x : Nat) : clr (andn a b) x = andn a (setb b x) := by
  refine Nat.eq_of_testBit_eq fun j => ?_
  rw [clr_bit, andn_bit, andn_bit, setb_bit]
  cases a.testBit j <;> cases b.testBit j <;> cases decide (x = j) <;> rfl
theorem andn0 {a b : Nat} (h : andn a b = 0) (hs : ∀ j : Nat, b.testBit j = true → a.testBit j = true) : b = a := by
  refine Nat.eq_of_testBit_eq fun j => ?_
  have q := andn_bit a b j
  rw [h, Nat.zero_testBit] at q
  cases hb : b.testBit j with
  | true => rw [hs j hb]
  | false =>
    rw [hb] at q
    simp only [Bool.not_false, Bool.and_true] at q
    exact q
theorem andn_self (a : Nat) : andn a a = 0 := by
  refine Nat.eq_of_testBit_eq fun j => ?_
  rw [andn_bit, Nat.zero_testBit]
  cases a.testBit j <;> rfl
def g8 (i x : Nat) (ℓ : LL) (G : GG) : GG := (va_up G.1 i (setb (G.1 i) x), up2 G.2 i x (ℓ.2.2.1, ℓ.2.2.2))
def g8g (i x : Nat) (ℓ : LL) (s : SS) (G : GG) : GG := (va_up (va_up G.1 i (setb (G.1 i) x)) i (2 ^ i), up2 (up2 G.2 i x (ℓ.2.2.1, ℓ.2.2.2)) i i (s.1 13 i, rowL (s.2.1 0 i) (s.1 20 i)))
def g10 (i x : Nat) (G : GG) : GG := (va_up G.1 i (setb (G.1 i) x), G.2)
theorem ownE_g8 {s s1 : SS} {G : GG} {i x : Nat} {ℓ : LL} (hne : ¬ x = i) (h13 : s1.1 13 i = s.1 13 i) (h20 : s1.1 20 i = s.1 20 i) (hr : s1.2.1 0 i = s.2.1 0 i) : ownE s1 (g8 i x ℓ G) i = va_up (ownE s G i) x (ℓ.2.2.1, ℓ.2.2.2) := by
  unfold ownE g8
  rw [h13, h20, hr]
  funext j
  simp only [up2, va_up, true_and]
  by_cases c : j = i
  · have : ¬ i = x := fun q => hne q.symm
    simp [c, this]
  · simp [c]
section IX
variable {n : Nat} {s : SS} {G : GG} {i x : Nat} {ℓ : LL}
theorem go_id (I : Inv n s G) (hi : i < n) : goS n i s = s := by
  have h1 : go1 n i s = s := if_neg (fun q => ((I.2.2 i hi).1 (Or.inl q.1)).2.2.2.1 q.2)
  unfold goS
  rw [h1]
  exact if_neg (fun q => ((I.2.2 i hi).1 (Or.inr q.1)).2.2.2.1 q.2)
theorem Inv.iSync (I : Inv n s G) (hi : i < n) (hL : LtA n (s.1 12 x) (s.1 12 i) x i ℓ) (hk : ℓ.1 = 9) : Inv n (onSyncS n i x ℓ s) G := by
  unfold onSyncS
  split
  · rename_i c
    refine Inv.iRep ?_ hi (fun q => hL.1.1 q.symm) (by decide)
    refine I.loc ((((Loc.refl i s).v 20 _).w 0 _).v 13 _) (fun _ _ => ⟨rfl, rfl⟩) (Nat.le_refl _) ?_ ⟨(I.2.2 i hi).1, fun h9 => ?_⟩
    · obtain ⟨a1, a2, a3, a4, a5, a6⟩ := I.nd hi
      refine ⟨a1, a2, a3, a4, fun j hj => ?_, a6⟩
      have hj2 : j < up2 s.1 20 i ℓ.2.2.2.length 20 i := hj
      rw [up2_same] at hj2
      show isA (up2 s.2.1 0 i (becF ℓ.2.2.2 (s.2.1 0 i)) 0 i j) = true
      rw [up2_same]
      exact bec_ok hL.2.2.1 _ hj2
    · have q1 := ((I.2.2 i hi).1 (Or.inl h9)).1.1
      have q2 := hL.2.2.2.2.2.2.2 hk
      rw [c, q1] at q2
      exact absurd q2.symm hL.1.1
  · exact I
theorem Inv.iFlush (I : Inv n s G) (hi : i < n) (hx : x < n) (hL : LtA n (s.1 12 x) (s.1 12 i) x i ℓ) (hk : ℓ.1 = 7) (h7 : s.1 9 x = 3 → ℓ.2.1 = s.1 12 x → (s.1 0 x).testBit i = true) : Inv n (onFlushS n i x ℓ s) G := by
  unfold onFlushS
  split
  · exact I
  · rename_i c
    have hne : ¬ x = i := hL.1.1
    obtain ⟨a1, a2, a3, a4, a5, a6⟩ := I.nd hi
    have e12 : (sv 9 i 0 (sv 16 i (x + 1) (sv 12 i ℓ.2.1 s))).1 12 i = ℓ.2.1 := up2_same s.1 12 i _
    have I1 : Inv n (sv 9 i 0 (sv 16 i (x + 1) (sv 12 i ℓ.2.1 s))) G := by
      refine I.loc ((((Loc.refl i s).v 12 _).v 16 _).v 9 0) (fun _ _ => ⟨rfl, rfl⟩) (by rw [e12]; omega) ⟨a1, a2, a3, ?_, a5, a6⟩ (CpN.no ?_)
      · show s.1 10 i ≤ (sv 9 i 0 (sv 16 i (x + 1) (sv 12 i ℓ.2.1 s))).1 12 i
        rw [e12]
        omega
      · show ¬ (up2 s.1 9 i 0 9 i = 3 ∨ up2 s.1 9 i 0 9 i = 4)
        rw [up2_same]
        omega
    have e12x : (sv 9 i 0 (sv 16 i (x + 1) (sv 12 i ℓ.2.1 s))).1 12 x = s.1 12 x := up2_k hne
    have e9x : (sv 9 i 0 (sv 16 i (x + 1) (sv 12 i ℓ.2.1 s))).1 9 x = s.1 9 x := up2_k (f := s.1) hne
    rw [sndG_one hx]
    refine I1.snd hi hx ?_ (fun q => by simp only at q; omega) (fun _ => ⟨fun k hk2 k8 => ?_, fun t3 e => ?_⟩)
    · rw [e12, e12x]
      refine ⟨⟨fun q => hne q.symm, by simp⟩, fun q => ?_, fun a ha => ?_, fun q => ?_, fun q => ?_, fun q => ?_, fun _ => ⟨Nat.le_refl _, hL.2.2.2.2.2.1 hk⟩, fun q => ?_⟩
      · exfalso; simp only at q; omega
      · obtain ⟨j, hj, rfl⟩ := rowL_mem ha
        exact a5 j hj
      · exfalso; simp only at q; omega
      · exfalso; simp only at q; omega
      · exfalso; simp only at q; omega
      · exfalso; simp only at q; omega
    · have := (((I.2.1 i x hi hx).1 k hk2).2.2.2.2.2.2.1 k8).1
      show k.2.1 < ℓ.2.1
      omega
    · rw [e9x] at t3
      rw [e12x] at e
      refine ⟨h7 t3 e, ?_⟩
      cases hg : (G.1 x).testBit i with
      | false => rfl
      | true =>
        have := ((((I.2.2 x hx).2 t3).2.2 i hi).1 hg (fun q => hne q.symm)).1
        have e2 : ℓ.2.1 = s.1 12 x := e
        omega
theorem wgh_co (i x : Nat) (ℓ : LL) (s : SS) : Loc i s (answ i x (wghS i x ℓ s)) ∧ (∀ f : Nat, ¬ f = 1 → ¬ f = 3 → ¬ f = 4 → (answ i x (wghS i x ℓ s)).1 f i = s.1 f i) ∧ (answ i x (wghS i x ℓ s)).2.1 = s.2.1 ∧ (answ i x (wghS i x ℓ s)).1 1 i = clr (s.1 1 i) x ∧ ((answ i x (wghS i x ℓ s)).2.2.1 i = s.2.2.1 i ∨ (answ i x (wghS i x ℓ s)).2.2.1 i = ℓ.2.2.2) ∧ (answ i x (wghS i x ℓ s)).2.2.2.2.1 = s.2.2.2.2.1 := by
  unfold wghS
  split
  · refine ⟨((((Loc.refl i s).v 4 _).v 3 _).b _).v 1 _, fun f h1 h3 h4 => ?_, rfl, up2_same _ 1 i _, Or.inr (va_eq _ _ _), rfl⟩
    show up2 (up2 (up2 s.1 4 i x) 3 i ℓ.2.2.1) 1 i _ f i = _
    rw [up2_a h1, up2_a h3, up2_a h4]
  · refine ⟨(Loc.refl i s).v 1 _, fun f h1 h3 h4 => up2_a h1, rfl, up2_same _ 1 i _, Or.inl rfl, rfl⟩
theorem best8 (I : Inv n s G) (hi : i < n) (hne : ¬ x = i) (c1 : s.1 9 i = 3) (hng : (G.1 i).testBit x = false) : BestP (setb (G.1 i) x).testBit (ownE (answ i x (wghS i x ℓ s)) (g8 i x ℓ G) i) ((answ i x (wghS i x ℓ s)).1 4 i) ∧ ((answ i x (wghS i x ℓ s)).1 3 i, (answ i x (wghS i x ℓ s)).2.2.1 i) = ownE (answ i x (wghS i x ℓ s)) (g8 i x ℓ G) i ((answ i x (wghS i x ℓ s)).1 4 i) := by
  obtain ⟨a1, a2, -⟩ := (I.2.2 i hi).2 c1
  have hb4 : ¬ s.1 4 i = x := fun q => by
    have := a1.1
    rw [q, hng] at this
    cases this
  have st : if bet s i x ℓ.2.2.1 ℓ.2.2.2.length = true then BestP (fun j => (G.1 i).testBit j || decide (x = j)) (va_up (ownE s G i) x (ℓ.2.2.1, ℓ.2.2.2)) x else BestP (fun j => (G.1 i).testBit j || decide (x = j)) (va_up (ownE s G i) x (ℓ.2.2.1, ℓ.2.2.2)) (s.1 4 i) := by
    have q := a1.step hng (ℓ.2.2.1, ℓ.2.2.2)
    rw [← a2] at q
    exact q
  have hP : (setb (G.1 i) x).testBit = fun j => (G.1 i).testBit j || decide (x = j) := funext fun j => setb_bit _ _ _
  obtain ⟨-, w2, w3, -⟩ := wgh_co i x ℓ s
  have hE : ownE (answ i x (wghS i x ℓ s)) (g8 i x ℓ G) i = va_up (ownE s G i) x (ℓ.2.2.1, ℓ.2.2.2) := ownE_g8 hne (w2 13 (by decide) (by decide) (by decide)) (w2 20 (by decide) (by decide) (by decide)) (by rw [w3])
  rw [hE, hP]
  by_cases hb : bet s i x ℓ.2.2.1 ℓ.2.2.2.length = true
  · rw [if_pos hb] at st
    have e4 : (answ i x (wghS i x ℓ s)).1 4 i = x := by
      unfold wghS
      rw [if_pos hb]
      exact up2_same s.1 4 i x
    have e3 : (answ i x (wghS i x ℓ s)).1 3 i = ℓ.2.2.1 := by
      unfold wghS
      rw [if_pos hb]
      exact up2_same _ 3 i _
    have eb : (answ i x (wghS i x ℓ s)).2.2.1 i = ℓ.2.2.2 := by
      unfold wghS
      rw [if_pos hb]
      exact va_eq _ _ _
    rw [e4, e3, eb, va_eq]
    exact ⟨st, rfl⟩
  · rw [if_neg hb] at st
    have e4 : (answ i x (wghS i x ℓ s)).1 4 i = s.1 4 i := by
      unfold wghS
      rw [if_neg hb]
      rfl
    have e3 : (answ i x (wghS i x ℓ s)).1 3 i = s.1 3 i := by
      unfold wghS
      rw [if_neg hb]
      rfl
    have eb : (answ i x (wghS i x ℓ s)).2.2.1 i = s.2.2.1 i := by
      unfold wghS
      rw [if_neg hb]
      rfl
    rw [e4, e3, eb, va_ne hb4]
    exact ⟨st, a2⟩
theorem nda8 (I : Inv n s G) (hi : i < n) (hL : LtA n (s.1 12 x) (s.1 12 i) x i ℓ) : NdA n (answ i x (wghS i x ℓ s)) i := by
  obtain ⟨-, w2, w3, -, w5, -⟩ := wgh_co i x ℓ s
  obtain ⟨a1, a2, a3, a4, a5, a6⟩ := I.nd hi
  unfold NdA
  rw [w2 11 (by decide) (by decide) (by decide), w2 15 (by decide) (by decide) (by decide), w2 10 (by decide) (by decide) (by decide), w2 12 (by decide) (by decide) (by decide), w2 20 (by decide) (by decide) (by decide), w3]
  refine ⟨a1, a2, a3, a4, a5, fun a ha => ?_⟩
  rcases w5 with e | e
  · rw [e] at ha
    exact a6 a ha
  · rw [e] at ha
    exact hL.2.2.1 a ha
/-- an answer with acts, and others are still awaited -/
theorem Inv.i8 (I : Inv n s G) (hi : i < n) (hx : x < n) (hL : LtA n (s.1 12 x) (s.1 12 i) x i ℓ) (hk : ℓ.1 = 8) (c1 : s.1 9 i = 3) (c2 : ℓ.2.1 = s.1 12 i) (c3 : (s.1 0 i).testBit x = true) (hng : (G.1 i).testBit x = false) (hr : ∀ k ∈ s.2.2.2.1 x i, k.1 = 8 → ¬ k.2.1 = s.1 12 i) (hz : ¬ clr (s.1 1 i) x = 0) : Inv n (answ i x (wghS i x ℓ s)) (g8 i x ℓ G) := by
  obtain ⟨w1, w2, w3, w4, w5, -⟩ := wgh_co i x ℓ s
  obtain ⟨⟨b1, b2⟩, ⟨b3, b4⟩, b5, b6, b7, b8⟩ := (I.2.2 i hi).1 (Or.inl c1)
  obtain ⟨d1, d2, d3⟩ := (I.2.2 i hi).2 c1
  have e12 := w2 12 (by decide) (by decide) (by decide)
  have hg : (g8 i x ℓ G).1 i = setb (G.1 i) x := va_eq _ _ _
  refine I.loc w1 (fun j hj => ⟨va_ne hj, ?_⟩) (by rw [e12]; exact Nat.le_refl _) (nda8 I hi hL) ⟨fun _ => ?_, fun _ => ?_⟩
  · funext k
    exact up2_a hj
  · rw [e12, w2 10 (by decide) (by decide) (by decide), w2 0 (by decide) (by decide) (by decide), w4, hg]
    refine ⟨⟨b1, b2⟩, ⟨by rw [setb_bit, b3]; rfl, fun j hj => ?_⟩, by rw [b5, clr_andn], hz, b7, b8⟩
    rw [setb_bit] at hj
    rcases Bool.or_eq_true_iff.mp hj with q | q
    · exact b4 j q
    · have : x = j := by simpa using q
      rw [← this]
      exact c3
  · obtain ⟨f1, f2⟩ := best8 (ℓ := ℓ) I hi hL.1.1 c1 hng
    rw [hg, e12, w2 0 (by decide) (by decide) (by decide), w1.2.2.2]
    refine ⟨f1, f2, fun y hy => ?_⟩
    obtain ⟨u1, u2, u3⟩ := d3 y hy
    refine ⟨fun q1 q2 => ?_, u2, u3⟩
    rw [w1.1 12 y q2]
    by_cases c : y = x
    · subst c
      refine ⟨?_, hr⟩
      have := (hL.2.2.2.2.2.2.1 hk).1
      omega
    · rw [setb_bit] at q1
      have q3 : (G.1 i).testBit y = true := by simpa [show ¬ x = y from fun q => c q.symm] using q1
      exact u1 q3 q2
/-- the last answer: the best is given to all -/
theorem Inv.i8g (I : Inv n s G) (hi : i < n) (hL : LtA n (s.1 12 x) (s.1 12 i) x i ℓ) (c1 : s.1 9 i = 3) : Inv n (givS n i (answ i x (wghS i x ℓ s))) (g8g i x ℓ s G) := by
  obtain ⟨w1, w2, w3, w4, w5, -⟩ := wgh_co i x ℓ s
  obtain ⟨⟨b1, b2⟩, ⟨b3, b4⟩, b5, b6, b7, b8⟩ := (I.2.2 i hi).1 (Or.inl c1)
  have N := nda8 I hi hL
  obtain ⟨a1, a2, a3, a4, a5, a6⟩ := N
  have e12 := w2 12 (by decide) (by decide) (by decide)
  have e10 := w2 10 (by decide) (by decide) (by decide)
  have e0 := w2 0 (by decide) (by decide) (by decide)
  generalize answ i x (wghS i x ℓ s) = s1 at *
  have hg : (g8g i x ℓ s G).1 i = 2 ^ i := va_eq _ _ _
  have I1 : Inv n (sv 1 i (clr (s1.1 0 i) i) (sv 9 i 4 (sv 13 i (s1.1 12 i) (becS i (s1.2.2.1 i) s1)))) (g8g i x ℓ s G) := by
    refine I.loc (((((w1.v 20 _).w 0 _).v 13 _).v 9 4).v 1 _) (fun j hj => ⟨(va_ne hj : va_up _ i _ j = _).trans (va_ne hj), ?_⟩) (by show s.1 12 i ≤ s1.1 12 i; rw [e12]; exact Nat.le_refl _) ⟨a1, a2, a3, a4, fun j hj => ?_, a6⟩ ⟨fun _ => ?_, fun h9 => ?_⟩
    · funext k
      exact (up2_a hj).trans (up2_a hj)
    · have hj2 : j < up2 s1.1 20 i (s1.2.2.1 i).length 20 i := hj
      rw [up2_same] at hj2
      show isA (up2 s1.2.1 0 i (becF (s1.2.2.1 i) (s1.2.1 0 i)) 0 i j) = true
      rw [up2_same]
      exact bec_ok a6 _ hj2
    · show (s1.1 12 i % n = i ∧ s1.1 10 i < s1.1 12 i) ∧ (((g8g i x ℓ s G).1 i).testBit i = true ∧ ∀ j : Nat, ((g8g i x ℓ s G).1 i).testBit j = true → (s1.1 0 i).testBit j = true) ∧ up2 s1.1 1 i (clr (s1.1 0 i) i) 1 i = andn (s1.1 0 i) ((g8g i x ℓ s G).1 i) ∧ ¬ up2 s1.1 1 i (clr (s1.1 0 i) i) 1 i = 0 ∧ ¬ clr (s1.1 0 i) i = 0 ∧ s1.1 0 i < 2 ^ n
      rw [up2_same, hg, e12, e10, e0]
      refine ⟨⟨b1, b2⟩, ⟨by rw [one_bit]; simp, fun j hj => ?_⟩, rfl, b7, b7, b8⟩
      rw [← two_eq hj]
      exact b4 i b3
    · have h9' : up2 s1.1 9 i 4 9 i = 3 := h9
      rw [up2_same] at h9'
      omega
  unfold givS
  refine Inv.sG hi (by simp) n 0 I1 (by omega) (fun y _ hb => ⟨⟨⟨(clr_ne hb).2, by simp⟩, fun q => ?_, a6, fun q => ?_, fun q => ?_, fun q => ?_, fun q => ?_, fun _ => ?_⟩, fun q => ?_⟩)
  · exfalso; simp only at q; omega
  · exfalso; simp only at q; omega
  · exfalso; simp only at q; omega
  · exfalso; simp only at q; omega
  · exfalso; simp only at q; omega
  · show s1.1 12 i % n = i
    rw [e12]
    exact b1
  · exfalso; simp only at q; omega
/-- an answer that all is in order -/
theorem Inv.i10 (I : Inv n s G) (hi : i < n) (c1 : s.1 9 i = 4) (c3 : (s.1 0 i).testBit x = true) (hz : ¬ clr (s.1 1 i) x = 0) : Inv n (answ i x s) (g10 i x G) := by
  obtain ⟨⟨b1, b2⟩, ⟨b3, b4⟩, b5, b6, b7, b8⟩ := (I.2.2 i hi).1 (Or.inr c1)
  have hg : (g10 i x G).1 i = setb (G.1 i) x := va_eq _ _ _
  refine I.loc ((Loc.refl i s).v 1 _) (fun j hj => ⟨va_ne hj, rfl⟩) (Nat.le_refl _) (I.nd hi) ⟨fun _ => ?_, fun h9 => ?_⟩
  · show (s.1 12 i % n = i ∧ s.1 10 i < s.1 12 i) ∧ (((g10 i x G).1 i).testBit i = true ∧ ∀ j : Nat, ((g10 i x G).1 i).testBit j = true → (s.1 0 i).testBit j = true) ∧ up2 s.1 1 i (clr (s.1 1 i) x) 1 i = andn (s.1 0 i) ((g10 i x G).1 i) ∧ ¬ up2 s.1 1 i (clr (s.1 1 i) x) 1 i = 0 ∧ ¬ clr (s.1 0 i) i = 0 ∧ s.1 0 i < 2 ^ n
    rw [up2_same, hg]
    refine ⟨⟨b1, b2⟩, ⟨by rw [setb_bit, b3]; rfl, fun j hj => ?_⟩, by rw [b5, clr_andn], hz, b7, b8⟩
    rw [setb_bit] at hj
    rcases Bool.or_eq_true_iff.mp hj with q | q
    · exact b4 j q
    · have : x = j := by simpa using q
      rw [← this]
      exact c3
  · have h9' : s.1 9 i = 3 := h9
    omega
/-- the last of them: the view begins -/
theorem Inv.i10b (I : Inv n s G) (hi : i < n) (c1 : s.1 9 i = 4) : Inv n (bgnS n i (answ i x s)) (g10 i x G) := by
  obtain ⟨⟨b1, b2⟩, ⟨b3, b4⟩, b5, b6, b7, b8⟩ := (I.2.2 i hi).1 (Or.inr c1)
  have h0i := b4 i b3
  have I1 : Inv n (sv 9 i 0 (answ i x s)) (g10 i x G) := by
    refine I.loc (((Loc.refl i s).v 1 _).v 9 0) (fun j hj => ⟨va_ne hj, rfl⟩) (Nat.le_refl _) (I.nd hi) (CpN.no ?_)
    show ¬ (up2 s.1 9 i 0 9 i = 3 ∨ up2 s.1 9 i 0 9 i = 4)
    rw [up2_same]
    omega
  have I2 : Inv n (sndG i (clr (s.1 0 i) i) (11, s.1 12 i, s.1 0 i, []) 0 n (sv 9 i 0 (answ i x s))) (g10 i x G) := by
    refine Inv.sG hi (by simp) n 0 I1 (by omega) (fun y _ hb => ⟨⟨⟨(clr_ne hb).2, by simp⟩, fun q => ?_, by simp, fun q => ?_, fun _ => ⟨b8, (clr_ne hb).1⟩, fun q => ?_, fun q => ?_, fun q => ?_⟩, fun q => ?_⟩) <;> (exfalso; simp only at q; omega)
  have I3 : Inv n (sndG i (andn (s.1 11 i) (s.1 0 i)) (12, 0, 0, []) 0 n (sndG i (clr (s.1 0 i) i) (11, s.1 12 i, s.1 0 i, []) 0 n (sv 9 i 0 (answ i x s)))) (g10 i x G) := by
    refine Inv.sG hi (by simp) n 0 I2 (by omega) (fun y _ hb => ⟨LtA.pl (fun q => ?_) (by decide), fun q => by cases q⟩)
    rw [← q, andn_bit, h0i] at hb
    simp at hb
  rw [sndG_sv, sndG_sv] at I3
  have I4 := I3.iBeg hi b8 h0i
  rw [begS_sv9] at I4
  exact I4
end IX
