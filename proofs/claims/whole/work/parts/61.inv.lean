/-! what holds between the calls -/
def NdA (n : Nat) (s : SS) (i : Nat) : Prop := s.1 11 i < 2 ^ n ∧ (s.1 11 i).testBit i = true ∧ (s.1 15 i).testBit i = false ∧ s.1 10 i ≤ s.1 12 i ∧ (∀ j : Nat, j < s.1 20 i → isA (s.2.1 0 i j) = true) ∧ ∀ a ∈ s.2.2.1 i, isA a = true
def LtA (n px py x y : Nat) (ℓ : LL) : Prop := (¬ x = y ∧ 1 ≤ ℓ.1) ∧ ((ℓ.1 = 1 ∨ ℓ.1 = 2) → ∃ act, ℓ.2.2.2 = [act]) ∧ (∀ a ∈ ℓ.2.2.2, isA a = true) ∧ (ℓ.1 = 2 → ℓ.2.2.1 < 60) ∧ (ℓ.1 = 11 → ℓ.2.2.1 < 2 ^ n ∧ ℓ.2.2.1.testBit y = true) ∧ (ℓ.1 = 7 → ℓ.2.1 ≤ px) ∧ (ℓ.1 = 8 → ℓ.2.1 ≤ px ∧ ℓ.2.1 ≤ py) ∧ (ℓ.1 = 9 → ℓ.2.1 % n = x)
def dis8 (a b : LL) : Prop := a.1 = 8 → b.1 = 8 → a.2.1 < b.2.1
def BestP (P : Nat → Bool) (E : Nat → Nat × List Int32) (b : Nat) : Prop := P b = true ∧ ∀ j : Nat, P j = true → j = b ∨ bett (E b) (E j) = true ∨ (bett (E j) (E b) = false ∧ b < j)
def ownE (s : SS) (G : GG) (i : Nat) : Nat → Nat × List Int32 := up2 G.2 i i (s.1 13 i, rowL (s.2.1 0 i) (s.1 20 i)) i
def CpN (n : Nat) (s : SS) (G : GG) (i : Nat) : Prop := (s.1 9 i = 3 ∨ s.1 9 i = 4) → (s.1 12 i % n = i ∧ s.1 10 i < s.1 12 i) ∧ ((G.1 i).testBit i = true ∧ ∀ j : Nat, (G.1 i).testBit j = true → (s.1 0 i).testBit j = true) ∧ s.1 1 i = andn (s.1 0 i) (G.1 i) ∧ ¬ s.1 1 i = 0 ∧ ¬ clr (s.1 0 i) i = 0 ∧ s.1 0 i < 2 ^ n
def Cp3 (n : Nat) (s : SS) (G : GG) (i : Nat) : Prop := s.1 9 i = 3 → BestP (G.1 i).testBit (ownE s G i) (s.1 4 i) ∧ (s.1 3 i, s.2.2.1 i) = ownE s G i (s.1 4 i) ∧ ∀ y : Nat, y < n → ((G.1 i).testBit y = true → ¬ y = i → s.1 12 i ≤ s.1 12 y ∧ ∀ ℓ ∈ s.2.2.2.1 y i, ℓ.1 = 8 → ¬ ℓ.2.1 = s.1 12 i) ∧ (∀ ℓ ∈ s.2.2.2.1 i y, ℓ.1 = 7 → ℓ.2.1 = s.1 12 i → (s.1 0 i).testBit y = true) ∧ ∀ ℓ ∈ s.2.2.2.1 y i, ℓ.1 = 8 → ℓ.2.1 = s.1 12 i → (s.1 0 i).testBit y = true
def Inv (n : Nat) (s : SS) (G : GG) : Prop := (∀ i : Nat, i < n → NdA n s i) ∧ (∀ x y : Nat, x < n → y < n → (∀ ℓ ∈ s.2.2.2.1 x y, LtA n (s.1 12 x) (s.1 12 y) x y ℓ) ∧ (s.2.2.2.1 x y).Pairwise dis8) ∧ ∀ i : Nat, i < n → CpN n s G i ∧ Cp3 n s G i
theorem LtA.mono {n px py px' py' x y : Nat} {ℓ : LL} (L : LtA n px py x y ℓ) (h1 : px ≤ px') (h2 : py ≤ py') : LtA n px' py' x y ℓ := by
  obtain ⟨a, b, c, d, e, f, g, k⟩ := L
  exact ⟨a, b, c, d, e, fun q => Nat.le_trans (f q) h1, fun q => ⟨Nat.le_trans (g q).1 h1, Nat.le_trans (g q).2 h2⟩, k⟩
theorem bett_t {a b : Nat × List Int32} : bett a b = true ↔ b.1 < a.1 ∨ (a.1 = b.1 ∧ b.2.length < a.2.length) := by
  simp [bett]
theorem bett_f {a b : Nat × List Int32} : bett a b = false ↔ ¬ (b.1 < a.1 ∨ (a.1 = b.1 ∧ b.2.length < a.2.length)) := by
  rw [← bett_t]
  cases bett a b <;> simp
theorem selB {P : Nat → Bool} {E : Nat → Nat × List Int32} {b : Nat} (H : BestP P E b) : ∀ t : Nat, (t ≤ b → ∀ k : Nat, selS P E t = some k → bett (E b) (E k) = true) ∧ (b < t → selS P E t = some b)
  | 0 => ⟨fun _ k q => by simp [selS] at q, fun q => by omega⟩
  | t + 1 => by
    obtain ⟨i1, i2⟩ := selB H t
    refine ⟨fun ht k q => ?_, fun ht => ?_⟩
    · obtain ⟨k1, k2⟩ := selS_lt P E (t + 1) k q
      rcases H.2 k k2 with e | e | e
      · omega
      · exact e
      · omega
    · by_cases c : t = b
      · subst c
        have hP := H.1
        simp only [selS, if_pos hP]
        cases hs : selS P E t with
        | none => rfl
        | some k => simp only [nxB, if_pos (i1 (Nat.le_refl _) k hs)]
      · have q := i2 (by omega)
        simp only [selS, q]
        split
        · rename_i hP
          have : bett (E t) (E b) = false := by
            rcases H.2 t hP with e | e | e
            · exact absurd e c
            · rw [bett_t] at e
              rw [bett_f]
              omega
            · exact e.1
          simp only [nxB, this, Bool.false_eq_true, if_false]
        · rfl
def bcond (e f : Nat × List Int32) (x b : Nat) : Bool := if e.1 = f.1 then (if e.2.length = f.2.length then decide (x < b) else decide (f.2.length < e.2.length)) else decide (f.1 < e.1)
/-- one more is heard of -/
theorem BestP.step {P : Nat → Bool} {E : Nat → Nat × List Int32} {b x : Nat} (H : BestP P E b) (hx : P x = false) (e : Nat × List Int32) : (if bcond e (E b) x b = true then BestP (fun j => P j || decide (x = j)) (va_up E x e) x else BestP (fun j => P j || decide (x = j)) (va_up E x e) b) := by
  have hb : ¬ b = x := fun q => by rw [← q, H.1] at hx; cases hx
  have Eb : va_up E x e b = E b := va_ne hb
  have Ex : va_up E x e x = e := va_eq _ _ _
  by_cases hc : bcond e (E b) x b = true
  · rw [if_pos hc]
    unfold bcond at hc
    refine ⟨by simp, fun j hj => ?_⟩
    by_cases c : j = x
    · exact Or.inl c
    · have hj2 : P j = true := by simpa [show ¬ x = j from fun q => c q.symm] using hj
      have Ej : va_up E x e j = E j := va_ne c
      rw [Ex, Ej, bett_t, bett_f]
      rcases H.2 j hj2 with q | q | ⟨q, q2⟩
      · subst q
        split at hc
        · split at hc <;> simp only [decide_eq_true_eq] at hc <;> omega
        · simp only [decide_eq_true_eq] at hc
          omega
      · rw [bett_t] at q
        split at hc
        · split at hc <;> simp only [decide_eq_true_eq] at hc <;> omega
        · simp only [decide_eq_true_eq] at hc
          omega
      · rw [bett_f] at q
        split at hc
        · split at hc <;> simp only [decide_eq_true_eq] at hc <;> omega
        · simp only [decide_eq_true_eq] at hc
          omega
  · rw [if_neg hc]
    unfold bcond at hc
    refine ⟨by simp [H.1], fun j hj => ?_⟩
    by_cases c : j = x
    · subst c
      right
      rw [Ex, Eb, bett_t, bett_f]
      split at hc
      · split at hc <;> simp only [decide_eq_true_eq] at hc <;> omega
      · simp only [decide_eq_true_eq] at hc
        omega
    · have hj2 : P j = true := by simpa [show ¬ x = j from fun q => c q.symm] using hj
      have Ej : va_up E x e j = E j := va_ne c
      rw [Eb, Ej]
      exact H.2 j hj2
section IV
variable {n : Nat} {s s' : SS} {G G' : GG}
/-- what no promise speaks of may change -/
theorem Inv.same (I : Inv n s G) (hV : ∀ f : Nat, ¬ f = 8 → ¬ f = 14 → ¬ f = 16 → ¬ f = 21 → s'.1 f = s.1 f) (hW : s'.2.1 0 = s.2.1 0) (hb : s'.2.2.1 = s.2.2.1) (hq : s'.2.2.2.1 = s.2.2.2.1) : Inv n s' G := by
  unfold Inv NdA CpN Cp3 ownE at I ⊢
  rw [hV 0 (by decide) (by decide) (by decide) (by decide), hV 1 (by decide) (by decide) (by decide) (by decide), hV 3 (by decide) (by decide) (by decide) (by decide), hV 4 (by decide) (by decide) (by decide) (by decide), hV 9 (by decide) (by decide) (by decide) (by decide), hV 10 (by decide) (by decide) (by decide) (by decide), hV 11 (by decide) (by decide) (by decide) (by decide), hV 12 (by decide) (by decide) (by decide) (by decide), hV 13 (by decide) (by decide) (by decide) (by decide), hV 15 (by decide) (by decide) (by decide) (by decide), hV 20 (by decide) (by decide) (by decide) (by decide), hW, hb, hq]
  exact I
def Loc (i : Nat) (s s' : SS) : Prop := (∀ f j : Nat, ¬ j = i → s'.1 f j = s.1 f j) ∧ (∀ j : Nat, ¬ j = i → s'.2.1 0 j = s.2.1 0 j) ∧ (∀ j : Nat, ¬ j = i → s'.2.2.1 j = s.2.2.1 j) ∧ s'.2.2.2.1 = s.2.2.2.1
theorem Loc.refl (i : Nat) (s : SS) : Loc i s s := ⟨fun _ _ _ => rfl, fun _ _ => rfl, fun _ _ => rfl, rfl⟩
theorem Loc.v {i : Nat} (L : Loc i s s') (f x : Nat) : Loc i s (sv f i x s') := ⟨fun g j hj => (up2_k hj).trans (L.1 g j hj), L.2.1, L.2.2.1, L.2.2.2⟩
theorem Loc.w {i : Nat} (L : Loc i s s') (g : Nat) (F : Nat → Int32) : Loc i s (sw g i F s') := ⟨L.1, fun j hj => (up2_k hj : up2 s'.2.1 g i F 0 j = _).trans (L.2.1 j hj), L.2.2.1, L.2.2.2⟩
theorem Loc.b {i : Nat} (L : Loc i s s') (xs : List Int32) : Loc i s (sb i xs s') := ⟨L.1, L.2.1, fun j hj => (va_ne hj : va_up s'.2.2.1 i xs j = _).trans (L.2.2.1 j hj), L.2.2.2⟩
theorem Loc.c {i : Nat} (L : Loc i s s') (t x : Nat) : Loc i s (sc t x s') := L
theorem Loc.i {i : Nat} (L : Loc i s s') (t : Nat) : Loc i s (inc t s') := L
/-- one node changes -/
theorem Inv.loc (I : Inv n s G) {i : Nat} (L : Loc i s s') (hG : ∀ j : Nat, ¬ j = i → G'.1 j = G.1 j ∧ G'.2 j = G.2 j) (hp : s.1 12 i ≤ s'.1 12 i) (hA : NdA n s' i) (hC : CpN n s' G' i ∧ Cp3 n s' G' i) : Inv n s' G' := by
  obtain ⟨I1, I2, I3⟩ := I
  obtain ⟨l1, l2, l3, l4⟩ := L
  have mono : ∀ j : Nat, s.1 12 j ≤ s'.1 12 j := fun j => by
    by_cases c : j = i
    · rw [c]; exact hp
    · rw [l1 12 j c]; exact Nat.le_refl _
  refine ⟨fun j hj => ?_, fun x y hx hy => ?_, fun j hj => ?_⟩
  · by_cases c : j = i
    · rw [c]; exact hA
    · have q := I1 j hj
      unfold NdA at q ⊢
      rw [l1 11 j c, l1 15 j c, l1 10 j c, l1 12 j c, l1 20 j c, l2 j c, l3 j c]
      exact q
  · rw [l4]
    exact ⟨fun ℓ hl => ((I2 x y hx hy).1 ℓ hl).mono (mono x) (mono y), (I2 x y hx hy).2⟩
  · by_cases c : j = i
    · rw [c]; exact hC
    · obtain ⟨q1, q2⟩ := I3 j hj
      obtain ⟨g1, g2⟩ := hG j c
      refine ⟨?_, ?_⟩
      · unfold CpN at q1 ⊢
        rw [l1 9 j c, l1 12 j c, l1 10 j c, l1 0 j c, l1 1 j c, g1]
        exact q1
      · intro h9
        rw [l1 9 j c] at h9
        obtain ⟨a1, a2, a3⟩ := q2 h9
        have eO : ownE s' G' j = ownE s G j := by
          unfold ownE
          rw [up2_at, up2_at, g2, l1 13 j c, l1 20 j c, l2 j c]
        rw [eO, l1 4 j c, l1 3 j c, l3 j c, l4, l1 12 j c, l1 0 j c, g1]
        refine ⟨a1, a2, fun y hy => ?_⟩
        obtain ⟨b1, b2, b3⟩ := a3 y hy
        exact ⟨fun z1 z2 => ⟨Nat.le_trans (b1 z1 z2).1 (mono y), (b1 z1 z2).2⟩, b2, b3⟩
theorem mem_app {q : Nat → Nat → List LL} {x y a b : Nat} {ℓ k : LL} (h : k ∈ up2 q x y (q x y ++ [ℓ]) a b) : k ∈ q a b ∨ (a = x ∧ b = y ∧ k = ℓ) := by
  by_cases e : a = x ∧ b = y
  · obtain ⟨rfl, rfl⟩ := e
    rw [up2_same] at h
    rcases List.mem_append.mp h with z | z
    · exact Or.inl z
    · exact Or.inr ⟨rfl, rfl, List.mem_singleton.mp z⟩
  · simp only [up2, if_neg e] at h
    exact Or.inl h
theorem snd1_q (x y : Nat) (ℓ : LL) (s : SS) : (snd1 x y ℓ s).2.2.2.1 = s.2.2.2.1 ∨ (snd1 x y ℓ s).2.2.2.1 = up2 s.2.2.2.1 x y (s.2.2.2.1 x y ++ [ℓ]) := by
  unfold snd1
  split
  · exact Or.inr rfl
  · exact Or.inl rfl
theorem Inv.snd (I : Inv n s G) {x y : Nat} {ℓ : LL} (hx : x < n) (hy : y < n) (hL : LtA n (s.1 12 x) (s.1 12 y) x y ℓ) (h7 : ℓ.1 = 7 → (s.1 0 x).testBit y = true) (h8 : ℓ.1 = 8 → (∀ k ∈ s.2.2.2.1 x y, k.1 = 8 → k.2.1 < ℓ.2.1) ∧ (s.1 9 y = 3 → ℓ.2.1 = s.1 12 y → (s.1 0 y).testBit x = true ∧ (G.1 y).testBit x = false)) : Inv n (snd1 x y ℓ s) G := by
  obtain ⟨v1, v2, v3, -⟩ := snd1_V x y ℓ s
  rcases snd1_q x y ℓ s with hq | hq
  · exact I.same (fun f _ _ _ _ => by rw [v1]) (by rw [v2]) v3 hq
  obtain ⟨I1, I2, I3⟩ := I
  refine ⟨fun j hj => ?_, fun a b ha hb => ?_, fun j hj => ?_⟩
  · have q := I1 j hj
    unfold NdA at q ⊢
    rw [v1, v2, v3]
    exact q
  · obtain ⟨p1, p2⟩ := I2 a b ha hb
    rw [hq, v1]
    refine ⟨fun k hk => ?_, ?_⟩
    · rcases mem_app hk with z | ⟨rfl, rfl, rfl⟩
      · exact p1 k z
      · exact hL
    · by_cases e : a = x ∧ b = y
      · obtain ⟨rfl, rfl⟩ := e
        rw [up2_same]
        refine List.pairwise_append.mpr ⟨p2, List.pairwise_singleton _ _, fun k hk z hz => ?_⟩
        rw [List.mem_singleton.mp hz]
        exact fun e1 e2 => (h8 e2).1 k hk e1
      · simp only [up2, if_neg e]
        exact p2
  · obtain ⟨q1, q2⟩ := I3 j hj
    refine ⟨?_, ?_⟩
    · unfold CpN at q1 ⊢
      rw [v1]
      exact q1
    · intro h9
      rw [v1] at h9
      obtain ⟨a1, a2, a3⟩ := q2 h9
      have eO : ownE (snd1 x y ℓ s) G j = ownE s G j := by
        unfold ownE
        rw [v1, v2]
      rw [eO, v1, v3, hq]
      refine ⟨a1, a2, fun z hz => ?_⟩
      obtain ⟨b1, b2, b3⟩ := a3 z hz
      refine ⟨fun z1 z2 => ⟨(b1 z1 z2).1, fun k hk k8 => ?_⟩, fun k hk k7 e => ?_, fun k hk k8 e => ?_⟩
      · rcases mem_app hk with w | ⟨rfl, rfl, rfl⟩
        · exact (b1 z1 z2).2 k w k8
        · intro e
          rw [((h8 k8).2 h9 e).2] at z1
          cases z1
      · rcases mem_app hk with w | ⟨rfl, rfl, rfl⟩
        · exact b2 k w k7 e
        · exact h7 k7
      · rcases mem_app hk with w | ⟨rfl, rfl, rfl⟩
        · exact b3 k w k8 e
        · exact ((h8 k8).2 h9 e).1
theorem Inv.sG {x m : Nat} {ℓ : LL} (hx : x < n) (h8 : ¬ ℓ.1 = 8) : ∀ (k t : Nat) {s : SS}, Inv n s G → t + k ≤ n → (∀ y : Nat, y < n → m.testBit y = true → LtA n (s.1 12 x) (s.1 12 y) x y ℓ ∧ (ℓ.1 = 7 → (s.1 0 x).testBit y = true)) → Inv n (sndG x m ℓ t k s) G
  | 0, _, _, I, _, _ => I
  | k + 1, t, s, I, ht, H => by
    show Inv n (sndG x m ℓ (t + 1) k (if m.testBit t then snd1 x t ℓ s else s)) G
    by_cases c : m.testBit t = true
    · rw [if_pos c]
      refine Inv.sG hx h8 k (t + 1) (I.snd hx (by omega) (H t (by omega) c).1 (H t (by omega) c).2 (fun q => absurd q h8)) (by omega) ?_
      rw [(snd1_V x t ℓ s).1]
      exact H
    · rw [if_neg c]
      exact Inv.sG hx h8 k (t + 1) I (by omega) H
theorem mem_tak {q : Nat → Nat → List LL} {x y a b : Nat} {k : LL} (h : k ∈ up2 q x y (q x y).tail a b) : k ∈ q a b := by
  by_cases e : a = x ∧ b = y
  · obtain ⟨rfl, rfl⟩ := e
    rw [up2_same] at h
    exact List.mem_of_mem_tail h
  · simpa only [up2, if_neg e] using h
theorem Inv.tk (I : Inv n s G) (x y : Nat) : Inv n (tak x y s) G := by
  obtain ⟨I1, I2, I3⟩ := I
  refine ⟨I1, fun a b ha hb => ?_, fun j hj => ?_⟩
  · obtain ⟨p1, p2⟩ := I2 a b ha hb
    refine ⟨fun k hk => p1 k (mem_tak hk), ?_⟩
    show (up2 s.2.2.2.1 x y (s.2.2.2.1 x y).tail a b).Pairwise dis8
    by_cases e : a = x ∧ b = y
    · obtain ⟨rfl, rfl⟩ := e
      rw [up2_same]
      exact p2.sublist (List.tail_sublist _)
    · simpa only [up2, if_neg e] using p2
  · obtain ⟨q1, q2⟩ := I3 j hj
    refine ⟨q1, fun h9 => ?_⟩
    obtain ⟨a1, a2, a3⟩ := q2 h9
    refine ⟨a1, a2, fun z hz => ?_⟩
    obtain ⟨b1, b2, b3⟩ := a3 z hz
    exact ⟨fun z1 z2 => ⟨(b1 z1 z2).1, fun k hk k8 => (b1 z1 z2).2 k (mem_tak hk) k8⟩, fun k hk k7 e => b2 k (mem_tak hk) k7 e, fun k hk k8 e => b3 k (mem_tak hk) k8 e⟩
end IV
