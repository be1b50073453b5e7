/-! what the model has got -/
theorem mm_r5 {Z A : Nat → Nat → Int32} : hz_gR (mm Z A) (some 1) 9 5 = some (some 6) := hk_gR (kd := KM) (by omega) rfl (by decide) (by decide)
theorem mm_r17 {Z A : Nat → Nat → Int32} : hz_gR (mm Z A) (some 1) 9 17 = some (some 18) := hk_gR (kd := KM) (by omega) rfl (by decide) (by decide)
theorem RM.got {n : Nat} {Z A A' : Nat → Nat → Int32} {s : SS} {G G' : GG} {K : KK} (r : RM n Z A s G K) (h : ∀ a : Nat, a < 16 ∨ 18 < a → A' a = A a) (hG : GotR A' n G') : RM n Z A' s G' K := by
  obtain ⟨r0, r1, r2, r3, r4, r5, r6, r7, r8⟩ := r
  refine ⟨r0, fun f hf i hi => ?_, fun i hi => ?_, fun g hg i hi j hj => ?_, fun i j hi hj hne => ?_, r5, r6.cong fun b h1 h2 => h b (by omega), hG, r8.cong fun b h1 h2 => h b (by omega)⟩
  · obtain ⟨q, -⟩ := mo_i hf
    rw [h (mo f) (by omega)]
    exact r1 f hf i hi
  · rw [h 13 (by omega)]
    exact r2 i hi
  · have : ma g = 5 ∨ ma g = 19 := by unfold ma; split <;> simp
    rw [h (ma g) (by omega)]
    exact r3 g hg i hi j hj
  · rw [h 14 (by omega)]
    exact r4 i j hi hj hne
theorem GotR.put {n : Nat} {A A' : Nat → Nat → Int32} {G : GG} {i j st : Nat} {xs : List Int32} (hn : n ≤ 7) (hi : i < n) (hj : j < n) (R : GotR A n G) (h15 : A' 15 = A 15) (h16 : ∀ k : Nat, ¬ k = 7 * i + j → A' 16 k = A 16 k ∧ A' 17 k = A 17 k) (w16 : A' 16 (7 * i + j) = nI st) (w17 : A' 17 (7 * i + j) = nI xs.length) (hx : xs.length ≤ 60) (h18 : ∀ k : Nat, k < 420 * i + 60 * j ∨ 420 * i + 60 * j + 60 ≤ k → A' 18 k = A 18 k) (w18 : ∀ t : Nat, t < xs.length → xs[t]? = some (A' 18 (420 * i + 60 * j + t))) : GotR A' n (G.1, up2 G.2 i j (st, xs)) := by
  obtain ⟨g1, g2⟩ := R
  refine ⟨fun k hk => by rw [h15]; exact g1 k hk, fun a b ha hb => ?_⟩
  show A' 16 (7 * a + b) = nI (up2 G.2 i j (st, xs) a b).1 ∧ A' 17 (7 * a + b) = nI (up2 G.2 i j (st, xs) a b).2.length ∧ (up2 G.2 i j (st, xs) a b).2.length ≤ 60 ∧ ∀ t : Nat, t < (up2 G.2 i j (st, xs) a b).2.length → (up2 G.2 i j (st, xs) a b).2[t]? = some (A' 18 (420 * a + 60 * b + t))
  by_cases e : a = i ∧ b = j
  · obtain ⟨rfl, rfl⟩ := e
    rw [up2_same]
    exact ⟨w16, w17, hx, w18⟩
  · have u : up2 G.2 i j (st, xs) a b = G.2 a b := by simp only [up2, if_neg e]
    rw [u]
    obtain ⟨q1, q2, q3, q4⟩ := g2 a b ha hb
    have hne : ¬ 7 * a + b = 7 * i + j := by omega
    refine ⟨(h16 _ hne).1.trans q1, (h16 _ hne).2.trans q2, q3, fun t ht => ?_⟩
    rw [h18 _ (by omega)]
    exact q4 t ht
theorem M_gcL {Z : Nat → Nat → Int32} {i j len : Nat} (K4 : Option Nat → Int32 → Int32 → Int32 → HP → Option HP) (bI : Int32) (hi : i < 7) (hj : j < 7) (hlen : len ≤ 60) : ∀ (m t fuel : Nat) (A : Nat → Nat → Int32), A 6 i = nI len → t + m = len → m < fuel → ∃ A' : Nat → Nat → Int32, f_X9_choose_70 K4 fuel (some 1) (nI i) bI (nI j) (nI t) (mm Z A) = f_X9_choose_117 K4 (some 1) (nI i) bI (nI j) (mm Z A') ∧ (∀ r : Nat, ¬ r = 18 → A' r = A r) ∧ (∀ k : Nat, k < 420 * i + 60 * j + t ∨ 420 * i + 60 * j + len ≤ k → A' 18 k = A 18 k) ∧ ∀ l : Nat, t ≤ l → l < len → A' 18 (420 * i + 60 * j + l) = A 5 (60 * i + l)
  | 0, t, fuel, A, h6, ht, hf => by
    obtain ⟨fu, rfl⟩ : ∃ fu, fuel = fu + 1 := ⟨fuel - 1, by omega⟩
    rw [f_X9_choose_70, mm_r5, Option.bind_some, mm_aI (by decide) (show i < 7 by omega), h6, Option.bind_some, if_pos ((nI_leI (by omega) (by omega)).mpr (by omega))]
    exact ⟨A, rfl, fun _ _ => rfl, fun _ _ => rfl, fun l h1 h2 => by omega⟩
  | m + 1, t, fuel, A, h6, ht, hf => by
    obtain ⟨fu, rfl⟩ : ∃ fu, fuel = fu + 1 := ⟨fuel - 1, by omega⟩
    rw [f_X9_choose_70, mm_r5, Option.bind_some, mm_aI (by decide) (show i < 7 by omega), h6, Option.bind_some, if_neg (fun q => by have := (nI_leI (by omega) (by omega)).mp q; omega)]
    rw [mm_r17, Option.bind_some, mm_r4, Option.bind_some, nI_mul, nI_add, mm_aI (by decide) (show 60 * i + t < 420 by omega), Option.bind_some, nI_mul, nI_mul, nI_add, nI_add, mm_aS (by decide) (show 420 * i + 60 * j + t < 2940 by omega), Option.bind_some, nI_add]
    obtain ⟨A', e, q1, q2, q3⟩ := M_gcL (Z := Z) K4 bI hi hj hlen m (t + 1) fu (up2 A 18 (420 * i + 60 * j + t) (A 5 (60 * i + t))) (by rw [up2_row (by decide)]; exact h6) (by omega) (by omega)
    refine ⟨A', e, fun r hr => by rw [q1 r hr, up2_row hr], fun k hk => ?_, fun l h1 h2 => ?_⟩
    · rw [q2 k (by omega), up2_k (by omega)]
    · by_cases e : l = t
      · subst e
        rw [q2 _ (by omega), up2_same]
      · rw [q3 l (by omega) h2, up2_row (by decide)]
section MGT
variable {n B : Nat} {h : HP} {s : SS} {G : GG} {K : KK}
theorem RepM.gE (R : RepM n h s G K) {i j : Nat} (hi : i < n) (hj : j < n) : hz_aI h (some 16) 0 (nI (7 * i + j)) = some (nI (G.2 i j).1) ∧ hz_aI h (some 17) 0 (nI (7 * i + j)) = some (nI (G.2 i j).2.length) ∧ (G.2 i j).2.length ≤ 60 ∧ ∀ t : Nat, t < (G.2 i j).2.length → hz_aI h (some 18) 0 (nI (420 * i + 60 * j + t)) = (G.2 i j).2[t]? := by
  have hn := R.rng
  obtain ⟨Z, A, rfl, r⟩ := R
  obtain ⟨q1, q2, q3, q4⟩ := r.2.2.2.2.2.2.2.1.2 i j hi hj
  refine ⟨?_, ?_, q3, fun t ht => ?_⟩
  · rw [mm_aI (by decide) (show 7 * i + j < 49 by omega), q1]
  · rw [mm_aI (by decide) (show 7 * i + j < 49 by omega), q2]
  · rw [mm_aI (by decide) (show 420 * i + 60 * j + t < 2940 by omega), q4 t ht]
def bett (a b : Nat × List Int32) : Bool := decide (b.1 < a.1) || (decide (a.1 = b.1) && decide (b.2.length < a.2.length))
def encO (b : Option Nat) : Int32 := match b with
  | none => -1
  | some k => nI k
def nxB (E : Nat → Nat × List Int32) (t : Nat) : Option Nat → Option Nat
  | none => some t
  | some b => if bett (E t) (E b) = true then some t else some b
def selS (P : Nat → Bool) (E : Nat → Nat × List Int32) : Nat → Option Nat
  | 0 => none
  | t + 1 => if P t = true then nxB E t (selS P E t) else selS P E t
theorem M_ch117 (R : RepM n h s G K) (hG : ∀ i j : Nat, i < n → j < n → (G.2 i j).1 < 2 ^ 31) {i t : Nat} (hi : i < n) (ht : t < n) {b : Option Nat} (hb : ∀ k : Nat, b = some k → k < n) (K4 : Option Nat → Int32 → Int32 → Int32 → HP → Option HP) : f_X9_choose_117 K4 (some 1) (nI i) (encO b) (nI t) h = K4 (some 1) (nI i) (encO (nxB (G.2 i) t b)) (nI (t + 1)) h := by
  have hn := R.rng
  unfold f_X9_choose_117 f_X9_choose_189 f_X9_choose_191
  rw [nI_add]
  cases b with
  | none =>
    rw [if_pos (show encO none = -1 from rfl)]
    rfl
  | some k =>
    have hk := hb k rfl
    have hm : ¬ encO (some k) = -1 := fun q => nI_nn (show k < 2 ^ 31 by omega) (by have q2 : nI k = -1 := q; rw [q2]; decide)
    obtain ⟨t1, t2, t3, -⟩ := R.gE hi ht
    obtain ⟨k1, k2, k3, -⟩ := R.gE hi hk
    have gt := hG i t hi ht
    have gk := hG i k hi hk
    rw [if_neg hm]
    show _ = K4 (some 1) (nI i) (encO (if bett (G.2 i t) (G.2 i k) then some t else some k)) (nI (t + 1)) h
    simp only [encO, R.r15, R.r16, Option.bind_some, nI_mul, nI_add, t1, t2, k1, k2]
    unfold bett
    by_cases c1 : (G.2 i k).1 < (G.2 i t).1
    · rw [if_pos ((nI_ltI gk gt).mpr c1)]
      simp [c1]
    · rw [if_neg (fun q => c1 ((nI_ltI gk gt).mp q))]
      by_cases c2 : (G.2 i t).1 = (G.2 i k).1
      · rw [if_pos (show nI (G.2 i t).1 = nI (G.2 i k).1 by rw [c2])]
        by_cases c3 : (G.2 i t).2.length ≤ (G.2 i k).2.length
        · rw [if_pos ((nI_leI (by omega) (by omega)).mpr c3)]
          have : ¬ (G.2 i k).2.length < (G.2 i t).2.length := by omega
          simp [c2, this]
        · rw [if_neg (fun q => c3 ((nI_leI (by omega) (by omega)).mp q))]
          have : (G.2 i k).2.length < (G.2 i t).2.length := by omega
          simp [c2, this]
      · rw [if_neg (fun q => c2 ((nI_eq gt gk).mp q))]
        simp [c1, c2]
/-- the own entry is put down -/
theorem M_own (R : RepM n h s G K) {i : Nat} (hi : i < n) (b20 : s.1 20 i ≤ 60) (K4 : Option Nat → Int32 → Int32 → Int32 → HP → Option HP) (bI : Int32) : ∃ h1 h2 h3 : HP, hz_aS h (some 16) 0 (nI (7 * i + i)) (nI (s.1 13 i)) = some h1 ∧ hz_gR h1 (some 1) 9 16 = some (some 17) ∧ hz_gR h1 (some 1) 9 5 = some (some 6) ∧ hz_aI h1 (some 6) 0 (nI i) = some (nI (s.1 20 i)) ∧ hz_aS h1 (some 17) 0 (nI (7 * i + i)) (nI (s.1 20 i)) = some h2 ∧ f_X9_choose_70 K4 600 (some 1) (nI i) bI (nI i) (nI 0) h2 = f_X9_choose_117 K4 (some 1) (nI i) bI (nI i) h3 ∧ RepM n h3 s (G.1, up2 G.2 i i (s.1 13 i, rowL (s.2.1 0 i) (s.1 20 i))) K := by
  have hn := R.rng
  obtain ⟨Z, A, rfl, r⟩ := R
  have hh := r.2.1 20 rfl i hi
  have h6 : A 6 i = nI (s.1 20 i) := hh
  obtain ⟨A', e, q1, q2, q3⟩ := M_gcL (Z := Z) (i := i) (j := i) (len := s.1 20 i) K4 bI (by omega) (by omega) b20 (s.1 20 i) 0 600 (up2 (up2 A 16 (7 * i + i) (nI (s.1 13 i))) 17 (7 * i + i) (nI (s.1 20 i))) (by rw [up2_row (by decide), up2_row (by decide)]; exact h6) (by omega) (by omega)
  refine ⟨mm Z (up2 A 16 (7 * i + i) (nI (s.1 13 i))), mm Z (up2 (up2 A 16 (7 * i + i) (nI (s.1 13 i))) 17 (7 * i + i) (nI (s.1 20 i))), mm Z A', mm_aS (by decide) (show 7 * i + i < 49 by omega) _, hk_gR (kd := KM) (by omega) rfl (by decide) (by decide), mm_r5, by rw [mm_aI (by decide) (show i < 7 by omega), up2_row (by decide), h6], mm_aS (by decide) (show 7 * i + i < 49 by omega) _, e, Z, A', rfl, ?_⟩
  refine r.got (fun a ha => by rw [q1 a (by omega), up2_row (by omega), up2_row (by omega)]) ?_
  refine GotR.put hn.2 hi hi r.2.2.2.2.2.2.2.1 (by rw [q1 15 (by decide), up2_row (by decide), up2_row (by decide)]) (fun k hk => ⟨by rw [q1 16 (by decide), up2_row (by decide), up2_k hk], by rw [q1 17 (by decide), up2_k hk, up2_row (by decide)]⟩) (by rw [q1 16 (by decide), up2_row (by decide), up2_same]) (by rw [q1 17 (by decide), up2_same, rowL_len]) (by rw [rowL_len]; exact b20) (fun k hk => by rw [q2 k (by omega), up2_row (by decide), up2_row (by decide)]) (fun t ht => ?_)
  rw [rowL_len] at ht
  rw [rowL_at _ ht, q3 t (by omega) ht, up2_row (by decide), up2_row (by decide)]
  exact congrArg some (r.2.2.2.1 0 (by decide) i hi t (show t < 60 by omega)).symm
end MGT
