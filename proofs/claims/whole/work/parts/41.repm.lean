/-! the model's memory, and what it stands for -/
def KM (a : Nat) : Nat := if a = 1 then 9 else if a = 21 then 11 else 10
def LM (a : Nat) : Nat := if a = 5 then 420 else if a = 14 then 49 else if a = 16 then 49 else if a = 17 then 49 else if a = 18 then 2940 else if a = 19 then 140 else if a = 20 then 7 else if a = 21 then 500 else if a = 28 then 30060 else if 22 ≤ a then 501 else 7
abbrev PM : Nat → Nat → Option Nat := fun _ k => some (k + 1)
abbrev mm (Z A : Nat → Nat → Int32) : HP := hk 29 KM LM Z PM A
abbrev GG : Type := (Nat → Nat) × (Nat → Nat → Nat × List Int32)
abbrev KK : Type := Option (Nat × Nat × LL)
def mo (f : Nat) : Nat := if f = 8 then 2 else if f = 10 then 3 else if f = 11 then 4 else if f = 20 then 6 else if f = 14 then 7 else if f = 13 then 8 else if f = 12 then 9 else if f = 15 then 10 else if f = 9 then 11 else if f = 0 then 12 else 20
def mok (f : Nat) : Bool := [8, 10, 11, 20, 14, 13, 12, 15, 9, 0, 21].contains f
def ma (g : Nat) : Nat := if g = 0 then 5 else 19
def ml (g : Nat) : Nat := if g = 0 then 60 else 20
def SlR (A : Nat → Nat → Int32) (n l : Nat) (a b o : Nat) (x : LL) : Prop := A 22 l = nI a ∧ A 23 l = nI b ∧ A 24 l = nI x.1 ∧ A 25 l = nI x.2.1 ∧ A 26 l = nI x.2.2.1 ∧ A 27 l = nI x.2.2.2.length ∧ A 29 l = nI o ∧ a < n ∧ b < n ∧ x.2.2.2.length ≤ 60 ∧ ∀ j : Nat, j < x.2.2.2.length → x.2.2.2[j]? = some (A 28 (60 * l + j))
abbrev PG : Type := (Nat → Bool) × (Nat → Nat) × (Nat → Nat) × (Nat → Nat) × (Nat → LL) × (Nat → Nat → List Nat)
def PoolG (A : Nat → Nat → Int32) (n snt fly : Nat) (q : Nat → Nat → List LL) (g : PG) : Prop := (∀ l : Nat, l < 500 → A 21 l = (if g.1 l = true then nI 1 else nI 0) ∧ (g.1 l = true → SlR A n l (g.2.1 l) (g.2.2.1 l) (g.2.2.2.1 l) (g.2.2.2.2.1 l) ∧ g.2.2.2.1 l ≤ snt)) ∧ (List.range 500).countP g.1 = fly ∧ ∀ x y : Nat, x < n → y < n → (g.2.2.2.2.2 x y).Pairwise (fun l k => g.2.2.2.1 l < g.2.2.2.1 k) ∧ (∀ l : Nat, l ∈ g.2.2.2.2.2 x y ↔ l < 500 ∧ g.1 l = true ∧ g.2.1 l = x ∧ g.2.2.1 l = y) ∧ q x y = (g.2.2.2.2.2 x y).map g.2.2.2.2.1
def PoolR (A : Nat → Nat → Int32) (n snt fly : Nat) (q : Nat → Nat → List LL) : Prop := ∃ g : PG, PoolG A n snt fly q g
def GotR (A : Nat → Nat → Int32) (n : Nat) (G : GG) : Prop := (∀ i : Nat, i < n → A 15 i = nI (G.1 i)) ∧ ∀ i j : Nat, i < n → j < n → A 16 (7 * i + j) = nI (G.2 i j).1 ∧ A 17 (7 * i + j) = nI (G.2 i j).2.length ∧ (G.2 i j).2.length ≤ 60 ∧ ∀ t : Nat, t < (G.2 i j).2.length → (G.2 i j).2[t]? = some (A 18 (420 * i + 60 * j + t))
def KepR (A : Nat → Nat → Int32) (K : KK) : Prop := ∀ (x y : Nat) (ℓ : LL), K = some (x, y, ℓ) → A 22 500 = nI x ∧ A 23 500 = nI y ∧ A 24 500 = nI ℓ.1 ∧ A 25 500 = nI ℓ.2.1 ∧ A 26 500 = nI ℓ.2.2.1 ∧ A 27 500 = nI ℓ.2.2.2.length ∧ ∀ j : Nat, j < ℓ.2.2.2.length → ℓ.2.2.2[j]? = some (A 28 (30000 + j))
def RM (n : Nat) (Z A : Nat → Nat → Int32) (s : SS) (G : GG) (K : KK) : Prop := ((2 ≤ n ∧ n ≤ 7) ∧ Z 1 0 = nI n) ∧ (∀ f : Nat, mok f = true → ∀ i : Nat, i < n → A (mo f) i = nI (s.1 f i)) ∧ (∀ i : Nat, i < n → A 13 i = nI (s.1 16 i) + (-1)) ∧ (∀ g : Nat, g < 2 → ∀ i : Nat, i < n → ∀ j : Nat, j < ml g → A (ma g) (ml g * i + j) = s.2.1 g i j) ∧ (∀ i j : Nat, i < n → j < n → ¬ i = j → A 14 (7 * i + j) = s.2.1 2 i j) ∧ ((∀ t : Nat, t < 5 → Z 1 (30 + t) = nI (s.2.2.2.2.1 t)) ∧ Z 1 29 = nI (s.2.2.2.2.1 5)) ∧ PoolR A n (s.2.2.2.2.1 0) (s.2.2.2.2.1 5) s.2.2.2.1 ∧ GotR A n G ∧ KepR A K
def RepM (n : Nat) (h : HP) (s : SS) (G : GG) (K : KK) : Prop := ∃ Z A : Nat → Nat → Int32, h = mm Z A ∧ RM n Z A s G K
theorem PoolR.cong {A A' : Nat → Nat → Int32} {n a b : Nat} {q : Nat → Nat → List LL} (R : PoolR A n a b q) (h : ∀ r : Nat, 21 ≤ r → r ≤ 29 → A' r = A r) : PoolR A' n a b q := by
  obtain ⟨g, h1, h2, h3⟩ := R
  refine ⟨g, fun l hl => ?_, h2, h3⟩
  unfold SlR
  rw [h 21 (by decide) (by decide), h 22 (by decide) (by decide), h 23 (by decide) (by decide), h 24 (by decide) (by decide), h 25 (by decide) (by decide), h 26 (by decide) (by decide), h 27 (by decide) (by decide), h 28 (by decide) (by decide), h 29 (by decide) (by decide)]
  exact h1 l hl
theorem GotR.cong {A A' : Nat → Nat → Int32} {n : Nat} {G : GG} (R : GotR A n G) (h : ∀ r : Nat, 15 ≤ r → r ≤ 18 → A' r = A r) : GotR A' n G := by
  unfold GotR
  rw [h 15 (by decide) (by decide), h 16 (by decide) (by decide), h 17 (by decide) (by decide), h 18 (by decide) (by decide)]
  exact R
theorem KepR.cong {A A' : Nat → Nat → Int32} {K : KK} (R : KepR A K) (h : ∀ r : Nat, 22 ≤ r → r ≤ 28 → A' r = A r) : KepR A' K := by
  unfold KepR
  rw [h 22 (by decide) (by decide), h 23 (by decide) (by decide), h 24 (by decide) (by decide), h 25 (by decide) (by decide), h 26 (by decide) (by decide), h 27 (by decide) (by decide), h 28 (by decide) (by decide)]
  exact R
theorem mo_p : ((List.range 22).all fun f => !mok f || (decide (2 ≤ mo f) && decide (mo f ≤ 20) && decide (¬ mo f = 5) && decide (¬ mo f = 13) && decide (¬ mo f = 14) && decide (¬ mo f = 15) && decide (¬ mo f = 16) && decide (¬ mo f = 17) && decide (¬ mo f = 18) && decide (¬ mo f = 19) && decide (LM (mo f) = 7) && decide (KM (mo f) = 10) && (List.range 22).all fun g => !mok g || !decide (mo f = mo g) || decide (f = g))) = true := by decide +kernel
theorem mok_lt {f : Nat} (h : mok f = true) : f < 22 := by
  unfold mok at h
  simp at h
  omega
theorem mo_i {f : Nat} (h : mok f = true) : (2 ≤ mo f ∧ mo f ≤ 20 ∧ ¬ mo f = 5 ∧ ¬ mo f = 13 ∧ ¬ mo f = 14 ∧ ¬ mo f = 15 ∧ ¬ mo f = 16 ∧ ¬ mo f = 17 ∧ ¬ mo f = 18 ∧ ¬ mo f = 19) ∧ LM (mo f) = 7 ∧ KM (mo f) = 10 ∧ ∀ g : Nat, mok g = true → mo f = mo g → f = g := by
  have q := List.all_eq_true.mp mo_p f (List.mem_range.mpr (mok_lt h))
  rw [h] at q
  simp only [Bool.not_true, Bool.false_or, Bool.and_eq_true, decide_eq_true_eq] at q
  obtain ⟨⟨⟨⟨⟨⟨⟨⟨⟨⟨⟨⟨a1, a2⟩, a3⟩, a4⟩, a5⟩, a6⟩, a7⟩, a8⟩, a9⟩, a10⟩, a11⟩, a12⟩, a13⟩ := q
  refine ⟨⟨a1, a2, a3, a4, a5, a6, a7, a8, a9, a10⟩, a11, a12, fun g hg e => ?_⟩
  have := List.all_eq_true.mp a13 g (List.mem_range.mpr (mok_lt hg))
  rw [hg, e] at this
  simpa using this
theorem LM_lt (a : Nat) : LM a < 2 ^ 31 := by
  unfold LM
  repeat' split
  all_goals decide
theorem KM_i {a : Nat} (h : 2 ≤ a ∧ a ≤ 29 ∧ ¬ a = 21) : KM a = 10 + 0 := by
  unfold KM
  rw [if_neg (by omega), if_neg h.2.2]
theorem mm_aI {Z A : Nat → Nat → Int32} {a j : Nat} (ha : 2 ≤ a ∧ a ≤ 29 ∧ ¬ a = 21) (hj : j < LM a) : hz_aI (mm Z A) (some a) 0 (nI j) = some (A a j) := hk_aI 0 (by decide) (by omega) (KM_i ha) hj (LM_lt a)
theorem mm_aS {Z A : Nat → Nat → Int32} {a j : Nat} (ha : 2 ≤ a ∧ a ≤ 29 ∧ ¬ a = 21) (hj : j < LM a) (x : Int32) : hz_aS (mm Z A) (some a) 0 (nI j) x = some (mm Z (up2 A a j x)) := hk_aS 0 (by decide) (by omega) (KM_i ha) hj (LM_lt a) x
theorem mm_bI {Z A : Nat → Nat → Int32} {j : Nat} (hj : j < 500) : hz_aI (mm Z A) (some 21) 1 (nI j) = some (A 21 j) := hk_aI (kd := KM) (a := 21) 1 (by decide) (by decide) rfl hj (LM_lt 21)
theorem mm_bS {Z A : Nat → Nat → Int32} {j : Nat} (hj : j < 500) (x : Int32) : hz_aS (mm Z A) (some 21) 1 (nI j) x = some (mm Z (up2 A 21 j (hz_nar 1 x))) := hk_aS (kd := KM) (a := 21) 1 (by decide) (by decide) rfl hj (LM_lt 21) x
section MG
variable {n : Nat} {h : HP} {s : SS} {G : GG} {K : KK}
theorem RepM.rng (R : RepM n h s G K) : 2 ≤ n ∧ n ≤ 7 := by
  obtain ⟨Z, A, -, r⟩ := R
  exact r.1.1
theorem RepM.ob (R : RepM n h s G K) : hz_ob h (some 1) 9 = true := by
  obtain ⟨Z, A, rfl, r⟩ := R
  exact hk_ob (by omega) rfl (by decide)
theorem RepM.n0 (R : RepM n h s G K) : hz_gI h (some 1) 9 0 = some (nI n) := by
  obtain ⟨Z, A, rfl, r⟩ := R
  rw [hk_gI (by omega) (show KM 1 = 9 from rfl) (by decide) (by decide), r.1.2]
theorem RepM.r1 (R : RepM n h s G K) : hz_gR h (some 1) 9 1 = some (some 2) := by
  obtain ⟨Z, A, rfl, r⟩ := R
  exact hk_gR (by omega) (show KM 1 = 9 from rfl) (by decide) (by decide)
theorem RepM.r2 (R : RepM n h s G K) : hz_gR h (some 1) 9 2 = some (some 3) := by
  obtain ⟨Z, A, rfl, r⟩ := R
  exact hk_gR (by omega) (show KM 1 = 9 from rfl) (by decide) (by decide)
theorem RepM.r3 (R : RepM n h s G K) : hz_gR h (some 1) 9 3 = some (some 4) := by
  obtain ⟨Z, A, rfl, r⟩ := R
  exact hk_gR (by omega) (show KM 1 = 9 from rfl) (by decide) (by decide)
theorem RepM.r4 (R : RepM n h s G K) : hz_gR h (some 1) 9 4 = some (some 5) := by
  obtain ⟨Z, A, rfl, r⟩ := R
  exact hk_gR (by omega) (show KM 1 = 9 from rfl) (by decide) (by decide)
theorem RepM.r5 (R : RepM n h s G K) : hz_gR h (some 1) 9 5 = some (some 6) := by
  obtain ⟨Z, A, rfl, r⟩ := R
  exact hk_gR (by omega) (show KM 1 = 9 from rfl) (by decide) (by decide)
theorem RepM.r6 (R : RepM n h s G K) : hz_gR h (some 1) 9 6 = some (some 7) := by
  obtain ⟨Z, A, rfl, r⟩ := R
  exact hk_gR (by omega) (show KM 1 = 9 from rfl) (by decide) (by decide)
theorem RepM.r7 (R : RepM n h s G K) : hz_gR h (some 1) 9 7 = some (some 8) := by
  obtain ⟨Z, A, rfl, r⟩ := R
  exact hk_gR (by omega) (show KM 1 = 9 from rfl) (by decide) (by decide)
theorem RepM.r8 (R : RepM n h s G K) : hz_gR h (some 1) 9 8 = some (some 9) := by
  obtain ⟨Z, A, rfl, r⟩ := R
  exact hk_gR (by omega) (show KM 1 = 9 from rfl) (by decide) (by decide)
theorem RepM.r9 (R : RepM n h s G K) : hz_gR h (some 1) 9 9 = some (some 10) := by
  obtain ⟨Z, A, rfl, r⟩ := R
  exact hk_gR (by omega) (show KM 1 = 9 from rfl) (by decide) (by decide)
theorem RepM.r10 (R : RepM n h s G K) : hz_gR h (some 1) 9 10 = some (some 11) := by
  obtain ⟨Z, A, rfl, r⟩ := R
  exact hk_gR (by omega) (show KM 1 = 9 from rfl) (by decide) (by decide)
theorem RepM.r11 (R : RepM n h s G K) : hz_gR h (some 1) 9 11 = some (some 12) := by
  obtain ⟨Z, A, rfl, r⟩ := R
  exact hk_gR (by omega) (show KM 1 = 9 from rfl) (by decide) (by decide)
theorem RepM.r12 (R : RepM n h s G K) : hz_gR h (some 1) 9 12 = some (some 13) := by
  obtain ⟨Z, A, rfl, r⟩ := R
  exact hk_gR (by omega) (show KM 1 = 9 from rfl) (by decide) (by decide)
theorem RepM.r13 (R : RepM n h s G K) : hz_gR h (some 1) 9 13 = some (some 14) := by
  obtain ⟨Z, A, rfl, r⟩ := R
  exact hk_gR (by omega) (show KM 1 = 9 from rfl) (by decide) (by decide)
theorem RepM.r14 (R : RepM n h s G K) : hz_gR h (some 1) 9 14 = some (some 15) := by
  obtain ⟨Z, A, rfl, r⟩ := R
  exact hk_gR (by omega) (show KM 1 = 9 from rfl) (by decide) (by decide)
theorem RepM.r15 (R : RepM n h s G K) : hz_gR h (some 1) 9 15 = some (some 16) := by
  obtain ⟨Z, A, rfl, r⟩ := R
  exact hk_gR (by omega) (show KM 1 = 9 from rfl) (by decide) (by decide)
theorem RepM.r16 (R : RepM n h s G K) : hz_gR h (some 1) 9 16 = some (some 17) := by
  obtain ⟨Z, A, rfl, r⟩ := R
  exact hk_gR (by omega) (show KM 1 = 9 from rfl) (by decide) (by decide)
theorem RepM.r17 (R : RepM n h s G K) : hz_gR h (some 1) 9 17 = some (some 18) := by
  obtain ⟨Z, A, rfl, r⟩ := R
  exact hk_gR (by omega) (show KM 1 = 9 from rfl) (by decide) (by decide)
theorem RepM.r18 (R : RepM n h s G K) : hz_gR h (some 1) 9 18 = some (some 19) := by
  obtain ⟨Z, A, rfl, r⟩ := R
  exact hk_gR (by omega) (show KM 1 = 9 from rfl) (by decide) (by decide)
theorem RepM.r19 (R : RepM n h s G K) : hz_gR h (some 1) 9 19 = some (some 20) := by
  obtain ⟨Z, A, rfl, r⟩ := R
  exact hk_gR (by omega) (show KM 1 = 9 from rfl) (by decide) (by decide)
theorem RepM.r20 (R : RepM n h s G K) : hz_gR h (some 1) 9 20 = some (some 21) := by
  obtain ⟨Z, A, rfl, r⟩ := R
  exact hk_gR (by omega) (show KM 1 = 9 from rfl) (by decide) (by decide)
theorem RepM.r21 (R : RepM n h s G K) : hz_gR h (some 1) 9 21 = some (some 22) := by
  obtain ⟨Z, A, rfl, r⟩ := R
  exact hk_gR (by omega) (show KM 1 = 9 from rfl) (by decide) (by decide)
theorem RepM.r22 (R : RepM n h s G K) : hz_gR h (some 1) 9 22 = some (some 23) := by
  obtain ⟨Z, A, rfl, r⟩ := R
  exact hk_gR (by omega) (show KM 1 = 9 from rfl) (by decide) (by decide)
theorem RepM.r23 (R : RepM n h s G K) : hz_gR h (some 1) 9 23 = some (some 24) := by
  obtain ⟨Z, A, rfl, r⟩ := R
  exact hk_gR (by omega) (show KM 1 = 9 from rfl) (by decide) (by decide)
theorem RepM.r24 (R : RepM n h s G K) : hz_gR h (some 1) 9 24 = some (some 25) := by
  obtain ⟨Z, A, rfl, r⟩ := R
  exact hk_gR (by omega) (show KM 1 = 9 from rfl) (by decide) (by decide)
theorem RepM.r25 (R : RepM n h s G K) : hz_gR h (some 1) 9 25 = some (some 26) := by
  obtain ⟨Z, A, rfl, r⟩ := R
  exact hk_gR (by omega) (show KM 1 = 9 from rfl) (by decide) (by decide)
theorem RepM.r26 (R : RepM n h s G K) : hz_gR h (some 1) 9 26 = some (some 27) := by
  obtain ⟨Z, A, rfl, r⟩ := R
  exact hk_gR (by omega) (show KM 1 = 9 from rfl) (by decide) (by decide)
theorem RepM.r27 (R : RepM n h s G K) : hz_gR h (some 1) 9 27 = some (some 28) := by
  obtain ⟨Z, A, rfl, r⟩ := R
  exact hk_gR (by omega) (show KM 1 = 9 from rfl) (by decide) (by decide)
theorem RepM.r28 (R : RepM n h s G K) : hz_gR h (some 1) 9 28 = some (some 29) := by
  obtain ⟨Z, A, rfl, r⟩ := R
  exact hk_gR (by omega) (show KM 1 = 9 from rfl) (by decide) (by decide)
theorem RepM.gV (R : RepM n h s G K) {i : Nat} (hi : i < n) (f : Nat) (hf : mok f = true) {a : Nat} (ha : mo f = a) : hz_aI h (some a) 0 (nI i) = some (nI (s.1 f i)) := by
  have hn := R.rng
  obtain ⟨Z, A, rfl, r⟩ := R
  obtain ⟨⟨a1, a2, -⟩, l1, k1, -⟩ := mo_i hf
  subst ha
  rw [mm_aI (by omega) (by rw [l1]; omega), r.2.1 f hf i hi]
theorem RepM.sV (R : RepM n h s G K) {i : Nat} (hi : i < n) (f : Nat) (hf : mok f = true) {a : Nat} (ha : mo f = a) (x : Nat) : ∃ h', hz_aS h (some a) 0 (nI i) (nI x) = some h' ∧ RepM n h' (sv f i x s) G K := by
  have hn := R.rng
  obtain ⟨Z, A, rfl, r⟩ := R
  obtain ⟨⟨a1, a2, a3, a4, a5, a6, a7, a8, a9, a10⟩, l1, k1, inj⟩ := mo_i hf
  subst ha
  refine ⟨_, mm_aS (by omega) (by rw [l1]; omega) (nI x), Z, _, rfl, ?_⟩
  obtain ⟨r0, r1, r2, r3, r4, r5, r6, r7, r8⟩ := r
  have rr : ∀ b : Nat, ¬ b = mo f → up2 A (mo f) i (nI x) b = A b := fun b hb => up2_row hb
  refine ⟨r0, fun g hg j hj => ?_, fun j hj => ?_, fun g hg j hj t ht => ?_, fun j k hj hk hne => ?_, r5, r6.cong fun b h1 h2 => rr b (by omega), r7.cong fun b h1 h2 => rr b (by omega), r8.cong fun b h1 h2 => rr b (by omega)⟩
  · show up2 A (mo f) i (nI x) (mo g) j = nI (up2 s.1 f i x g j)
    by_cases e : mo g = mo f ∧ j = i
    · obtain ⟨e1, rfl⟩ := e
      have := inj g hg e1.symm
      subst this
      rw [up2_same, up2_same]
    · have e2 : ¬ (g = f ∧ j = i) := fun q => e ⟨by rw [q.1], q.2⟩
      simp only [up2, if_neg e, if_neg e2]
      exact r1 g hg j hj
  · rw [rr 13 (by omega), r2 j hj]
    have : ¬ ((16 : Nat) = f ∧ j = i) := fun q => by rw [← q.1] at hf; simp [mok] at hf
    simp only [sv, up2, if_neg this]
  · have : ¬ ma g = mo f := by unfold ma; split <;> omega
    rw [rr (ma g) this]
    exact r3 g hg j hj t ht
  · rw [rr 14 (by omega)]
    exact r4 j k hj hk hne
theorem RepM.g8 (R : RepM n h s G K) {i : Nat} (hi : i < n) : hz_aI h (some 2) 0 (nI i) = some (nI (s.1 8 i)) := R.gV hi 8 rfl rfl
theorem RepM.v8 (R : RepM n h s G K) {i v : Nat} (hi : i < n) (hv : s.1 8 i = v) : hz_aI h (some 2) 0 (nI i) = some (nI v) := by rw [← hv]; exact R.g8 hi
theorem RepM.s8 (R : RepM n h s G K) {i : Nat} (hi : i < n) (x : Nat) : ∃ h', hz_aS h (some 2) 0 (nI i) (nI x) = some h' ∧ RepM n h' (sv 8 i x s) G K := R.sV hi 8 rfl rfl x
theorem RepM.g10 (R : RepM n h s G K) {i : Nat} (hi : i < n) : hz_aI h (some 3) 0 (nI i) = some (nI (s.1 10 i)) := R.gV hi 10 rfl rfl
theorem RepM.v10 (R : RepM n h s G K) {i v : Nat} (hi : i < n) (hv : s.1 10 i = v) : hz_aI h (some 3) 0 (nI i) = some (nI v) := by rw [← hv]; exact R.g10 hi
theorem RepM.s10 (R : RepM n h s G K) {i : Nat} (hi : i < n) (x : Nat) : ∃ h', hz_aS h (some 3) 0 (nI i) (nI x) = some h' ∧ RepM n h' (sv 10 i x s) G K := R.sV hi 10 rfl rfl x
theorem RepM.g11 (R : RepM n h s G K) {i : Nat} (hi : i < n) : hz_aI h (some 4) 0 (nI i) = some (nI (s.1 11 i)) := R.gV hi 11 rfl rfl
theorem RepM.v11 (R : RepM n h s G K) {i v : Nat} (hi : i < n) (hv : s.1 11 i = v) : hz_aI h (some 4) 0 (nI i) = some (nI v) := by rw [← hv]; exact R.g11 hi
theorem RepM.s11 (R : RepM n h s G K) {i : Nat} (hi : i < n) (x : Nat) : ∃ h', hz_aS h (some 4) 0 (nI i) (nI x) = some h' ∧ RepM n h' (sv 11 i x s) G K := R.sV hi 11 rfl rfl x
theorem RepM.g20 (R : RepM n h s G K) {i : Nat} (hi : i < n) : hz_aI h (some 6) 0 (nI i) = some (nI (s.1 20 i)) := R.gV hi 20 rfl rfl
theorem RepM.v20 (R : RepM n h s G K) {i v : Nat} (hi : i < n) (hv : s.1 20 i = v) : hz_aI h (some 6) 0 (nI i) = some (nI v) := by rw [← hv]; exact R.g20 hi
theorem RepM.s20 (R : RepM n h s G K) {i : Nat} (hi : i < n) (x : Nat) : ∃ h', hz_aS h (some 6) 0 (nI i) (nI x) = some h' ∧ RepM n h' (sv 20 i x s) G K := R.sV hi 20 rfl rfl x
theorem RepM.g14 (R : RepM n h s G K) {i : Nat} (hi : i < n) : hz_aI h (some 7) 0 (nI i) = some (nI (s.1 14 i)) := R.gV hi 14 rfl rfl
theorem RepM.v14 (R : RepM n h s G K) {i v : Nat} (hi : i < n) (hv : s.1 14 i = v) : hz_aI h (some 7) 0 (nI i) = some (nI v) := by rw [← hv]; exact R.g14 hi
theorem RepM.s14 (R : RepM n h s G K) {i : Nat} (hi : i < n) (x : Nat) : ∃ h', hz_aS h (some 7) 0 (nI i) (nI x) = some h' ∧ RepM n h' (sv 14 i x s) G K := R.sV hi 14 rfl rfl x
theorem RepM.g13 (R : RepM n h s G K) {i : Nat} (hi : i < n) : hz_aI h (some 8) 0 (nI i) = some (nI (s.1 13 i)) := R.gV hi 13 rfl rfl
theorem RepM.v13 (R : RepM n h s G K) {i v : Nat} (hi : i < n) (hv : s.1 13 i = v) : hz_aI h (some 8) 0 (nI i) = some (nI v) := by rw [← hv]; exact R.g13 hi
theorem RepM.s13 (R : RepM n h s G K) {i : Nat} (hi : i < n) (x : Nat) : ∃ h', hz_aS h (some 8) 0 (nI i) (nI x) = some h' ∧ RepM n h' (sv 13 i x s) G K := R.sV hi 13 rfl rfl x
theorem RepM.g12 (R : RepM n h s G K) {i : Nat} (hi : i < n) : hz_aI h (some 9) 0 (nI i) = some (nI (s.1 12 i)) := R.gV hi 12 rfl rfl
theorem RepM.v12 (R : RepM n h s G K) {i v : Nat} (hi : i < n) (hv : s.1 12 i = v) : hz_aI h (some 9) 0 (nI i) = some (nI v) := by rw [← hv]; exact R.g12 hi
theorem RepM.s12 (R : RepM n h s G K) {i : Nat} (hi : i < n) (x : Nat) : ∃ h', hz_aS h (some 9) 0 (nI i) (nI x) = some h' ∧ RepM n h' (sv 12 i x s) G K := R.sV hi 12 rfl rfl x
theorem RepM.g15 (R : RepM n h s G K) {i : Nat} (hi : i < n) : hz_aI h (some 10) 0 (nI i) = some (nI (s.1 15 i)) := R.gV hi 15 rfl rfl
theorem RepM.v15 (R : RepM n h s G K) {i v : Nat} (hi : i < n) (hv : s.1 15 i = v) : hz_aI h (some 10) 0 (nI i) = some (nI v) := by rw [← hv]; exact R.g15 hi
theorem RepM.s15 (R : RepM n h s G K) {i : Nat} (hi : i < n) (x : Nat) : ∃ h', hz_aS h (some 10) 0 (nI i) (nI x) = some h' ∧ RepM n h' (sv 15 i x s) G K := R.sV hi 15 rfl rfl x
theorem RepM.g9 (R : RepM n h s G K) {i : Nat} (hi : i < n) : hz_aI h (some 11) 0 (nI i) = some (nI (s.1 9 i)) := R.gV hi 9 rfl rfl
theorem RepM.v9 (R : RepM n h s G K) {i v : Nat} (hi : i < n) (hv : s.1 9 i = v) : hz_aI h (some 11) 0 (nI i) = some (nI v) := by rw [← hv]; exact R.g9 hi
theorem RepM.s9 (R : RepM n h s G K) {i : Nat} (hi : i < n) (x : Nat) : ∃ h', hz_aS h (some 11) 0 (nI i) (nI x) = some h' ∧ RepM n h' (sv 9 i x s) G K := R.sV hi 9 rfl rfl x
theorem RepM.g0 (R : RepM n h s G K) {i : Nat} (hi : i < n) : hz_aI h (some 12) 0 (nI i) = some (nI (s.1 0 i)) := R.gV hi 0 rfl rfl
theorem RepM.v0 (R : RepM n h s G K) {i v : Nat} (hi : i < n) (hv : s.1 0 i = v) : hz_aI h (some 12) 0 (nI i) = some (nI v) := by rw [← hv]; exact R.g0 hi
theorem RepM.s0 (R : RepM n h s G K) {i : Nat} (hi : i < n) (x : Nat) : ∃ h', hz_aS h (some 12) 0 (nI i) (nI x) = some h' ∧ RepM n h' (sv 0 i x s) G K := R.sV hi 0 rfl rfl x
theorem RepM.g21 (R : RepM n h s G K) {i : Nat} (hi : i < n) : hz_aI h (some 20) 0 (nI i) = some (nI (s.1 21 i)) := R.gV hi 21 rfl rfl
theorem RepM.v21 (R : RepM n h s G K) {i v : Nat} (hi : i < n) (hv : s.1 21 i = v) : hz_aI h (some 20) 0 (nI i) = some (nI v) := by rw [← hv]; exact R.g21 hi
theorem RepM.s21 (R : RepM n h s G K) {i : Nat} (hi : i < n) (x : Nat) : ∃ h', hz_aS h (some 20) 0 (nI i) (nI x) = some h' ∧ RepM n h' (sv 21 i x s) G K := R.sV hi 21 rfl rfl x
theorem RepM.g16 (R : RepM n h s G K) {i : Nat} (hi : i < n) : hz_aI h (some 13) 0 (nI i) = some (nI (s.1 16 i) + (-1)) := by
  have hn := R.rng
  obtain ⟨Z, A, rfl, r⟩ := R
  rw [mm_aI (a := 13) (by decide) (show i < 7 by omega), r.2.2.1 i hi]
theorem RepM.s16 (R : RepM n h s G K) {i : Nat} (hi : i < n) (x : Nat) {v : Int32} (hv : v = nI x + (-1)) : ∃ h', hz_aS h (some 13) 0 (nI i) v = some h' ∧ RepM n h' (sv 16 i x s) G K := by
  have hn := R.rng
  obtain ⟨Z, A, rfl, r⟩ := R
  refine ⟨_, mm_aS (a := 13) (by decide) (show i < 7 by omega) v, Z, _, rfl, ?_⟩
  obtain ⟨r0, r1, r2, r3, r4, r5, r6, r7, r8⟩ := r
  have rr : ∀ b : Nat, ¬ b = 13 → up2 A 13 i (v) b = A b := fun b hb => up2_row hb
  refine ⟨r0, fun g hg j hj => ?_, fun j hj => ?_, fun g hg j hj t ht => ?_, fun j k hj hk hne => ?_, r5, r6.cong fun b h1 h2 => rr b (by omega), r7.cong fun b h1 h2 => rr b (by omega), r8.cong fun b h1 h2 => rr b (by omega)⟩
  · rw [rr (mo g) (mo_i hg).1.2.2.2.1, r1 g hg j hj]
    have : ¬ (g = 16 ∧ j = i) := fun q => by rw [q.1] at hg; simp [mok] at hg
    simp only [sv, up2, if_neg this]
  · show up2 A 13 i v 13 j = nI (up2 s.1 16 i x 16 j) + (-1)
    by_cases e : j = i
    · subst e; rw [up2_same, up2_same, hv]
    · rw [up2_k e, up2_k e]; exact r2 j hj
  · have : ¬ ma g = 13 := by unfold ma; split <;> omega
    rw [rr (ma g) this]
    exact r3 g hg j hj t ht
  · rw [rr 14 (by omega)]
    exact r4 j k hj hk hne
theorem RepM.fr (R : RepM n h s G K) {f i x : Nat} (hf : mok f = false) (h16 : ¬ f = 16) : RepM n h (sv f i x s) G K := by
  obtain ⟨Z, A, rfl, r0, r1, r2, r3⟩ := R
  refine ⟨Z, A, rfl, r0, fun g hg j hj => ?_, fun j hj => ?_, r3⟩
  · have : ¬ (g = f ∧ j = i) := fun q => by rw [q.1, hf] at hg; simp at hg
    simp only [sv, up2, if_neg this]
    exact r1 g hg j hj
  · have : ¬ ((16 : Nat) = f ∧ j = i) := fun q => h16 q.1.symm
    simp only [sv, up2, if_neg this]
    exact r2 j hj
theorem RepM.frb (R : RepM n h s G K) {i : Nat} {xs : List Int32} : RepM n h (sb i xs s) G K := R
theorem RepM.frX (R : RepM n h s G K) {X : List (Nat × Bool × LL)} : RepM n h (wX s X) G K := R
theorem RepM.drop (R : RepM n h s G K) : RepM n h s G none := by
  obtain ⟨Z, A, rfl, r0, r1, r2, r3, r4, r5, r6, r7, r8⟩ := R
  exact ⟨Z, A, rfl, r0, r1, r2, r3, r4, r5, r6, r7, fun x y ℓ q => by simp at q⟩
theorem RepM.t0 (R : RepM n h s G K) : hz_gI h (some 1) 9 30 = some (nI (s.2.2.2.2.1 0)) := by
  obtain ⟨Z, A, rfl, r⟩ := R
  rw [hk_gI (by omega) (show KM 1 = 9 from rfl) (by decide) (by decide), r.2.2.2.2.2.1.1 0 (by decide)]
theorem RepM.t1 (R : RepM n h s G K) : hz_gI h (some 1) 9 31 = some (nI (s.2.2.2.2.1 1)) := by
  obtain ⟨Z, A, rfl, r⟩ := R
  rw [hk_gI (by omega) (show KM 1 = 9 from rfl) (by decide) (by decide), r.2.2.2.2.2.1.1 1 (by decide)]
theorem RepM.t2 (R : RepM n h s G K) : hz_gI h (some 1) 9 32 = some (nI (s.2.2.2.2.1 2)) := by
  obtain ⟨Z, A, rfl, r⟩ := R
  rw [hk_gI (by omega) (show KM 1 = 9 from rfl) (by decide) (by decide), r.2.2.2.2.2.1.1 2 (by decide)]
theorem RepM.t3 (R : RepM n h s G K) : hz_gI h (some 1) 9 33 = some (nI (s.2.2.2.2.1 3)) := by
  obtain ⟨Z, A, rfl, r⟩ := R
  rw [hk_gI (by omega) (show KM 1 = 9 from rfl) (by decide) (by decide), r.2.2.2.2.2.1.1 3 (by decide)]
theorem RepM.t4 (R : RepM n h s G K) : hz_gI h (some 1) 9 34 = some (nI (s.2.2.2.2.1 4)) := by
  obtain ⟨Z, A, rfl, r⟩ := R
  rw [hk_gI (by omega) (show KM 1 = 9 from rfl) (by decide) (by decide), r.2.2.2.2.2.1.1 4 (by decide)]
theorem RepM.t5 (R : RepM n h s G K) : hz_gI h (some 1) 9 29 = some (nI (s.2.2.2.2.1 5)) := by
  obtain ⟨Z, A, rfl, r⟩ := R
  rw [hk_gI (by omega) (show KM 1 = 9 from rfl) (by decide) (by decide), r.2.2.2.2.2.1.2]
theorem RM.zt {Z A : Nat → Nat → Int32} (r : RM n Z A s G K) {t x : Nat} (h0 : 1 ≤ t) (ht : t < 5) : RM n (up2 Z 1 (30 + t) (nI x)) A (sc t x s) G K := by
  obtain ⟨r0, r1, r2, r3, r4, r5, r6, r7, r8⟩ := r
  refine ⟨⟨r0.1, by rw [up2_k (by omega)]; exact r0.2⟩, r1, r2, r3, r4, ⟨fun u hu => ?_, ?_⟩, ?_, r7, r8⟩
  · show _ = nI (va_up s.2.2.2.2.1 t x u)
    by_cases e : u = t
    · subst e; rw [up2_same]; simp [va_up]
    · rw [up2_k (by omega), r5.1 u hu]; simp [va_up, e]
  · show _ = nI (va_up s.2.2.2.2.1 t x 5)
    rw [up2_k (by omega), r5.2]; have : ¬ 5 = t := by omega
    simp [va_up, this]
  · show PoolR A n (va_up s.2.2.2.2.1 t x 0) (va_up s.2.2.2.2.1 t x 5) s.2.2.2.1
    have e5 : ¬ 5 = t := by omega
    have e0 : ¬ 0 = t := by omega
    simp only [va_up, if_neg e5, if_neg e0]
    exact r6
theorem RepM.c1 (R : RepM n h s G K) (x : Nat) : ∃ h', hz_pF h (some 1) 9 31 (.int (nI x)) = some h' ∧ RepM n h' (sc 1 x s) G K := by
  obtain ⟨Z, A, rfl, r⟩ := R
  exact ⟨_, hk_pFI (by omega) (show KM 1 = 9 from rfl) (by decide) (by decide) _, _, A, rfl, r.zt (t := 1) (by decide) (by decide)⟩
theorem RepM.c2 (R : RepM n h s G K) (x : Nat) : ∃ h', hz_pF h (some 1) 9 32 (.int (nI x)) = some h' ∧ RepM n h' (sc 2 x s) G K := by
  obtain ⟨Z, A, rfl, r⟩ := R
  exact ⟨_, hk_pFI (by omega) (show KM 1 = 9 from rfl) (by decide) (by decide) _, _, A, rfl, r.zt (t := 2) (by decide) (by decide)⟩
theorem RepM.c3 (R : RepM n h s G K) (x : Nat) : ∃ h', hz_pF h (some 1) 9 33 (.int (nI x)) = some h' ∧ RepM n h' (sc 3 x s) G K := by
  obtain ⟨Z, A, rfl, r⟩ := R
  exact ⟨_, hk_pFI (by omega) (show KM 1 = 9 from rfl) (by decide) (by decide) _, _, A, rfl, r.zt (t := 3) (by decide) (by decide)⟩
theorem RepM.c4 (R : RepM n h s G K) (x : Nat) : ∃ h', hz_pF h (some 1) 9 34 (.int (nI x)) = some h' ∧ RepM n h' (sc 4 x s) G K := by
  obtain ⟨Z, A, rfl, r⟩ := R
  exact ⟨_, hk_pFI (by omega) (show KM 1 = 9 from rfl) (by decide) (by decide) _, _, A, rfl, r.zt (t := 4) (by decide) (by decide)⟩
theorem RepM.gR (R : RepM n h s G K) {i j : Nat} (hi : i < n) (hj : j < 60) : hz_aI h (some 5) 0 (nI (60 * i + j)) = some (s.2.1 0 i j) := by
  have hn := R.rng
  obtain ⟨Z, A, rfl, r⟩ := R
  rw [mm_aI (a := 5) (by decide) (show 60 * i + j < 420 by omega)]
  exact congrArg some (r.2.2.2.1 0 (by decide) i hi j hj)
theorem RepM.gS (R : RepM n h s G K) {i j : Nat} (hi : i < n) (hj : j < 20) : hz_aI h (some 19) 0 (nI (20 * i + j)) = some (s.2.1 1 i j) := by
  have hn := R.rng
  obtain ⟨Z, A, rfl, r⟩ := R
  rw [mm_aI (a := 19) (by decide) (show 20 * i + j < 140 by omega)]
  exact congrArg some (r.2.2.2.1 1 (by decide) i hi j hj)
theorem RepM.gH (R : RepM n h s G K) {i j : Nat} (hi : i < n) (hj : j < n) (hne : ¬ i = j) : hz_aI h (some 14) 0 (nI (7 * i + j)) = some (s.2.1 2 i j) := by
  have hn := R.rng
  obtain ⟨Z, A, rfl, r⟩ := R
  rw [mm_aI (a := 14) (by decide) (show 7 * i + j < 49 by omega)]
  exact congrArg some (r.2.2.2.2.1 i j hi hj hne)
theorem RM.sW {Z A : Nat → Nat → Int32} (r : RM n Z A s G K) {g i j : Nat} (hg : g < 2) (hi : i < n) (hj : j < ml g) (x : Int32) : RM n Z (up2 A (ma g) (ml g * i + j) x) (sw g i (va_up (s.2.1 g i) j x) s) G K := by
  obtain ⟨r0, r1, r2, r3, r4, r5, r6, r7, r8⟩ := r
  have hm : ma g = 5 ∨ ma g = 19 := by unfold ma; split <;> simp
  have rr : ∀ b : Nat, ¬ b = ma g → up2 A (ma g) (ml g * i + j) x b = A b := fun b hb => up2_row hb
  refine ⟨r0, fun f hf k hk => ?_, fun k hk => ?_, fun g' hg' k hk t ht => ?_, fun k t hk ht hne => ?_, r5, r6.cong fun b h1 h2 => rr b (by omega), r7.cong fun b h1 h2 => rr b (by omega), r8.cong fun b h1 h2 => rr b (by omega)⟩
  · obtain ⟨q, -⟩ := mo_i hf
    rw [rr (mo f) (by omega)]
    exact r1 f hf k hk
  · rw [rr 13 (by omega)]
    exact r2 k hk
  · show _ = up2 s.2.1 g i (va_up (s.2.1 g i) j x) g' k t
    by_cases e : g' = g
    · subst e
      by_cases e2 : k = i
      · subst e2
        rw [up2_same]
        by_cases e3 : t = j
        · subst e3; rw [up2_same]; simp [va_up]
        · rw [up2_k (by omega), r3 g' hg' k hk t ht]; simp [va_up, e3]
      · have : ¬ ml g' * k + t = ml g' * i + j := by
          have hml : ml g' = 60 ∨ ml g' = 20 := by unfold ml; split <;> simp
          rcases hml with q | q <;> rw [q] at ht hj ⊢ <;> omega
        rw [up2_k this, up2_k e2]
        exact r3 g' hg' k hk t ht
    · have : ¬ ma g' = ma g := by
        unfold ma
        split <;> split <;> omega
      rw [rr _ this, up2_a e]
      exact r3 g' hg' k hk t ht
  · show _ = up2 s.2.1 g i (va_up (s.2.1 g i) j x) 2 k t
    rw [rr 14 (by omega), up2_a (by omega)]
    exact r4 k t hk ht hne
theorem RepM.sR (R : RepM n h s G K) {i j : Nat} (hi : i < n) (hj : j < 60) (x : Int32) : ∃ h', hz_aS h (some 5) 0 (nI (60 * i + j)) x = some h' ∧ RepM n h' (sw 0 i (va_up (s.2.1 0 i) j x) s) G K := by
  have hn := R.rng
  obtain ⟨Z, A, rfl, r⟩ := R
  exact ⟨_, mm_aS (a := 5) (by decide) (show 60 * i + j < 420 by omega) x, Z, _, rfl, r.sW (g := 0) (by decide) hi hj x⟩
theorem RepM.sS (R : RepM n h s G K) {i j : Nat} (hi : i < n) (hj : j < 20) (x : Int32) : ∃ h', hz_aS h (some 19) 0 (nI (20 * i + j)) x = some h' ∧ RepM n h' (sw 1 i (va_up (s.2.1 1 i) j x) s) G K := by
  have hn := R.rng
  obtain ⟨Z, A, rfl, r⟩ := R
  exact ⟨_, mm_aS (a := 19) (by decide) (show 20 * i + j < 140 by omega) x, Z, _, rfl, r.sW (g := 1) (by decide) hi hj x⟩
theorem RM.sH {Z A : Nat → Nat → Int32} (r : RM n Z A s G K) {i j : Nat} (hi : i < n) (hj : j < n) (x : Int32) : RM n Z (up2 A 14 (7 * i + j) x) (sw 2 i (va_up (s.2.1 2 i) j x) s) G K := by
  obtain ⟨r0, r1, r2, r3, r4, r5, r6, r7, r8⟩ := r
  have rr : ∀ b : Nat, ¬ b = 14 → up2 A 14 (7 * i + j) x b = A b := fun b hb => up2_row hb
  refine ⟨r0, fun f hf k hk => ?_, fun k hk => ?_, fun g' hg' k hk t ht => ?_, fun k t hk ht hne => ?_, r5, r6.cong fun b h1 h2 => rr b (by omega), r7.cong fun b h1 h2 => rr b (by omega), r8.cong fun b h1 h2 => rr b (by omega)⟩
  · obtain ⟨q, -⟩ := mo_i hf
    rw [rr (mo f) (by omega)]
    exact r1 f hf k hk
  · rw [rr 13 (by omega)]
    exact r2 k hk
  · show _ = up2 s.2.1 2 i (va_up (s.2.1 2 i) j x) g' k t
    have : ¬ ma g' = 14 := by unfold ma; split <;> omega
    rw [rr _ this, up2_a (by omega)]
    exact r3 g' hg' k hk t ht
  · show _ = up2 s.2.1 2 i (va_up (s.2.1 2 i) j x) 2 k t
    have hn := r0.1
    by_cases e2 : k = i
    · subst e2
      rw [up2_same]
      by_cases e3 : t = j
      · subst e3; rw [up2_same]; simp [va_up]
      · rw [up2_k (by omega), r4 k t hk ht hne]; simp [va_up, e3]
    · rw [up2_k (by omega), up2_k e2]
      exact r4 k t hk ht hne
theorem RepM.sH (R : RepM n h s G K) {i j : Nat} (hi : i < n) (hj : j < n) (x : Int32) : ∃ h', hz_aS h (some 14) 0 (nI (7 * i + j)) x = some h' ∧ RepM n h' (sw 2 i (va_up (s.2.1 2 i) j x) s) G K := by
  have hn := R.rng
  obtain ⟨Z, A, rfl, r⟩ := R
  exact ⟨_, mm_aS (a := 14) (by decide) (show 7 * i + j < 49 by omega) x, Z, _, rfl, r.sH hi hj x⟩
theorem RM.own {Z A : Nat → Nat → Int32} (r : RM n Z A s G K) {i : Nat} (x : Int32) : RM n Z (up2 A 14 (7 * i + i) x) s G K := by
  obtain ⟨r0, r1, r2, r3, r4, r5, r6, r7, r8⟩ := r
  have rr : ∀ b : Nat, ¬ b = 14 → up2 A 14 (7 * i + i) x b = A b := fun b hb => up2_row hb
  refine ⟨r0, fun f hf k hk => ?_, fun k hk => ?_, fun g' hg' k hk t ht => ?_, fun k t hk ht hne => ?_, r5, r6.cong fun b h1 h2 => rr b (by omega), r7.cong fun b h1 h2 => rr b (by omega), r8.cong fun b h1 h2 => rr b (by omega)⟩
  · obtain ⟨q, -⟩ := mo_i hf
    rw [rr (mo f) (by omega)]
    exact r1 f hf k hk
  · rw [rr 13 (by omega)]
    exact r2 k hk
  · have : ¬ ma g' = 14 := by unfold ma; split <;> omega
    rw [rr _ this]
    exact r3 g' hg' k hk t ht
  · have hn := r0.1
    rw [up2_k (by omega)]
    exact r4 k t hk ht hne
theorem RepM.gG (R : RepM n h s G K) {i : Nat} (hi : i < n) : hz_aI h (some 15) 0 (nI i) = some (nI (G.1 i)) := by
  have hn := R.rng
  obtain ⟨Z, A, rfl, r⟩ := R
  rw [mm_aI (a := 15) (by decide) (show i < 7 by omega), r.2.2.2.2.2.2.2.1.1 i hi]
theorem RepM.sG (R : RepM n h s G K) {i : Nat} (hi : i < n) (x : Nat) : ∃ h', hz_aS h (some 15) 0 (nI i) (nI x) = some h' ∧ RepM n h' s (va_up G.1 i x, G.2) K := by
  have hn := R.rng
  obtain ⟨Z, A, rfl, r⟩ := R
  refine ⟨_, mm_aS (a := 15) (by decide) (show i < 7 by omega) (nI x), Z, _, rfl, ?_⟩
  obtain ⟨r0, r1, r2, r3, r4, r5, r6, r7, r8⟩ := r
  have rr : ∀ b : Nat, ¬ b = 15 → up2 A 15 i (nI x) b = A b := fun b hb => up2_row hb
  refine ⟨r0, fun g hg j hj => ?_, fun j hj => ?_, fun g hg j hj t ht => ?_, fun j k hj hk hne => ?_, r5, r6.cong fun b h1 h2 => rr b (by omega), ⟨fun j hj => ?_, fun j k hj hk => ?_⟩, r8.cong fun b h1 h2 => rr b (by omega)⟩
  · obtain ⟨q, -⟩ := mo_i hg
    rw [rr (mo g) (by omega)]
    exact r1 g hg j hj
  · rw [rr 13 (by omega)]
    exact r2 j hj
  · have : ¬ ma g = 15 := by unfold ma; split <;> omega
    rw [rr (ma g) this]
    exact r3 g hg j hj t ht
  · rw [rr 14 (by omega)]
    exact r4 j k hj hk hne
  · show up2 A 15 i (nI x) 15 j = nI (va_up G.1 i x j)
    by_cases e : j = i
    · subst e; rw [up2_same]; simp [va_up]
    · rw [up2_k e, r7.1 j hj]; simp [va_up, e]
  · rw [rr 16 (by omega), rr 17 (by omega), rr 18 (by omega)]
    exact r7.2 j k hj hk
end MG
