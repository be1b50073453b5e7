/-! the abstract state, and what a heap of the class that holds it looks like -/
/-- a letter: kind, number, detail, acts -/
abbrev LL : Type := Nat × Nat × Nat × List Int32
/-- V: ints of nodes by field and node; W: arrays of nodes (0 acts, 1 stack, 2 told); bl: the best so far; q: channels; cn: counters (5: flying); last, letters (true) and arrays of acts (false) at hand -/
abbrev SS : Type := (Nat → Nat → Nat) × (Nat → Nat → Nat → Int32) × (Nat → List Int32) × (Nat → Nat → List LL) × (Nat → Nat) × List (Nat × Bool × LL)
def nd (n i : Nat) : Nat := 6 + n * n + 7 * i
def bsA (n : Nat) : Nat := 6 + n * n + 7 * n
def vo (f : Nat) : Nat := if f = 20 then 1 else if f = 21 then 3 else if f < 8 then 5 else 0
def vx (f : Nat) : Nat := if f = 20 then 1 else if f = 21 then 1 else f
def vc (f : Nat) : Nat := if f = 20 then 6 else if f = 21 then 3 else if f < 8 then 0 else 4
def vok (f : Nat) : Bool := [0, 1, 3, 4, 8, 9, 10, 11, 12, 13, 14, 15, 20, 21].contains f
def wo (g : Nat) : Nat := 2 * g + 2
def wl (n g : Nat) : Nat := if g = 0 then 60 else if g = 1 then 20 else n
theorem vok_lt {f : Nat} (h : vok f = true) : f < 22 := by
  simp [vok] at h
  omega
theorem vo_lt (f : Nat) : vo f < 6 := by
  unfold vo
  split
  · omega
  · split
    · omega
    · split <;> omega
theorem vinj1 : ((List.range 22).all fun f => (List.range 22).all fun g => !(vok f && vok g && vo f == vo g && vx f == vx g) || f == g) = true := by decide +kernel
theorem vinj0 (f : Nat) (hf : f < 22) (g : Nat) (hg : g < 22) (h1 : vok f = true) (h2 : vok g = true) (h3 : vo f = vo g) (h4 : vx f = vx g) : f = g := by
  have h := List.all_eq_true.mp (List.all_eq_true.mp vinj1 f (List.mem_range.mpr hf)) g (List.mem_range.mpr hg)
  simpa [h1, h2, h3, h4] using h
theorem vprop1 : ((List.range 22).all fun f => !vok f || (hm_int (vc f) (vx f) && decide (vc f < 10) && ((vo f == 0 && decide (8 ≤ vx f) && decide (vx f < 16) && vc f == 4) || (vo f == 1 && vc f == 6) || (vo f == 3 && vc f == 3) || (vo f == 5 && vc f == 0)))) = true := by decide +kernel
theorem vprop (f : Nat) (hf : f < 22) (h1 : vok f = true) : hm_int (vc f) (vx f) = true ∧ vc f < 10 ∧ (vo f = 0 → 8 ≤ vx f ∧ vx f < 16) ∧ (vo f = 0 → vc f = 4) ∧ (vo f = 1 → vc f = 6) ∧ (vo f = 3 → vc f = 3) ∧ (vo f = 5 → vc f = 0) ∧ (vo f = 0 ∨ vo f = 1 ∨ vo f = 3 ∨ vo f = 5) := by
  have h := List.all_eq_true.mp vprop1 f (List.mem_range.mpr hf)
  simp only [h1, Bool.not_true, Bool.false_or, Bool.and_eq_true, Bool.or_eq_true, decide_eq_true_eq, beq_iff_eq] at h
  obtain ⟨⟨a, b⟩, c⟩ := h
  refine ⟨a, b, ?_⟩
  omega
/-- acts that letters and bests share: none written any more -/
def IsA (n c : Nat) (kd ln : Nat → Nat) (A : Nat → Nat → Int32) (b : Nat) (xs : List Int32) : Prop := (b = 0 ∧ xs = []) ∨ (bsA n ≤ b ∧ b ≤ c ∧ kd b = 10 ∧ ln b = xs.length ∧ xs.length ≤ 60 ∧ ∀ j : Nat, j < xs.length → xs[j]? = some (A b j))
def IsL (n c : Nat) (kd ln : Nat → Nat) (Z : Nat → Nat → Int32) (P : Nat → Nat → Option Nat) (A : Nat → Nat → Int32) (l : Nat) (x : LL) : Prop := bsA n ≤ l ∧ l ≤ c ∧ kd l = 2 ∧ Z l 0 = nI x.1 ∧ Z l 1 = nI x.2.1 ∧ Z l 2 = nI x.2.2.1 ∧ ∃ b : Nat, P l 3 = some b ∧ IsA n c kd ln A b x.2.2.2
/-- at hand: a letter, or an array of acts -/
def IsP (n c : Nat) (kd ln : Nat → Nat) (Z : Nat → Nat → Int32) (P : Nat → Nat → Option Nat) (A : Nat → Nat → Int32) (w : Nat × Bool × LL) : Prop := (w.2.1 = true → IsL n c kd ln Z P A w.1 w.2.2) ∧ (w.2.1 = false → IsA n c kd ln A w.1 w.2.2.2.2.2)
def NdS (n i a : Nat) (kd ln : Nat → Nat) (Z : Nat → Nat → Int32) (P : Nat → Nat → Option Nat) : Prop := (kd a = 4 ∧ Z a 0 = nI i ∧ Z a 1 = nI n) ∧ (P a 2 = some 3 ∧ P a 3 = some 2 ∧ P a 4 = some (a + 1) ∧ P a 5 = some (a + 3) ∧ P a 6 = some (a + 5) ∧ P a 7 = some (a + 6)) ∧ (kd (a + 1) = 6 ∧ P (a + 1) 0 = some (a + 2) ∧ kd (a + 2) = 10 ∧ ln (a + 2) = 60) ∧ (kd (a + 3) = 3 ∧ P (a + 3) 0 = some (a + 4) ∧ kd (a + 4) = 10 ∧ ln (a + 4) = 20) ∧ kd (a + 5) = 0 ∧ kd (a + 6) = 10 ∧ ln (a + 6) = n
def ShC (n c : Nat) (kd ln : Nat → Nat) (Z : Nat → Nat → Int32) (P : Nat → Nat → Option Nat) : Prop := (2 ≤ n ∧ n ≤ 7) ∧ bsA n ≤ c + 1 ∧ (kd 1 = 8 ∧ P 1 0 = some 2 ∧ P 1 1 = some 3 ∧ P 1 2 = some (5 + n * n)) ∧ kd 2 = 7 ∧ (kd 3 = 5 ∧ Z 3 0 = nI n ∧ P 3 1 = some 2 ∧ P 3 2 = some 4) ∧ (kd 4 = 12 ∧ ln 4 = n * n ∧ ∀ j : Nat, j < n * n → P 4 j = some (5 + j) ∧ kd (5 + j) = 1) ∧ (kd (5 + n * n) = 13 ∧ ln (5 + n * n) = n ∧ ∀ i : Nat, i < n → P (5 + n * n) i = some (nd n i)) ∧ ∀ i : Nat, i < n → NdS n i (nd n i) kd ln Z P
/-- the letters of a channel, the oldest first -/
def ChC (n c : Nat) (kd ln : Nat → Nat) (Z : Nat → Nat → Int32) (P : Nat → Nat → Option Nat) (A : Nat → Nat → Int32) (e : Nat) (Q : List Nat) (xs : List LL) : Prop := P (5 + e) 0 = Q.head? ∧ P (5 + e) 1 = Q.getLast? ∧ Z (5 + e) 2 = nI xs.length ∧ Q.length = xs.length ∧ ∀ (j l : Nat), Q[j]? = some l → P l 4 = Q[j + 1]? ∧ ∃ x : LL, xs[j]? = some x ∧ IsL n c kd ln Z P A l x
def RC (n c : Nat) (kd ln : Nat → Nat) (Z : Nat → Nat → Int32) (P : Nat → Nat → Option Nat) (A : Nat → Nat → Int32) (Q : Nat → List Nat) (s : SS) : Prop := ShC n c kd ln Z P ∧ (∀ f, vok f = true → ∀ i : Nat, i < n → Z (nd n i + vo f) (vx f) = nI (s.1 f i)) ∧ (∀ i : Nat, i < n → Z (nd n i) 16 = nI (s.1 16 i) + (-1)) ∧ (∀ g : Nat, g < 3 → ∀ i : Nat, i < n → A (nd n i + wo g) = s.2.1 g i) ∧ (∀ t : Nat, t < 5 → Z 2 t = nI (s.2.2.2.2.1 t)) ∧ Z 3 3 = nI (s.2.2.2.2.1 5) ∧ (∀ i : Nat, i < n → ∃ b : Nat, P (nd n i + 5) 2 = some b ∧ IsA n c kd ln A b (s.2.2.1 i)) ∧ (∀ x y : Nat, x < n → y < n → ChC n c kd ln Z P A (x * n + y) (Q (x * n + y)) (s.2.2.2.1 x y)) ∧ (∀ (e e' j j' l : Nat), e < n * n → e' < n * n → (Q e)[j]? = some l → (Q e')[j']? = some l → e = e' ∧ j = j') ∧ ∀ w ∈ s.2.2.2.2.2, IsP n c kd ln Z P A w
def RepC (n : Nat) (h : HP) (s : SS) : Prop := ∃ (c : Nat) (kd ln : Nat → Nat) (Z : Nat → Nat → Int32) (P : Nat → Nat → Option Nat) (A : Nat → Nat → Int32) (Q : Nat → List Nat), h = hk c kd ln Z P A ∧ RC n c kd ln Z P A Q s
theorem nd_inj {n i j d d' : Nat} (h : nd n i + d = nd n j + d') (hd : d < 7) (hd' : d' < 7) : i = j ∧ d = d' := by
  unfold nd at h
  omega
theorem vinj {n i j f g : Nat} (hf : vok f = true) (hg : vok g = true) (h : nd n i + vo f = nd n j + vo g) (hx : vx f = vx g) : f = g ∧ i = j := by
  have h1 := vo_lt f
  have h2 := vo_lt g
  obtain ⟨e1, e2⟩ := nd_inj h (by omega) (by omega)
  exact ⟨vinj0 f (vok_lt hf) g (vok_lt hg) hf hg e2 hx, e1⟩
theorem nd_lt {n i : Nat} (h : i < n) {d : Nat} (hd : d < 7) : nd n i + d < bsA n := by
  unfold nd bsA
  omega
theorem nd_ge (n i : Nat) : 6 + n * n ≤ nd n i := by
  unfold nd
  omega
theorem ch_lt {n x y : Nat} (hx : x < n) (hy : y < n) : x * n + y < n * n := by
  have : (x + 1) * n ≤ n * n := Nat.mul_le_mul_right n hx
  rw [Nat.succ_mul] at this
  omega
/-- the ints of the fixed objects may change, all else as it was -/
theorem RC.ints {n c : Nat} {kd ln : Nat → Nat} {Z Z' : Nat → Nat → Int32} {P : Nat → Nat → Option Nat} {A : Nat → Nat → Int32} {Q : Nat → List Nat} {s : SS} {V : Nat → Nat → Nat} {cn : Nat → Nat} (R : RC n c kd ln Z P A Q s)
    (h0 : Z' 3 0 = Z 3 0) (h1 : ∀ i : Nat, i < n → Z' (nd n i) 0 = Z (nd n i) 0 ∧ Z' (nd n i) 1 = Z (nd n i) 1) (h2 : ∀ f, vok f = true → ∀ i : Nat, i < n → Z' (nd n i + vo f) (vx f) = nI (V f i)) (h3 : ∀ i : Nat, i < n → Z' (nd n i) 16 = nI (V 16 i) + (-1)) (h4 : ∀ t : Nat, t < 5 → Z' 2 t = nI (cn t)) (h5 : Z' 3 3 = nI (cn 5)) (h6 : ∀ e : Nat, e < n * n → Z' (5 + e) 2 = Z (5 + e) 2) (h7 : ∀ l : Nat, bsA n ≤ l → Z' l = Z l) : RC n c kd ln Z' P A Q (V, s.2.1, s.2.2.1, s.2.2.2.1, cn, s.2.2.2.2.2) := by
  obtain ⟨⟨s1, s2, s3, s4, ⟨s5, s6, s7⟩, s8, s9, s10⟩, r2, r3, r4, r5, r6, r7, r8, r9, r10⟩ := R
  have hL : ∀ l x, IsL n c kd ln Z P A l x → IsL n c kd ln Z' P A l x := fun l x q => by
    unfold IsL at q ⊢
    rw [h7 l q.1]
    exact q
  refine ⟨⟨s1, s2, s3, s4, ⟨s5, h0.trans s6, s7⟩, s8, s9, fun i hi => ?_⟩, h2, h3, r4, h4, h5, r7, fun x y hx hy => ?_, r9, fun w hw => ⟨fun e => hL _ _ ((r10 w hw).1 e), (r10 w hw).2⟩⟩
  · obtain ⟨⟨a1, a2, a3⟩, b⟩ := s10 i hi
    exact ⟨⟨a1, (h1 i hi).1.trans a2, (h1 i hi).2.trans a3⟩, b⟩
  · obtain ⟨c1, c2, c3, c4, c5⟩ := r8 x y hx hy
    refine ⟨c1, c2, (h6 _ (ch_lt hx hy)).trans c3, c4, fun j l hj => ?_⟩
    obtain ⟨d1, z, d2, d3⟩ := c5 j l hj
    exact ⟨d1, z, d2, hL _ _ d3⟩
section RS
variable {n : Nat} {h : HP} {s : SS}
theorem RepC.rng (R : RepC n h s) : 2 ≤ n ∧ n ≤ 7 := by
  obtain ⟨c, kd, ln, Z, P, A, Q, rfl, r1, -⟩ := R
  exact r1.1
theorem RC.ndk {c : Nat} {kd ln : Nat → Nat} {Z : Nat → Nat → Int32} {P : Nat → Nat → Option Nat} {A : Nat → Nat → Int32} {Q : Nat → List Nat} (R : RC n c kd ln Z P A Q s) {i : Nat} (hi : i < n) {f : Nat} (hf : vok f = true) : (1 ≤ nd n i + vo f ∧ nd n i + vo f ≤ c) ∧ kd (nd n i + vo f) = vc f := by
  have h1 := vo_lt f
  have h2 := nd_lt hi (d := vo f) (by omega)
  have h3 := nd_ge n i
  have h4 := R.1.2.1
  obtain ⟨⟨a1, -⟩, -, ⟨a2, -⟩, ⟨a3, -⟩, a4, -⟩ := R.1.2.2.2.2.2.2.2 i hi
  obtain ⟨-, -, -, p4, p5, p6, p7, p8⟩ := vprop f (vok_lt hf) hf
  refine ⟨⟨by omega, by omega⟩, ?_⟩
  rcases p8 with e | e | e | e
  · rw [e, p4 e]; exact a1
  · rw [e, p5 e]; exact a2
  · rw [e, p6 e]; exact a3
  · rw [e, p7 e]; exact a4
theorem RepC.gV (R : RepC n h s) {i : Nat} (hi : i < n) (f : Nat) (hf : vok f = true) {ci k a : Nat} (hc : vc f = ci) (hx : vx f = k) (ha : a = nd n i + vo f) : hz_gI h (some a) ci k = some (nI (s.1 f i)) := by
  subst hc; subst hx; subst ha
  obtain ⟨c, kd, ln, Z, P, A, Q, rfl, r⟩ := R
  obtain ⟨h1, h2⟩ := r.ndk hi hf
  obtain ⟨p1, p2, -⟩ := vprop f (vok_lt hf) hf
  rw [hk_gI h1 h2 p2 p1, r.2.1 f hf i hi]
theorem RepC.sV (R : RepC n h s) {i : Nat} (hi : i < n) (f : Nat) (hf : vok f = true) {ci k a : Nat} (hc : vc f = ci) (hx : vx f = k) (ha : a = nd n i + vo f) (x : Nat) : ∃ h', hz_pF h (some a) ci k (.int (nI x)) = some h' ∧ RepC n h' (up2 s.1 f i x, s.2) := by
  subst hc; subst hx; subst ha
  obtain ⟨c, kd, ln, Z, P, A, Q, rfl, r⟩ := R
  obtain ⟨h1, h2⟩ := r.ndk hi hf
  obtain ⟨p1, p2, p3, -⟩ := vprop f (vok_lt hf) hf
  have g1 := nd_ge n i
  have g2 := nd_lt hi (d := vo f) (by have := vo_lt f; omega)
  have g3 := vo_lt f
  have hn4 : 4 ≤ n * n := Nat.mul_le_mul r.1.1.1 r.1.1.1
  refine ⟨_, hk_pFI h1 h2 p2 p1 _, c, kd, ln, _, P, A, Q, rfl, r.ints (V := up2 s.1 f i x) (cn := s.2.2.2.2.1) (up2_a (by omega)) (fun j hj => ?_) (fun g hg j hj => ?_) (fun j hj => ?_) (fun t ht => ?_) ?_ (fun e he => ?_) (fun l hl => ?_)⟩
  · by_cases e : nd n j = nd n i + vo f
    · have e2 := nd_inj (n := n) (i := j) (j := i) (d := 0) (d' := vo f) (by omega) (by omega) (by omega)
      have e3 := p3 e2.2.symm
      exact ⟨up2_k (by omega), up2_k (by omega)⟩
    · exact ⟨up2_a e, up2_a e⟩
  · by_cases e : nd n j + vo g = nd n i + vo f ∧ vx g = vx f
    · obtain ⟨rfl, rfl⟩ := vinj hg hf e.1 e.2
      simp [up2]
    · have e2 : ¬ (g = f ∧ j = i) := fun q => e ⟨by rw [q.1, q.2], by rw [q.1]⟩
      simp only [up2, if_neg e, if_neg e2]
      exact r.2.1 g hg j hj
  · have hf16 : ¬ 16 = f := fun e => by rw [← e] at hf; exact absurd hf (by decide)
    have e1 : up2 s.1 f i x 16 j = s.1 16 j := up2_a hf16
    rw [e1]
    by_cases e : nd n j = nd n i + vo f
    · have e2 := nd_inj (n := n) (i := j) (j := i) (d := 0) (d' := vo f) (by omega) (by omega) (by omega)
      have e3 := p3 e2.2.symm
      rw [up2_k (by omega)]
      exact r.2.2.1 j hj
    · rw [up2_a e]
      exact r.2.2.1 j hj
  · rw [up2_a (by omega)]
    exact r.2.2.2.2.1 t ht
  · rw [up2_a (by omega)]
    exact r.2.2.2.2.2.1
  · rw [up2_a (by omega)]
  · rw [up2_row (by omega)]
end RS
