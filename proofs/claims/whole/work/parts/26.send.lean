/-! sending, taking, reading letters: the class over a state -/
def wX (s : SS) (X : List (Nat × Bool × LL)) : SS := (s.1, s.2.1, s.2.2.1, s.2.2.2.1, s.2.2.2.2.1, X)
/-- acts that a state has at hand -/
def atH (s : SS) (b : Nat) (xs : List Int32) : Prop := (b = 0 ∧ xs = []) ∨ (b, false, (0, 0, 0, xs)) ∈ s.2.2.2.2.2
theorem hk_obN {c : Nat} {kd ln : Nat → Nat} {Z : Nat → Nat → Int32} {P : Nat → Nat → Option Nat} {A : Nat → Nat → Int32} {a ci : Nat} (ha : 1 ≤ a ∧ a ≤ c) (hkd : kd a = ci) (hc : ci < 10) (k nr d : Int32) (b : Option Nat) : hz_ob (hk (c + 1) (va_up kd (c + 1) 2) ln (va_up Z (c + 1) (lZ k nr d)) (va_up P (c + 1) (lP b)) A) (some a) ci = true := by
  have : ¬ a = c + 1 := by omega
  exact hk_ob ⟨ha.1, by omega⟩ (by simp [va_up, this, hkd]) hc
section SE
variable {n : Nat}
theorem RC.act {s : SS} {c : Nat} {kd ln : Nat → Nat} {Z : Nat → Nat → Int32} {P : Nat → Nat → Option Nat} {A : Nat → Nat → Int32} {Q : Nat → List Nat} (R : RC n c kd ln Z P A Q s) {b : Nat} {xs : List Int32} (hb : atH s b xs) : IsA n c kd ln A b xs := by
  rcases hb with hb | hb
  · exact Or.inl hb
  · exact (R.2.2.2.2.2.2.2.2.2 _ hb).2 rfl
theorem C_sendL {x mask k nr d b : Nat} {xs : List Int32} (hx : x < n) (hm : mask < 128) : ∀ (m t fuel : Nat) (h : HP) (s : SS), RepC n h s → t + m = n → m < fuel → s.2.2.2.2.1 5 ≤ 500 → atH s b xs → ∃ h', f_X5_send_3 fuel (some 3) (nI x) (nI mask) (nI k) (nI nr) (nI d) (some b) (nI t) h = some h' ∧ RepC n h' (sndG x mask (k, nr, d, xs) t m s)
  | 0, t, fuel, h, s, R, ht, hf, hfl, hb => by
    obtain ⟨fu, rfl⟩ : ∃ fu, fuel = fu + 1 := ⟨fuel - 1, by omega⟩
    have hn := R.rng
    rw [f_X5_send_3]
    rw [R.p0, Option.bind_some, if_pos ((nI_leI (by omega) (by omega)).mpr (by omega))]
    exact ⟨h, rfl, R⟩
  | m + 1, t, fuel, h, s, R, ht, hf, hfl, hb => by
    obtain ⟨fu, rfl⟩ : ∃ fu, fuel = fu + 1 := ⟨fuel - 1, by omega⟩
    have hn := R.rng
    have ht7 : t < n := by omega
    rw [f_X5_send_3]
    rw [R.p0, Option.bind_some, if_neg (fun q => by have := (nI_leI (by omega) (by omega)).mp q; omega), C_has hm (by omega), Option.bind_some]
    unfold sndG
    cases hbit : mask.testBit t with
    | false =>
      have z0 : (nI 0 = 0) = True := eq_true (by decide)
      simp only [Bool.false_eq_true, if_false, z0, if_true, f_X5_send_106, nI_add]
      exact C_sendL hx hm m (t + 1) fu h s R (by omega) (by omega) hfl hb
    | true =>
      have z1 : (nI 1 = 0) = False := eq_false (by decide)
      simp only [if_true, z1, if_false]
      simp only [R.p1, R.tl 0 (by decide), Option.bind_some, nI_add, if_true]
      obtain ⟨h1, e1, R1⟩ := R.sT 0 (by decide) (s.2.2.2.2.1 0 + 1)
      simp only [e1, Option.bind_some, R1.obP, if_true, C_between R1 hx ht7, reduceCtorEq, if_false, R1.p3]
      have e5 : va_up s.2.2.2.2.1 0 (s.2.2.2.2.1 0 + 1) 5 = s.2.2.2.2.1 5 := by simp [va_up]
      simp only [e5]
      unfold snd1
      by_cases hc : s.2.2.2.2.1 5 < 500
      · rw [if_pos ((nI_ltI (by omega) (by omega)).mpr hc), if_pos hc]
        have hb1 : atH (s.1, s.2.1, s.2.2.1, s.2.2.2.1, va_up s.2.2.2.2.1 0 (s.2.2.2.2.1 0 + 1), s.2.2.2.2.2) b xs := hb
        obtain ⟨c, kd, ln, Z, P, A, Q, rfl, r⟩ := R1
        have be := ch_lt hx ht7
        have b1 := bs_ge n
        have b2 := r.1.2.1
        obtain ⟨h2, e2, R2⟩ := C_put r hx ht7 (k := k) (nr := nr) (d := d) (r.act hb1)
        have e3 : (hk c kd ln Z P A).1 = c := rfl
        simp only [e3, C_newL, Option.bind_some, hk_obN (show 1 ≤ 5 + (x * n + t) ∧ 5 + (x * n + t) ≤ c from ⟨by omega, by omega⟩) (r.1.2.2.2.2.2.1.2.2 _ be).2 (by decide), if_true, e2, R2.p3, nI_add, e5]
        obtain ⟨h3, e4, R3⟩ := R2.sF (s.2.2.2.2.1 5 + 1)
        simp only [e4, Option.bind_some, f_X5_send_106, nI_add]
        refine C_sendL hx hm m (t + 1) fu h3 _ R3 (by omega) (by omega) ?_ hb
        simp [va_up]
        omega
      · rw [if_neg (fun q => hc ((nI_ltI (by omega) (by omega)).mp q)), if_neg hc]
        simp only [f_X5_send_61, R1.p1, R1.tl 1 (by decide), Option.bind_some, nI_add]
        have e6 : va_up s.2.2.2.2.1 0 (s.2.2.2.2.1 0 + 1) 1 = s.2.2.2.2.1 1 := by simp [va_up]
        simp only [e6]
        obtain ⟨h2, e2, R2⟩ := R1.sT 1 (by decide) (s.2.2.2.2.1 1 + 1)
        simp only [e2, Option.bind_some, f_X5_send_106, nI_add]
        refine C_sendL hx hm m (t + 1) fu h2 _ R2 (by omega) (by omega) ?_ hb
        simp [va_up]
        omega
theorem C_send {h : HP} {s : SS} (R : RepC n h s) {x mask k nr d b : Nat} {xs : List Int32} (hx : x < n) (hm : mask < 128) (hfl : s.2.2.2.2.1 5 ≤ 500) (hb : atH s b xs) : ∃ h', f_X5_send (some 3) (nI x) (nI mask) (nI k) (nI nr) (nI d) (some b) h = some h' ∧ RepC n h' (sndG x mask (k, nr, d, xs) 0 n s) := by
  have hn := R.rng
  unfold f_X5_send
  exact C_sendL hx hm n 0 8 h s R (by omega) (by omega) hfl hb
/-- the oldest letter of a channel is taken -/
def tak (x y : Nat) (s : SS) : SS := (s.1, s.2.1, s.2.2.1, up2 s.2.2.2.1 x y (s.2.2.2.1 x y).tail, va_up s.2.2.2.2.1 5 (s.2.2.2.2.1 5 - 1), s.2.2.2.2.2)
theorem RC.tak {c : Nat} {kd ln : Nat → Nat} {Z Z' : Nat → Nat → Int32} {P P' : Nat → Nat → Option Nat} {A : Nat → Nat → Int32} {Q : Nat → List Nat} {s : SS} (R : RC n c kd ln Z P A Q s) {x y l : Nat} {qs : List Nat} {ℓ : LL} {xs : List LL} (hx : x < n) (hy : y < n) (hQ : Q (x * n + y) = l :: qs) (hxs : s.2.2.2.1 x y = ℓ :: xs)
    (hZ : ∀ a j : Nat, ¬ (a = 5 + (x * n + y) ∧ j = 2) → Z' a j = Z a j) (hZe : Z' (5 + (x * n + y)) 2 = nI xs.length)
    (hP : ∀ a j : Nat, ¬ (a = 5 + (x * n + y) ∧ j < 2) → P' a j = P a j) (hP0 : P' (5 + (x * n + y)) 0 = qs.head?) (hP1 : P' (5 + (x * n + y)) 1 = qs.getLast?) :
    RC n c kd ln Z' P' A (va_up Q (x * n + y) qs) (s.1, s.2.1, s.2.2.1, up2 s.2.2.2.1 x y xs, s.2.2.2.2.1, (l, true, ℓ) :: s.2.2.2.2.2) := by
  obtain ⟨r1, r2, r3, r4, r5, r6, r7, r8, r9, r10⟩ := R
  have be := ch_lt hx hy
  have b1 := bs_ge n
  have b2 := r1.2.1
  have hn4 : 4 ≤ n * n := Nat.mul_le_mul r1.1.1 r1.1.1
  have hkA : ∀ a : Nat, bsA n ≤ a → a ≤ c → kd a = kd a ∧ ln a = ln a ∧ A a = A a := fun a _ _ => ⟨rfl, rfl, rfl⟩
  have hzA : ∀ a : Nat, bsA n ≤ a → a ≤ c → Z' a = Z a ∧ P' a 3 = P a 3 := fun a h1 h2 => ⟨funext fun j => hZ a j (by omega), hP a 3 (by omega)⟩
  obtain ⟨e1, e2, e3, e4, e5⟩ := r8 x y hx hy
  have hl : IsL n c kd ln Z P A l ℓ := by
    obtain ⟨-, z, d2, d3⟩ := e5 0 l (by rw [hQ]; rfl)
    rw [hxs] at d2
    cases d2
    exact d3
  refine ⟨r1.grow (Nat.le_refl c) (fun a ha => ⟨rfl, rfl⟩) (fun a ha ho j hj => hP a j (by omega)) (hZ 3 0 (by omega)) (fun i hi => ?_), fun f hf i hi => ?_, fun i hi => ?_, r4, fun t ht => (hZ 2 t (by omega)).trans (r5 t ht), (hZ 3 3 (by omega)).trans r6, fun i hi => ?_, fun x' y' hx' hy' => ?_, fun g g' j j' l' hg hg' hj hj' => ?_, fun w hw => ?_⟩
  · have g := nd_ge n i
    exact ⟨hZ _ 0 (by omega), hZ _ 1 (by omega)⟩
  · have g := nd_ge n i
    exact (hZ _ _ (by omega)).trans (r2 f hf i hi)
  · have g := nd_ge n i
    exact (hZ _ _ (by omega)).trans (r3 i hi)
  · have g := nd_ge n i
    obtain ⟨b', q1, q2⟩ := r7 i hi
    exact ⟨b', (hP _ 2 (by omega)).trans q1, q2⟩
  · obtain ⟨c1, c2, c3, c4, c5⟩ := r8 x' y' hx' hy'
    by_cases hee : x' * n + y' = x * n + y
    · have hxx : x' = x := by
        have h1 : (x' * n + y') / n = x' := by rw [Nat.mul_comm, Nat.mul_add_div (by omega)]; rw [Nat.div_eq_of_lt hy']; omega
        have h2 : (x * n + y) / n = x := by rw [Nat.mul_comm, Nat.mul_add_div (by omega)]; rw [Nat.div_eq_of_lt hy]; omega
        rw [← h1, ← h2, hee]
      subst hxx
      have hyy : y' = y := by omega
      subst hyy
      show ChC n c kd ln Z' P' A (x' * n + y') (va_up Q (x' * n + y') qs (x' * n + y')) (up2 s.2.2.2.1 x' y' xs x' y')
      rw [up2_same]
      have hv : va_up Q (x' * n + y') qs (x' * n + y') = qs := by simp [va_up]
      rw [hv]
      rw [hQ, hxs] at c4
      refine ⟨hP0, hP1, hZe, by simpa using c4, fun j l' hj => ?_⟩
      have hj2 : (Q (x' * n + y'))[j + 1]? = some l' := by rw [hQ]; simpa using hj
      obtain ⟨d1, z, d2, d3⟩ := c5 (j + 1) l' hj2
      have m1 := d3.1
      refine ⟨?_, z, by rw [hxs] at d2; simpa using d2, d3.grow (Nat.le_refl c) hkA hzA⟩
      rw [hP l' 4 (by omega), d1, hQ]
      simp
    · have h1 : va_up Q (x * n + y) qs (x' * n + y') = Q (x' * n + y') := by simp [va_up, hee]
      have h2 : up2 s.2.2.2.1 x y xs x' y' = s.2.2.2.1 x' y' := by
        have : ¬ (x' = x ∧ y' = y) := fun q => hee (by rw [q.1, q.2])
        simp [up2, this]
      show ChC n c kd ln Z' P' A (x' * n + y') (va_up Q (x * n + y) qs (x' * n + y')) (up2 s.2.2.2.1 x y xs x' y')
      rw [h1, h2]
      have be' := ch_lt hx' hy'
      refine ⟨(hP _ 0 (by omega)).trans c1, (hP _ 1 (by omega)).trans c2, (hZ _ 2 (by omega)).trans c3, c4, fun j l' hj => ?_⟩
      obtain ⟨d1, z, d2, d3⟩ := c5 j l' hj
      have m1 := d3.1
      exact ⟨(hP l' 4 (by omega)).trans d1, z, d2, d3.grow (Nat.le_refl c) hkA hzA⟩
  · have key : ∀ (g j l' : Nat), (va_up Q (x * n + y) qs g)[j]? = some l' → (g = x * n + y ∧ (Q g)[j + 1]? = some l') ∨ (¬ g = x * n + y ∧ (Q g)[j]? = some l') := fun g j l' hj => by
      by_cases hge : g = x * n + y
      · subst hge
        have hv : va_up Q (x * n + y) qs (x * n + y) = qs := by simp [va_up]
        rw [hv] at hj
        exact Or.inl ⟨rfl, by rw [hQ]; simpa using hj⟩
      · have hv : va_up Q (x * n + y) qs g = Q g := by simp [va_up, hge]
        rw [hv] at hj
        exact Or.inr ⟨hge, hj⟩
    rcases key g j l' hj with ⟨q1, q2⟩ | ⟨q1, q2⟩
    · rcases key g' j' l' hj' with ⟨w1, w2⟩ | ⟨w1, w2⟩
      · have := r9 g g' _ _ l' hg hg' q2 w2
        exact ⟨this.1, by omega⟩
      · exact absurd ((r9 g g' _ _ l' hg hg' q2 w2).1.symm.trans q1) w1
    · rcases key g' j' l' hj' with ⟨w1, w2⟩ | ⟨w1, w2⟩
      · exact absurd ((r9 g g' _ _ l' hg hg' q2 w2).1.trans w1) q1
      · exact r9 g g' _ _ l' hg hg' q2 w2
  · rcases List.mem_cons.mp hw with rfl | hw
    · exact ⟨fun _ => hl.grow (Nat.le_refl c) hkA hzA, fun e => by cases e⟩
    · exact ⟨fun e => ((r10 w hw).1 e).grow (Nat.le_refl c) hkA hzA, (r10 w hw).2⟩
theorem C_takeE {h : HP} {s : SS} (R : RepC n h s) {x y : Nat} (hx : x < n) (hy : y < n) (hq : s.2.2.2.1 x y = []) : f_X5_takeOldest (some 3) (some (5 + (x * n + y))) h = some (none, h) := by
  have be := ch_lt hx hy
  unfold f_X5_takeOldest f_X1_take f_X5_takeOldest_19
  rw [if_pos (R.obH be)]
  obtain ⟨c, kd, ln, Z, P, A, Q, rfl, r⟩ := R
  have b1 := bs_ge n
  obtain ⟨e1, e2, e3, e4, e5⟩ := r.2.2.2.2.2.2.2.1 x y hx hy
  rw [hq] at e4
  have hQ : Q (x * n + y) = [] := List.eq_nil_of_length_eq_zero e4
  rw [hk_gR (r.in (by omega) (by omega)) (r.1.2.2.2.2.2.1.2.2 _ be).2 (by decide) (by decide), e1, hQ]
  rfl
theorem C_take {h : HP} {s : SS} (R : RepC n h s) {x y : Nat} {ℓ : LL} {xs : List LL} (hx : x < n) (hy : y < n) (hq : s.2.2.2.1 x y = ℓ :: xs) (hfl : 1 ≤ s.2.2.2.2.1 5) : ∃ (l : Nat) (h' : HP), f_X5_takeOldest (some 3) (some (5 + (x * n + y))) h = some (some l, h') ∧ RepC n h' (wX (tak x y s) ((l, true, ℓ) :: s.2.2.2.2.2)) := by
  have be := ch_lt hx hy
  unfold f_X5_takeOldest f_X1_take f_X5_takeOldest_19
  rw [if_pos (R.obH be)]
  obtain ⟨c, kd, ln, Z, P, A, Q, rfl, r⟩ := R
  have b1 := bs_ge n
  have b2 := r.1.2.1
  obtain ⟨e1, e2, e3, e4, e5⟩ := r.2.2.2.2.2.2.2.1 x y hx hy
  rw [hq] at e4
  obtain ⟨l, qs, hQ⟩ : ∃ l qs, Q (x * n + y) = l :: qs := by
    cases hqq : Q (x * n + y) with
    | nil => rw [hqq] at e4; cases e4
    | cons l qs => exact ⟨l, qs, rfl⟩
  obtain ⟨d1, z, d2, d3⟩ := e5 0 l (by rw [hQ]; rfl)
  have hle := d3.1
  have hlc := d3.2.1
  have hae := r.in (a := 5 + (x * n + y)) (by omega) (by omega)
  have hke := (r.1.2.2.2.2.2.1.2.2 _ be).2
  rw [hQ] at d1 e1
  have hlen : (s.2.2.2.1 x y).length = xs.length + 1 := by rw [hq]; rfl
  have hZ2 : Z (5 + (x * n + y)) 2 = nI (xs.length + 1) := by rw [e3, hlen]
  rw [hk_gR hae hke (by decide) (by decide), e1]
  simp only [List.head?_cons, Option.bind_some, reduceCtorEq, if_false]
  rw [hk_gR (a := l) ⟨by omega, hlc⟩ d3.2.2.1 (by decide) (by decide), d1]
  simp only [Option.bind_some, List.getElem?_cons_succ]
  rw [hk_pFR hae hke (by decide) (by decide), Option.bind_some, hk_gR hae hke (by decide) (by decide), Option.bind_some, up2_same]
  cases hqs : qs with
  | nil =>
    simp only [List.getElem?_nil, if_true, f_X1_take_31]
    rw [hk_pFR hae hke (by decide) (by decide), Option.bind_some, hk_gI hae hke (by decide) (by decide), Option.bind_some, hZ2, show nI (xs.length + 1) - nI 1 = nI xs.length by rw [pk_sub (by omega), Nat.add_sub_cancel], hk_pFI hae hke (by decide) (by decide), Option.bind_some, Option.bind_some]
    rw [if_neg (by simp)]
    have r' := r.tak (Z' := up2 Z (5 + (x * n + y)) 2 (nI xs.length)) (P' := up2 (up2 P (5 + (x * n + y)) 0 none) (5 + (x * n + y)) 1 none) (ℓ := ℓ) (xs := xs) hx hy hQ hq (fun a j hj => by simp only [up2, if_neg hj]) (by simp [up2]) (fun a j hj => by
      have g1 : ¬ (a = 5 + (x * n + y) ∧ j = 1) := by omega
      have g2 : ¬ (a = 5 + (x * n + y) ∧ j = 0) := by omega
      simp only [up2, if_neg g1, if_neg g2]) (by simp [up2, hqs]) (by simp [up2, hqs])
    have R' : RepC n _ _ := ⟨c, kd, ln, _, _, A, _, rfl, r'⟩
    simp only [R'.p3, Option.bind_some]
    rw [pk_sub (show 1 ≤ s.2.2.2.2.1 5 from hfl)]
    obtain ⟨h3, e6, R3⟩ := R'.sF (s.2.2.2.2.1 5 - 1)
    refine ⟨l, h3, by simp only [e6, Option.bind_some], ?_⟩
    have : wX (tak x y s) ((l, true, ℓ) :: s.2.2.2.2.2) = (s.1, s.2.1, s.2.2.1, up2 s.2.2.2.1 x y xs, va_up s.2.2.2.2.1 5 (s.2.2.2.2.1 5 - 1), (l, true, ℓ) :: s.2.2.2.2.2) := by
      unfold wX tak
      rw [hq]
      rfl
    rw [this]
    exact R3
  | cons l2 qs2 =>
    simp only [List.getElem?_cons_zero, reduceCtorEq, if_false, f_X1_take_31]
    rw [hk_gI hae hke (by decide) (by decide), Option.bind_some, hZ2, show nI (xs.length + 1) - nI 1 = nI xs.length by rw [pk_sub (by omega), Nat.add_sub_cancel], hk_pFI hae hke (by decide) (by decide), Option.bind_some, Option.bind_some]
    rw [if_neg (by simp)]
    have r' := r.tak (Z' := up2 Z (5 + (x * n + y)) 2 (nI xs.length)) (P' := up2 P (5 + (x * n + y)) 0 (some l2)) (ℓ := ℓ) (xs := xs) hx hy hQ hq (fun a j hj => by simp only [up2, if_neg hj]) (by simp [up2]) (fun a j hj => by
      have g2 : ¬ (a = 5 + (x * n + y) ∧ j = 0) := by omega
      simp only [up2, if_neg g2]) (by simp [up2, hqs]) (by
      have g2 : ¬ (5 + (x * n + y) = 5 + (x * n + y) ∧ (1 : Nat) = 0) := by omega
      simp only [up2, if_neg g2]
      rw [e2, hQ, hqs]
      simp)
    have R' : RepC n _ _ := ⟨c, kd, ln, _, _, A, _, rfl, r'⟩
    simp only [R'.p3, Option.bind_some]
    rw [pk_sub (show 1 ≤ s.2.2.2.2.1 5 from hfl)]
    obtain ⟨h3, e6, R3⟩ := R'.sF (s.2.2.2.2.1 5 - 1)
    refine ⟨l, h3, by simp only [e6, Option.bind_some], ?_⟩
    have : wX (tak x y s) ((l, true, ℓ) :: s.2.2.2.2.2) = (s.1, s.2.1, s.2.2.1, up2 s.2.2.2.1 x y xs, va_up s.2.2.2.2.1 5 (s.2.2.2.2.1 5 - 1), (l, true, ℓ) :: s.2.2.2.2.2) := by
      unfold wX tak
      rw [hq]
      rfl
    rw [this]
    exact R3
end SE
