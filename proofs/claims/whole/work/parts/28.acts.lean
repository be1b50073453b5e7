/-! letters and acts at hand; rows of acts copied; the class over a state -/
def rowL (f : Nat → Int32) (k : Nat) : List Int32 := (List.range k).map f
theorem rowL_len (f : Nat → Int32) (k : Nat) : (rowL f k).length = k := by simp [rowL]
theorem rowL_at (f : Nat → Int32) {k j : Nat} (h : j < k) : (rowL f k)[j]? = some (f j) := by
  unfold rowL
  rw [List.getElem?_map, List.getElem?_range h]
  rfl
section AH
variable {n : Nat} {h : HP} {s : SS}
theorem RepC.more (R : RepC n h s) {X : List (Nat × Bool × LL)} (hX : ∀ w ∈ X, w ∈ s.2.2.2.2.2) : RepC n h (wX s X) := by
  obtain ⟨c, kd, ln, Z, P, A, Q, rfl, r1, r2, r3, r4, r5, r6, r7, r8, r9, r10⟩ := R
  exact ⟨c, kd, ln, Z, P, A, Q, rfl, r1, r2, r3, r4, r5, r6, r7, r8, r9, fun w hw => r10 w (hX w hw)⟩
theorem RC.pin {c : Nat} {kd ln : Nat → Nat} {Z : Nat → Nat → Int32} {P : Nat → Nat → Option Nat} {A : Nat → Nat → Int32} {Q : Nat → List Nat} (R : RC n c kd ln Z P A Q s) {w : Nat × Bool × LL} (hw : IsP n c kd ln Z P A w) : RC n c kd ln Z P A Q (wX s (w :: s.2.2.2.2.2)) := by
  obtain ⟨r1, r2, r3, r4, r5, r6, r7, r8, r9, r10⟩ := R
  refine ⟨r1, r2, r3, r4, r5, r6, r7, r8, r9, fun v hv => ?_⟩
  rcases List.mem_cons.mp hv with rfl | hv
  · exact hw
  · exact r10 v hv
theorem RepC.lI (R : RepC n h s) {l : Nat} {ℓ : LL} (hw : (l, true, ℓ) ∈ s.2.2.2.2.2) : hz_gI h (some l) 2 0 = some (nI ℓ.1) ∧ hz_gI h (some l) 2 1 = some (nI ℓ.2.1) ∧ hz_gI h (some l) 2 2 = some (nI ℓ.2.2.1) ∧ hz_ob h (some l) 2 = true := by
  obtain ⟨c, kd, ln, Z, P, A, Q, rfl, r⟩ := R
  obtain ⟨q1, q2, q3, q4, q5, q6, -⟩ := (r.2.2.2.2.2.2.2.2.2 _ hw).1 rfl
  have b1 := bs_ge n
  have ha : 1 ≤ l ∧ l ≤ c := ⟨by have : 6 + n * n ≤ l := Nat.le_trans b1 q1; omega, q2⟩
  exact ⟨by rw [hk_gI ha q3 (by decide) (by decide), q4], by rw [hk_gI ha q3 (by decide) (by decide), q5], by rw [hk_gI ha q3 (by decide) (by decide), q6], hk_ob ha q3 (by decide)⟩
theorem RepC.lA (R : RepC n h s) {l : Nat} {ℓ : LL} (hw : (l, true, ℓ) ∈ s.2.2.2.2.2) : ∃ b : Nat, hz_gR h (some l) 2 3 = some (some b) ∧ RepC n h (wX s ((b, false, (0, 0, 0, ℓ.2.2.2)) :: s.2.2.2.2.2)) := by
  obtain ⟨c, kd, ln, Z, P, A, Q, rfl, r⟩ := R
  obtain ⟨q1, q2, q3, q4, q5, q6, b, q7, q8⟩ := (r.2.2.2.2.2.2.2.2.2 _ hw).1 rfl
  have b1 := bs_ge n
  have ha : 1 ≤ l ∧ l ≤ c := ⟨by have : 6 + n * n ≤ l := Nat.le_trans b1 q1; omega, q2⟩
  exact ⟨b, by rw [hk_gR ha q3 (by decide) (by decide), q7], c, kd, ln, Z, P, A, Q, rfl, r.pin ⟨fun e => (by cases e), fun _ => q8⟩⟩
theorem RepC.aLen (R : RepC n h s) {b : Nat} {xs : List Int32} (hb : atH s b xs) : hz_aL h (some b) = some (nI xs.length) := by
  obtain ⟨c, kd, ln, Z, P, A, Q, rfl, r⟩ := R
  rcases r.act hb with ⟨rfl, rfl⟩ | ⟨q1, q2, q3, q4, -, -⟩
  · rfl
  · have b1 := bs_ge n
    rw [hk_aL ⟨by have : 6 + n * n ≤ b := Nat.le_trans b1 q1; omega, q2⟩ (by omega), q4]
theorem RepC.aGet (R : RepC n h s) {b j : Nat} {xs : List Int32} {v : Int32} (hb : atH s b xs) (hj : xs[j]? = some v) : hz_aI h (some b) 0 (nI j) = some v := by
  obtain ⟨c, kd, ln, Z, P, A, Q, rfl, r⟩ := R
  have hl : j < xs.length := (List.getElem?_eq_some_iff.mp hj).1
  rcases r.act hb with ⟨rfl, rfl⟩ | ⟨q1, q2, q3, q4, q5, q6⟩
  · cases hj
  · have b1 := bs_ge n
    rw [hk_aI 0 (by decide) ⟨by have : 6 + n * n ≤ b := Nat.le_trans b1 q1; omega, q2⟩ q3 (by omega) (by omega)]
    rw [q6 j hl] at hj
    exact hj
theorem RepC.gB (R : RepC n h s) {i : Nat} (hi : i < n) : ∃ b : Nat, hz_gR h (some (nd n i + 5)) 0 2 = some (some b) ∧ RepC n h (wX s ((b, false, (0, 0, 0, s.2.2.1 i)) :: s.2.2.2.2.2)) := by
  obtain ⟨c, kd, ln, Z, P, A, Q, rfl, r⟩ := R
  have b1 := nd_ge n i
  have b2 := nd_lt hi (d := 5) (by omega)
  obtain ⟨-, -, -, -, a1, -⟩ := r.1.2.2.2.2.2.2.2 i hi
  obtain ⟨b, q1, q2⟩ := r.2.2.2.2.2.2.1 i hi
  exact ⟨b, by rw [hk_gR (r.in (by omega) (by omega)) a1 (by decide) (by decide), q1], c, kd, ln, Z, P, A, Q, rfl, r.pin ⟨fun e => (by cases e), fun _ => q2⟩⟩
def sb (i : Nat) (xs : List Int32) (s : SS) : SS := (s.1, s.2.1, va_up s.2.2.1 i xs, s.2.2.2)
theorem RepC.sB (R : RepC n h s) {i : Nat} (hi : i < n) {b : Nat} {xs : List Int32} (hb : atH s b xs) : ∃ h', hz_pF h (some (nd n i + 5)) 0 2 (va_rf (some b)) = some h' ∧ RepC n h' (sb i xs s) := by
  obtain ⟨c, kd, ln, Z, P, A, Q, rfl, r⟩ := R
  have b1 := nd_ge n i
  have b2 := nd_lt hi (d := 5) (by omega)
  have b3 := bs_ge n
  have hA := r.act hb
  obtain ⟨-, -, -, -, a1, -⟩ := r.1.2.2.2.2.2.2.2 i hi
  refine ⟨_, hk_pFR (r.in (by omega) (by omega)) a1 (by decide) (by decide) _, c, kd, ln, Z, _, A, Q, rfl, ?_⟩
  obtain ⟨r1, r2, r3, r4, r5, r6, r7, r8, r9, r10⟩ := r
  have hP : ∀ a : Nat, ¬ a = nd n i + 5 → ∀ j, up2 P (nd n i + 5) 2 (some b) a j = P a j := fun a ha j => up2_a ha
  have hL : ∀ l x, IsL n c kd ln Z P A l x → IsL n c kd ln Z (up2 P (nd n i + 5) 2 (some b)) A l x := fun l x ⟨e1, e2, e3, e4, e5, e6, b', e7, e8⟩ => ⟨e1, e2, e3, e4, e5, e6, b', (hP l (by omega) 3).trans e7, e8⟩
  refine ⟨r1.grow (Nat.le_refl c) (fun a ha => ⟨rfl, rfl⟩) (fun a ha ho j hj => hP a (fun e => hj ⟨i, hi, e⟩) j) rfl (fun j hj => ⟨rfl, rfl⟩), r2, r3, r4, r5, r6, fun j hj => ?_, fun x y hx hy => ?_, r9, fun w hw => ⟨fun e => hL _ _ ((r10 w hw).1 e), (r10 w hw).2⟩⟩
  · by_cases e : j = i
    · subst e
      exact ⟨b, by simp [up2], by simp [sb, va_up]; exact hA⟩
    · obtain ⟨b', q1, q2⟩ := r7 j hj
      exact ⟨b', (hP _ (fun q => e (nd_inj q (by omega) (by omega)).1) 2).trans q1, by simp [sb, va_up, e]; exact q2⟩
  · obtain ⟨c1, c2, c3, c4, c5⟩ := r8 x y hx hy
    have be := ch_lt hx hy
    refine ⟨(hP _ (by omega) 0).trans c1, (hP _ (by omega) 1).trans c2, c3, c4, fun j l hj => ?_⟩
    obtain ⟨d1, z, d2, d3⟩ := c5 j l hj
    have m1 := d3.1
    exact ⟨(hP l (by omega) 4).trans d1, z, d2, hL _ _ d3⟩
/-- a new array of acts at hand -/
theorem RC.newA {c : Nat} {kd ln : Nat → Nat} {Z : Nat → Nat → Int32} {P : Nat → Nat → Option Nat} {A : Nat → Nat → Int32} {Q : Nat → List Nat} (R : RC n c kd ln Z P A Q s) {m : Nat} {f : Nat → Int32} {xs : List Int32} (hm : xs.length = m) (hx : m ≤ 60) (hv : ∀ j : Nat, j < m → xs[j]? = some (f j)) : RC n (c + 1) (va_up kd (c + 1) 10) (va_up ln (c + 1) m) Z P (va_up A (c + 1) f) Q (wX s ((c + 1, false, (0, 0, 0, xs)) :: s.2.2.2.2.2)) := by
  obtain ⟨r1, r2, r3, r4, r5, r6, r7, r8, r9, r10⟩ := R
  have b2 := r1.2.1
  have ne : ∀ a : Nat, a ≤ c → ¬ a = c + 1 := fun a ha => by omega
  have hkA : ∀ a : Nat, bsA n ≤ a → a ≤ c → va_up kd (c + 1) 10 a = kd a ∧ va_up ln (c + 1) m a = ln a ∧ va_up A (c + 1) f a = A a := fun a _ h2 => by simp [va_up, ne a h2]
  have hzA : ∀ a : Nat, bsA n ≤ a → a ≤ c → Z a = Z a ∧ P a 3 = P a 3 := fun a _ _ => ⟨rfl, rfl⟩
  refine ⟨r1.grow (by omega) (fun a ha => by simp [va_up, ne a (by omega)]) (fun a ha ho j hj => rfl) rfl (fun i hi => ⟨rfl, rfl⟩), r2, r3, fun g hg i hi => ?_, r5, r6, fun i hi => ?_, fun x y hx hy => ?_, r9, fun w hw => ?_⟩
  · have := nd_lt hi (d := wo g) (by unfold wo; omega)
    have e := ne (nd n i + wo g) (by omega)
    simp only [va_up, if_neg e]
    exact r4 g hg i hi
  · obtain ⟨b', q1, q2⟩ := r7 i hi
    exact ⟨b', q1, q2.grow (by omega) hkA⟩
  · obtain ⟨c1, c2, c3, c4, c5⟩ := r8 x y hx hy
    refine ⟨c1, c2, c3, c4, fun j l hj => ?_⟩
    obtain ⟨d1, z, d2, d3⟩ := c5 j l hj
    exact ⟨d1, z, d2, d3.grow (by omega) hkA hzA⟩
  · rcases List.mem_cons.mp hw with rfl | hw
    · refine ⟨(fun e => by cases e), fun _ => Or.inr ⟨by omega, by omega, by simp [va_up], by simp [va_up, hm], by show xs.length ≤ 60; omega, fun j hj => ?_⟩⟩
      have hj' : j < xs.length := hj
      rw [show va_up A (c + 1) f (c + 1) j = f j by simp [va_up]]
      exact hv j (by omega)
    · exact ⟨fun e => ((r10 w hw).1 e).grow (by omega) hkA hzA, fun e => ((r10 w hw).2 e).grow (by omega) hkA⟩
theorem RepC.new1 (R : RepC n h s) (act : Int32) : ∃ h', (hz_nA h 0 1 (nI 1)).bind (fun h2 => hz_aS h2 (some (h.1 + 1)) 0 (nI 0) act) = some h' ∧ RepC n h' (wX s ((h.1 + 1, false, (0, 0, 0, [act])) :: s.2.2.2.2.2)) := by
  obtain ⟨c, kd, ln, Z, P, A, Q, rfl, r⟩ := R
  have e3 : (hk c kd ln Z P A).1 = c := rfl
  rw [e3, hk_nI (by decide) (by decide) (by decide), Option.bind_some, hk_aS 0 (by decide) ⟨by omega, by omega⟩ (by simp [va_up]) (by simp [va_up]) (by simp [va_up])]
  refine ⟨_, rfl, c + 1, _, _, Z, P, _, Q, rfl, ?_⟩
  have e4 : up2 (va_up A (c + 1) (fun _ => 0)) (c + 1) 0 (hz_nar 0 act) = va_up A (c + 1) (va_up (fun _ => 0) 0 act) := by
    rw [up2_va]
    rfl
  rw [e4]
  refine r.newA (xs := [act]) rfl (by decide) (fun j hj => ?_)
  have : j = 0 := by omega
  subst this
  rfl
theorem C_min {a b : Nat} (ha : a < 2 ^ 31) (hb : b < 2 ^ 31) (h : HP) : f_J9_min_7cf53 (nI a) (nI b) h = some (nI (min a b), h) := by
  unfold f_J9_min_7cf53 f_J9_min_7cf53_10
  by_cases c : b < a
  · rw [if_pos ((nI_ltI hb ha).mpr c), Nat.min_eq_right (by omega)]
  · rw [if_neg (fun q => c ((nI_ltI hb ha).mp q)), Nat.min_eq_left (by omega)]
theorem C_copy (R : RepC n h s) {i : Nat} (hi : i < n) (hd : s.1 20 i ≤ 60) : ∃ (b : Nat) (h' : HP), f_X6_copy (some (nd n i + 1)) h = some (some b, h') ∧ RepC n h' (wX s ((b, false, (0, 0, 0, rowL (s.2.1 0 i) (s.1 20 i))) :: s.2.2.2.2.2)) := by
  simp only [f_X6_copy, R.row hi, R.g20 hi, Option.bind_some, f_J7_copyOf_59c91, R.gWl hi 0 (by decide) (a := nd n i + 2) rfl]
  have hw : wl n 0 = 60 := rfl
  rw [hw]
  obtain ⟨c, kd, ln, Z, P, A, Q, rfl, r⟩ := R
  obtain ⟨k1, k2, k3⟩ := r.wk hi 0 (by decide)
  have hA := r.2.2.2.1 0 (by decide) i hi
  have b2 := r.1.2.1
  have b3 := nd_lt hi (d := 2) (by omega)
  rw [show nd n i + wo 0 = nd n i + 2 from rfl] at k1 k2 k3 hA
  rw [hw] at k3
  have e3 : (hk c kd ln Z P A).1 = c := rfl
  by_cases hc : s.1 20 i = 60
  · rw [if_pos (by rw [hc])]
    have hcl : hz_cl (hk c kd ln Z P A) (some (nd n i + 2)) 64 = some (hk (c + 1) (va_up kd (c + 1) 10) (va_up ln (c + 1) 60) Z P (va_up A (c + 1) (s.2.1 0 i))) := by
      unfold hz_cl
      rw [hk_ar 0 (by decide) k1 k2, k3, hA]
      show (if 60 ≤ 64 then _ else _) = _
      rw [if_pos (by decide)]
      congr 1
      show ((c + 1, va_up (hk (c + 1) kd ln Z P A).2 (c + 1) _) : HP) = _
      exact hk_ext rfl (by simp [va_up, hm_c]) (fun b hb => by simp [va_up, hb])
    rw [hcl]
    simp only [Option.bind_some, e3]
    rw [hk_ar 0 (by decide) ⟨by omega, by omega⟩ (by simp [va_up])]
    simp only [Option.bind_some]
    refine ⟨c + 1, _, rfl, c + 1, _, _, Z, P, _, Q, rfl, ?_⟩
    rw [hc]
    exact r.newA (rowL_len _ _) (by decide) (fun j hj => rowL_at _ hj)
  · rw [if_neg (fun q => hc ((nI_eq (by omega) (by omega)).mp q)), hk_nI (by decide) (show s.1 20 i ≤ 64 by omega) (by decide)]
    simp only [Option.bind_some, e3]
    have ha2 : ∀ {x : Nat} {f : Nat → Int32}, hz_aL (hk (c + 1) (va_up kd (c + 1) 10) (va_up ln (c + 1) x) Z P (va_up A (c + 1) f)) (some (nd n i + 2)) = some (nI 60) := fun {x f} => by
      have : ¬ nd n i + 2 = c + 1 := by omega
      rw [hk_aL ⟨k1.1, by omega⟩ (by simp [va_up, this, k2])]
      simp [va_up, this, k3]
    rw [ha2]
    simp only [Option.bind_some]
    rw [C_min (by omega) (by omega), Nat.min_eq_right (by omega)]
    simp only [Option.bind_some]
    have hne : ¬ nd n i + 2 = c + 1 := by omega
    have hcp : hz_cp (hk (c + 1) (va_up kd (c + 1) (10 + 0)) (va_up ln (c + 1) (s.1 20 i)) Z P (va_up A (c + 1) (fun _ => 0))) (some (nd n i + 2)) (nI 0) (some (c + 1)) (nI 0) (nI (s.1 20 i)) = some (hk (c + 1) (va_up kd (c + 1) 10) (va_up ln (c + 1) (s.1 20 i)) Z P (va_up A (c + 1) (va_cpy (s.2.1 0 i) (fun _ => 0) 0 0 (s.1 20 i)))) := by
      have g1 : hz_as (hk (c + 1) (va_up kd (c + 1) (10 + 0)) (va_up ln (c + 1) (s.1 20 i)) Z P (va_up A (c + 1) (fun _ => 0))) (some (nd n i + 2)) = some (60, s.2.1 0 i) := by
        unfold hz_as
        rw [if_neg (by have := k1.1; simp), hk_ar 0 (by decide) ⟨k1.1, by omega⟩ (by simp [va_up, hne, k2])]
        simp [va_up, hne, k3, hA]
      have g2 : hz_ar (hk (c + 1) (va_up kd (c + 1) (10 + 0)) (va_up ln (c + 1) (s.1 20 i)) Z P (va_up A (c + 1) (fun _ => 0))) (some (c + 1)) 0 = some (s.1 20 i, fun _ => 0) := by
        rw [hk_ar 0 (by decide) ⟨by omega, by omega⟩ (by simp [va_up])]
        simp [va_up]
      unfold hz_cp
      rw [g1, g2]
      have t0 : (nI 0).toNatClampNeg = 0 := nI_clamp (by omega)
      have t1 : (nI (s.1 20 i)).toNatClampNeg = s.1 20 i := nI_clamp (by omega)
      show (if (0 ≤ nI 0 ∧ 0 ≤ nI 0 ∧ 0 ≤ nI (s.1 20 i)) ∧ (nI 0).toNatClampNeg + (nI (s.1 20 i)).toNatClampNeg ≤ 60 ∧ (nI 0).toNatClampNeg + (nI (s.1 20 i)).toNatClampNeg ≤ s.1 20 i then some (hz_pA _ (some (c + 1)) 0 (s.1 20 i) (va_cpy (s.2.1 0 i) (fun _ => 0) (nI 0).toNatClampNeg (nI 0).toNatClampNeg (nI (s.1 20 i)).toNatClampNeg)) else none) = _
      rw [t0, t1, if_pos ⟨⟨nI_pos' (by omega), nI_pos' (by omega), nI_pos' (by omega)⟩, by omega, by omega⟩]
      congr 1
      show ((c + 1, va_up (hk (c + 1) _ _ Z P _).2 (c + 1) _) : HP) = _
      refine hk_ext rfl (by simp [va_up, hm_c]) (fun b hb => by simp [va_up, hb])
    rw [hcp]
    simp only [Option.bind_some]
    refine ⟨c + 1, _, rfl, c + 1, _, _, Z, P, _, Q, rfl, r.newA (rowL_len _ _) hd (fun j hj => ?_)⟩
    rw [rowL_at _ hj, pk_cpy_in (by omega) (by omega)]
    simp
/-- a row that takes the acts of another -/
def becF (xs : List Int32) (old : Nat → Int32) : Nat → Int32 := fun j => xs.getD j (old j)
theorem C_become (R : RepC n h s) {i : Nat} (hi : i < n) {b : Nat} {xs : List Int32} (hb : atH s b xs) (hx : xs.length ≤ 60) : ∃ h', f_X6_become (some (nd n i + 1)) (some b) h = some h' ∧ RepC n h' (up2 s.1 20 i xs.length, up3 s.2.1 0 i (becF xs (s.2.1 0 i)), s.2.2) := by
  simp only [f_X6_become, R.aLen hb, Option.bind_some, C_min (show xs.length < 2 ^ 31 by omega) (show 60 < 2 ^ 31 by omega), Nat.min_eq_left hx]
  obtain ⟨h1, e1, R1⟩ := R.s20 hi xs.length
  simp only [e1, Option.bind_some, R1.row hi, R1.g20 hi, up2_same]
  have hb1 : atH (up2 s.1 20 i xs.length, s.2) b xs := hb
  obtain ⟨c, kd, ln, Z, P, A, Q, rfl, r⟩ := R1
  obtain ⟨k1, k2, k3⟩ := r.wk hi 0 (by decide)
  have hA := r.2.2.2.1 0 (by decide) i hi
  have b2 := r.1.2.1
  have b3 := nd_lt hi (d := 2) (by omega)
  have b4 := bs_ge n
  have hw : wl n 0 = 60 := rfl
  rw [show nd n i + wo 0 = nd n i + 2 from rfl] at k1 k2 k3 hA
  rw [hw] at k3
  obtain ⟨g, hg, hgv⟩ : ∃ g : Nat → Int32, (∃ m, hz_as (hk c kd ln Z P A) (some b) = some (m, g) ∧ xs.length ≤ m) ∧ ∀ j : Nat, j < xs.length → xs[j]? = some (g j) := by
    rcases r.act hb1 with ⟨rfl, rfl⟩ | ⟨q1, q2, q3, q4, q5, q6⟩
    · exact ⟨fun _ => 0, ⟨0, by simp [hz_as], by simp⟩, fun j hj => absurd hj (by simp)⟩
    · have hb1 : 1 ≤ b := by omega
      have hb0 : ¬ b = 0 := by omega
      refine ⟨A b, ⟨ln b, ?_, by omega⟩, q6⟩
      unfold hz_as
      rw [if_neg (by simpa using hb0), hk_ar 0 (by decide) ⟨by omega, q2⟩ q3]
  obtain ⟨m, hm, hml⟩ := hg
  have t0 : (nI 0).toNatClampNeg = 0 := nI_clamp (by omega)
  have t1 : (nI xs.length).toNatClampNeg = xs.length := nI_clamp (by omega)
  have hcp : hz_cp (hk c kd ln Z P A) (some b) (nI 0) (some (nd n i + 2)) (nI 0) (nI xs.length) = some (hk c kd ln Z P (va_up A (nd n i + 2) (va_cpy g (s.2.1 0 i) 0 0 xs.length))) := by
    unfold hz_cp
    rw [hm, hk_ar 0 (by decide) k1 k2, k3, hA]
    show (if (0 ≤ nI 0 ∧ 0 ≤ nI 0 ∧ 0 ≤ nI xs.length) ∧ (nI 0).toNatClampNeg + (nI xs.length).toNatClampNeg ≤ m ∧ (nI 0).toNatClampNeg + (nI xs.length).toNatClampNeg ≤ 60 then some (hz_pA _ (some (nd n i + 2)) 0 60 (va_cpy g (s.2.1 0 i) (nI 0).toNatClampNeg (nI 0).toNatClampNeg (nI xs.length).toNatClampNeg)) else none) = _
    rw [t0, t1, if_pos ⟨⟨nI_pos' (by omega), nI_pos' (by omega), nI_pos' (by omega)⟩, by omega, by omega⟩]
    congr 1
    show ((c, va_up (hk c kd ln Z P A).2 (nd n i + 2) _) : HP) = _
    refine hk_ext rfl (by simp [va_up, hm_c, k2, k3]) (fun b hb => by simp [va_up, hb])
  have hbf : va_cpy g (s.2.1 0 i) 0 0 xs.length = becF xs (s.2.1 0 i) := by
    funext j
    unfold becF
    by_cases hj : j < xs.length
    · rw [pk_cpy_in (by omega) (by omega), List.getD_eq_getElem?_getD, hgv j hj]
      simp
    · rw [pk_cpy_out (Or.inr (by omega)), List.getD_eq_getElem?_getD, List.getElem?_eq_none (by omega)]
      rfl
  rw [hcp, hbf]
  refine ⟨_, rfl, c, kd, ln, Z, P, _, Q, rfl, r.arr (W := up3 s.2.1 0 i (becF xs (s.2.1 0 i))) (fun g' hg' i' hi' => ?_) (fun b hb => ?_)⟩
  · by_cases e : nd n i' + wo g' = nd n i + 2
    · obtain ⟨e1, e2⟩ := nd_inj e (by unfold wo; omega) (by omega)
      subst e1
      have e3 : g' = 0 := by unfold wo at e2; omega
      subst e3
      simp [va_up, up3, up2, wo]
    · have e2 : ¬ (g' = 0 ∧ i' = i) := fun q => e (by rw [q.1, q.2]; rfl)
      simp only [va_up, if_neg e, up3, up2, if_neg e2]
      exact r.2.2.2.1 g' hg' i' hi'
  · have : ¬ b = nd n i + 2 := by omega
    simp [va_up, this]
theorem C_firstAct (R : RepC n h s) {l : Nat} {ℓ : LL} (hw : (l, true, ℓ) ∈ s.2.2.2.2.2) : f_X2_firstAct (some l) h = some (ℓ.2.2.2.headD 0, h) := by
  obtain ⟨b, e1, R1⟩ := R.lA hw
  have hb : atH (wX s ((b, false, (0, 0, 0, ℓ.2.2.2)) :: s.2.2.2.2.2)) b ℓ.2.2.2 := Or.inr List.mem_cons_self
  have hlen : ℓ.2.2.2.length < 2 ^ 31 := by
    obtain ⟨c, kd, ln, Z, P, A, Q, rfl, r⟩ := R1
    rcases r.act hb with ⟨-, q⟩ | ⟨-, -, -, -, q, -⟩
    · rw [q]; simp
    · omega
  simp only [f_X2_firstAct, f_X2_firstAct_18, e1, Option.bind_some, R1.aLen hb]
  cases hq : ℓ.2.2.2 with
  | nil =>
    have z0 : nI ([] : List Int32).length ≤ 0 := by decide
    rw [if_pos z0]
    rfl
  | cons v vs =>
    rw [hq] at hlen
    rw [if_neg (fun q => by have := nI_nle (n := (v :: vs).length) (by simp) hlen; exact this q), R1.aGet (j := 0) (v := v) hb (by rw [hq]; rfl)]
    rfl
end AH
