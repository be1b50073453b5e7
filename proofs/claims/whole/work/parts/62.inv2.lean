/-! the calls' inner parts keep it -/
theorem sw_0 {g : Nat} (h : ¬ 0 = g) (i : Nat) (F : Nat → Int32) (s : SS) : (sw g i F s).2.1 0 = s.2.1 0 := by
  funext j
  show up2 s.2.1 g i F 0 j = _
  exact up2_a h
theorem carryN_co (i : Nat) : ∀ (k p : Nat) (s : SS), (∀ f : Nat, ¬ f = 21 → (carryN i p k s).1 f = s.1 f) ∧ (carryN i p k s).2.1 0 = s.2.1 0 ∧ (carryN i p k s).2.2.1 = s.2.2.1 ∧ (carryN i p k s).2.2.2.1 = s.2.2.2.1 ∧ (carryN i p k s).2.2.2.2.1 0 = s.2.2.2.2.1 0
  | 0, _, _ => ⟨fun _ _ => rfl, rfl, rfl, rfl, rfl⟩
  | k + 1, p, s => by
    obtain ⟨a, b, c, d, e⟩ := carryN_co i k (p + 1) (inc 2 (sMach s i (mach (s.1 21 i) (s.2.1 1 i) (s.2.1 0 i p))))
    refine ⟨fun f hf => (a f hf).trans ?_, b.trans ?_, c, d, e⟩
    · funext j
      exact up2_a hf
    · rfl
theorem carryTo_co (i m : Nat) (s : SS) : (∀ f : Nat, ¬ f = 14 → ¬ f = 21 → (carryTo i m s).1 f = s.1 f) ∧ (carryTo i m s).2.1 0 = s.2.1 0 ∧ (carryTo i m s).2.2.1 = s.2.2.1 ∧ (carryTo i m s).2.2.2.1 = s.2.2.2.1 ∧ (carryTo i m s).2.2.2.2.1 0 = s.2.2.2.2.1 0 := by
  obtain ⟨a, b, c, d, e⟩ := carryN_co i (min m (s.1 20 i) - s.1 14 i) (s.1 14 i) s
  refine ⟨fun f h14 h21 => ?_, b, c, d, e⟩
  funext j
  show up2 _ 14 i _ f j = _
  rw [up2_a h14, a f h21]
theorem clr_ne {m k j : Nat} (h : (clr m k).testBit j = true) : m.testBit j = true ∧ ¬ k = j := by
  rw [clr_bit] at h
  simpa using h
theorem two_eq {k j : Nat} (h : (2 ^ k).testBit j = true) : k = j := by
  rw [one_bit] at h
  simpa using h
theorem LtA.pl {n px py x y k nr d : Nat} (hne : ¬ x = y) (hk : k = 3 ∨ k = 4 ∨ k = 5 ∨ k = 6 ∨ k = 10 ∨ k = 12) : LtA n px py x y (k, nr, d, []) := by
  refine ⟨⟨hne, by simp only; omega⟩, fun q => ?_, by simp, fun q => ?_, fun q => ?_, fun q => ?_, fun q => ?_, fun q => ?_⟩ <;> (exfalso; simp only at q; omega)
theorem snd1_sv (x y : Nat) (ℓ : LL) (f i v : Nat) (s : SS) : snd1 x y ℓ (sv f i v s) = sv f i v (snd1 x y ℓ s) := by
  by_cases c : s.2.2.2.2.1 5 < 500
  · have c2 : (sv f i v s).2.2.2.2.1 5 < 500 := c
    simp only [snd1, if_pos c, if_pos c2]
    rfl
  · have c2 : ¬ (sv f i v s).2.2.2.2.1 5 < 500 := c
    simp only [snd1, if_neg c, if_neg c2]
    rfl
theorem sndG_sv (x m : Nat) (ℓ : LL) (f i v : Nat) : ∀ (k t : Nat) (s : SS), sndG x m ℓ t k (sv f i v s) = sv f i v (sndG x m ℓ t k s)
  | 0, _, _ => rfl
  | k + 1, t, s => by
    show sndG x m ℓ (t + 1) k (if m.testBit t then snd1 x t ℓ (sv f i v s) else sv f i v s) = sv f i v (sndG x m ℓ (t + 1) k (if m.testBit t then snd1 x t ℓ s else s))
    rw [← sndG_sv x m ℓ f i v k (t + 1)]
    split
    · rw [snd1_sv]
    · rfl
theorem begS_sv9 (n i m : Nat) (s : SS) : begS n i m (sv 9 i 0 s) = begS n i m s := by
  have e : sv 9 i 0 (sv 11 i m (sv 10 i (s.1 12 i) (sv 9 i 0 s))) = sv 9 i 0 (sv 11 i m (sv 10 i (s.1 12 i) s)) := by
    rw [sv_comm (f := 10) (g := 9) _ _ _ _ _ (by decide), sv_comm (f := 11) (g := 9) _ _ _ _ _ (by decide), sv_sv]
  unfold begS
  show inc 3 (carryTo i (s.1 20 i) (sw 2 i (filF n (nI (s.1 20 i)) (s.2.1 2 i)) (sv 9 i 0 (sv 11 i m (sv 10 i (s.1 12 i) (sv 9 i 0 s)))))) = _
  rw [e]
theorem andn_lt {a b n : Nat} (h : a < 2 ^ n) : andn a b < 2 ^ n := by
  refine Nat.lt_pow_two_of_testBit _ fun j hj => ?_
  rw [andn_bit, Nat.testBit_lt_two_pow (Nat.lt_of_lt_of_le h (Nat.pow_le_pow_right (by omega) hj))]
  rfl
theorem bit_lt {m n j : Nat} (h : m < 2 ^ n) (hb : m.testBit j = true) : j < n := by
  rcases Nat.lt_or_ge j n with q | q
  · exact q
  · rw [Nat.testBit_lt_two_pow (Nat.lt_of_lt_of_le h (Nat.pow_le_pow_right (by omega) q))] at hb
    cases hb
theorem clr0 {m i : Nat} (h : clr m i = 0) (hb : m.testBit i = true) : m = 2 ^ i := by
  refine Nat.eq_of_testBit_eq fun j => ?_
  rw [one_bit]
  by_cases c : i = j
  · subst c
    simp [hb]
  · have := clr_bit m i j
    rw [h, Nat.zero_testBit] at this
    simp only [c, decide_false, Bool.not_false, Bool.and_true] at this
    simp [c, ← this]
theorem rowL_mem {f : Nat → Int32} {k : Nat} {a : Int32} (h : a ∈ rowL f k) : ∃ j : Nat, j < k ∧ f j = a := by
  unfold rowL at h
  obtain ⟨j, h1, h2⟩ := List.mem_map.mp h
  exact ⟨j, List.mem_range.mp h1, h2⟩
theorem bec_ok {xs : List Int32} (h : ∀ a ∈ xs, isA a = true) (old : Nat → Int32) {j : Nat} (hj : j < xs.length) : isA (becF xs old j) = true := by
  unfold becF
  have := getD_at hj (old j)
  exact h _ (List.mem_of_getElem? this)
section IW
variable {n : Nat} {s : SS} {G : GG}
theorem CpN.no {i : Nat} (h : ¬ (s.1 9 i = 3 ∨ s.1 9 i = 4)) : CpN n s G i ∧ Cp3 n s G i := ⟨fun q => absurd q h, fun q => absurd (Or.inl q) h⟩
theorem Inv.nd (I : Inv n s G) {i : Nat} (hi : i < n) : NdA n s i := I.1 i hi
theorem blk_f {i : Nat} (h : blk s i = false) : s.1 12 i = s.1 10 i := by
  simpa [blk] using h
theorem Inv.free (I : Inv n s G) {i : Nat} (hi : i < n) (h : s.1 12 i = s.1 10 i) : ¬ (s.1 9 i = 3 ∨ s.1 9 i = 4) := fun q => by
  have := ((I.2.2 i hi).1 q).1.2
  omega
theorem Inv.t0 (I : Inv n s G) {i : Nat} (hi : i < n) {t : Nat} (ht : t < 3) : Inv n (sv 9 i t s) G := by
  refine I.loc ((Loc.refl i s).v 9 t) (fun _ _ => ⟨rfl, rfl⟩) (Nat.le_refl _) (I.nd hi) (CpN.no ?_)
  show ¬ (up2 s.1 9 i t 9 i = 3 ∨ up2 s.1 9 i t 9 i = 4)
  rw [up2_same]
  omega
theorem Inv.iCar (I : Inv n s G) (i m : Nat) : Inv n (carryTo i m s) G := by
  obtain ⟨a, b, c, d, -⟩ := carryTo_co i m s
  exact I.same (fun f _ h14 _ h21 => a f h14 h21) b c d
theorem Inv.iLook (I : Inv n s G) {i : Nat} (hi : i < n) : Inv n (look n i s) G := by
  unfold look
  split
  · exact I
  · exact Inv.sG hi (by simp) n 0 (I.iCar i _) (by omega) (fun y _ hb => ⟨LtA.pl (clr_ne hb).2 (by decide), fun q => by cases q⟩)
theorem Inv.iRow (I : Inv n s G) {i : Nat} (hi : i < n) (hb : s.1 12 i = s.1 10 i) {act : Int32} (ha : isA act = true) : Inv n (sw 0 i (va_up (s.2.1 0 i) (s.1 20 i) act) (sv 20 i (s.1 20 i + 1) s)) G := by
  refine I.loc (((Loc.refl i s).v 20 (s.1 20 i + 1)).w 0 _) (fun _ _ => ⟨rfl, rfl⟩) (Nat.le_refl _) ?_ (CpN.no (I.free hi hb))
  obtain ⟨a1, a2, a3, a4, a5, a6⟩ := I.nd hi
  refine ⟨a1, a2, a3, a4, fun j hj => ?_, a6⟩
  have hj2 : j < up2 s.1 20 i (s.1 20 i + 1) 20 i := hj
  rw [up2_same] at hj2
  show isA (up2 s.2.1 0 i (va_up (s.2.1 0 i) (s.1 20 i) act) 0 i j) = true
  rw [up2_same]
  by_cases c : j = s.1 20 i
  · rw [c, va_eq]
    exact ha
  · rw [va_ne c]
    exact a5 j (by omega)
theorem Inv.iPut (I : Inv n s G) {i : Nat} (hi : i < n) (hb : s.1 12 i = s.1 10 i) (h60 : s.1 20 i < 60) {act : Int32} (ha : isA act = true) : Inv n (putO n i act s) G := by
  have I1 := I.iRow hi hb ha
  refine Inv.sG hi (by simp) n 0 I1 (by omega) (fun y _ hb => ⟨⟨⟨(clr_ne hb).2, by simp⟩, fun _ => ⟨act, rfl⟩, ?_, fun _ => h60, fun q => ?_, fun q => ?_, fun q => ?_, fun q => ?_⟩, fun q => ?_⟩)
  · intro a hm
    rw [List.mem_singleton.mp hm]
    exact ha
  all_goals (simp only at q; omega)
theorem Inv.iAdd (I : Inv n s G) {i : Nat} (hi : i < n) (hb : s.1 12 i = s.1 10 i) (h60 : s.1 20 i < 60) {act : Int32} (ha : isA act = true) : Inv n (addS n i act s) G := (I.iPut hi hb h60 ha).iLook hi
theorem be_i (I : Inv n s G) {i : Nat} (hi : i < n) : (beS s i).testBit i = true := by
  obtain ⟨a1, a2, a3, -⟩ := I.nd hi
  unfold beS
  rw [andn_bit, a2, a3]
  rfl
theorem nxt_gt (n i p : Nat) : p < nxt n i p := by
  unfold nxt
  split <;> omega
theorem Inv.iFlu (I : Inv n s G) (hn : 2 ≤ n ∧ n ≤ 7) {i : Nat} (hi : i < n) : Inv n (flu n i s) (gFlu n i s G) := by
  unfold flu gFlu
  by_cases cm : most n (beS s i) = false
  · rw [if_pos cm, if_pos cm]
    exact I.t0 hi (by decide)
  rw [if_neg cm, if_neg cm]
  have gt := nxt_gt n i (s.1 12 i)
  obtain ⟨a1, a2, a3, a4, a5, a6⟩ := I.nd hi
  have hbi := be_i I hi
  have I1 : Inv n (sb i (rowL (s.2.1 0 i) (s.1 20 i)) (sv 3 i (s.1 13 i) (sv 4 i i (sv 1 i (clr (beS s i) i) (sv 0 i (beS s i) (inc 4 (sv 9 i 3 (sv 12 i (nxt n i (s.1 12 i)) s)))))))) (va_up G.1 i (2 ^ i), G.2) := by
    refine I.loc ((((((((Loc.refl i s).v 12 _).v 9 3).i 4).v 0 _).v 1 _).v 4 _).v 3 _ |>.b _) (fun j hj => ⟨va_ne hj, rfl⟩) ?_ ?_ ⟨fun _ => ?_, fun _ => ?_⟩
    · show s.1 12 i ≤ up2 s.1 12 i (nxt n i (s.1 12 i)) 12 i
      rw [up2_same]
      omega
    · refine ⟨a1, a2, a3, ?_, a5, fun a ha => ?_⟩
      · show s.1 10 i ≤ up2 s.1 12 i (nxt n i (s.1 12 i)) 12 i
        rw [up2_same]
        omega
      · have ha2 : a ∈ va_up s.2.2.1 i (rowL (s.2.1 0 i) (s.1 20 i)) i := ha
        rw [va_eq] at ha2
        obtain ⟨j, hj, rfl⟩ := rowL_mem ha2
        exact a5 j hj
    · show (up2 s.1 12 i (nxt n i (s.1 12 i)) 12 i % n = i ∧ s.1 10 i < up2 s.1 12 i (nxt n i (s.1 12 i)) 12 i) ∧ ((va_up G.1 i (2 ^ i) i).testBit i = true ∧ ∀ j : Nat, (va_up G.1 i (2 ^ i) i).testBit j = true → (up2 s.1 0 i (beS s i) 0 i).testBit j = true) ∧ up2 s.1 1 i (clr (beS s i) i) 1 i = andn (up2 s.1 0 i (beS s i) 0 i) (va_up G.1 i (2 ^ i) i) ∧ ¬ up2 s.1 1 i (clr (beS s i) i) 1 i = 0 ∧ ¬ clr (up2 s.1 0 i (beS s i) 0 i) i = 0 ∧ up2 s.1 0 i (beS s i) 0 i < 2 ^ n
      rw [up2_same, up2_same, up2_same, va_eq]
      have hz : ¬ clr (beS s i) i = 0 := fun q => cm (by rw [clr0 q hbi]; exact most_one hn.1 (by omega))
      refine ⟨⟨(nxt_prop hn hi).1, by omega⟩, ⟨by rw [one_bit]; simp, fun j hj => ?_⟩, rfl, hz, hz, andn_lt a1⟩
      rw [← two_eq hj]
      exact hbi
    · show BestP (va_up G.1 i (2 ^ i) i).testBit (up2 G.2 i i (s.1 13 i, rowL (s.2.1 0 i) (s.1 20 i)) i) (up2 s.1 4 i i 4 i) ∧ (up2 s.1 3 i (s.1 13 i) 3 i, va_up s.2.2.1 i (rowL (s.2.1 0 i) (s.1 20 i)) i) = up2 G.2 i i (s.1 13 i, rowL (s.2.1 0 i) (s.1 20 i)) i (up2 s.1 4 i i 4 i) ∧ ∀ y : Nat, y < n → ((va_up G.1 i (2 ^ i) i).testBit y = true → ¬ y = i → _ ∧ _) ∧ (∀ ℓ ∈ s.2.2.2.1 i y, ℓ.1 = 7 → ℓ.2.1 = up2 s.1 12 i (nxt n i (s.1 12 i)) 12 i → _) ∧ ∀ ℓ ∈ s.2.2.2.1 y i, ℓ.1 = 8 → ℓ.2.1 = up2 s.1 12 i (nxt n i (s.1 12 i)) 12 i → _
      rw [up2_same, up2_same, up2_same, va_eq, va_eq, up2_same]
      refine ⟨⟨by rw [one_bit]; simp, fun j hj => Or.inl (two_eq hj).symm⟩, rfl, fun y hy => ⟨fun q1 q2 => absurd (two_eq q1).symm q2, fun ℓ hl k7 e => ?_, fun ℓ hl k8 e => ?_⟩⟩
      · have := ((I.2.1 i y hi hy).1 ℓ hl).2.2.2.2.2.1 k7
        omega
      · have := (((I.2.1 y i hy hi).1 ℓ hl).2.2.2.2.2.2.1 k8).2
        omega
  refine Inv.sG hi (by simp) n 0 I1 (by omega) (fun y _ hb => ?_)
  have e12 : (sb i (rowL (s.2.1 0 i) (s.1 20 i)) (sv 3 i (s.1 13 i) (sv 4 i i (sv 1 i (clr (beS s i) i) (sv 0 i (beS s i) (inc 4 (sv 9 i 3 (sv 12 i (nxt n i (s.1 12 i)) s)))))))).1 12 i = nxt n i (s.1 12 i) := up2_same s.1 12 i _
  have e0 : (sb i (rowL (s.2.1 0 i) (s.1 20 i)) (sv 3 i (s.1 13 i) (sv 4 i i (sv 1 i (clr (beS s i) i) (sv 0 i (beS s i) (inc 4 (sv 9 i 3 (sv 12 i (nxt n i (s.1 12 i)) s)))))))).1 0 i = beS s i := up2_same s.1 0 i _
  rw [e12, e0]
  refine ⟨⟨⟨(clr_ne hb).2, by simp⟩, fun q => ?_, by simp, fun q => ?_, fun q => ?_, fun _ => Nat.le_refl _, fun q => ?_, fun q => ?_⟩, fun _ => (clr_ne hb).1⟩ <;> (exfalso; simp only at q; omega)
theorem Inv.iAsk (I : Inv n s G) (hn : 2 ≤ n ∧ n ≤ 7) {i : Nat} (hi : i < n) : Inv n (askS n i s) (gAsk n i s G) := by
  have I1 : Inv n (sv 9 i 1 s) G := I.t0 hi (by decide)
  unfold askS gAsk
  by_cases c : abv (beS s i) i = 0
  · rw [if_pos c, if_pos c]
    exact I1.iFlu hn hi
  · rw [if_neg c, if_neg c]
    refine Inv.sG hi (by simp) n 0 I1 (by omega) (fun y _ hb => ⟨LtA.pl (fun q => ?_) (by decide), fun q => by cases q⟩)
    rw [abv_bit] at hb
    simp at hb
    omega
theorem Inv.iBeg (I : Inv n s G) {i m : Nat} (hi : i < n) (hm : m < 2 ^ n) (hmi : m.testBit i = true) : Inv n (begS n i m s) G := by
  have I1 : Inv n (sv 9 i 0 (sv 11 i m (sv 10 i (s.1 12 i) s))) G := by
    refine I.loc ((((Loc.refl i s).v 10 _).v 11 _).v 9 0) (fun _ _ => ⟨rfl, rfl⟩) (Nat.le_refl _) ?_ (CpN.no ?_)
    · obtain ⟨a1, a2, a3, a4, a5, a6⟩ := I.nd hi
      refine ⟨?_, ?_, a3, ?_, a5, a6⟩
      · show up2 s.1 11 i m 11 i < 2 ^ n
        rw [up2_same]
        exact hm
      · show (up2 s.1 11 i m 11 i).testBit i = true
        rw [up2_same]
        exact hmi
      · show up2 s.1 10 i (s.1 12 i) 10 i ≤ s.1 12 i
        rw [up2_same]
        exact Nat.le_refl _
    · show ¬ (up2 s.1 9 i 0 9 i = 3 ∨ up2 s.1 9 i 0 9 i = 4)
      rw [up2_same]
      omega
  have I2 : Inv n (sw 2 i (filF n (nI (s.1 20 i)) (s.2.1 2 i)) (sv 9 i 0 (sv 11 i m (sv 10 i (s.1 12 i) s)))) G := I1.same (fun _ _ _ _ _ => rfl) (sw_0 (by decide) _ _ _) rfl rfl
  exact (I2.iCar i (s.1 20 i)).same (fun _ _ _ _ _ => rfl) rfl rfl rfl
/-- an answer to the one at hand -/
theorem Inv.iRep (I : Inv n s G) {i x k nr d : Nat} (hi : i < n) (hne : ¬ i = x) (hk : k = 3 ∨ k = 4 ∨ k = 5 ∨ k = 6 ∨ k = 10 ∨ k = 12) : Inv n (rpl n i x k nr d s) G := by
  refine Inv.sG hi (by simp only; omega) n 0 I (by omega) (fun y _ hb => ⟨LtA.pl (fun q => hne (q.trans (two_eq hb).symm)) hk, fun q => ?_⟩)
  exfalso
  simp only at q
  omega
end IW
