/-! the class's nodes over a state: what is asked, and what most hold -/
def msk (p : Nat → Bool) : Nat → Nat
  | 0 => 0
  | k + 1 => if p k then setb (msk p k) k else msk p k
theorem msk_lt (p : Nat → Bool) : ∀ k : Nat, msk p k < 2 ^ k
  | 0 => by simp [msk]
  | k + 1 => by
    have ih := msk_lt p k
    have h2 : 2 ^ (k + 1) = 2 ^ k + 2 ^ k := by rw [Nat.pow_succ]; omega
    unfold msk
    split
    · unfold setb
      exact Nat.or_lt_two_pow (by omega) (by rw [h2]; have : 0 < 2 ^ k := Nat.two_pow_pos k; omega)
    · omega
theorem msk_bit (p : Nat → Bool) : ∀ k j : Nat, (msk p k).testBit j = (decide (j < k) && p j)
  | 0, j => by simp [msk]
  | k + 1, j => by
    have ih := msk_bit p k j
    unfold msk
    by_cases hj : j = k
    · subst hj
      cases hp : p j with
      | true => rw [if_pos rfl, setb_bit]; simp
      | false =>
        rw [if_neg (by simp), ih]
        simp
    · have e : decide (j < k + 1) = decide (j < k) := by
        apply decide_eq_decide.mpr
        omega
      split
      · rw [setb_bit, ih, e]
        have : ¬ k = j := fun q => hj q.symm
        simp [this]
      · rw [ih, e]
theorem cnt_lt (p : Nat → Bool) (n : Nat) : ∀ k : Nat, (List.range (n + k)).countP (fun j => decide (j < n) && p j) = (List.range n).countP p
  | 0 => by
    apply List.countP_congr
    intro j hj
    have : j < n := List.mem_range.mp hj
    simp [this]
  | k + 1 => by
    rw [← Nat.add_assoc, List.range_succ, List.countP_append, cnt_lt p n k]
    have : ¬ n + k < n := by omega
    simp [this]
theorem pcn_msk (p : Nat → Bool) {n : Nat} (hn : n ≤ 7) : pcn (msk p n) = (List.range n).countP p := by
  unfold pcn
  have h1 : (msk p n).testBit = fun j => decide (j < n) && p j := funext (msk_bit p n)
  rw [h1, show 7 = n + (7 - n) by omega]
  exact cnt_lt p n (7 - n)
theorem msk_128 (p : Nat → Bool) {n : Nat} (hn : n ≤ 7) : msk p n < 128 := Nat.lt_of_lt_of_le (msk_lt p n) (by calc 2 ^ n ≤ 2 ^ 7 := Nat.pow_le_pow_right (by decide) hn
                                                                                                                  _ = 128 := by decide)
theorem wX_wX (s : SS) (X Y : List (Nat × Bool × LL)) : wX (wX s X) Y = wX s Y := rfl
theorem wX_id (s : SS) : wX s s.2.2.2.2.2 = s := rfl
theorem wX_snd1 (x y : Nat) (ℓ : LL) (s : SS) (X : List (Nat × Bool × LL)) : wX (snd1 x y ℓ s) X = snd1 x y ℓ (wX s X) := by
  unfold snd1
  by_cases c : s.2.2.2.2.1 5 < 500
  · rw [if_pos c, if_pos (show (wX s X).2.2.2.2.1 5 < 500 from c)]
    rfl
  · rw [if_neg c, if_neg (show ¬ (wX s X).2.2.2.2.1 5 < 500 from c)]
    rfl
theorem wX_sndG (x m : Nat) (ℓ : LL) (X : List (Nat × Bool × LL)) : ∀ (k t : Nat) (s : SS), wX (sndG x m ℓ t k s) X = sndG x m ℓ t k (wX s X)
  | 0, _, _ => rfl
  | k + 1, t, s => by
    show wX (sndG x m ℓ (t + 1) k (if m.testBit t then snd1 x t ℓ s else s)) X = sndG x m ℓ (t + 1) k (if m.testBit t then snd1 x t ℓ (wX s X) else wX s X)
    rw [wX_sndG x m ℓ X k (t + 1)]
    split
    · rw [wX_snd1]
    · rfl
section NO
variable {n B : Nat} {h : HP} {s : SS}
theorem C_leaderL (R : RepC n h s) (O : OkS n B s) {i : Nat} (hi : i < n) : ∀ (t fuel : Nat), t < fuel → t < 7 → f_X4_leader_7 fuel (some (nd n i)) (nI t) h = some (nI (ldr (s.1 11 i) t), h)
  | 0, fuel, hf, _ => by
    obtain ⟨fu, rfl⟩ : ∃ fu, fuel = fu + 1 := ⟨fuel - 1, by omega⟩
    rw [f_X4_leader_7]
    rw [if_pos (show nI 0 ≤ 0 by decide)]
    rfl
  | t + 1, fuel, hf, ht => by
    obtain ⟨fu, rfl⟩ : ∃ fu, fuel = fu + 1 := ⟨fuel - 1, by omega⟩
    have hm : s.1 11 i < 128 := by have := O.b hi 11; simp [bnd] at this; omega
    rw [f_X4_leader_7]
    rw [if_neg (nI_nle (by omega) (by omega)), R.g11 hi, Option.bind_some, C_has hm ht, Option.bind_some]
    have z0 : (nI 0 = 0) = True := eq_true (by decide)
    have z1 : (nI 1 = 0) = False := eq_false (by decide)
    unfold ldr
    cases hb : (s.1 11 i).testBit (t + 1) with
    | true => simp only [if_true, z1, if_false]
    | false =>
      simp only [Bool.false_eq_true, if_false, z0, if_true, pk_m1]
      exact C_leaderL R O hi t fu (by omega) (by omega)
theorem C_leader (R : RepC n h s) (O : OkS n B s) {i : Nat} (hi : i < n) : f_X4_leader (some (nd n i)) h = some (nI (ld n s i), h) := by
  have hn := R.rng
  unfold f_X4_leader
  rw [R.gs hi, Option.bind_some, pk_sub (by omega)]
  exact C_leaderL R O hi (n - 1) 600 (by omega) (by omega)
theorem ldr_le (m : Nat) : ∀ t : Nat, ldr m t ≤ t
  | 0 => Nat.le_refl _
  | t + 1 => by
    unfold ldr
    split
    · exact Nat.le_refl _
    · exact Nat.le_succ_of_le (ldr_le m t)
theorem ld_lt (hn : 2 ≤ n) (s : SS) (i : Nat) : ld n s i < n := by
  have := ldr_le (s.1 11 i) (n - 1)
  unfold ld
  omega
theorem OkS.num (O : OkS n B s) {i : Nat} (hi : i < n) : s.1 10 i ≤ B ∧ s.1 12 i ≤ B ∧ s.1 13 i ≤ B ∧ s.1 3 i ≤ B := by
  have h1 := O.b hi 10
  have h2 := O.b hi 12
  have h3 := O.b hi 13
  have h4 := O.b hi 3
  simp [bnd] at h1 h2 h3 h4
  exact ⟨h1, h2, h3, h4⟩
theorem OkS.sml (O : OkS n B s) {i : Nat} (hi : i < n) : s.1 20 i ≤ 60 ∧ s.1 21 i ≤ 20 ∧ s.1 14 i ≤ 60 ∧ s.1 11 i < 128 ∧ s.1 15 i < 128 ∧ s.1 0 i < 128 ∧ s.1 1 i < 128 ∧ s.1 9 i ≤ 4 ∧ s.1 8 i ≤ 2 ∧ s.1 4 i ≤ 6 ∧ s.1 16 i ≤ 7 := by
  have h1 := O.b hi 20
  have h2 := O.b hi 21
  have h3 := O.b hi 14
  have h4 := O.b hi 11
  have h5 := O.b hi 15
  have h6 := O.b hi 0
  have h7 := O.b hi 1
  have h8 := O.b hi 9
  have h9 := O.b hi 8
  have h10 := O.b hi 4
  have h11 := O.b hi 16
  simp [bnd] at h1 h2 h3 h4 h5 h6 h7 h8 h9 h10 h11
  omega
theorem z1F : (nI 1 = 0) = False := eq_false (by decide)
theorem z0T : (nI 0 = 0) = True := eq_true (by decide)
theorem a1T : (nI 1 &&& 1 = nI 1) = True := eq_true (by decide)
theorem a0T : (nI 0 &&& 1 = nI 0) = True := eq_true (by decide)
theorem C_isBlocked (R : RepC n h s) (O : OkS n B s) {i : Nat} (hi : i < n) : f_X4_isBlocked (some (nd n i)) h = some (if blk s i then nI 1 else nI 0, h) := by
  have hB := O.1
  obtain ⟨b1, b2, -, -⟩ := O.num hi
  simp only [f_X4_isBlocked, f_X4_isBlocked_16, R.g12 hi, R.g10 hi, Option.bind_some, a0T, a1T, if_true, pk_nI_inj (show s.1 12 i < 2 ^ 31 by omega) (show s.1 10 i < 2 ^ 31 by omega)]
  unfold blk
  by_cases e : s.1 12 i = s.1 10 i <;> simp [e]
theorem C_isLive (R : RepC n h s) (O : OkS n B s) {i : Nat} (hi : i < n) : f_X4_isLive (some (nd n i)) h = some (if s.1 8 i = 0 then nI 1 else nI 0, h) := by
  obtain ⟨-, -, -, -, -, -, -, -, b, -⟩ := O.sml hi
  simp only [f_X4_isLive, f_X4_isLive_12, R.g8 hi, Option.bind_some, a0T, a1T, if_true]
  rw [← nI_0]
  simp only [pk_nI_inj (show s.1 8 i < 2 ^ 31 by omega) (show 0 < 2 ^ 31 by omega)]
  split <;> rfl
theorem C_isChanging (R : RepC n h s) (O : OkS n B s) {i : Nat} (hi : i < n) : f_X4_isChanging (some (nd n i)) h = some (if s.1 9 i = 3 ∨ s.1 9 i = 4 then nI 1 else nI 0, h) := by
  obtain ⟨-, -, -, -, -, -, -, b, -⟩ := O.sml hi
  simp only [f_X4_isChanging, f_X4_isChanging_16, f_X4_isChanging_21, R.g9 hi, Option.bind_some, a0T, a1T, if_true, pk_nI_inj (show s.1 9 i < 2 ^ 31 by omega) (show 3 < 2 ^ 31 by omega), pk_nI_inj (show s.1 9 i < 2 ^ 31 by omega) (show 4 < 2 ^ 31 by omega)]
  by_cases e : s.1 9 i = 3
  · simp [e]
  · by_cases e2 : s.1 9 i = 4 <;> simp [e, e2]
theorem C_lub (R : RepC n h s) (O : OkS n B s) {i : Nat} (hi : i < n) : f_X4_leadsUnblocked (some (nd n i)) h = some (if lub n s i then nI 1 else nI 0, h) := by
  have hn := R.rng
  have hl := ld_lt hn.1 s i
  simp only [f_X4_leadsUnblocked, f_X4_leadsUnblocked_22, f_X4_leadsUnblocked_23, R.obN hi, if_true, C_leader R O hi, R.id hi, C_isBlocked R O hi, Option.bind_some, a0T, a1T, pk_nI_inj (show ld n s i < 2 ^ 31 by omega) (show i < 2 ^ 31 by omega)]
  unfold lub
  by_cases e : ld n s i = i
  · cases hb : blk s i <;> simp [e, z0T, z1F]
  · simp [e]
theorem C_areMost (R : RepC n h s) {i : Nat} (hi : i < n) {m : Nat} (hm : m < 128) : f_X4_areMost (some (nd n i)) (nI m) h = some (if most n m then nI 1 else nI 0, h) := by
  have hn := R.rng
  obtain ⟨c1, c2⟩ := C_bitCount hm h
  simp only [f_X4_areMost, f_X4_areMost_18, c1, Option.bind_some, R.gs hi, pk_mul, a0T, a1T, if_true]
  unfold most
  by_cases e : n < pcn m * 2
  · rw [if_neg (fun q => by have := (nI_leI (by omega) (by omega)).mp q; omega)]
    simp [e]
  · rw [if_pos ((nI_leI (by omega) (by omega)).mpr (by omega))]
    simp [e]
theorem C_others (R : RepC n h s) (O : OkS n B s) {i : Nat} (hi : i < n) : f_X4_others (some (nd n i)) h = some (nI (oth s i), h) := by
  have hn := R.rng
  obtain ⟨-, -, -, b, -⟩ := O.sml hi
  simp only [f_X4_others, f_X8_without, R.g11 hi, R.id hi, Option.bind_some, (bt_k b (show i < 7 by omega)).1.1]
  rfl
theorem oth_lt (O : OkS n B s) {i : Nat} (hi : i < n) (hn : n ≤ 7) : oth s i < 128 := (bt_k (O.sml hi).2.2.2.1 (show i < 7 by omega)).1.2
theorem C_reply (R : RepC n h s) (O : OkS n B s) {i y k nr d : Nat} (hi : i < n) (hy : y < n) : ∃ h', f_X4_reply (some (nd n i)) (nI y) (nI k) (nI nr) (nI d) h = some h' ∧ RepC n h' (rpl n i y k nr d s) := by
  have hn := R.rng
  obtain ⟨o1, o2⟩ := bt_one (show y < 7 by omega)
  obtain ⟨h1, e1, R1⟩ := C_send R (x := i) (mask := 2 ^ y) (k := k) (nr := nr) (d := d) (b := 0) (xs := []) hi o2 O.2.2.1 (Or.inl ⟨rfl, rfl⟩)
  exact ⟨h1, by simp only [f_X4_reply, R.r2 hi, R.id hi, Option.bind_some, R.obP, if_true, o1, e1], R1⟩
theorem C_putO (R : RepC n h s) (O : OkS n B s) {i : Nat} (hi : i < n) (hd : s.1 20 i < 60) (act : Int32) : ∃ h', f_X4_putInOrder (some (nd n i)) act h = some h' ∧ RepC n h' (putO n i act s) := by
  have hn := R.rng
  simp only [f_X4_putInOrder, R.r4 hi, R.g20 hi, R.obR hi, Option.bind_some, if_true]
  obtain ⟨h1, e1, R1⟩ := C_rowAdd R hi hd act
  have O1 : OkS n B (up2 s.1 20 i (s.1 20 i + 1), up3 s.2.1 0 i (va_up (s.2.1 0 i) (s.1 20 i) act), s.2.2) := (O.oV (f := 20) (i := i) (x := s.1 20 i + 1) (by simp [bnd]; omega)).oW (g := 0) (i := i)
  simp only [e1, Option.bind_some, R1.r2 hi, R1.id hi, R1.obN hi, if_true, C_others R1 O1 hi, R1.g10 hi]
  obtain ⟨h2, e2, R2⟩ := R1.new1 act
  have e2' : ((hz_nA h1 0 1 (nI 1)).bind fun h19 => (hz_aS h19 (some (h1.1 + 1)) 0 (nI 0) act).bind fun h21 => if hz_ob h21 (some 3) 5 = true then (f_X5_send (some 3) (nI i) (nI (oth (up2 s.1 20 i (s.1 20 i + 1), up3 s.2.1 0 i (va_up (s.2.1 0 i) (s.1 20 i) act), s.2.2) i)) (nI 2) (nI ((up2 s.1 20 i (s.1 20 i + 1)) 10 i)) (nI (s.1 20 i)) (some (h1.1 + 1)) h21).bind fun p23 => some p23 else none) = (if hz_ob h2 (some 3) 5 = true then (f_X5_send (some 3) (nI i) (nI (oth (up2 s.1 20 i (s.1 20 i + 1), up3 s.2.1 0 i (va_up (s.2.1 0 i) (s.1 20 i) act), s.2.2) i)) (nI 2) (nI ((up2 s.1 20 i (s.1 20 i + 1)) 10 i)) (nI (s.1 20 i)) (some (h1.1 + 1)) h2).bind fun p23 => some p23 else none) := by
    rw [← Option.bind_assoc, e2, Option.bind_some]
  rw [e2', if_pos R2.obP]
  obtain ⟨h3, e3, R3⟩ := C_send R2 (x := i) (mask := oth (up2 s.1 20 i (s.1 20 i + 1), up3 s.2.1 0 i (va_up (s.2.1 0 i) (s.1 20 i) act), s.2.2) i) (k := 2) (nr := up2 s.1 20 i (s.1 20 i + 1) 10 i) (d := s.1 20 i) (b := h1.1 + 1) (xs := [act]) hi (oth_lt O1 hi hn.2) O.2.2.1 (Or.inr List.mem_cons_self)
  rw [e3, Option.bind_some]
  refine ⟨h3, rfl, ?_⟩
  have R4 := R3.more (X := s.2.2.2.2.2) (fun w hw => by rw [(sndG_V _ _ _ _ _ _).2.2.2]; exact List.mem_cons_of_mem _ hw)
  have : wX (sndG i (oth (up2 s.1 20 i (s.1 20 i + 1), up3 s.2.1 0 i (va_up (s.2.1 0 i) (s.1 20 i) act), s.2.2) i) (2, up2 s.1 20 i (s.1 20 i + 1) 10 i, s.1 20 i, [act]) 0 n (wX (up2 s.1 20 i (s.1 20 i + 1), up3 s.2.1 0 i (va_up (s.2.1 0 i) (s.1 20 i) act), s.2.2) ((h1.1 + 1, false, (0, 0, 0, [act])) :: s.2.2.2.2.2))) s.2.2.2.2.2 = putO n i act s := by
    rw [wX_sndG, wX_wX]
    rfl
  rw [this] at R4
  exact R4
end NO
