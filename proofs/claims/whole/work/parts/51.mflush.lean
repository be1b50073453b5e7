/-! the model flushes and asks -/
theorem pcn_cnt {n m : Nat} (hn : n ≤ 7) (hm : m < 2 ^ n) : pcn m = cntN n m := by
  have hb : m.testBit = fun j => decide (j < n) && m.testBit j := by
    funext j
    by_cases c : j < n
    · simp [c]
    · have : m.testBit j = false := Nat.testBit_lt_two_pow (Nat.lt_of_lt_of_le hm (Nat.pow_le_pow_right (by decide) (by omega)))
      simp [this]
  have h := cnt_lt m.testBit n (7 - n)
  rw [show n + (7 - n) = 7 by omega] at h
  unfold pcn cntN
  rw [← h, ← hb]
theorem pcn_one0 : ((List.range 7).all fun i => decide (pcn (2 ^ i) = 1)) = true := by decide +kernel
theorem pcn_one {i : Nat} (hi : i < 7) : pcn (2 ^ i) = 1 := by
  have := List.all_eq_true.mp pcn_one0 i (List.mem_range.mpr hi)
  simpa using this
theorem most_one {n i : Nat} (hn : 2 ≤ n) (hi : i < 7) : most n (2 ^ i) = false := by
  unfold most
  rw [pcn_one hi]
  exact decide_eq_false (by omega)
theorem remN {p n : Nat} (hp : p < 2 ^ 30) (hn : 2 ≤ n ∧ n ≤ 7) : nI p - nI p / nI n * nI n = nI (p % n) := by
  have hnI : (nI n).toInt = (n : Int) := nI_toInt (by omega)
  have hpI : (nI p).toInt = (p : Int) := nI_toInt (by omega)
  have hne : nI n ≠ -1 := by
    intro q
    have := congrArg Int32.toInt q
    rw [hnI] at this
    have e : (-1 : Int32).toInt = -1 := by decide
    rw [e] at this
    omega
  have hd : (nI p / nI n).toInt = ((p / n : Nat) : Int) := by
    rw [Int32.toInt_div_of_ne_right _ _ hne, hpI, hnI, Int.tdiv_eq_ediv_of_nonneg (by omega)]
    omega
  have hle : p / n * n ≤ p := Nat.div_mul_le_self p n
  have hm : (nI p / nI n * nI n).toInt = ((p / n * n : Nat) : Int) := by
    rw [Int32.toInt_mul, hd, hnI, ← Int.natCast_mul]
    exact bm32 (by omega) (by omega)
  apply Int32.toInt_inj.mp
  rw [Int32.toInt_sub, hpI, hm, nI_toInt (by have := Nat.mod_lt p (show 0 < n by omega); omega)]
  have hdm := Nat.div_add_mod p n
  rw [Nat.mul_comm] at hdm
  rw [bm32 (by omega) (by omega)]
  omega
theorem nxt_prop {n i p : Nat} (hn : 2 ≤ n ∧ n ≤ 7) (hi : i < n) : nxt n i p % n = i ∧ ∀ r : Nat, p + 1 ≤ r → r < nxt n i p → ¬ r % n = i := by
  obtain ⟨h1, h2⟩ := hn
  unfold nxt
  have : n = 2 ∨ n = 3 ∨ n = 4 ∨ n = 5 ∨ n = 6 ∨ n = 7 := by omega
  rcases this with rfl | rfl | rfl | rfl | rfl | rfl <;> (split <;> exact ⟨by omega, fun r h3 h4 => by omega⟩)
theorem abv1 : ((List.range 7).all fun i => decide ((nI 1 <<< ((nI i + nI 1) &&& 31)) = (nI 2 <<< (nI i &&& 31)))) = true := by decide +kernel
theorem abv2 {i : Nat} (hi : i < 7) : (nI 1 <<< ((nI i + nI 1) &&& 31)) = (nI 2 <<< (nI i &&& 31)) := by
  have := List.all_eq_true.mp abv1 i (List.mem_range.mpr hi)
  simpa using this
def gFlu (n i : Nat) (s : SS) (G : GG) : GG := if most n (beS s i) = false then G else (va_up G.1 i (2 ^ i), G.2)
section MF
variable {n B : Nat} {h : HP} {s : SS} {G : GG} {K : KK}
theorem M_flu47 (R : RepM n h s G K) (O : OkS n B s) {i : Nat} (hi : i < n) (hmo : most n (beS s i) = true) (hS : s.2.2.2.2.1 0 + 7 < 2 ^ 31) (hB7 : B + 7 < 2 ^ 29) : ∀ (m q fuel : Nat), q + m = nxt n i (s.1 12 i) → m < fuel → s.1 12 i + 1 ≤ q → ∃ h', f_X9_flush_47 fuel (some 1) (nI i) (nI (beS s i)) (nI q) h = some h' ∧ RepM n h' (flu n i s) (va_up G.1 i (2 ^ i), G.2) K
  | 0, q, fuel, ht, hf, hq => by
    obtain ⟨fu, rfl⟩ : ∃ fu, fuel = fu + 1 := ⟨fuel - 1, by omega⟩
    have hn := R.rng
    have hB := O.1
    obtain ⟨b10, b12, -⟩ := O.num hi
    have hbe := beS_lt O hi
    have hnx := nxt_le (n := n) (p := s.1 12 i) hi
    have hp := (nxt_prop (p := s.1 12 i) hn hi).1
    have hqe : q = nxt n i (s.1 12 i) := by omega
    subst hqe
    obtain ⟨h1, e1, R1⟩ := R.s12 hi (nxt n i (s.1 12 i))
    obtain ⟨h2, e2, R2⟩ := R1.s9 hi 3
    obtain ⟨h3, e3, R3⟩ := R2.s0 hi (beS s i)
    obtain ⟨h4, e4, R4⟩ := R3.sG hi (2 ^ i)
    obtain ⟨h5, e5, R5⟩ := R4.c4 (s.2.2.2.2.1 4 + 1)
    have R6 : RepM n h5 (sb i (rowL (s.2.1 0 i) (s.1 20 i)) (sv 3 i (s.1 13 i) (sv 4 i i (sv 1 i (clr (beS s i) i) (sv 0 i (beS s i) (inc 4 (sv 9 i 3 (sv 12 i (nxt n i (s.1 12 i)) s)))))))) (va_up G.1 i (2 ^ i), G.2) K := (((RepM.fr R5 (f := 1) (i := i) (x := clr (beS s i) i) rfl (by decide)).fr (f := 4) (i := i) (x := i) rfl (by decide)).fr (f := 3) (i := i) (x := s.1 13 i) rfl (by decide)).frb
    obtain ⟨h7, e7, R7⟩ := M_sendAll R6 (k := 7) (nr := nxt n i (s.1 12 i)) (d := beS s i) (many := 0) (act := nI 0) (xs := []) (mask := beS s i) hi (by decide) hbe hS O.2.2.1 (Or.inr ⟨by decide, by decide, by decide, rfl⟩)
    have hone := bt_one (show i < 7 by omega)
    refine ⟨h7, ?_, ?_⟩
    · have hne : ¬ nI (2 ^ i) = nI (beS s i) := fun q => by
        have q2 := (nI_eq (by omega) (by omega)).mp q
        rw [← q2, most_one hn.1 (by omega)] at hmo
        simp at hmo
      have gg : hz_aI h7 (some 15) 0 (nI i) = some (nI (2 ^ i)) := by
        exact (R7.gG hi).trans (congrArg (fun x => some (nI x)) (va_eq _ _ _))
      have t4 : hz_gI h4 (some 1) 9 34 = some (nI (s.2.2.2.2.1 4)) := R4.t4
      rw [f_X9_flush_47, R.n0, Option.bind_some, if_neg (nI_ne0 (by omega) (by omega)), remN (by omega) hn, hp, if_pos rfl]
      simp only [f_X9_flush_130, R.r8, Option.bind_some, e1, R1.r10, e2, R2.r11, e3, R3.r14, hone.1, e4, t4, nI_add, e5, R5.ob, if_true, e7, R7.r14, gg, if_neg hne]
    · unfold flu
      have : ¬ most n (beS s i) = false := by rw [hmo]; simp
      rw [if_neg this]
      exact R7
  | m + 1, q, fuel, ht, hf, hq => by
    obtain ⟨fu, rfl⟩ : ∃ fu, fuel = fu + 1 := ⟨fuel - 1, by omega⟩
    have hn := R.rng
    have hB := O.1
    obtain ⟨b10, b12, -⟩ := O.num hi
    have hnx := nxt_le (n := n) (p := s.1 12 i) hi
    have hp := (nxt_prop (p := s.1 12 i) hn hi).2 q hq (by omega)
    have hml := Nat.mod_lt q (show 0 < n by omega)
    rw [f_X9_flush_47, R.n0, Option.bind_some, if_neg (nI_ne0 (by omega) (by omega)), remN (by omega) hn, if_neg (fun w => hp ((nI_eq (by omega) (by omega)).mp w)), nI_add]
    exact M_flu47 R O hi hmo hS hB7 m (q + 1) fu (by omega) (by omega) (by omega)
theorem M_flush (R : RepM n h s G K) (O : OkS n B s) {i : Nat} (hi : i < n) (hm : s.1 11 i < 2 ^ n) (hS : s.2.2.2.2.1 0 + 7 < 2 ^ 31) (hB7 : B + 7 < 2 ^ 29) : ∃ h', f_X9_flush (some 1) (nI i) h = some h' ∧ RepM n h' (flu n i s) (gFlu n i s G) K := by
  have hn := R.rng
  have hB := O.1
  obtain ⟨b20, b21, b14, b11, b15, b0, -⟩ := O.sml hi
  obtain ⟨b10, b12, -⟩ := O.num hi
  have hbe := beS_lt O hi
  have han := bt_andn b11 b15
  have hle : beS s i < 2 ^ n := by
    refine Nat.lt_pow_two_of_testBit _ fun j hj => ?_
    unfold beS
    rw [andn_bit, Nat.testBit_lt_two_pow (Nat.lt_of_lt_of_le hm (Nat.pow_le_pow_right (by decide) hj))]
    rfl
  have hpc := pcn_cnt hn.2 hle
  have hcl : cntN n (beS s i) ≤ 7 := by
    have : (List.range n).countP (beS s i).testBit ≤ (List.range n).length := List.countP_le_length
    rw [List.length_range] at this
    unfold cntN
    omega
  have eb : nI (s.1 11 i) &&& (nI (s.1 15 i) ^^^ (-1 : Int32)) = nI (beS s i) := han.1
  simp only [f_X9_flush, R.r3, R.g11 hi, R.r9, R.g15 hi, Option.bind_some, R.ob, if_true, eb, M_many R hbe, R.n0, nI_mul, nI_add, R.r8, R.g12 hi]
  unfold gFlu
  by_cases c : most n (beS s i) = true
  · have c2 : n < 2 * cntN n (beS s i) := by
      unfold most at c
      have := of_decide_eq_true c
      omega
    rw [if_pos ((nI_ltI (by omega) (by omega)).mpr c2), if_neg (by rw [c]; simp)]
    have hnx := nxt_le (n := n) (p := s.1 12 i) hi
    exact M_flu47 R O hi c hS hB7 (nxt n i (s.1 12 i) - (s.1 12 i + 1)) (s.1 12 i + 1) 600 (by omega) (by omega) (by omega)
  · have c0 : most n (beS s i) = false := by simpa using c
    have c2 : ¬ n < 2 * cntN n (beS s i) := fun q => by
      unfold most at c0
      have := of_decide_eq_false c0
      omega
    obtain ⟨h1, e1, R1⟩ := R.s9 hi 0
    rw [if_neg (fun q => c2 ((nI_ltI (by omega) (by omega)).mp q)), if_pos c0, R.r10, Option.bind_some, e1]
    refine ⟨h1, rfl, ?_⟩
    unfold flu
    rw [if_pos c0]
    exact R1
def gAsk (n i : Nat) (s : SS) (G : GG) : GG := if abv (beS s i) i = 0 then gFlu n i s G else G
theorem M_ask (R : RepM n h s G K) (O : OkS n B s) {i : Nat} (hi : i < n) (hm : s.1 11 i < 2 ^ n) (hS : s.2.2.2.2.1 0 + 7 < 2 ^ 31) (hB7 : B + 7 < 2 ^ 29) : ∃ h', f_X9_ask (some 1) (nI i) h = some h' ∧ RepM n h' (askS n i s) (gAsk n i s G) K := by
  have hn := R.rng
  have hB := O.1
  obtain ⟨b20, b21, b14, b11, b15, b0, -⟩ := O.sml hi
  have hbe := beS_lt O hi
  have han := bt_andn b11 b15
  have hab := (bt_k hbe (show i < 7 by omega)).2.1
  obtain ⟨h1, e1, R1⟩ := R.s9 hi 1
  have O1 : OkS n B (sv 9 i 1 s) := O.oV (by simp [bnd])
  have eb : nI (s.1 11 i) &&& (nI (s.1 15 i) ^^^ (-1 : Int32)) = nI (beS s i) := han.1
  simp only [f_X9_ask, f_X9_ask_56, R.r10, Option.bind_some, e1, R1.r3, R1.v11 hi (v := s.1 11 i) rfl, R1.r9, R1.v15 hi (v := s.1 15 i) rfl, eb, abv2 (show i < 7 by omega), hab.1, R1.ob, if_true]
  unfold askS gAsk
  by_cases c : abv (beS s i) i = 0
  · rw [if_pos (show nI (abv (beS s i) i) = 0 by rw [c]; rfl), if_pos c, if_pos c]
    obtain ⟨h2, e2, R2⟩ := M_flush R1 O1 hi hm hS hB7
    exact ⟨h2, by rw [e2]; rfl, R2⟩
  · rw [if_neg (nI_ne0 (by omega) (by omega)), if_neg c, if_neg c]
    obtain ⟨h2, e2, R2⟩ := M_sendAll R1 (k := 5) (nr := 0) (d := 0) (many := 0) (act := nI 0) (xs := []) (mask := abv (beS s i) i) hi (by decide) hab.2 hS O.2.2.1 (Or.inr ⟨by decide, by decide, by decide, rfl⟩)
    rw [clr_self (show (abv (beS s i) i).testBit i = false by rw [abv_bit]; simp)] at R2
    exact ⟨h2, by rw [e2]; rfl, R2⟩
end MF
