/-! letters that come: the class over a state -/
def accS (n i : Nat) (act : Int32) (s : SS) : Nat × SS := if blk s i = true then (2, s) else if ld n s i = i then (if s.1 20 i < 60 then (1, addS n i act s) else (3, s)) else (1, sndG i (2 ^ ld n s i) (1, 0, 0, [act]) 0 n s)
section N3
variable {n B : Nat} {h : HP} {s : SS}
theorem RepC.new1K (R : RepC n h s) (act : Int32) {β : Type} (k : HP → Option β) : ∃ h', ((hz_nA h 0 1 (nI 1)).bind fun h2 => (hz_aS h2 (some (h.1 + 1)) 0 (nI 0) act).bind k) = k h' ∧ RepC n h' (wX s ((h.1 + 1, false, (0, 0, 0, [act])) :: s.2.2.2.2.2)) := by
  obtain ⟨h', e, R'⟩ := R.new1 act
  refine ⟨h', ?_, R'⟩
  rw [← Option.bind_assoc, e, Option.bind_some]
theorem C_addS (R : RepC n h s) (O : OkS n B s) {i : Nat} (hi : i < n) (hd : s.1 20 i < 60) (act : Int32) : ∃ h1 h', f_X4_putInOrder (some (nd n i)) act h = some h1 ∧ hz_ob h1 (some (nd n i)) 4 = true ∧ f_X4_carryOutWhatMostHold (some (nd n i)) h1 = some h' ∧ RepC n h' (addS n i act s) := by
  obtain ⟨h1, e1, R1⟩ := C_putO R O hi hd act
  obtain ⟨h2, e2, R2⟩ := C_look R1 (O.oPut hi hd act) hi
  exact ⟨h1, h2, e1, R1.obN hi, e2, R2⟩
theorem C_accept (R : RepC n h s) (O : OkS n B s) {i : Nat} (hi : i < n) (act : Int32) : ∃ h', f_X4_accept (some (nd n i)) act h = some (nI (accS n i act s).1, h') ∧ RepC n h' (accS n i act s).2 := by
  have hn := R.rng
  obtain ⟨b20, -⟩ := O.sml hi
  have hl := ld_lt hn.1 s i
  simp only [f_X4_accept, R.obN hi, if_true, C_isBlocked R O hi, Option.bind_some]
  unfold accS
  cases hb : blk s i with
  | true =>
    simp only [if_true, z1F, if_false]
    exact ⟨h, rfl, R⟩
  | false =>
    simp only [Bool.false_eq_true, if_false, z0T, if_true, C_leader R O hi, R.id hi, Option.bind_some, pk_nI_inj (show ld n s i < 2 ^ 31 by omega) (show i < 2 ^ 31 by omega)]
    by_cases hc : ld n s i = i
    · rw [if_pos hc, if_pos hc]
      simp only [R.r4 hi, R.obR hi, if_true, C_isFull R hi b20, Option.bind_some]
      by_cases hd : s.1 20 i < 60
      · obtain ⟨h1, h2, e1, e2, e3, R2⟩ := C_addS R O hi hd act
        simp only [if_pos hd, z0T, if_true, R.obN hi, e1, e2, e3, Option.bind_some]
        exact ⟨h2, rfl, R2⟩
      · simp only [if_neg hd, z1F, if_false]
        exact ⟨h, rfl, R⟩
    · rw [if_neg hc, if_neg hc]
      simp only [R.r2 hi, R.id hi, R.obN hi, if_true, Option.bind_some]
      obtain ⟨o1, o2⟩ := bt_one (show ld n s i < 7 by omega)
      obtain ⟨h1, e1, R1⟩ := R.new1K act (fun h29 => if hz_ob h29 (some 3) 5 = true then (f_X5_send (some 3) (nI i) ((nI 1) <<< (nI (ld n s i) &&& 31)) (nI 1) (nI 0) (nI 0) (some (h.1 + 1)) h29).bind fun p31 => some ((nI 1), p31) else none)
      rw [e1, if_pos R1.obP, o1]
      obtain ⟨h2, e2, R2⟩ := C_send R1 (x := i) (mask := 2 ^ ld n s i) (k := 1) (nr := 0) (d := 0) (b := h.1 + 1) (xs := [act]) hi o2 O.2.2.1 (Or.inr List.mem_cons_self)
      refine ⟨h2, by simp only [e2, Option.bind_some], ?_⟩
      have R3 := R2.more (X := s.2.2.2.2.2) (fun w hw => by rw [sG_X]; exact List.mem_cons_of_mem _ hw)
      rw [wX_sndG] at R3
      exact R3
theorem C_lost (R : RepC n h s) {i : Nat} (hi : i < n) : ∃ h', ((hz_gR h (some (nd n i)) 4 3).bind fun r18 => (hz_gI h r18 7 1).bind fun v20 => hz_pF h r18 7 1 (.int (v20 + (nI 1)))) = some h' ∧ RepC n h' (inc 1 s) := by
  obtain ⟨h1, e1, R1⟩ := R.sT 1 (by decide) (s.2.2.2.2.1 1 + 1)
  exact ⟨h1, by simp only [R.r3 hi, R.tl 1 (by decide), Option.bind_some, nI_add, e1], R1⟩
theorem C_onPass (R : RepC n h s) (O : OkS n B s) {i l : Nat} {ℓ : LL} (hi : i < n) (hw : (l, true, ℓ) ∈ s.2.2.2.2.2) : ∃ h', f_X4_onPass (some (nd n i)) (some l) h = some h' ∧ RepC n h' (onPassS n i ℓ s) := by
  obtain ⟨b20, -⟩ := O.sml hi
  obtain ⟨hl, el, Rl⟩ := C_lost R hi
  have el' : f_X4_onPass_32 (some (nd n i)) h = some hl := by
    simp only [R.r3 hi, R.tl 1 (by decide), Option.bind_some] at el
    simp only [f_X4_onPass_32, f_X4_onPass_45, R.r3 hi, R.tl 1 (by decide), Option.bind_some, el]
  simp only [f_X4_onPass, f_X4_onPass_45, R.obN hi, if_true, C_lub R O hi, Option.bind_some]
  unfold onPassS
  cases hb : lub n s i with
  | false =>
    simp only [Bool.false_eq_true, if_false, z0T, if_true, false_and]
    exact ⟨hl, el', Rl⟩
  | true =>
    simp only [if_true, z1F, if_false, true_and, R.r4 hi, R.obR hi, C_isFull R hi b20, Option.bind_some]
    by_cases hd : s.1 20 i < 60
    · obtain ⟨h1, h2, e1, e2, e3, R2⟩ := C_addS R O hi hd (ℓ.2.2.2.headD 0)
      simp only [if_pos hd, z0T, if_true, (R.lI hw).2.2.2, C_firstAct R hw, R.obN hi, Option.bind_some, e1, e2, e3]
      exact ⟨h2, rfl, R2⟩
    · simp only [if_neg hd, z1F, if_false]
      exact ⟨hl, el', Rl⟩
theorem C_onOrder (R : RepC n h s) (O : OkS n B s) {i x l : Nat} {ℓ : LL} (hi : i < n) (hx : x < n) (hL : LOk B ℓ) (hw : (l, true, ℓ) ∈ s.2.2.2.2.2) : ∃ h', f_X4_onOrder (some (nd n i)) (nI x) (some l) h = some h' ∧ RepC n h' (onOrderS n i x ℓ s) := by
  have hB := O.1
  obtain ⟨b20, -⟩ := O.sml hi
  obtain ⟨b10, -⟩ := O.num hi
  obtain ⟨i0, i1, i2, i3⟩ := R.lI hw
  obtain ⟨l1, l2, l3, l4⟩ := hL
  have key : ∀ z : Nat, (z = 0 ∨ z = 1) → (z = 1 → s.1 20 i < 60) → ∃ h', f_X4_onOrder_29 (some (nd n i)) (nI x) (some l) (nI z) h = some h' ∧ RepC n h' (if ℓ.2.1 = s.1 10 i ∧ blk s i = false ∧ z = 1 then rpl n i x 3 (s.1 10 i) (s.1 20 i + 1) (sw 0 i (va_up (s.2.1 0 i) (s.1 20 i) (ℓ.2.2.2.headD 0)) (sv 20 i (s.1 20 i + 1) s)) else s) := by
    intro z hz hz1
    simp only [f_X4_onOrder_29, f_X4_onOrder_80, i1, R.g10 hi, Option.bind_some, pk_nI_inj (show ℓ.2.1 < 2 ^ 31 by omega) (show s.1 10 i < 2 ^ 31 by omega)]
    by_cases c1 : ℓ.2.1 = s.1 10 i
    · simp only [c1, if_true, true_and, R.obN hi, C_isBlocked R O hi, Option.bind_some]
      cases hb : blk s i with
      | true =>
        simp only [if_true, z1F, if_false, reduceCtorEq, false_and]
        exact ⟨h, rfl, R⟩
      | false =>
        simp only [Bool.false_eq_true, if_false, z0T, if_true, true_and]
        rcases hz with rfl | rfl
        · simp only [z0T, if_true, Nat.zero_ne_one, if_false]
          exact ⟨h, rfl, R⟩
        · simp only [z1F, if_false, if_true, R.r4 hi, i3, C_firstAct R hw, R.obR hi, Option.bind_some]
          obtain ⟨h1, e1, R1⟩ := C_rowAdd R hi (hz1 rfl) (ℓ.2.2.2.headD 0)
          replace R1 : RepC n h1 (sw 0 i (va_up (s.2.1 0 i) (s.1 20 i) (ℓ.2.2.2.headD 0)) (sv 20 i (s.1 20 i + 1) s)) := R1
          have O1 : OkS n B (sw 0 i (va_up (s.2.1 0 i) (s.1 20 i) (ℓ.2.2.2.headD 0)) (sv 20 i (s.1 20 i + 1) s)) := (O.oV (f := 20) (i := i) (x := s.1 20 i + 1) (by have := hz1 rfl; simp [bnd]; omega)).oW
          simp only [e1, Option.bind_some, R1.v10 hi (v := s.1 10 i) rfl, R1.r4 hi, R1.v20 hi (v := s.1 20 i + 1) (by rw [sw_1, sv_eq]), R1.obN hi, if_true]
          obtain ⟨h2, e2, R2⟩ := C_reply R1 O1 (y := x) (k := 3) (nr := s.1 10 i) (d := s.1 20 i + 1) hi hx
          exact ⟨h2, by simp only [e2, Option.bind_some], R2⟩
    · simp only [c1, if_false, false_and]
      exact ⟨h, rfl, R⟩
  simp only [f_X4_onOrder, f_X4_onOrder_28, R.r4 hi, R.g20 hi, i2, Option.bind_some, pk_nI_inj (show s.1 20 i < 2 ^ 31 by omega) (show ℓ.2.2.1 < 2 ^ 31 by omega)]
  unfold onOrderS
  by_cases c2 : s.1 20 i = ℓ.2.2.1
  · simp only [if_pos c2, R.obR hi, if_true, C_isFull R hi b20, Option.bind_some]
    by_cases hd : s.1 20 i < 60
    · simp only [if_pos hd, z0T, if_true]
      obtain ⟨h1, e1, R1⟩ := key 1 (Or.inr rfl) (fun _ => hd)
      refine ⟨h1, e1, ?_⟩
      by_cases q : ℓ.2.1 = s.1 10 i ∧ blk s i = false
      · rw [if_pos ⟨q.1, q.2, c2, hd⟩]
        rw [if_pos ⟨q.1, q.2, rfl⟩] at R1
        exact R1
      · rw [if_neg (fun w => q ⟨w.1, w.2.1⟩)]
        rw [if_neg (fun w => q ⟨w.1, w.2.1⟩)] at R1
        exact R1
    · simp only [if_neg hd, z1F, if_false]
      obtain ⟨h1, e1, R1⟩ := key 0 (Or.inl rfl) (fun e => by cases e)
      refine ⟨h1, e1, ?_⟩
      simp only [Nat.zero_ne_one, and_false, if_false] at R1
      rw [if_neg (fun q => hd q.2.2.2)]
      exact R1
  · simp only [if_neg c2]
    obtain ⟨h1, e1, R1⟩ := key 0 (Or.inl rfl) (fun e => by cases e)
    refine ⟨h1, e1, ?_⟩
    simp only [Nat.zero_ne_one, and_false, if_false] at R1
    rw [if_neg (fun q => c2 q.2.2.1)]
    exact R1
theorem C_max32 (a b : Int32) (h : HP) : f_J9_max_7cf53 a b h = some (mx32 a b, h) := by
  unfold f_J9_max_7cf53 f_J9_max_7cf53_10 mx32
  split <;> rfl
theorem C_onHeld (R : RepC n h s) (O : OkS n B s) {i x l : Nat} {ℓ : LL} (hi : i < n) (hx : x < n) (hL : LOk B ℓ) (hw : (l, true, ℓ) ∈ s.2.2.2.2.2) : ∃ h', f_X4_onHeld (some (nd n i)) (nI x) (some l) h = some h' ∧ RepC n h' (onHeldS n i x ℓ s) := by
  have hn := R.rng
  have hB := O.1
  obtain ⟨b10, -⟩ := O.num hi
  obtain ⟨i0, i1, i2, i3⟩ := R.lI hw
  obtain ⟨l1, l2, l3, l4⟩ := hL
  simp only [f_X4_onHeld, f_X4_onHeld_18, f_X4_onHeld_64, if_neg (nI_pos (show x < 2 ^ 31 by omega)), R.r7 hi, R.gWl hi 2 (by decide) (a := nd n i + 6) rfl, show wl n 2 = n from rfl, Option.bind_some, if_neg (show ¬ nI n ≤ nI x from fun q => by have := (nI_leI (by omega) (by omega)).mp q; omega), i1, R.g10 hi, pk_nI_inj (show ℓ.2.1 < 2 ^ 31 by omega) (show s.1 10 i < 2 ^ 31 by omega)]
  unfold onHeldS
  by_cases c1 : ℓ.2.1 = s.1 10 i
  · simp only [c1, if_true, true_and, R.obN hi, C_lub R O hi, Option.bind_some]
    cases hb : lub n s i with
    | false =>
      simp only [Bool.false_eq_true, if_false, z0T, if_true]
      exact ⟨h, rfl, R⟩
    | true =>
      simp only [if_true, z1F, if_false, R.r7 hi, R.gW hi 2 (by decide) (a := nd n i + 6) rfl (show x < wl n 2 from hx), i2, Option.bind_some, C_max32]
      obtain ⟨h1, e1, R1⟩ := R.sW hi 2 (by decide) (a := nd n i + 6) rfl (show x < wl n 2 from hx) (mx32 (s.2.1 2 i x) (nI ℓ.2.2.1))
      replace R1 : RepC n h1 (sw 2 i (va_up (s.2.1 2 i) x (mx32 (s.2.1 2 i x) (nI ℓ.2.2.1))) s) := R1
      have O1 : OkS n B (sw 2 i (va_up (s.2.1 2 i) x (mx32 (s.2.1 2 i x) (nI ℓ.2.2.1))) s) := O.oW
      simp only [e1, Option.bind_some, R1.obN hi, if_true]
      obtain ⟨h2, e2, R2⟩ := C_look R1 O1 hi
      exact ⟨h2, by simp only [e2, Option.bind_some], R2⟩
  · simp only [c1, if_false, false_and]
    exact ⟨h, rfl, R⟩
theorem C_onDo (R : RepC n h s) (O : OkS n B s) {i l : Nat} {ℓ : LL} (hi : i < n) (hL : LOk B ℓ) (hw : (l, true, ℓ) ∈ s.2.2.2.2.2) : ∃ h', f_X4_onDo (some (nd n i)) (some l) h = some h' ∧ RepC n h' (onDoS i ℓ s) := by
  have hB := O.1
  obtain ⟨b10, -⟩ := O.num hi
  obtain ⟨i0, i1, i2, i3⟩ := R.lI hw
  obtain ⟨l1, l2, l3, l4⟩ := hL
  simp only [f_X4_onDo, f_X4_onDo_26, i1, R.g10 hi, Option.bind_some, pk_nI_inj (show ℓ.2.1 < 2 ^ 31 by omega) (show s.1 10 i < 2 ^ 31 by omega)]
  unfold onDoS
  by_cases c1 : ℓ.2.1 = s.1 10 i
  · simp only [c1, if_true, true_and, R.obN hi, C_isBlocked R O hi, Option.bind_some]
    cases hb : blk s i with
    | true =>
      simp only [if_true, z1F, if_false, reduceCtorEq]
      exact ⟨h, rfl, R⟩
    | false =>
      simp only [Bool.false_eq_true, if_false, z0T, if_true, i2, Option.bind_some]
      obtain ⟨h1, e1, R1⟩ := C_carryTo R O hi (m := ℓ.2.2.1) (by omega)
      exact ⟨h1, by simp only [e1, Option.bind_some], R1⟩
  · simp only [c1, if_false, false_and]
    exact ⟨h, rfl, R⟩
theorem C_onElect (R : RepC n h s) (O : OkS n B s) (hB7 : B + 7 < 2 ^ 29) {i x : Nat} (hi : i < n) (hx : x < n) : ∃ h', f_X4_onElect (some (nd n i)) (nI x) h = some h' ∧ RepC n h' (onElectS n i x s) := by
  have hn := R.rng
  have hB := O.1
  obtain ⟨-, -, -, -, -, -, -, b9, -⟩ := O.sml hi
  simp only [f_X4_onElect, f_X4_onElect_28, R.id hi, Option.bind_some]
  unfold onElectS
  by_cases c : x < i
  · rw [if_neg (fun q => by have := (nI_leI (by omega) (by omega)).mp q; omega), if_pos c]
    obtain ⟨h1, e1, R1⟩ := C_reply R O (y := x) (k := 6) (nr := 0) (d := 0) hi hx
    have O1 : OkS n B (rpl n i x 6 0 0 s) := OkS.oG ⟨by show 6 ≤ 12; decide, Nat.zero_le _, Nat.zero_le _, by simp⟩ _ _ O
    simp only [R.obN hi, if_true, e1, Option.bind_some, R1.v9 hi (v := s.1 9 i) (by unfold rpl; rw [sG_1]), R1.obN hi]
    by_cases c2 : s.1 9 i = 0
    · rw [c2]
      simp only [z0T, if_true]
      obtain ⟨h2, e2, R2⟩ := C_ask R1 O1 hB7 hi
      exact ⟨h2, by simp only [e2, Option.bind_some], R2⟩
    · rw [if_neg (nI_ne0 (by omega) (by omega)), if_neg c2]
      exact ⟨h1, rfl, R1⟩
  · rw [if_pos ((nI_leI (by omega) (by omega)).mpr (by omega)), if_neg c]
    exact ⟨h, rfl, R⟩
theorem C_onWait (R : RepC n h s) (O : OkS n B s) {i : Nat} (hi : i < n) : ∃ h', f_X4_onWait (some (nd n i)) h = some h' ∧ RepC n h' (onWaitS i s) := by
  obtain ⟨-, -, -, -, -, -, -, b9, -⟩ := O.sml hi
  simp only [f_X4_onWait, f_X4_onWait_13, R.g9 hi, Option.bind_some, pk_nI_inj (show s.1 9 i < 2 ^ 31 by omega) (show 1 < 2 ^ 31 by omega)]
  unfold onWaitS
  split
  · obtain ⟨h1, e1, R1⟩ := R.s9 hi 2
    exact ⟨h1, by simp only [e1, Option.bind_some], R1⟩
  · exact ⟨h, rfl, R⟩
theorem C_onFlush (R : RepC n h s) (O : OkS n B s) {i x l : Nat} {ℓ : LL} (hi : i < n) (hx : x < n) (hL : LOk B ℓ) (hw : (l, true, ℓ) ∈ s.2.2.2.2.2) : ∃ h', f_X4_onFlush (some (nd n i)) (nI x) (some l) h = some h' ∧ RepC n h' (onFlushS n i x ℓ s) := by
  have hn := R.rng
  have hB := O.1
  obtain ⟨b20, -⟩ := O.sml hi
  obtain ⟨-, b12, b13, -⟩ := O.num hi
  obtain ⟨i0, i1, i2, i3⟩ := R.lI hw
  obtain ⟨l1, l2, l3, l4⟩ := hL
  obtain ⟨o1, o2⟩ := bt_one (show x < 7 by omega)
  simp only [f_X4_onFlush, f_X4_onFlush_60, i1, R.g12 hi, Option.bind_some]
  unfold onFlushS
  by_cases c : ℓ.2.1 ≤ s.1 12 i
  · rw [if_pos ((nI_leI (by omega) (by omega)).mpr c), if_pos c]
    exact ⟨h, rfl, R⟩
  · rw [if_neg (fun q => c ((nI_leI (by omega) (by omega)).mp q)), if_neg c]
    obtain ⟨h1, e1, R1⟩ := R.s12 hi ℓ.2.1
    replace R1 : RepC n h1 (sv 12 i ℓ.2.1 s) := R1
    obtain ⟨h2, e2, R2⟩ := R1.s16 hi (x + 1)
    replace R2 : RepC n h2 (sv 16 i (x + 1) (sv 12 i ℓ.2.1 s)) := R2
    rw [show nI (x + 1) + (-1) = nI x from pk_m1 x] at e2
    obtain ⟨h3, e3, R3⟩ := R2.s9 hi 0
    replace R3 : RepC n h3 (sv 9 i 0 (sv 16 i (x + 1) (sv 12 i ℓ.2.1 s))) := R3
    obtain ⟨b, h4, e4, R4⟩ := C_copy R3 hi b20
    replace R4 : RepC n h4 (wX (sv 9 i 0 (sv 16 i (x + 1) (sv 12 i ℓ.2.1 s))) ((b, false, (0, 0, 0, rowL (s.2.1 0 i) (s.1 20 i))) :: s.2.2.2.2.2)) := R4
    simp only [e1, e2, e3, Option.bind_some, R3.r2 hi, R3.id hi, R3.v12 hi (v := ℓ.2.1) (by rw [sv_ne (by decide), sv_ne (by decide), sv_eq]), R3.v13 hi (v := s.1 13 i) rfl, R3.r4 hi, R3.obR hi, if_true, e4, R4.obP, o1]
    obtain ⟨h5, e5, R5⟩ := C_send R4 (x := i) (mask := 2 ^ x) (k := 8) (nr := ℓ.2.1) (d := s.1 13 i) (b := b) (xs := rowL (s.2.1 0 i) (s.1 20 i)) hi o2 O.2.2.1 (Or.inr List.mem_cons_self)
    refine ⟨h5, by simp only [e5, Option.bind_some], ?_⟩
    have R6 := R5.more (X := s.2.2.2.2.2) (fun w hw => by rw [sG_X]; exact List.mem_cons_of_mem _ hw)
    rw [wX_sndG] at R6
    exact R6
end N3
