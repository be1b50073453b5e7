/-! changes of view: the class over a state -/
theorem filF_step {n t : Nat} (x : Int32) (old : Nat → Int32) (ht : t < n) : True := trivial
section N4
variable {n B : Nat} {h : HP} {s : SS}
theorem C_fillL {i : Nat} (hi : i < n) (x : Int32) : ∀ (m t fuel : Nat) (h : HP) (s : SS), RepC n h s → t + m = n → m < fuel → ∃ h', f_J7_fill_53178_5 fuel (some (nd n i + 6)) x (nI t) (nI n) h = some h' ∧ RepC n h' (sw 2 i (fun j => if t ≤ j ∧ j < n then x else s.2.1 2 i j) s)
  | 0, t, fuel, h, s, R, ht, hf => by
    obtain ⟨fu, rfl⟩ : ∃ fu, fuel = fu + 1 := ⟨fuel - 1, by omega⟩
    have hn := R.rng
    rw [f_J7_fill_53178_5]
    rw [if_pos ((nI_leI (by omega) (by omega)).mpr (by omega))]
    refine ⟨h, rfl, ?_⟩
    have : (fun j => if t ≤ j ∧ j < n then x else s.2.1 2 i j) = s.2.1 2 i := by
      funext j
      rw [if_neg (by omega)]
    rw [this]
    have : sw 2 i (s.2.1 2 i) s = s := by
      unfold sw up3
      rw [up2_id]
    rw [this]
    exact R
  | m + 1, t, fuel, h, s, R, ht, hf => by
    obtain ⟨fu, rfl⟩ : ∃ fu, fuel = fu + 1 := ⟨fuel - 1, by omega⟩
    have hn := R.rng
    rw [f_J7_fill_53178_5]
    rw [if_neg (fun q => by have := (nI_leI (by omega) (by omega)).mp q; omega)]
    obtain ⟨h1, e1, R1⟩ := R.sW hi 2 (by decide) (a := nd n i + 6) rfl (show t < wl n 2 by show t < n; omega) x
    rw [e1, Option.bind_some, nI_add]
    obtain ⟨h2, e2, R2⟩ := C_fillL hi x m (t + 1) fu h1 _ R1 (by omega) (by omega)
    refine ⟨h2, e2, ?_⟩
    have : sw 2 i (fun j => if t + 1 ≤ j ∧ j < n then x else up3 s.2.1 2 i (va_up (s.2.1 2 i) t x) 2 i j) (s.1, up3 s.2.1 2 i (va_up (s.2.1 2 i) t x), s.2.2) = sw 2 i (fun j => if t ≤ j ∧ j < n then x else s.2.1 2 i j) s := by
      unfold sw up3
      rw [up2_up2]
      congr 3
      funext j
      rw [up2_same]
      by_cases c : j = t
      · subst c
        rw [if_neg (by omega), if_pos (by omega)]
        simp [va_up]
      · by_cases c2 : t + 1 ≤ j ∧ j < n
        · rw [if_pos c2, if_pos (by omega)]
        · rw [if_neg c2, if_neg (by omega)]
          simp [va_up, c]
    rw [this] at R2
    exact R2
theorem C_fill (R : RepC n h s) {i : Nat} (hi : i < n) (x : Int32) : ∃ h', f_J7_fill_53178 (some (nd n i + 6)) x h = some h' ∧ RepC n h' (sw 2 i (filF n x (s.2.1 2 i)) s) := by
  have hn := R.rng
  simp only [f_J7_fill_53178, R.gWl hi 2 (by decide) (a := nd n i + 6) rfl, show wl n 2 = n from rfl, Option.bind_some]
  obtain ⟨h1, e1, R1⟩ := C_fillL hi x n 0 600 h s R (by omega) (by omega)
  refine ⟨h1, e1, ?_⟩
  have : (fun j => if 0 ≤ j ∧ j < n then x else s.2.1 2 i j) = filF n x (s.2.1 2 i) := by
    funext j
    unfold filF
    by_cases c : j < n
    · rw [if_pos ⟨by omega, c⟩, if_pos c]
    · rw [if_neg (by omega), if_neg c]
  rw [this] at R1
  exact R1
theorem C_begin (R : RepC n h s) (O : OkS n B s) {i m : Nat} (hi : i < n) (hm : m < 128) : ∃ h', f_X4_begin (some (nd n i)) (nI m) h = some h' ∧ RepC n h' (begS n i m s) := by
  have hn := R.rng
  have hB := O.1
  obtain ⟨b20, -⟩ := O.sml hi
  obtain ⟨-, b12, -⟩ := O.num hi
  obtain ⟨h1, e1, R1⟩ := R.s10 hi (s.1 12 i)
  replace R1 : RepC n h1 (sv 10 i (s.1 12 i) s) := R1
  obtain ⟨h2, e2, R2⟩ := R1.s11 hi m
  replace R2 : RepC n h2 (sv 11 i m (sv 10 i (s.1 12 i) s)) := R2
  obtain ⟨h3, e3, R3⟩ := R2.s9 hi 0
  replace R3 : RepC n h3 (sv 9 i 0 (sv 11 i m (sv 10 i (s.1 12 i) s))) := R3
  obtain ⟨h4, e4, R4⟩ := C_fill R3 hi (nI (s.1 20 i))
  replace R4 : RepC n h4 (sw 2 i (filF n (nI (s.1 20 i)) (s.2.1 2 i)) (sv 9 i 0 (sv 11 i m (sv 10 i (s.1 12 i) s)))) := R4
  have O4 : OkS n B (sw 2 i (filF n (nI (s.1 20 i)) (s.2.1 2 i)) (sv 9 i 0 (sv 11 i m (sv 10 i (s.1 12 i) s)))) := (((O.oV (f := 10) (i := i) (x := s.1 12 i) (by simp [bnd]; omega)).oV (f := 11) (i := i) (x := m) (by simp [bnd]; omega)).oV (f := 9) (i := i) (x := 0) (by simp [bnd])).oW
  obtain ⟨h5, e5, R5⟩ := C_carryTo R4 O4 hi (m := s.1 20 i) (by omega)
  obtain ⟨h6, e6, R6⟩ := R5.sT 3 (by decide) ((carryTo i (s.1 20 i) (sw 2 i (filF n (nI (s.1 20 i)) (s.2.1 2 i)) (sv 9 i 0 (sv 11 i m (sv 10 i (s.1 12 i) s))))).2.2.2.2.1 3 + 1)
  refine ⟨h6, ?_, R6⟩
  simp only [f_X4_begin, R.g12 hi, Option.bind_some, e1, e2, e3, R3.r7 hi, R3.r4 hi, R3.v20 hi (v := s.1 20 i) rfl, e4, R4.r4 hi, R4.v20 hi (v := s.1 20 i) rfl, R4.obN hi, if_true, e5, R5.r3 hi, R5.tl 3 (by decide), nI_add, e6]
theorem OkS.oBeg (O : OkS n B s) {i m : Nat} (hi : i < n) (hm : m < 128) : OkS n B (begS n i m s) := by
  obtain ⟨-, b12, -⟩ := O.num hi
  exact (((((O.oV (f := 10) (i := i) (x := s.1 12 i) (by simp [bnd]; omega)).oV (f := 11) (i := i) (x := m) (by simp [bnd]; omega)).oV (f := 9) (i := i) (x := 0) (by simp [bnd])).oW).oT hi).oI (by decide)
theorem C_onBegin (R : RepC n h s) (O : OkS n B s) {i l : Nat} {ℓ : LL} (hi : i < n) (hL : LOk B ℓ) (hm : ℓ.2.2.1 < 128) (hw : (l, true, ℓ) ∈ s.2.2.2.2.2) : ∃ h', f_X4_onBegin (some (nd n i)) (some l) h = some h' ∧ RepC n h' (onBeginS n i ℓ s) := by
  have hB := O.1
  obtain ⟨-, b12, -⟩ := O.num hi
  obtain ⟨i0, i1, i2, i3⟩ := R.lI hw
  obtain ⟨l1, l2, l3, l4⟩ := hL
  simp only [f_X4_onBegin, f_X4_onBegin_19, i1, R.g12 hi, Option.bind_some, pk_nI_inj (show ℓ.2.1 < 2 ^ 31 by omega) (show s.1 12 i < 2 ^ 31 by omega)]
  unfold onBeginS
  split
  · obtain ⟨h1, e1, R1⟩ := C_begin R O hi hm
    exact ⟨h1, by simp only [i2, R.obN hi, if_true, e1, Option.bind_some], R1⟩
  · exact ⟨h, rfl, R⟩
theorem C_becS (R : RepC n h s) {i b : Nat} {xs : List Int32} (hi : i < n) (hb : atH s b xs) (hx : xs.length ≤ 60) : ∃ h', f_X6_become (some (nd n i + 1)) (some b) h = some h' ∧ RepC n h' (becS i xs s) := C_become R hi hb hx
theorem OkS.oBec (O : OkS n B s) {i : Nat} {xs : List Int32} (hx : xs.length ≤ 60) : OkS n B (becS i xs s) := (O.oV (f := 20) (i := i) (x := xs.length) (by simp [bnd]; omega)).oW
theorem C_onSync (R : RepC n h s) (O : OkS n B s) {i x l : Nat} {ℓ : LL} (hi : i < n) (hx : x < n) (hL : LOk B ℓ) (hw : (l, true, ℓ) ∈ s.2.2.2.2.2) : ∃ h', f_X4_onSync (some (nd n i)) (nI x) (some l) h = some h' ∧ RepC n h' (onSyncS n i x ℓ s) := by
  have hB := O.1
  obtain ⟨-, b12, -⟩ := O.num hi
  obtain ⟨i0, i1, i2, i3⟩ := R.lI hw
  obtain ⟨l1, l2, l3, l4⟩ := hL
  obtain ⟨b, eb, Rb⟩ := R.lA hw
  simp only [f_X4_onSync, f_X4_onSync_42, i1, R.g12 hi, Option.bind_some, pk_nI_inj (show ℓ.2.1 < 2 ^ 31 by omega) (show s.1 12 i < 2 ^ 31 by omega)]
  unfold onSyncS
  by_cases c : ℓ.2.1 = s.1 12 i
  · rw [if_pos c, if_pos c]
    obtain ⟨h1, e1, R1⟩ := C_becS Rb (i := i) (b := b) (xs := ℓ.2.2.2) hi (Or.inr List.mem_cons_self) l4
    obtain ⟨h2, e2, R2⟩ := R1.s13 hi (s.1 12 i)
    replace R2 : RepC n h2 (sv 13 i (s.1 12 i) (becS i ℓ.2.2.2 (wX s ((b, false, (0, 0, 0, ℓ.2.2.2)) :: s.2.2.2.2.2)))) := R2
    have O2 : OkS n B (sv 13 i (s.1 12 i) (becS i ℓ.2.2.2 (wX s ((b, false, (0, 0, 0, ℓ.2.2.2)) :: s.2.2.2.2.2)))) := (OkS.oBec (show OkS n B (wX s _) from O) l4).oV (by simp [bnd]; omega)
    obtain ⟨h3, e3, R3⟩ := C_reply R2 O2 (y := x) (k := 10) (nr := s.1 12 i) (d := 0) hi hx
    refine ⟨h3, by simp only [R.r4 hi, eb, R.obR hi, if_true, e1, Option.bind_some, R1.v12 hi (v := s.1 12 i) rfl, e2, R2.v12 hi (v := s.1 12 i) rfl, R2.obN hi, e3], ?_⟩
    have R4 := R3.more (X := s.2.2.2.2.2) (fun w hw => by unfold rpl; rw [sG_X]; exact List.mem_cons_of_mem _ hw)
    unfold rpl at R4
    rw [wX_sndG] at R4
    exact R4
  · rw [if_neg c, if_neg c]
    exact ⟨h, rfl, R⟩
theorem C_answ (R : RepC n h s) (O : OkS n B s) {i x : Nat} (hi : i < n) (hx : x < n) : ∃ h', f_X0_answered (some (nd n i + 5)) (nI x) h = some h' ∧ RepC n h' (answ i x s) := by
  have hn := R.rng
  obtain ⟨-, -, -, -, -, -, b1, -⟩ := O.sml hi
  obtain ⟨h1, e1, R1⟩ := R.s1 hi (clr (s.1 1 i) x)
  exact ⟨h1, by simp only [f_X0_answered, f_X8_without, R.g1 hi, Option.bind_some, (bt_k b1 (show x < 7 by omega)).1.1, e1], R1⟩
theorem C_onSynced (R : RepC n h s) (O : OkS n B s) {i x l : Nat} {ℓ : LL} (hi : i < n) (hx : x < n) (hL : LOk B ℓ) (hw : (l, true, ℓ) ∈ s.2.2.2.2.2) : ∃ h', f_X4_onSynced (some (nd n i)) (nI x) (some l) h = some h' ∧ RepC n h' (onSyncedS i x ℓ s) := by
  have hB := O.1
  obtain ⟨-, -, -, -, -, -, -, b9, -⟩ := O.sml hi
  obtain ⟨-, b12, -⟩ := O.num hi
  obtain ⟨i0, i1, i2, i3⟩ := R.lI hw
  obtain ⟨l1, l2, l3, l4⟩ := hL
  simp only [f_X4_onSynced, f_X4_onSynced_27, i1, R.g9 hi, R.g12 hi, Option.bind_some, pk_nI_inj (show s.1 9 i < 2 ^ 31 by omega) (show 4 < 2 ^ 31 by omega), pk_nI_inj (show ℓ.2.1 < 2 ^ 31 by omega) (show s.1 12 i < 2 ^ 31 by omega)]
  unfold onSyncedS
  by_cases c1 : s.1 9 i = 4
  · by_cases c2 : ℓ.2.1 = s.1 12 i
    · obtain ⟨h1, e1, R1⟩ := C_answ R O hi hx
      simp only [c1, c2, if_true, and_self, R.r6 hi, R.obC hi, Option.bind_some, e1]
      exact ⟨h1, rfl, R1⟩
    · simp only [c1, c2, if_true, if_false, and_false]
      exact ⟨h, rfl, R⟩
  · simp only [c1, if_false, false_and]
    exact ⟨h, rfl, R⟩
theorem C_isBetter (R : RepC n h s) (O : OkS n B s) {i x st len : Nat} (hi : i < n) (hx : x < n) (hst : st ≤ B) (hlen : len ≤ 60) : f_X0_isBetter (some (nd n i + 5)) (nI x) (nI st) (nI len) h = some (if bet s i x st len then nI 1 else nI 0, h) := by
  have hn := R.rng
  have hB := O.1
  obtain ⟨-, -, -, -, -, -, -, -, -, b4, -⟩ := O.sml hi
  obtain ⟨-, -, -, b3⟩ := O.num hi
  have hbl := O.2.2.2.1 i hi
  obtain ⟨b, eb, Rb⟩ := R.gB hi
  have hal := Rb.aLen (b := b) (xs := s.2.2.1 i) (Or.inr List.mem_cons_self)
  simp only [f_X0_isBetter, f_X0_isBetter_59, f_X0_isBetter_45, f_X0_isBetter_21, R.g3 hi, R.g4 hi, eb, hal, Option.bind_some, a0T, a1T, if_true, pk_nI_inj (show st < 2 ^ 31 by omega) (show s.1 3 i < 2 ^ 31 by omega), pk_nI_inj (show len < 2 ^ 31 by omega) (show (s.2.2.1 i).length < 2 ^ 31 by omega)]
  unfold bet
  by_cases c1 : st = s.1 3 i
  · simp only [c1, if_true]
    by_cases c2 : len = (s.2.2.1 i).length
    · simp only [c2, if_true]
      by_cases c3 : x < s.1 4 i
      · rw [if_neg (fun q => by have := (nI_leI (by omega) (by omega)).mp q; omega)]
        simp [c3]
      · rw [if_pos ((nI_leI (by omega) (by omega)).mpr (by omega))]
        simp [c3]
    · simp only [c2, if_false]
      by_cases c3 : (s.2.2.1 i).length < len
      · rw [if_neg (fun q => by have := (nI_leI (by omega) (by omega)).mp q; omega)]
        simp [c3]
      · rw [if_pos ((nI_leI (by omega) (by omega)).mpr (by omega))]
        simp [c3]
  · simp only [c1, if_false]
    by_cases c3 : s.1 3 i < st
    · rw [if_neg (fun q => by have := (nI_leI (by omega) (by omega)).mp q; omega)]
      simp [c3]
    · rw [if_pos ((nI_leI (by omega) (by omega)).mpr (by omega))]
      simp [c3]
theorem C_weigh (R : RepC n h s) (O : OkS n B s) {i x b : Nat} {ℓ : LL} (hi : i < n) (hx : x < n) (hL : LOk B ℓ) (hb : atH s b ℓ.2.2.2) : ∃ h', f_X0_weigh (some (nd n i + 5)) (nI x) (nI ℓ.2.2.1) (some b) h = some h' ∧ RepC n h' (wghS i x ℓ s) := by
  obtain ⟨l1, l2, l3, l4⟩ := hL
  simp only [f_X0_weigh, f_X0_weigh_26, R.aLen hb, Option.bind_some, R.obC hi, if_true, C_isBetter R O hi hx l3 l4]
  unfold wghS
  cases hbt : bet s i x ℓ.2.2.1 ℓ.2.2.2.length with
  | false =>
    simp only [Bool.false_eq_true, if_false, z0T, if_true]
    exact ⟨h, rfl, R⟩
  | true =>
    simp only [if_true, z1F, if_false]
    obtain ⟨h1, e1, R1⟩ := R.s4 hi x
    replace R1 : RepC n h1 (sv 4 i x s) := R1
    obtain ⟨h2, e2, R2⟩ := R1.s3 hi ℓ.2.2.1
    replace R2 : RepC n h2 (sv 3 i ℓ.2.2.1 (sv 4 i x s)) := R2
    obtain ⟨h3, e3, R3⟩ := R2.sB hi (b := b) (xs := ℓ.2.2.2) hb
    exact ⟨h3, by simp only [e1, e2, e3, Option.bind_some], R3⟩
theorem OkS.oWgh (O : OkS n B s) {i x : Nat} {ℓ : LL} (hx : x < n) (hn : n ≤ 7) (hL : LOk B ℓ) : OkS n B (wghS i x ℓ s) := by
  obtain ⟨l1, l2, l3, l4⟩ := hL
  unfold wghS
  split
  · exact ((O.oV (f := 4) (i := i) (x := x) (by simp [bnd]; omega)).oV (f := 3) (i := i) (x := ℓ.2.2.1) (by simp [bnd]; omega)).oB l4
  · exact O
theorem wX_wgh (i x : Nat) (ℓ : LL) (s : SS) (X : List (Nat × Bool × LL)) : wX (wghS i x ℓ s) X = wghS i x ℓ (wX s X) := by
  unfold wghS
  by_cases c : bet s i x ℓ.2.2.1 ℓ.2.2.2.length = true
  · rw [if_pos c, if_pos (show bet (wX s X) i x ℓ.2.2.1 ℓ.2.2.2.length = true from c)]
    rfl
  · rw [if_neg c, if_neg (show ¬ bet (wX s X) i x ℓ.2.2.1 ℓ.2.2.2.length = true from c)]
theorem C_onFlushed (R : RepC n h s) (O : OkS n B s) {i x l : Nat} {ℓ : LL} (hi : i < n) (hx : x < n) (hL : LOk B ℓ) (hw : (l, true, ℓ) ∈ s.2.2.2.2.2) : ∃ h', f_X4_onFlushed (some (nd n i)) (nI x) (some l) h = some h' ∧ RepC n h' (onFlushedS i x ℓ s) := by
  have hn := R.rng
  have hB := O.1
  obtain ⟨-, -, -, -, -, -, -, b9, -⟩ := O.sml hi
  obtain ⟨-, b12, -⟩ := O.num hi
  obtain ⟨i0, i1, i2, i3⟩ := R.lI hw
  have hL' := hL
  obtain ⟨l1, l2, l3, l4⟩ := hL
  obtain ⟨b, eb, Rb⟩ := R.lA hw
  simp only [f_X4_onFlushed, f_X4_onFlushed_43, i1, i2, R.g9 hi, R.g12 hi, Option.bind_some, pk_nI_inj (show s.1 9 i < 2 ^ 31 by omega) (show 3 < 2 ^ 31 by omega), pk_nI_inj (show ℓ.2.1 < 2 ^ 31 by omega) (show s.1 12 i < 2 ^ 31 by omega)]
  unfold onFlushedS
  by_cases c1 : s.1 9 i = 3
  · by_cases c2 : ℓ.2.1 = s.1 12 i
    · have Ob : OkS n B (wX s ((b, false, (0, 0, 0, ℓ.2.2.2)) :: s.2.2.2.2.2)) := O
      obtain ⟨h1, e1, R1⟩ := C_weigh Rb Ob hi hx hL' (Or.inr List.mem_cons_self)
      obtain ⟨h2, e2, R2⟩ := C_answ R1 (Ob.oWgh hx hn.2 hL') hi hx
      simp only [c1, c2, if_true, and_self, R.r6 hi, eb, R.obC hi, Option.bind_some, e1, R1.r6 hi, R1.obC hi, e2]
      refine ⟨h2, rfl, ?_⟩
      have R3 := R2.more (X := s.2.2.2.2.2) (fun w hw => by
        show w ∈ (wghS i x ℓ (wX s ((b, false, (0, 0, 0, ℓ.2.2.2)) :: s.2.2.2.2.2))).2.2.2.2.2
        unfold wghS
        split <;> exact List.mem_cons_of_mem _ hw)
      have : wX (answ i x (wghS i x ℓ (wX s ((b, false, (0, 0, 0, ℓ.2.2.2)) :: s.2.2.2.2.2)))) s.2.2.2.2.2 = answ i x (wX (wghS i x ℓ (wX s ((b, false, (0, 0, 0, ℓ.2.2.2)) :: s.2.2.2.2.2))) s.2.2.2.2.2) := rfl
      rw [this, wX_wgh] at R3
      exact R3
    · simp only [c1, c2, if_true, if_false, and_false]
      exact ⟨h, rfl, R⟩
  · simp only [c1, if_false, false_and]
    exact ⟨h, rfl, R⟩
theorem C_giv (R : RepC n h s) (O : OkS n B s) {i : Nat} (hi : i < n) : ∃ h', f_X4_giveBest (some (nd n i)) h = some h' ∧ RepC n h' (givS n i s) := by
  have hn := R.rng
  have hB := O.1
  obtain ⟨-, -, -, -, -, b0, -⟩ := O.sml hi
  obtain ⟨-, b12, -⟩ := O.num hi
  have hcl := (bt_k b0 (show i < 7 by omega)).1
  have hbl := O.2.2.2.1 i hi
  obtain ⟨b, eb, Rb⟩ := R.gB hi
  obtain ⟨h1, e1, R1⟩ := C_becS Rb (i := i) (b := b) (xs := s.2.2.1 i) hi (Or.inr List.mem_cons_self) hbl
  generalize hX : (b, false, (0, 0, 0, s.2.2.1 i)) :: s.2.2.2.2.2 = X at R1
  obtain ⟨h2, e2, R2⟩ := R1.s13 hi (s.1 12 i)
  replace R2 : RepC n h2 (sv 13 i (s.1 12 i) (becS i (s.2.2.1 i) (wX s X))) := R2
  obtain ⟨h3, e3, R3⟩ := R2.s9 hi 4
  replace R3 : RepC n h3 (sv 9 i 4 (sv 13 i (s.1 12 i) (becS i (s.2.2.1 i) (wX s X)))) := R3
  obtain ⟨h4, e4, R4⟩ := R3.s1 hi (clr (s.1 0 i) i)
  replace R4 : RepC n h4 (sv 1 i (clr (s.1 0 i) i) (sv 9 i 4 (sv 13 i (s.1 12 i) (becS i (s.2.2.1 i) (wX s X))))) := R4
  obtain ⟨b', eb', Rb'⟩ := R4.gB hi
  have hbb : (sv 1 i (clr (s.1 0 i) i) (sv 9 i 4 (sv 13 i (s.1 12 i) (becS i (s.2.2.1 i) (wX s X))))).2.2.1 i = s.2.2.1 i := rfl
  rw [hbb] at Rb'
  obtain ⟨h5, e5, R5⟩ := C_send Rb' (x := i) (mask := clr (s.1 0 i) i) (k := 9) (nr := s.1 12 i) (d := 0) (b := b') (xs := s.2.2.1 i) hi hcl.2 O.2.2.1 (Or.inr List.mem_cons_self)
  refine ⟨h5, by simp only [f_X4_giveBest, f_X8_without, R.r4 hi, R.r6 hi, eb, R.obR hi, if_true, e1, Option.bind_some, R1.v12 hi (v := s.1 12 i) rfl, e2, e3, R3.r6 hi, R3.v0 hi (v := s.1 0 i) rfl, R3.id hi, hcl.1, e4, R4.r2 hi, R4.id hi, R4.r6 hi, R4.v1 hi (v := clr (s.1 0 i) i) (by rw [sv_eq]), R4.v12 hi (v := s.1 12 i) rfl, eb', R4.obP, e5], ?_⟩
  have R6 := R5.more (X := s.2.2.2.2.2) (fun w hw => by
    rw [sG_X]
    refine List.mem_cons_of_mem _ ?_
    show w ∈ X
    rw [← hX]
    exact List.mem_cons_of_mem _ hw)
  rw [wX_sndG] at R6
  exact R6
theorem OkS.oGiv (O : OkS n B s) {i : Nat} (hi : i < n) (hn : n ≤ 7) : OkS n B (givS n i s) := by
  have hB := O.1
  obtain ⟨-, -, -, -, -, b0, -⟩ := O.sml hi
  obtain ⟨-, b12, -⟩ := O.num hi
  have hcl := (bt_k b0 (show i < 7 by omega)).1
  have hbl := O.2.2.2.1 i hi
  exact OkS.oG ⟨by show 9 ≤ 12; decide, by show s.1 12 i ≤ B; omega, Nat.zero_le _, hbl⟩ _ _ ((((OkS.oBec O hbl).oV (f := 13) (i := i) (x := s.1 12 i) (by simp [bnd]; omega)).oV (f := 9) (i := i) (x := 4) (by simp [bnd])).oV (f := 1) (i := i) (x := clr (s.1 0 i) i) (by simp [bnd]; omega))
theorem C_bgn (R : RepC n h s) (O : OkS n B s) {i : Nat} (hi : i < n) : ∃ h', f_X4_beginAnew (some (nd n i)) h = some h' ∧ RepC n h' (bgnS n i s) := by
  have hn := R.rng
  have hB := O.1
  obtain ⟨-, -, -, b11, -, b0, -⟩ := O.sml hi
  obtain ⟨-, b12, -⟩ := O.num hi
  have hcl := (bt_k b0 (show i < 7 by omega)).1
  have han := bt_andn b11 b0
  obtain ⟨h1, e1, R1⟩ := C_send R (x := i) (mask := clr (s.1 0 i) i) (k := 11) (nr := s.1 12 i) (d := s.1 0 i) (b := 0) (xs := []) hi hcl.2 O.2.2.1 (Or.inl ⟨rfl, rfl⟩)
  have O1 : OkS n B (sndG i (clr (s.1 0 i) i) (11, s.1 12 i, s.1 0 i, []) 0 n s) := OkS.oG ⟨by show 11 ≤ 12; decide, by show s.1 12 i ≤ B; omega, by show s.1 0 i ≤ B; omega, by simp⟩ _ _ O
  obtain ⟨h2, e2, R2⟩ := C_send R1 (x := i) (mask := andn (s.1 11 i) (s.1 0 i)) (k := 12) (nr := 0) (d := 0) (b := 0) (xs := []) hi han.2 O1.2.2.1 (Or.inl ⟨rfl, rfl⟩)
  have O2 : OkS n B (sndG i (andn (s.1 11 i) (s.1 0 i)) (12, 0, 0, []) 0 n (sndG i (clr (s.1 0 i) i) (11, s.1 12 i, s.1 0 i, []) 0 n s)) := OkS.oG ⟨by show 12 ≤ 12; decide, Nat.zero_le _, Nat.zero_le _, by simp⟩ _ _ O1
  obtain ⟨h3, e3, R3⟩ := C_begin R2 O2 hi b0
  exact ⟨h3, by simp only [f_X4_beginAnew, f_X8_without, R.r2 hi, R.id hi, R.r6 hi, R.g0 hi, R.g12 hi, Option.bind_some, hcl.1, R.obP, if_true, e1, R1.r2 hi, R1.id hi, R1.v11 hi (v := s.1 11 i) (by rw [sG_1]), R1.r6 hi, R1.v0 hi (v := s.1 0 i) (by rw [sG_1]), han.1, R1.obP, e2, R2.r6 hi, R2.v0 hi (v := s.1 0 i) (by rw [sG_1, sG_1]), R2.obN hi, e3], R3⟩
theorem OkS.oBgn (O : OkS n B s) {i : Nat} (hi : i < n) : OkS n B (bgnS n i s) := by
  have hB := O.1
  obtain ⟨-, -, -, b11, -, b0, -⟩ := O.sml hi
  obtain ⟨-, b12, -⟩ := O.num hi
  have O1 : OkS n B (sndG i (clr (s.1 0 i) i) (11, s.1 12 i, s.1 0 i, []) 0 n s) := OkS.oG ⟨by show 11 ≤ 12; decide, by show s.1 12 i ≤ B; omega, by show s.1 0 i ≤ B; omega, by simp⟩ _ _ O
  exact OkS.oBeg (OkS.oG ⟨by show 12 ≤ 12; decide, Nat.zero_le _, Nat.zero_le _, by simp⟩ _ _ O1) hi b0
theorem C_go2 (R : RepC n h s) (O : OkS n B s) {i : Nat} (hi : i < n) : ∃ h', f_X4_goOn_22 (some (nd n i)) h = some h' ∧ RepC n h' (go2 n i s) := by
  obtain ⟨-, -, -, -, -, -, b1, b9, -⟩ := O.sml hi
  simp only [f_X4_goOn_22, f_X4_goOn_44, R.g9 hi, R.r6 hi, R.g1 hi, Option.bind_some, pk_nI_inj (show s.1 9 i < 2 ^ 31 by omega) (show 4 < 2 ^ 31 by omega)]
  unfold go2
  by_cases c1 : s.1 9 i = 4
  · by_cases c2 : s.1 1 i = 0
    · obtain ⟨h1, e1, R1⟩ := C_bgn R O hi
      have z : nI (s.1 1 i) = 0 := by rw [c2]; rfl
      have hs : (if s.1 9 i = 4 ∧ s.1 1 i = 0 then bgnS n i s else s) = bgnS n i s := if_pos ⟨c1, c2⟩
      rw [hs, if_pos c1, if_pos z]
      simp only [if_true, R.obN hi, e1, Option.bind_some]
      exact ⟨h1, rfl, R1⟩
    · rw [if_pos c1, if_neg (nI_ne0 (by omega) (by omega)), if_neg (fun q => c2 q.2)]
      exact ⟨h, rfl, R⟩
  · rw [if_neg c1, if_neg (fun q => c1 q.1)]
    exact ⟨h, rfl, R⟩
theorem OkS.oGo1 (O : OkS n B s) {i : Nat} (hi : i < n) (hn : n ≤ 7) : OkS n B (go1 n i s) := by
  unfold go1
  split
  · exact O.oGiv hi hn
  · exact O
theorem OkS.oGo (O : OkS n B s) {i : Nat} (hi : i < n) (hn : n ≤ 7) : OkS n B (goS n i s) := by
  have O1 := O.oGo1 hi hn
  unfold goS go2
  split
  · exact O1.oBgn hi
  · exact O1
theorem C_goOn (R : RepC n h s) (O : OkS n B s) {i : Nat} (hi : i < n) : ∃ h', f_X4_goOn (some (nd n i)) h = some h' ∧ RepC n h' (goS n i s) := by
  have hn := R.rng
  obtain ⟨-, -, -, -, -, -, b1, b9, -⟩ := O.sml hi
  simp only [f_X4_goOn, R.g9 hi, R.r6 hi, R.g1 hi, Option.bind_some, pk_nI_inj (show s.1 9 i < 2 ^ 31 by omega) (show 3 < 2 ^ 31 by omega)]
  unfold goS
  have O1 := O.oGo1 hi hn.2
  unfold go1 at O1 ⊢
  by_cases c1 : s.1 9 i = 3
  · by_cases c2 : s.1 1 i = 0
    · have z : nI (s.1 1 i) = 0 := by rw [c2]; rfl
      have hs : (if s.1 9 i = 3 ∧ s.1 1 i = 0 then givS n i s else s) = givS n i s := if_pos ⟨c1, c2⟩
      rw [hs] at O1 ⊢
      obtain ⟨h1, e1, R1⟩ := C_giv R O hi
      rw [if_pos c1, if_pos z]
      simp only [if_true, R.obN hi, e1, Option.bind_some]
      exact C_go2 R1 O1 hi
    · have hs : (if s.1 9 i = 3 ∧ s.1 1 i = 0 then givS n i s else s) = s := if_neg (fun q => c2 q.2)
      rw [hs] at O1 ⊢
      rw [if_pos c1, if_neg (nI_ne0 (by omega) (by omega))]
      exact C_go2 R O hi
  · have hs : (if s.1 9 i = 3 ∧ s.1 1 i = 0 then givS n i s else s) = s := if_neg (fun q => c1 q.1)
    rw [hs] at O1 ⊢
    rw [if_neg c1]
    exact C_go2 R O hi
end N4
