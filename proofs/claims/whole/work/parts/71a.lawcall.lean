/-! the law: both worlds at a call, its script -/
def LI (D : va_G) (cA : Nat → ClassId) (adC adM : Nat → Nat) (H : Heap) (hc hm : HP) : Prop := hz_W (D, cA, adC) hc H ∧ va_P D vwCl (hz_w (D, cA, adM) hm) H ∧ hm.1 = 29 ∧ ∀ j : Nat, 1 ≤ j → j ≤ 29 → adM j < H.size
def LF (D : va_G) (cA : Nat → ClassId) (n0 : Nat) (s : State) (adC adM : Nat → Nat) : Prop := KL D cA n0 s ∧ (adC 0 = n0 ∧ adM 0 = n0) ∧ hz_In (D, cA, adC) ∧ (∀ q : Nat, hz_R (D, cA, adC) q → lA s q) ∧ (∀ i j : Nat, 1 ≤ i → i ≤ 29 → 1 ≤ j → j ≤ 29 → adM i = adM j → i = j) ∧ ∀ j : Nat, 1 ≤ j → j ≤ 29 → lA s (adM j) ∧ ¬ hz_R (D, cA, adC) (adM j)
def exM (adM : Nat → Nat) (z : Nat) : Nat → Nat := fun k => if k ≤ 29 then adM k else z + (k - 30)
theorem Btx.rk {B C : Nat} {hc hm : HP} (b : Btx B C hc hm) : rk hm ∧ hm.1 = 29 ∧ hz_ob hm (some 1) 9 = true ∧ hz_ob hc (some 1) 8 = true := by
  obtain ⟨n, s, G, R, M, -⟩ := b
  have o1 := M.ob
  obtain ⟨Z, A, rfl, -⟩ := M
  exact ⟨rk_m Z A, rfl, o1, R.obG⟩
section LC
variable {p : Program} {l : Launch} {e : Env} {s : State} {m : MethodId} {args : Array Value} {below : List Frame} {meth : Method} {c : Code} {H : Heap} {locs : List Jvm.Loc} {cells slots : Nat} {Q : State → Prop}
variable {D : va_G} {cA : Nat → ClassId} {n0 : Nat} {adC adM : Nat → Nat} {pc : Nat} {ls : Array Slot} {st rest : List Value} {y : MethodName} {yc : ByteArray} {maxL n ix : Nat} {yret : Option FieldType} {yrm : Room} {As : List Value} {v : Int32} {ci N : Nat} {T : u_T}
theorem lw_VC (C : LX p s m args c) (F : LF D cA n0 s adC adM) {hc hc' hm : HP} (I : LI D cA adC adM H hc hm) (hS : va_S (lA s) s.heap H locs) (hy : hz_Y y yc maxL yret n) (hyv : hz_YV y) (hl : Cond.methodLink RL ix y ∈ hz_T) (hvw : vwCl[ci]? = some (y.cls, T, N)) (hob : hz_ob hc (some 1) ci = true) (ct : Ct l y yc maxL yret yrm (va_rf (some 1) :: As) (some (.int v)) hc hc') (hst : st = (As.map (hz_v (D, cA, adC))).reverse ++ .ref (adC 1) :: rest) (hn : As.length = n) (hrl : (rest.map fun v => v.category).sum ≤ 8) (hR : yrm.frames + 1 ≤ room_1.frames ∧ 8 + (maxL + 11) + yrm.locals ≤ room_1.locals) (hf : cells + yrm.cells ≤ room_1.cells ∧ slots + yrm.slots ≤ room_1.slots) (hls : ls.size = 4) (hd : decode code pc = .ok (.invokevirtual ix, 3))
    (kk : ∀ (H1 : Heap) (locs1 : List Jvm.Loc), LI D cA adC adM H1 hc' hm → va_S (lA s) s.heap H1 locs1 → W p l e room_1 s m args below meth c H1 locs1 (cells + yrm.cells) (slots + yrm.slots) Q (F0 m (pc + 3) ls (.int v :: rest))) : W p l e room_1 s m args below meth c H locs cells slots Q (F0 m pc ls st) := by
  subst hst
  obtain ⟨K, ⟨c0, m0⟩, hi, hA, minj, mout⟩ := F
  obtain ⟨hW, hP, h29, hlt⟩ := I
  refine lw_V C K c0 hi hA hS hW hy hyv hl hvw hob ct hn hrl hR hf hls hd (fun H1 locs1 hW1 hz hk hS1 => kk H1 locs1 ⟨hW1, hP.kept (fun k q hq => ?_), h29, fun j h1 h2 => Nat.lt_of_lt_of_le (hlt j h1 h2) hz⟩ hS1)
  obtain ⟨hk2, rfl⟩ := hz_wof hq
  exact hk _ (hlt (k + 1) (by omega) (by omega)) (mout (k + 1) (by omega) (by omega)).2
theorem exM_in (F : LF D cA n0 s adC adM) {hc hm : HP} (I : LI D cA adC adM H hc hm) : hz_In (D, cA, exM adM H.size) := by
  obtain ⟨K, ⟨c0, m0⟩, hi, hA, minj, mout⟩ := F
  obtain ⟨hW, hP, h29, hlt⟩ := I
  intro i j h1 h2 he
  have he2 : exM adM H.size i = exM adM H.size j := he
  unfold exM at he2
  by_cases ci : i ≤ 29
  · rw [if_pos ci] at he2
    have a1 := hlt i h1 ci
    by_cases cj : j ≤ 29
    · rw [if_pos cj] at he2
      exact minj i j h1 ci h2 cj he2
    · rw [if_neg cj] at he2
      omega
  · rw [if_neg ci] at he2
    by_cases cj : j ≤ 29
    · rw [if_pos cj] at he2
      have a1 := hlt j h2 cj
      omega
    · rw [if_neg cj] at he2
      omega
theorem lw_VM (C : LX p s m args c) (F : LF D cA n0 s adC adM) {hc hm hm' : HP} (I : LI D cA adC adM H hc hm) (r : rk hm) (r' : rk hm' ∧ hm'.1 = 29) (hS : va_S (lA s) s.heap H locs) (hy : hz_Y y yc maxL yret n) (hyv : hz_YV y) (hl : Cond.methodLink RL ix y ∈ hz_T) (hvw : vwCl[ci]? = some (y.cls, T, N)) (hob : hz_ob hm (some 1) ci = true) (ct : Ct l y yc maxL yret yrm (va_rf (some 1) :: As) (some (.int v)) hm hm') (hst : st = (As.map (hz_v (D, cA, exM adM H.size))).reverse ++ .ref (adM 1) :: rest) (hn : As.length = n) (hrl : (rest.map fun v => v.category).sum ≤ 8) (hR : yrm.frames + 1 ≤ room_1.frames ∧ 8 + (maxL + 11) + yrm.locals ≤ room_1.locals) (hf : cells + yrm.cells ≤ room_1.cells ∧ slots + yrm.slots ≤ room_1.slots) (hls : ls.size = 4) (hd : decode code pc = .ok (.invokevirtual ix, 3))
    (kk : ∀ (H1 : Heap) (locs1 : List Jvm.Loc), LI D cA adC adM H1 hc hm' → va_S (lA s) s.heap H1 locs1 → W p l e room_1 s m args below meth c H1 locs1 (cells + yrm.cells) (slots + yrm.slots) Q (F0 m (pc + 3) ls (.int v :: rest))) : W p l e room_1 s m args below meth c H locs cells slots Q (F0 m pc ls st) := by
  subst hst
  have hin := exM_in F I
  obtain ⟨K, ⟨c0, m0⟩, hi, hA, minj, mout⟩ := F
  obtain ⟨hW, hP, h29, hlt⟩ := I
  have hsame : ∀ k : Nat, k ≤ 29 → exM adM H.size k = adM k := fun k hk => if_pos hk
  have hout : ∀ q : Nat, hz_R (D, cA, exM adM H.size) q → lA s q := by
    intro q hq
    obtain ⟨k, h1, rfl⟩ := hq
    show s.heap.size ≤ exM adM H.size k
    unfold exM
    split
    · rename_i ck
      exact (mout k h1 ck).1
    · have := hS.1
      omega
  have hWm : hz_W (D, cA, exM adM H.size) hm H := by
    refine ⟨hz_move (D := D) (cA := cA) (ad := adM) r (fun k hk => hsame k (by omega)) hP, fun k hk => ?_⟩
    show exM adM H.size k = _
    unfold exM
    rw [if_neg (by omega), h29]
    omega
  refine lw_V C K ((hsame 0 (by omega)).trans m0) hin hout hS hWm hy hyv hl hvw hob ct hn hrl hR hf hls hd (fun H1 locs1 hW1 hz hk hS1 => ?_)
  have e30 : H.size + 0 = H1.size + 0 := by
    have q := hW1.2 30 (by omega)
    have q2 : exM adM H.size 30 = H1.size + (30 - hm'.1 - 1) := q
    unfold exM at q2
    rw [if_neg (by omega), r'.2] at q2
    omega
  have eH : H1.size = H.size := by omega
  refine kk H1 locs1 ⟨⟨hW.1.kept (fun k q hq => ?_), fun k hk2 => ?_⟩, hz_move (D := D) (cA := cA) (ad := exM adM H.size) r'.1 (fun k hk2 => (hsame k (by omega)).symm) hW1.1, r'.2, fun j h1 h2 => by rw [eH]; exact hlt j h1 h2⟩ hS1
  · have hlt2 := (hW.1 k q hq).lt
    refine hk _ hlt2 ?_
    obtain ⟨hk2, rfl⟩ := hz_wof hq
    rintro ⟨j, h1, h2⟩
    have h3 : adC (k + 1) = exM adM H.size j := h2
    have h4 : adC (k + 1) < H.size := hlt2
    unfold exM at h3
    by_cases cj : j ≤ 29
    · rw [if_pos cj] at h3
      exact (mout j h1 cj).2 ⟨k + 1, by omega, h3.symm⟩
    · rw [if_neg cj] at h3
      omega
  · rw [eH]
    exact hW.2 k hk2
/-- one int of the script -/
theorem lw_arg (C : LX p s m args c) {b L t : Nat} {xs : Nat → Int32} {am ac : Nat} (hX : va_X b L xs s s.heap) (hbl : b < s.heap.size) (hL : L ≤ 2049) (hS : va_S (lA s) s.heap H locs) (hl : lv_has ls 4 [(0, .ref b), (1, .ref ac), (2, .ref am), (3, .int (nI t))]) {k : Nat} {ki : Int} (hki : Int32.ofInt ki = nI k) (ht : t + k < L) (d0 : decode code pc = .ok (.aload_n 0, 1)) (d1 : decode code (pc + 1) = .ok (.iload_n 3, 1)) (d2 : decode code (pc + 1 + 1) = .ok (.iconst ki, 1)) (d3 : decode code (pc + 1 + 1 + 1) = .ok (.iadd, 1)) (d4 : decode code (pc + 1 + 1 + 1 + 1) = .ok (.iaload, 1))
    (kk : W p l e room_1 s m args below meth c H locs cells slots Q (F0 m (pc + 1 + 1 + 1 + 1 + 1) ls (.int (xs (t + k)) :: rest))) : W p l e room_1 s m args below meth c H locs cells slots Q (F0 m pc ls rest) := by
  obtain ⟨hx, hb, hml, hown, hts⟩ := C
  refine lv_aload_n hx hb d0 rfl (lv_at hl 0 rfl) ?_
  refine lv_iload_n hx hb d1 rfl (lv_at hl 3 rfl) ?_
  refine lv_iconst (v := nI k) hx hb d2 hki ?_
  refine lv_iadd hx hb d3 ?_
  rw [nI_add]
  refine va_sld hx hb hX hbl (A := lA s) (Nat.not_le.mpr hbl) hS (vp_in_nI ht (by omega)) d4 ?_
  rw [nI_clamp (by omega)]
  exact kk
end LC
theorem lw_lt {t L : Nat} (ht : t ≤ 3000) (hL : L ≤ 2049) : (Int32.ofNat L - 4 < nI t) ↔ L < t + 4 := by
  rw [Int32.lt_iff_toInt_lt, Int32.toInt_sub, show (Int32.ofNat L).toInt = (L : Int) from nI_toInt (by omega), show (4 : Int32).toInt = 4 from by decide, bm32 (by omega) (by omega), nI_toInt (by omega)]
  omega
theorem and15 (x : Int32) : ∃ v : Nat, v < 16 ∧ (x &&& 15).toInt = (v : Int) := by
  have h1 : (x &&& 15).toInt = (x.toBitVec &&& 15#32).toInt := rfl
  have h2 : (x.toBitVec &&& 15#32).toNat = x.toBitVec.toNat % 16 := by
    rw [BitVec.toNat_and]
    exact Nat.and_two_pow_sub_one_eq_mod _ 4
  refine ⟨x.toBitVec.toNat % 16, Nat.mod_lt _ (by omega), ?_⟩
  rw [h1, BitVec.toInt_eq_toNat_cond, h2]
  split
  · rfl
  · omega
