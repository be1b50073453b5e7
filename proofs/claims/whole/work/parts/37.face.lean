/-! the class's face over a state -/
section N6
variable {n B : Nat} {h : HP} {s : SS}
theorem C_rec (R : RepC n h s) (O : OkS n B s) (hB7 : B + 7 < 2 ^ 29) {i x l : Nat} {ℓ : LL} (hi : i < n) (hx : x < n) (hL : LOk B ℓ) (hm : ℓ.1 = 11 → ℓ.2.2.1 < 128) (hw : (l, true, ℓ) ∈ s.2.2.2.2.2) : ∃ h', f_X4_receive (some (nd n i)) (nI x) (some l) h = some h' ∧ RepC n h' (recS n i x ℓ s) := by
  obtain ⟨i0, i1, i2, i3⟩ := R.lI hw
  have hk : ∀ k : Nat, k < 100 → (nI ℓ.1 = nI k) = (ℓ.1 = k) := fun k hk => pk_nI_inj (by have := hL.1; omega) (by omega)
  simp only [f_X4_receive, f_X4_receive_169, i0, Option.bind_some, R.obN hi, if_true, hk 1 (by decide), hk 2 (by decide), hk 3 (by decide), hk 4 (by decide), hk 5 (by decide), hk 6 (by decide), hk 7 (by decide), hk 8 (by decide), hk 9 (by decide), hk 10 (by decide), hk 11 (by decide), hk 12 (by decide)]
  unfold recS
  by_cases c : ℓ.1 = 1
  · rw [if_pos c, if_pos c]
    obtain ⟨h1, e1, R1⟩ := C_onPass R O hi hw
    exact ⟨h1, by rw [e1]; rfl, R1⟩
  rw [if_neg c, if_neg c]
  by_cases c : ℓ.1 = 2
  · rw [if_pos c, if_pos c]
    obtain ⟨h1, e1, R1⟩ := C_onOrder R O hi hx hL hw
    exact ⟨h1, by rw [e1]; rfl, R1⟩
  rw [if_neg c, if_neg c]
  by_cases c : ℓ.1 = 3
  · rw [if_pos c, if_pos c]
    obtain ⟨h1, e1, R1⟩ := C_onHeld R O hi hx hL hw
    exact ⟨h1, by rw [e1]; rfl, R1⟩
  rw [if_neg c, if_neg c]
  by_cases c : ℓ.1 = 4
  · rw [if_pos c, if_pos c]
    obtain ⟨h1, e1, R1⟩ := C_onDo R O hi hL hw
    exact ⟨h1, by rw [e1]; rfl, R1⟩
  rw [if_neg c, if_neg c]
  by_cases c : ℓ.1 = 5
  · rw [if_pos c, if_pos c]
    obtain ⟨h1, e1, R1⟩ := C_onElect R O hB7 hi hx
    exact ⟨h1, by rw [e1]; rfl, R1⟩
  rw [if_neg c, if_neg c]
  by_cases c : ℓ.1 = 6
  · rw [if_pos c, if_pos c]
    obtain ⟨h1, e1, R1⟩ := C_onWait R O hi
    exact ⟨h1, by rw [e1]; rfl, R1⟩
  rw [if_neg c, if_neg c]
  by_cases c : ℓ.1 = 7
  · rw [if_pos c, if_pos c]
    obtain ⟨h1, e1, R1⟩ := C_onFlush R O hi hx hL hw
    exact ⟨h1, by rw [e1]; rfl, R1⟩
  rw [if_neg c, if_neg c]
  by_cases c : ℓ.1 = 8
  · rw [if_pos c, if_pos c]
    obtain ⟨h1, e1, R1⟩ := C_onFlushed R O hi hx hL hw
    exact ⟨h1, by rw [e1]; rfl, R1⟩
  rw [if_neg c, if_neg c]
  by_cases c : ℓ.1 = 9
  · rw [if_pos c, if_pos c]
    obtain ⟨h1, e1, R1⟩ := C_onSync R O hi hx hL hw
    exact ⟨h1, by rw [e1]; rfl, R1⟩
  rw [if_neg c, if_neg c]
  by_cases c : ℓ.1 = 10
  · rw [if_pos c, if_pos c]
    obtain ⟨h1, e1, R1⟩ := C_onSynced R O hi hx hL hw
    exact ⟨h1, by rw [e1]; rfl, R1⟩
  rw [if_neg c, if_neg c]
  by_cases c : ℓ.1 = 11
  · rw [if_pos c, if_pos c]
    obtain ⟨h1, e1, R1⟩ := C_onBegin R O hi hL (hm c) hw
    exact ⟨h1, by rw [e1]; rfl, R1⟩
  rw [if_neg c, if_neg c]
  by_cases c : ℓ.1 = 12
  · rw [if_pos c, if_pos c]
    obtain ⟨h1, e1, R1⟩ := R.s8 hi 2
    exact ⟨h1, by rw [e1]; rfl, R1⟩
  rw [if_neg c, if_neg c]
  exact ⟨h, rfl, R⟩
theorem OkS.oRpl (O : OkS n B s) {i y k nr d : Nat} (hk : k ≤ 12) (hnr : nr ≤ B) (hd : d ≤ B) : OkS n B (rpl n i y k nr d s) := OkS.oG ⟨hk, hnr, hd, by simp⟩ _ _ O
theorem OkS.oRec (O : OkS n B s) (hB7 : B + 7 < 2 ^ 29) {i x : Nat} {ℓ : LL} (hi : i < n) (hx : x < n) (hn : n ≤ 7) (hL : LOk B ℓ) (hm : ℓ.1 = 11 → ℓ.2.2.1 < 128) : OkS n (B + 7) (recS n i x ℓ s) := by
  have hB := O.1
  obtain ⟨b20, b21, b14, b11, b15, b0, b1, b9, b8, b4, b16⟩ := O.sml hi
  obtain ⟨b10, b12, b13, b3⟩ := O.num hi
  obtain ⟨l1, l2, l3, l4⟩ := hL
  have U : ∀ {t : SS}, OkS n B t → OkS n (B + 7) t := fun O => O.up (by omega) hB7
  unfold recS
  split
  · unfold onPassS addS
    split
    · rename_i c
      exact U ((O.oPut hi c.2 _).oLook hi)
    · exact U (O.oI (by decide))
  split
  · unfold onOrderS
    split
    · rename_i c
      exact U (OkS.oRpl ((O.oV (f := 20) (i := i) (x := s.1 20 i + 1) (by simp [bnd]; omega)).oW) (by decide) b10 (by omega))
    · exact U O
  split
  · unfold onHeldS
    split
    · exact U (O.oW.oLook hi)
    · exact U O
  split
  · unfold onDoS
    split
    · exact U (O.oT hi)
    · exact U O
  split
  · unfold onElectS
    have Or : OkS n B (rpl n i x 6 0 0 s) := O.oRpl (by decide) (by omega) (by omega)
    split
    · split
      · exact Or.oAsk hB7 hi hn
      · exact U Or
    · exact U O
  split
  · unfold onWaitS
    split
    · exact U (O.oV (by simp [bnd]))
    · exact U O
  split
  · unfold onFlushS
    split
    · exact U O
    · exact U (OkS.oG (ℓ := (8, ℓ.2.1, s.1 13 i, rowL (s.2.1 0 i) (s.1 20 i))) ⟨by show 8 ≤ 12; decide, l2, b13, by show (rowL _ _).length ≤ 60; rw [rowL_len]; exact b20⟩ _ _ (((O.oV (f := 12) (i := i) (x := ℓ.2.1) (by simp [bnd]; omega)).oV (f := 16) (i := i) (x := x + 1) (by simp [bnd]; omega)).oV (f := 9) (i := i) (x := 0) (by simp [bnd])))
  split
  · unfold onFlushedS
    split
    · have O1 := O.oWgh (i := i) hx hn ⟨l1, l2, l3, l4⟩
      have hc := (bt_k (O1.sml hi).2.2.2.2.2.2.1 (show x < 7 by omega)).1.2
      exact U (O1.oV (f := 1) (i := i) (by simp [bnd]; omega))
    · exact U O
  split
  · unfold onSyncS
    split
    · exact U (OkS.oRpl ((O.oBec l4).oV (f := 13) (i := i) (x := s.1 12 i) (by simp [bnd]; omega)) (by decide) b12 (by omega))
    · exact U O
  split
  · unfold onSyncedS
    split
    · have hc := (bt_k b1 (show x < 7 by omega)).1.2
      exact U (O.oV (f := 1) (i := i) (by simp [bnd]; omega))
    · exact U O
  split
  · rename_i c
    unfold onBeginS
    split
    · exact U (O.oBeg hi (hm c))
    · exact U O
  split
  · exact U (O.oV (by simp [bnd]))
  · exact U O
end N6
