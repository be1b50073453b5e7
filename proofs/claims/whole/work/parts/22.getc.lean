/-! what the class reads in a heap that holds a state, and what it writes -/
section RG
variable {n : Nat} {h : HP} {s : SS}
theorem RepC.g0 (R : RepC n h s) {i : Nat} (hi : i < n) : hz_gI h (some (nd n i + 5)) 0 0 = some (nI (s.1 0 i)) := R.gV hi 0 rfl rfl rfl rfl
theorem RepC.v0 (R : RepC n h s) {i v : Nat} (hi : i < n) (hv : s.1 0 i = v) : hz_gI h (some (nd n i + 5)) 0 0 = some (nI v) := by rw [← hv]; exact R.g0 hi
theorem RepC.s0 (R : RepC n h s) {i : Nat} (hi : i < n) (x : Nat) : ∃ h', hz_pF h (some (nd n i + 5)) 0 0 (.int (nI x)) = some h' ∧ RepC n h' (up2 s.1 0 i x, s.2) := R.sV hi 0 rfl rfl rfl rfl x
theorem RepC.g1 (R : RepC n h s) {i : Nat} (hi : i < n) : hz_gI h (some (nd n i + 5)) 0 1 = some (nI (s.1 1 i)) := R.gV hi 1 rfl rfl rfl rfl
theorem RepC.v1 (R : RepC n h s) {i v : Nat} (hi : i < n) (hv : s.1 1 i = v) : hz_gI h (some (nd n i + 5)) 0 1 = some (nI v) := by rw [← hv]; exact R.g1 hi
theorem RepC.s1 (R : RepC n h s) {i : Nat} (hi : i < n) (x : Nat) : ∃ h', hz_pF h (some (nd n i + 5)) 0 1 (.int (nI x)) = some h' ∧ RepC n h' (up2 s.1 1 i x, s.2) := R.sV hi 1 rfl rfl rfl rfl x
theorem RepC.g3 (R : RepC n h s) {i : Nat} (hi : i < n) : hz_gI h (some (nd n i + 5)) 0 3 = some (nI (s.1 3 i)) := R.gV hi 3 rfl rfl rfl rfl
theorem RepC.v3 (R : RepC n h s) {i v : Nat} (hi : i < n) (hv : s.1 3 i = v) : hz_gI h (some (nd n i + 5)) 0 3 = some (nI v) := by rw [← hv]; exact R.g3 hi
theorem RepC.s3 (R : RepC n h s) {i : Nat} (hi : i < n) (x : Nat) : ∃ h', hz_pF h (some (nd n i + 5)) 0 3 (.int (nI x)) = some h' ∧ RepC n h' (up2 s.1 3 i x, s.2) := R.sV hi 3 rfl rfl rfl rfl x
theorem RepC.g4 (R : RepC n h s) {i : Nat} (hi : i < n) : hz_gI h (some (nd n i + 5)) 0 4 = some (nI (s.1 4 i)) := R.gV hi 4 rfl rfl rfl rfl
theorem RepC.v4 (R : RepC n h s) {i v : Nat} (hi : i < n) (hv : s.1 4 i = v) : hz_gI h (some (nd n i + 5)) 0 4 = some (nI v) := by rw [← hv]; exact R.g4 hi
theorem RepC.s4 (R : RepC n h s) {i : Nat} (hi : i < n) (x : Nat) : ∃ h', hz_pF h (some (nd n i + 5)) 0 4 (.int (nI x)) = some h' ∧ RepC n h' (up2 s.1 4 i x, s.2) := R.sV hi 4 rfl rfl rfl rfl x
theorem RepC.g8 (R : RepC n h s) {i : Nat} (hi : i < n) : hz_gI h (some (nd n i)) 4 8 = some (nI (s.1 8 i)) := R.gV hi 8 rfl rfl rfl rfl
theorem RepC.v8 (R : RepC n h s) {i v : Nat} (hi : i < n) (hv : s.1 8 i = v) : hz_gI h (some (nd n i)) 4 8 = some (nI v) := by rw [← hv]; exact R.g8 hi
theorem RepC.s8 (R : RepC n h s) {i : Nat} (hi : i < n) (x : Nat) : ∃ h', hz_pF h (some (nd n i)) 4 8 (.int (nI x)) = some h' ∧ RepC n h' (up2 s.1 8 i x, s.2) := R.sV hi 8 rfl rfl rfl rfl x
theorem RepC.g9 (R : RepC n h s) {i : Nat} (hi : i < n) : hz_gI h (some (nd n i)) 4 9 = some (nI (s.1 9 i)) := R.gV hi 9 rfl rfl rfl rfl
theorem RepC.v9 (R : RepC n h s) {i v : Nat} (hi : i < n) (hv : s.1 9 i = v) : hz_gI h (some (nd n i)) 4 9 = some (nI v) := by rw [← hv]; exact R.g9 hi
theorem RepC.s9 (R : RepC n h s) {i : Nat} (hi : i < n) (x : Nat) : ∃ h', hz_pF h (some (nd n i)) 4 9 (.int (nI x)) = some h' ∧ RepC n h' (up2 s.1 9 i x, s.2) := R.sV hi 9 rfl rfl rfl rfl x
theorem RepC.g10 (R : RepC n h s) {i : Nat} (hi : i < n) : hz_gI h (some (nd n i)) 4 10 = some (nI (s.1 10 i)) := R.gV hi 10 rfl rfl rfl rfl
theorem RepC.v10 (R : RepC n h s) {i v : Nat} (hi : i < n) (hv : s.1 10 i = v) : hz_gI h (some (nd n i)) 4 10 = some (nI v) := by rw [← hv]; exact R.g10 hi
theorem RepC.s10 (R : RepC n h s) {i : Nat} (hi : i < n) (x : Nat) : ∃ h', hz_pF h (some (nd n i)) 4 10 (.int (nI x)) = some h' ∧ RepC n h' (up2 s.1 10 i x, s.2) := R.sV hi 10 rfl rfl rfl rfl x
theorem RepC.g11 (R : RepC n h s) {i : Nat} (hi : i < n) : hz_gI h (some (nd n i)) 4 11 = some (nI (s.1 11 i)) := R.gV hi 11 rfl rfl rfl rfl
theorem RepC.v11 (R : RepC n h s) {i v : Nat} (hi : i < n) (hv : s.1 11 i = v) : hz_gI h (some (nd n i)) 4 11 = some (nI v) := by rw [← hv]; exact R.g11 hi
theorem RepC.s11 (R : RepC n h s) {i : Nat} (hi : i < n) (x : Nat) : ∃ h', hz_pF h (some (nd n i)) 4 11 (.int (nI x)) = some h' ∧ RepC n h' (up2 s.1 11 i x, s.2) := R.sV hi 11 rfl rfl rfl rfl x
theorem RepC.g12 (R : RepC n h s) {i : Nat} (hi : i < n) : hz_gI h (some (nd n i)) 4 12 = some (nI (s.1 12 i)) := R.gV hi 12 rfl rfl rfl rfl
theorem RepC.v12 (R : RepC n h s) {i v : Nat} (hi : i < n) (hv : s.1 12 i = v) : hz_gI h (some (nd n i)) 4 12 = some (nI v) := by rw [← hv]; exact R.g12 hi
theorem RepC.s12 (R : RepC n h s) {i : Nat} (hi : i < n) (x : Nat) : ∃ h', hz_pF h (some (nd n i)) 4 12 (.int (nI x)) = some h' ∧ RepC n h' (up2 s.1 12 i x, s.2) := R.sV hi 12 rfl rfl rfl rfl x
theorem RepC.g13 (R : RepC n h s) {i : Nat} (hi : i < n) : hz_gI h (some (nd n i)) 4 13 = some (nI (s.1 13 i)) := R.gV hi 13 rfl rfl rfl rfl
theorem RepC.v13 (R : RepC n h s) {i v : Nat} (hi : i < n) (hv : s.1 13 i = v) : hz_gI h (some (nd n i)) 4 13 = some (nI v) := by rw [← hv]; exact R.g13 hi
theorem RepC.s13 (R : RepC n h s) {i : Nat} (hi : i < n) (x : Nat) : ∃ h', hz_pF h (some (nd n i)) 4 13 (.int (nI x)) = some h' ∧ RepC n h' (up2 s.1 13 i x, s.2) := R.sV hi 13 rfl rfl rfl rfl x
theorem RepC.g14 (R : RepC n h s) {i : Nat} (hi : i < n) : hz_gI h (some (nd n i)) 4 14 = some (nI (s.1 14 i)) := R.gV hi 14 rfl rfl rfl rfl
theorem RepC.v14 (R : RepC n h s) {i v : Nat} (hi : i < n) (hv : s.1 14 i = v) : hz_gI h (some (nd n i)) 4 14 = some (nI v) := by rw [← hv]; exact R.g14 hi
theorem RepC.s14 (R : RepC n h s) {i : Nat} (hi : i < n) (x : Nat) : ∃ h', hz_pF h (some (nd n i)) 4 14 (.int (nI x)) = some h' ∧ RepC n h' (up2 s.1 14 i x, s.2) := R.sV hi 14 rfl rfl rfl rfl x
theorem RepC.g15 (R : RepC n h s) {i : Nat} (hi : i < n) : hz_gI h (some (nd n i)) 4 15 = some (nI (s.1 15 i)) := R.gV hi 15 rfl rfl rfl rfl
theorem RepC.v15 (R : RepC n h s) {i v : Nat} (hi : i < n) (hv : s.1 15 i = v) : hz_gI h (some (nd n i)) 4 15 = some (nI v) := by rw [← hv]; exact R.g15 hi
theorem RepC.s15 (R : RepC n h s) {i : Nat} (hi : i < n) (x : Nat) : ∃ h', hz_pF h (some (nd n i)) 4 15 (.int (nI x)) = some h' ∧ RepC n h' (up2 s.1 15 i x, s.2) := R.sV hi 15 rfl rfl rfl rfl x
theorem RepC.g20 (R : RepC n h s) {i : Nat} (hi : i < n) : hz_gI h (some (nd n i + 1)) 6 1 = some (nI (s.1 20 i)) := R.gV hi 20 rfl rfl rfl rfl
theorem RepC.v20 (R : RepC n h s) {i v : Nat} (hi : i < n) (hv : s.1 20 i = v) : hz_gI h (some (nd n i + 1)) 6 1 = some (nI v) := by rw [← hv]; exact R.g20 hi
theorem RepC.s20 (R : RepC n h s) {i : Nat} (hi : i < n) (x : Nat) : ∃ h', hz_pF h (some (nd n i + 1)) 6 1 (.int (nI x)) = some h' ∧ RepC n h' (up2 s.1 20 i x, s.2) := R.sV hi 20 rfl rfl rfl rfl x
theorem RepC.g21 (R : RepC n h s) {i : Nat} (hi : i < n) : hz_gI h (some (nd n i + 3)) 3 1 = some (nI (s.1 21 i)) := R.gV hi 21 rfl rfl rfl rfl
theorem RepC.v21 (R : RepC n h s) {i v : Nat} (hi : i < n) (hv : s.1 21 i = v) : hz_gI h (some (nd n i + 3)) 3 1 = some (nI v) := by rw [← hv]; exact R.g21 hi
theorem RepC.s21 (R : RepC n h s) {i : Nat} (hi : i < n) (x : Nat) : ∃ h', hz_pF h (some (nd n i + 3)) 3 1 (.int (nI x)) = some h' ∧ RepC n h' (up2 s.1 21 i x, s.2) := R.sV hi 21 rfl rfl rfl rfl x
theorem RC.in {c : Nat} {kd ln : Nat → Nat} {Z : Nat → Nat → Int32} {P : Nat → Nat → Option Nat} {A : Nat → Nat → Int32} {Q : Nat → List Nat} (R : RC n c kd ln Z P A Q s) {a : Nat} (h1 : 1 ≤ a) (h2 : a < bsA n) : 1 ≤ a ∧ a ≤ c := ⟨h1, by have := R.1.2.1; omega⟩
theorem bs_ge (n : Nat) : 6 + n * n ≤ bsA n := by
  unfold bsA
  omega
theorem RepC.r2 (R : RepC n h s) {i : Nat} (hi : i < n) : hz_gR h (some (nd n i)) 4 2 = some (some 3) := by
  obtain ⟨c, kd, ln, Z, P, A, Q, rfl, r⟩ := R
  have b1 := nd_ge n i
  have b2 := nd_lt hi (d := 0) (by omega)
  obtain ⟨⟨a1, -⟩, ⟨p2, p3, p4, p5, p6, p7⟩, -⟩ := r.1.2.2.2.2.2.2.2 i hi
  rw [hk_gR (r.in (by omega) (by omega)) a1 (by decide) (by decide), p2]
theorem RepC.r3 (R : RepC n h s) {i : Nat} (hi : i < n) : hz_gR h (some (nd n i)) 4 3 = some (some 2) := by
  obtain ⟨c, kd, ln, Z, P, A, Q, rfl, r⟩ := R
  have b1 := nd_ge n i
  have b2 := nd_lt hi (d := 0) (by omega)
  obtain ⟨⟨a1, -⟩, ⟨p2, p3, p4, p5, p6, p7⟩, -⟩ := r.1.2.2.2.2.2.2.2 i hi
  rw [hk_gR (r.in (by omega) (by omega)) a1 (by decide) (by decide), p3]
theorem RepC.r4 (R : RepC n h s) {i : Nat} (hi : i < n) : hz_gR h (some (nd n i)) 4 4 = some (some (nd n i + 1)) := by
  obtain ⟨c, kd, ln, Z, P, A, Q, rfl, r⟩ := R
  have b1 := nd_ge n i
  have b2 := nd_lt hi (d := 0) (by omega)
  obtain ⟨⟨a1, -⟩, ⟨p2, p3, p4, p5, p6, p7⟩, -⟩ := r.1.2.2.2.2.2.2.2 i hi
  rw [hk_gR (r.in (by omega) (by omega)) a1 (by decide) (by decide), p4]
theorem RepC.r5 (R : RepC n h s) {i : Nat} (hi : i < n) : hz_gR h (some (nd n i)) 4 5 = some (some (nd n i + 3)) := by
  obtain ⟨c, kd, ln, Z, P, A, Q, rfl, r⟩ := R
  have b1 := nd_ge n i
  have b2 := nd_lt hi (d := 0) (by omega)
  obtain ⟨⟨a1, -⟩, ⟨p2, p3, p4, p5, p6, p7⟩, -⟩ := r.1.2.2.2.2.2.2.2 i hi
  rw [hk_gR (r.in (by omega) (by omega)) a1 (by decide) (by decide), p5]
theorem RepC.r6 (R : RepC n h s) {i : Nat} (hi : i < n) : hz_gR h (some (nd n i)) 4 6 = some (some (nd n i + 5)) := by
  obtain ⟨c, kd, ln, Z, P, A, Q, rfl, r⟩ := R
  have b1 := nd_ge n i
  have b2 := nd_lt hi (d := 0) (by omega)
  obtain ⟨⟨a1, -⟩, ⟨p2, p3, p4, p5, p6, p7⟩, -⟩ := r.1.2.2.2.2.2.2.2 i hi
  rw [hk_gR (r.in (by omega) (by omega)) a1 (by decide) (by decide), p6]
theorem RepC.r7 (R : RepC n h s) {i : Nat} (hi : i < n) : hz_gR h (some (nd n i)) 4 7 = some (some (nd n i + 6)) := by
  obtain ⟨c, kd, ln, Z, P, A, Q, rfl, r⟩ := R
  have b1 := nd_ge n i
  have b2 := nd_lt hi (d := 0) (by omega)
  obtain ⟨⟨a1, -⟩, ⟨p2, p3, p4, p5, p6, p7⟩, -⟩ := r.1.2.2.2.2.2.2.2 i hi
  rw [hk_gR (r.in (by omega) (by omega)) a1 (by decide) (by decide), p7]
theorem RepC.row (R : RepC n h s) {i : Nat} (hi : i < n) : hz_gR h (some (nd n i + 1)) 6 0 = some (some (nd n i + 2)) := by
  obtain ⟨c, kd, ln, Z, P, A, Q, rfl, r⟩ := R
  have b1 := nd_ge n i
  have b2 := nd_lt hi (d := 1) (by omega)
  obtain ⟨-, -, ⟨a1, p, -⟩, -⟩ := r.1.2.2.2.2.2.2.2 i hi
  rw [hk_gR (r.in (by omega) (by omega)) a1 (by decide) (by decide), p]
theorem RepC.mac (R : RepC n h s) {i : Nat} (hi : i < n) : hz_gR h (some (nd n i + 3)) 3 0 = some (some (nd n i + 4)) := by
  obtain ⟨c, kd, ln, Z, P, A, Q, rfl, r⟩ := R
  have b1 := nd_ge n i
  have b2 := nd_lt hi (d := 3) (by omega)
  obtain ⟨-, -, -, ⟨a1, p, -⟩, -⟩ := r.1.2.2.2.2.2.2.2 i hi
  rw [hk_gR (r.in (by omega) (by omega)) a1 (by decide) (by decide), p]
theorem RepC.obN (R : RepC n h s) {i : Nat} (hi : i < n) : hz_ob h (some (nd n i)) 4 = true := by
  obtain ⟨c, kd, ln, Z, P, A, Q, rfl, r⟩ := R
  have b1 := nd_ge n i
  have b2 := nd_lt hi (d := 0) (by omega)
  obtain ⟨⟨a1, -⟩, -⟩ := r.1.2.2.2.2.2.2.2 i hi
  exact hk_ob (r.in (by omega) (by omega)) a1 (by decide)
theorem RepC.obR (R : RepC n h s) {i : Nat} (hi : i < n) : hz_ob h (some (nd n i + 1)) 6 = true := by
  obtain ⟨c, kd, ln, Z, P, A, Q, rfl, r⟩ := R
  have b1 := nd_ge n i
  have b2 := nd_lt hi (d := 1) (by omega)
  obtain ⟨-, -, ⟨a1, -⟩, -⟩ := r.1.2.2.2.2.2.2.2 i hi
  exact hk_ob (r.in (by omega) (by omega)) a1 (by decide)
theorem RepC.obM (R : RepC n h s) {i : Nat} (hi : i < n) : hz_ob h (some (nd n i + 3)) 3 = true := by
  obtain ⟨c, kd, ln, Z, P, A, Q, rfl, r⟩ := R
  have b1 := nd_ge n i
  have b2 := nd_lt hi (d := 3) (by omega)
  obtain ⟨-, -, -, ⟨a1, -⟩, -⟩ := r.1.2.2.2.2.2.2.2 i hi
  exact hk_ob (r.in (by omega) (by omega)) a1 (by decide)
theorem RepC.obC (R : RepC n h s) {i : Nat} (hi : i < n) : hz_ob h (some (nd n i + 5)) 0 = true := by
  obtain ⟨c, kd, ln, Z, P, A, Q, rfl, r⟩ := R
  have b1 := nd_ge n i
  have b2 := nd_lt hi (d := 5) (by omega)
  obtain ⟨-, -, -, -, a1, -⟩ := r.1.2.2.2.2.2.2.2 i hi
  exact hk_ob (r.in (by omega) (by omega)) a1 (by decide)
theorem RepC.c0 (R : RepC n h s) : hz_gR h (some 1) 8 0 = some (some 2) := by
  obtain ⟨c, kd, ln, Z, P, A, Q, rfl, r⟩ := R
  have b1 := bs_ge n
  obtain ⟨a0, p0, p1, p2⟩ := r.1.2.2.1
  rw [hk_gR (r.in (by omega) (by omega)) a0 (by decide) (by decide), p0]
theorem RepC.c1 (R : RepC n h s) : hz_gR h (some 1) 8 1 = some (some 3) := by
  obtain ⟨c, kd, ln, Z, P, A, Q, rfl, r⟩ := R
  have b1 := bs_ge n
  obtain ⟨a0, p0, p1, p2⟩ := r.1.2.2.1
  rw [hk_gR (r.in (by omega) (by omega)) a0 (by decide) (by decide), p1]
theorem RepC.c2 (R : RepC n h s) : hz_gR h (some 1) 8 2 = some (some (5 + n * n)) := by
  obtain ⟨c, kd, ln, Z, P, A, Q, rfl, r⟩ := R
  have b1 := bs_ge n
  obtain ⟨a0, p0, p1, p2⟩ := r.1.2.2.1
  rw [hk_gR (r.in (by omega) (by omega)) a0 (by decide) (by decide), p2]
theorem RepC.obT (R : RepC n h s) : hz_ob h (some 2) 7 = true := by
  obtain ⟨c, kd, ln, Z, P, A, Q, rfl, r⟩ := R
  have b1 := bs_ge n
  exact hk_ob (r.in (by omega) (by omega)) r.1.2.2.2.1 (by decide)
theorem RepC.obP (R : RepC n h s) : hz_ob h (some 3) 5 = true := by
  obtain ⟨c, kd, ln, Z, P, A, Q, rfl, r⟩ := R
  have b1 := bs_ge n
  exact hk_ob (r.in (by omega) (by omega)) r.1.2.2.2.2.1.1 (by decide)
theorem RepC.obG (R : RepC n h s) : hz_ob h (some 1) 8 = true := by
  obtain ⟨c, kd, ln, Z, P, A, Q, rfl, r⟩ := R
  have b1 := bs_ge n
  exact hk_ob (r.in (by omega) (by omega)) r.1.2.2.1.1 (by decide)
theorem RepC.obH (R : RepC n h s) {e : Nat} (he : e < n * n) : hz_ob h (some (5 + e)) 1 = true := by
  obtain ⟨c, kd, ln, Z, P, A, Q, rfl, r⟩ := R
  have b1 := bs_ge n
  exact hk_ob (r.in (by omega) (by omega)) (r.1.2.2.2.2.2.1.2.2 e he).2 (by decide)
theorem RepC.id (R : RepC n h s) {i : Nat} (hi : i < n) : hz_gI h (some (nd n i)) 4 0 = some (nI i) := by
  obtain ⟨c, kd, ln, Z, P, A, Q, rfl, r⟩ := R
  have b1 := nd_ge n i
  have b2 := nd_lt hi (d := 0) (by omega)
  obtain ⟨⟨a1, a2, a3⟩, -⟩ := r.1.2.2.2.2.2.2.2 i hi
  rw [hk_gI (r.in (by omega) (by omega)) a1 (by decide) (by decide), a2]
theorem RepC.gs (R : RepC n h s) {i : Nat} (hi : i < n) : hz_gI h (some (nd n i)) 4 1 = some (nI n) := by
  obtain ⟨c, kd, ln, Z, P, A, Q, rfl, r⟩ := R
  have b1 := nd_ge n i
  have b2 := nd_lt hi (d := 0) (by omega)
  obtain ⟨⟨a1, a2, a3⟩, -⟩ := r.1.2.2.2.2.2.2.2 i hi
  rw [hk_gI (r.in (by omega) (by omega)) a1 (by decide) (by decide), a3]
theorem RepC.g16 (R : RepC n h s) {i : Nat} (hi : i < n) : hz_gI h (some (nd n i)) 4 16 = some (nI (s.1 16 i) + (-1)) := by
  obtain ⟨c, kd, ln, Z, P, A, Q, rfl, r⟩ := R
  have b1 := nd_ge n i
  have b2 := nd_lt hi (d := 0) (by omega)
  obtain ⟨⟨a1, a2, a3⟩, -⟩ := r.1.2.2.2.2.2.2.2 i hi
  rw [hk_gI (r.in (by omega) (by omega)) a1 (by decide) (by decide), r.2.2.1 i hi]
theorem RepC.p0 (R : RepC n h s) : hz_gI h (some 3) 5 0 = some (nI n) := by
  obtain ⟨c, kd, ln, Z, P, A, Q, rfl, r⟩ := R
  have b1 := bs_ge n
  obtain ⟨a0, a1, p1, p2⟩ := r.1.2.2.2.2.1
  rw [hk_gI (r.in (by omega) (by omega)) a0 (by decide) (by decide), a1]
theorem RepC.p1 (R : RepC n h s) : hz_gR h (some 3) 5 1 = some (some 2) := by
  obtain ⟨c, kd, ln, Z, P, A, Q, rfl, r⟩ := R
  have b1 := bs_ge n
  obtain ⟨a0, a1, p1, p2⟩ := r.1.2.2.2.2.1
  rw [hk_gR (r.in (by omega) (by omega)) a0 (by decide) (by decide), p1]
theorem RepC.p2 (R : RepC n h s) : hz_gR h (some 3) 5 2 = some (some 4) := by
  obtain ⟨c, kd, ln, Z, P, A, Q, rfl, r⟩ := R
  have b1 := bs_ge n
  obtain ⟨a0, a1, p1, p2⟩ := r.1.2.2.2.2.1
  rw [hk_gR (r.in (by omega) (by omega)) a0 (by decide) (by decide), p2]
theorem RepC.p3 (R : RepC n h s) : hz_gI h (some 3) 5 3 = some (nI (s.2.2.2.2.1 5)) := by
  obtain ⟨c, kd, ln, Z, P, A, Q, rfl, r⟩ := R
  have b1 := bs_ge n
  obtain ⟨a0, a1, p1, p2⟩ := r.1.2.2.2.2.1
  rw [hk_gI (r.in (by omega) (by omega)) a0 (by decide) (by decide), r.2.2.2.2.2.1]
theorem RepC.chs (R : RepC n h s) {e : Nat} (he : e < n * n) : hz_aR h (some 4) 2 (nI e) = some (some (5 + e)) := by
  obtain ⟨c, kd, ln, Z, P, A, Q, rfl, r⟩ := R
  have b1 := bs_ge n
  have b2 : n * n ≤ 7 * 7 := Nat.mul_le_mul r.1.1.2 r.1.1.2
  obtain ⟨a0, a1, p⟩ := r.1.2.2.2.2.2.1
  rw [hk_aR 2 (Or.inl rfl) (r.in (by omega) (by omega)) a0 (by omega) (by omega), (p e he).1]
theorem RepC.nds (R : RepC n h s) {i : Nat} (hi : i < n) : hz_aR h (some (5 + n * n)) 3 (nI i) = some (some (nd n i)) := by
  obtain ⟨c, kd, ln, Z, P, A, Q, rfl, r⟩ := R
  have b1 := bs_ge n
  have b2 := r.1.1.2
  obtain ⟨a0, a1, p⟩ := r.1.2.2.2.2.2.2.1
  rw [hk_aR 3 (Or.inr rfl) (r.in (by omega) (by omega)) a0 (by omega) (by omega), p i hi]
theorem RepC.ndl (R : RepC n h s) : hz_aL h (some (5 + n * n)) = some (nI n) := by
  obtain ⟨c, kd, ln, Z, P, A, Q, rfl, r⟩ := R
  have b1 := bs_ge n
  obtain ⟨a0, a1, p⟩ := r.1.2.2.2.2.2.2.1
  rw [hk_aL (r.in (by omega) (by omega)) (by omega), a1]
theorem RepC.tl (R : RepC n h s) (t : Nat) (ht : t < 5) : hz_gI h (some 2) 7 t = some (nI (s.2.2.2.2.1 t)) := by
  obtain ⟨c, kd, ln, Z, P, A, Q, rfl, r⟩ := R
  have b1 := bs_ge n
  have : hm_int 7 t = true := by
    match t, ht with
    | 0, _ => rfl
    | 1, _ => rfl
    | 2, _ => rfl
    | 3, _ => rfl
    | 4, _ => rfl
  rw [hk_gI (r.in (by omega) (by omega)) r.1.2.2.2.1 (by decide) this, r.2.2.2.2.1 t ht]
theorem RC.wk {c : Nat} {kd ln : Nat → Nat} {Z : Nat → Nat → Int32} {P : Nat → Nat → Option Nat} {A : Nat → Nat → Int32} {Q : Nat → List Nat} (R : RC n c kd ln Z P A Q s) {i : Nat} (hi : i < n) (g : Nat) (hg : g < 3) : (1 ≤ nd n i + wo g ∧ nd n i + wo g ≤ c) ∧ kd (nd n i + wo g) = 10 ∧ ln (nd n i + wo g) = wl n g := by
  have b1 := nd_ge n i
  have b2 := nd_lt hi (d := wo g) (by unfold wo; omega)
  obtain ⟨-, -, ⟨-, -, a1, a2⟩, ⟨-, -, a3, a4⟩, -, a5, a6⟩ := R.1.2.2.2.2.2.2.2 i hi
  refine ⟨R.in (by omega) b2, ?_⟩
  match g, hg with
  | 0, _ => exact ⟨a1, a2⟩
  | 1, _ => exact ⟨a3, a4⟩
  | 2, _ => exact ⟨a5, a6⟩
theorem wl_lt {g : Nat} (hn : n ≤ 7) : wl n g < 2 ^ 31 := by
  unfold wl
  split
  · omega
  · split <;> omega
theorem RepC.gW (R : RepC n h s) {i : Nat} (hi : i < n) (g : Nat) (hg : g < 3) {a : Nat} (ha : a = nd n i + wo g) {j : Nat} (hj : j < wl n g) : hz_aI h (some a) 0 (nI j) = some (s.2.1 g i j) := by
  subst ha
  obtain ⟨c, kd, ln, Z, P, A, Q, rfl, r⟩ := R
  obtain ⟨k1, k2, k3⟩ := r.wk hi g hg
  rw [hk_aI 0 (by decide) k1 k2 (by rw [k3]; exact hj) (by rw [k3]; exact wl_lt r.1.1.2), r.2.2.2.1 g hg i hi]
theorem RepC.gWl (R : RepC n h s) {i : Nat} (hi : i < n) (g : Nat) (hg : g < 3) {a : Nat} (ha : a = nd n i + wo g) : hz_aL h (some a) = some (nI (wl n g)) := by
  subst ha
  obtain ⟨c, kd, ln, Z, P, A, Q, rfl, r⟩ := R
  obtain ⟨k1, k2, k3⟩ := r.wk hi g hg
  rw [hk_aL k1 (by omega), k3]
theorem wo_inj {g g' : Nat} (h : wo g = wo g') : g = g' := by
  unfold wo at h
  omega
def up3 (W : Nat → Nat → Nat → Int32) (g i : Nat) (f : Nat → Int32) : Nat → Nat → Nat → Int32 := up2 W g i f
theorem RC.arr {c : Nat} {kd ln : Nat → Nat} {Z : Nat → Nat → Int32} {P : Nat → Nat → Option Nat} {A A' : Nat → Nat → Int32} {Q : Nat → List Nat} {W : Nat → Nat → Nat → Int32} (R : RC n c kd ln Z P A Q s) (h1 : ∀ g : Nat, g < 3 → ∀ i : Nat, i < n → A' (nd n i + wo g) = W g i) (h2 : ∀ b : Nat, bsA n ≤ b → A' b = A b) : RC n c kd ln Z P A' Q (s.1, W, s.2.2) := by
  obtain ⟨r1, r2, r3, r4, r5, r6, r7, r8, r9, r10⟩ := R
  have hA : ∀ b xs, IsA n c kd ln A b xs → IsA n c kd ln A' b xs := fun b xs q => by
    rcases q with q | ⟨q1, q2, q3, q4, q5, q6⟩
    · exact Or.inl q
    · exact Or.inr ⟨q1, q2, q3, q4, q5, fun j hj => by rw [h2 b q1]; exact q6 j hj⟩
  have hL : ∀ l x, IsL n c kd ln Z P A l x → IsL n c kd ln Z P A' l x := fun l x ⟨e1, e2, e3, e4, e5, e6, b, e7, e8⟩ => ⟨e1, e2, e3, e4, e5, e6, b, e7, hA _ _ e8⟩
  refine ⟨r1, r2, r3, h1, r5, r6, fun i hi => ?_, fun x y hx hy => ?_, r9, fun w hw => ⟨fun e => hL _ _ ((r10 w hw).1 e), fun e => hA _ _ ((r10 w hw).2 e)⟩⟩
  · obtain ⟨b, b1, b2⟩ := r7 i hi
    exact ⟨b, b1, hA _ _ b2⟩
  · obtain ⟨c1, c2, c3, c4, c5⟩ := r8 x y hx hy
    refine ⟨c1, c2, c3, c4, fun j l hj => ?_⟩
    obtain ⟨d1, z, d2, d3⟩ := c5 j l hj
    exact ⟨d1, z, d2, hL _ _ d3⟩
theorem RepC.sW (R : RepC n h s) {i : Nat} (hi : i < n) (g : Nat) (hg : g < 3) {a : Nat} (ha : a = nd n i + wo g) {j : Nat} (hj : j < wl n g) (x : Int32) : ∃ h', hz_aS h (some a) 0 (nI j) x = some h' ∧ RepC n h' (s.1, up3 s.2.1 g i (va_up (s.2.1 g i) j x), s.2.2) := by
  subst ha
  obtain ⟨c, kd, ln, Z, P, A, Q, rfl, r⟩ := R
  obtain ⟨k1, k2, k3⟩ := r.wk hi g hg
  have b2 := nd_lt hi (d := wo g) (by unfold wo; omega)
  refine ⟨_, hk_aS 0 (by decide) k1 k2 (by rw [k3]; exact hj) (by rw [k3]; exact wl_lt r.1.1.2) x, c, kd, ln, Z, P, _, Q, rfl, r.arr (W := up3 s.2.1 g i (va_up (s.2.1 g i) j x)) (fun g' hg' i' hi' => ?_) (fun b hb => up2_row (by omega))⟩
  by_cases e : nd n i' + wo g' = nd n i + wo g
  · obtain ⟨e1, e2⟩ := nd_inj e (by unfold wo; omega) (by unfold wo; omega)
    subst e1
    have e3 := wo_inj e2
    subst e3
    rw [up2_at, r.2.2.2.1 g' hg i' hi']
    simp [up3, up2, hz_nar]
  · have e2 : ¬ (g' = g ∧ i' = i) := fun q => e (by rw [q.1, q.2])
    rw [up2_row e, r.2.2.2.1 g' hg' i' hi']
    simp only [up3, up2, if_neg e2]
theorem RepC.sT (R : RepC n h s) (t : Nat) (ht : t < 5) (x : Nat) : ∃ h', hz_pF h (some 2) 7 t (.int (nI x)) = some h' ∧ RepC n h' (s.1, s.2.1, s.2.2.1, s.2.2.2.1, va_up s.2.2.2.2.1 t x, s.2.2.2.2.2) := by
  obtain ⟨c, kd, ln, Z, P, A, Q, rfl, r⟩ := R
  have b1 := bs_ge n
  have hn4 : 4 ≤ n * n := Nat.mul_le_mul r.1.1.1 r.1.1.1
  have hi7 : hm_int 7 t = true := by
    match t, ht with
    | 0, _ => rfl
    | 1, _ => rfl
    | 2, _ => rfl
    | 3, _ => rfl
    | 4, _ => rfl
  refine ⟨_, hk_pFI (r.in (by omega) (by omega)) r.1.2.2.2.1 (by decide) hi7 _, c, kd, ln, _, P, A, Q, rfl, r.ints (V := s.1) (cn := va_up s.2.2.2.2.1 t x) (up2_a (by omega)) (fun j hj => ?_) (fun g hg j hj => ?_) (fun j hj => ?_) (fun u hu => ?_) ?_ (fun e he => ?_) (fun l hl => ?_)⟩
  · have := nd_ge n j
    exact ⟨up2_a (by omega), up2_a (by omega)⟩
  · have := nd_ge n j
    rw [up2_a (by omega)]
    exact r.2.1 g hg j hj
  · have := nd_ge n j
    rw [up2_a (by omega)]
    exact r.2.2.1 j hj
  · by_cases e : u = t
    · subst e
      simp [up2, va_up]
    · rw [up2_k e, r.2.2.2.2.1 u hu]
      simp [va_up, e]
  · rw [up2_a (by omega), r.2.2.2.2.2.1]
    have : ¬ 5 = t := by omega
    simp [va_up, this]
  · rw [up2_a (by omega)]
  · rw [up2_row (by omega)]
theorem RepC.sF (R : RepC n h s) (x : Nat) : ∃ h', hz_pF h (some 3) 5 3 (.int (nI x)) = some h' ∧ RepC n h' (s.1, s.2.1, s.2.2.1, s.2.2.2.1, va_up s.2.2.2.2.1 5 x, s.2.2.2.2.2) := by
  obtain ⟨c, kd, ln, Z, P, A, Q, rfl, r⟩ := R
  have b1 := bs_ge n
  have hn4 : 4 ≤ n * n := Nat.mul_le_mul r.1.1.1 r.1.1.1
  refine ⟨_, hk_pFI (r.in (by omega) (by omega)) r.1.2.2.2.2.1.1 (by decide) (by decide) _, c, kd, ln, _, P, A, Q, rfl, r.ints (V := s.1) (cn := va_up s.2.2.2.2.1 5 x) (up2_k (by omega)) (fun j hj => ?_) (fun g hg j hj => ?_) (fun j hj => ?_) (fun u hu => ?_) ?_ (fun e he => ?_) (fun l hl => ?_)⟩
  · have := nd_ge n j
    exact ⟨up2_a (by omega), up2_a (by omega)⟩
  · have := nd_ge n j
    rw [up2_a (by omega)]
    exact r.2.1 g hg j hj
  · have := nd_ge n j
    rw [up2_a (by omega)]
    exact r.2.2.1 j hj
  · rw [up2_a (by omega), r.2.2.2.2.1 u hu]
    have : ¬ u = 5 := by omega
    simp [va_up, this]
  · simp [up2, va_up]
  · rw [up2_a (by omega)]
  · rw [up2_row (by omega)]
theorem RepC.s16 (R : RepC n h s) {i : Nat} (hi : i < n) (x : Nat) : ∃ h', hz_pF h (some (nd n i)) 4 16 (.int (nI x + (-1))) = some h' ∧ RepC n h' (up2 s.1 16 i x, s.2) := by
  obtain ⟨c, kd, ln, Z, P, A, Q, rfl, r⟩ := R
  have b1 := nd_ge n i
  have b2 := nd_lt hi (d := 0) (by omega)
  have hn4 : 4 ≤ n * n := Nat.mul_le_mul r.1.1.1 r.1.1.1
  obtain ⟨⟨a1, -⟩, -⟩ := r.1.2.2.2.2.2.2.2 i hi
  refine ⟨_, hk_pFI (r.in (by omega) (by omega)) a1 (by decide) (by decide) _, c, kd, ln, _, P, A, Q, rfl, r.ints (V := up2 s.1 16 i x) (cn := s.2.2.2.2.1) (up2_a (by omega)) (fun j hj => ⟨up2_k (by omega), up2_k (by omega)⟩) (fun g hg j hj => ?_) (fun j hj => ?_) (fun t ht => ?_) ?_ (fun e he => ?_) (fun l hl => ?_)⟩
  · have hg16 : ¬ g = 16 := fun e => by rw [e] at hg; exact absurd hg (by decide)
    have hx16 : ¬ vx g = 16 ∨ ¬ vo g = 0 := by
      rcases (vprop g (vok_lt hg) hg).2.2.2.2.2.2.2 with e | e | e | e
      · have := (vprop g (vok_lt hg) hg).2.2.1 e
        exact Or.inl (by omega)
      · exact Or.inr (by omega)
      · exact Or.inr (by omega)
      · exact Or.inr (by omega)
    rw [up2_a (f := s.1) hg16]
    rcases hx16 with e | e
    · rw [up2_k e]
      exact r.2.1 g hg j hj
    · rw [up2_a (show ¬ nd n j + vo g = nd n i from fun q => e (nd_inj (n := n) (i := j) (j := i) (d := vo g) (d' := 0) q (by have := vo_lt g; omega) (by omega)).2)]
      exact r.2.1 g hg j hj
  · by_cases e : j = i
    · subst e
      simp [up2]
    · rw [up2_a (show ¬ nd n j = nd n i from fun q => e (nd_inj (n := n) (i := j) (j := i) (d := 0) (d' := 0) q (by omega) (by omega)).1), up2_k (f := s.1) e]
      exact r.2.2.1 j hj
  · rw [up2_a (by omega)]
    exact r.2.2.2.2.1 t ht
  · rw [up2_a (by omega)]
    exact r.2.2.2.2.2.1
  · rw [up2_a (by omega)]
  · rw [up2_row (by omega)]
end RG
