/-! the law's start: its tables -/
theorem lw_KL {p : Program} {s : State} {m : MethodId} {meth : Method} {c : Code} {b L : Nat} {xs : Nat → Int32} (C0 : lw_At p s m meth c b L xs) : ∃ (D : va_G) (cA : Nat → ClassId) (n0 : Nat), KL D cA n0 s := by
  obtain ⟨hx, hb, hr, hml, hown, hts0, hX, hbl, hlocks, hgv⟩ := C0
  have hts : ∀ w ∈ hz_T, w.before #[Value.ref b] s = true := fun w hw => hts0 w (List.mem_filter.mp hw).1
  obtain ⟨c0, i0, k0⟩ := u_known hts cl_0.2.1 (hts _ wd_188)
  obtain ⟨c1, i1, k1⟩ := u_known hts cl_1.2.1 (hts _ wd_117)
  obtain ⟨c2, i2, k2⟩ := u_known hts cl_2.2.1 (hts _ wd_321)
  obtain ⟨c3, i3, k3⟩ := u_known hts cl_3.2.1 (hts _ wd_174)
  obtain ⟨c4, i4, k4⟩ := u_known hts cl_4.2.1 (hts _ wd_150)
  obtain ⟨c5, i5, k5⟩ := u_known hts cl_5.2.1 (hts _ wd_110)
  obtain ⟨c6, i6, k6⟩ := u_known hts cl_6.2.1 (hts _ wd_156)
  obtain ⟨c7, i7, k7⟩ := u_known hts cl_7.2.1 (hts _ wd_81)
  obtain ⟨c8, i8, k8⟩ := u_known hts cl_8.2.1 (hts _ lq_inX8)
  obtain ⟨c9, i9, k9⟩ := u_known hts cl_9.2.1 (hts _ lq_inX9)
  obtain ⟨a0, x0⟩ := lw_arr (hts _ wd_172) (Or.inl rfl)
  obtain ⟨a1, x1⟩ := lw_arr (hts _ wd_az) (Or.inr rfl)
  obtain ⟨a2, x2⟩ := lw_arq (hts0 _ lq_aoChannel)
  obtain ⟨a3, x3⟩ := lw_arq (hts0 _ lq_aoNode)
  have hs := flat_of_before _ hgv
  have hS0 : ∀ a : Nat, a < s.heap.size → ¬ lA s a := fun a h1 h2 => Nat.not_le.mpr h1 h2
  obtain ⟨n0, hn0, hT⟩ := va_Tof (args := #[Value.ref b]) (s := s) (tm := Term.static "GroupCast" "NO_ACTS" "[I") (ty := .int) (N := 0) (f := fun _ => .int 0) (A := lA s) (by decide) (hs _ (by decide +kernel)) (by rw [show (Int32.ofNat 0) = (0 : Int32) from nI_0]; exact va_eqt (hs (Cond.eq (Term.length (Term.static "GroupCast" "NO_ACTS" "[I")) (Term.int 0)) (by decide +kernel))) (fun j hj => absurd hj (by omega)) hS0
  have hZ : va_Z "GroupCast" "NO_ACTS" "[I" (.ref n0) (lA s) s s.heap := va_Zref (hts0 _ lq_ls) (hts _ wd_58) hn0 hS0
  refine ⟨(fun k => [c0, c1, c2, c3, c4, c5, c6, c7, c8, c9].getD k c0, fun k => [i0, i1, i2, i3, i4, i5, i6, i7, i8, i9].getD k i0), fun k => [a0, a1, a2, a3].getD k a0, n0, ⟨fun k q hq => ?_, fun k q hq => ?_⟩, fun w hw => hz_NwB hw (hts0 w (List.mem_filter.mp hw).1), hZ, hT, va_AO.of (hts0 _ lq_aoChannel), va_AO.of (hts0 _ lq_aoNode)⟩
  · match k, hq with
    | 0, hq => cases hq; exact k0
    | 1, hq => cases hq; exact k1
    | 2, hq => cases hq; exact k2
    | 3, hq => cases hq; exact k3
    | 4, hq => cases hq; exact k4
    | 5, hq => cases hq; exact k5
    | 6, hq => cases hq; exact k6
    | 7, hq => cases hq; exact k7
    | 8, hq => cases hq; exact k8
    | 9, hq => cases hq; exact k9
    | k + 10, hq => simp at hq
  · match k, hq with
    | 0, hq => cases hq; exact x0
    | 1, hq => cases hq; exact x1
    | 2, hq => cases hq; exact x2
    | 3, hq => cases hq; exact x3
    | k + 4, hq => simp at hq
