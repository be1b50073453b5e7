theorem hy_J6_bitCount_0f7a4 : hz_Y yJ6_bitCount_0f7a4 cJ6_bitCount_0f7a4 1 (some .int) 1 := ⟨wd_389, wd_68, by decide +kernel, by decide +kernel, by decide +kernel⟩
def f_J6_bitCount_0f7a4 (a0 : Int32) (h : HP) : Option (Int32 × HP) :=
  some (((((((((a0 - ((hz_ushr a0 (nI 1)) &&& (1431655765 : Int32))) &&& (858993459 : Int32)) + ((hz_ushr (a0 - ((hz_ushr a0 (nI 1)) &&& (1431655765 : Int32))) (nI 2)) &&& (858993459 : Int32))) + (hz_ushr (((a0 - ((hz_ushr a0 (nI 1)) &&& (1431655765 : Int32))) &&& (858993459 : Int32)) + ((hz_ushr (a0 - ((hz_ushr a0 (nI 1)) &&& (1431655765 : Int32))) (nI 2)) &&& (858993459 : Int32))) (nI 4))) &&& (252645135 : Int32)) + (hz_ushr (((((a0 - ((hz_ushr a0 (nI 1)) &&& (1431655765 : Int32))) &&& (858993459 : Int32)) + ((hz_ushr (a0 - ((hz_ushr a0 (nI 1)) &&& (1431655765 : Int32))) (nI 2)) &&& (858993459 : Int32))) + (hz_ushr (((a0 - ((hz_ushr a0 (nI 1)) &&& (1431655765 : Int32))) &&& (858993459 : Int32)) + ((hz_ushr (a0 - ((hz_ushr a0 (nI 1)) &&& (1431655765 : Int32))) (nI 2)) &&& (858993459 : Int32))) (nI 4))) &&& (252645135 : Int32)) (nI 8))) + (hz_ushr ((((((a0 - ((hz_ushr a0 (nI 1)) &&& (1431655765 : Int32))) &&& (858993459 : Int32)) + ((hz_ushr (a0 - ((hz_ushr a0 (nI 1)) &&& (1431655765 : Int32))) (nI 2)) &&& (858993459 : Int32))) + (hz_ushr (((a0 - ((hz_ushr a0 (nI 1)) &&& (1431655765 : Int32))) &&& (858993459 : Int32)) + ((hz_ushr (a0 - ((hz_ushr a0 (nI 1)) &&& (1431655765 : Int32))) (nI 2)) &&& (858993459 : Int32))) (nI 4))) &&& (252645135 : Int32)) + (hz_ushr (((((a0 - ((hz_ushr a0 (nI 1)) &&& (1431655765 : Int32))) &&& (858993459 : Int32)) + ((hz_ushr (a0 - ((hz_ushr a0 (nI 1)) &&& (1431655765 : Int32))) (nI 2)) &&& (858993459 : Int32))) + (hz_ushr (((a0 - ((hz_ushr a0 (nI 1)) &&& (1431655765 : Int32))) &&& (858993459 : Int32)) + ((hz_ushr (a0 - ((hz_ushr a0 (nI 1)) &&& (1431655765 : Int32))) (nI 2)) &&& (858993459 : Int32))) (nI 4))) &&& (252645135 : Int32)) (nI 8))) (nI 16))) &&& (nI 63)), h)
abbrev rm_J6_bitCount_0f7a4 : Room := { frames := 0, cells := 0, slots := 0, locals := 0 }
set_option maxRecDepth 100000 in
set_option maxHeartbeats 4000000 in
theorem c_J6_bitCount_0f7a4 {l : Launch} (a0 : Int32) (h : HP) (v' : Int32) (h' : HP) (H : f_J6_bitCount_0f7a4 a0 h = some (v', h')) : Ct l yJ6_bitCount_0f7a4 cJ6_bitCount_0f7a4 1 (some .int) rm_J6_bitCount_0f7a4 [.int a0] (some (.int v')) h h' := by
  refine Ct.of (by decide +kernel) (hz_s1c hz_s1n rfl) (Nat.le_of_ble_eq_true rfl) (fun G hl hn C0 => ?_)
  have C : Cx G cJ6_bitCount_0f7a4 RJ6 "bitCount" (some .int) rm_J6_bitCount_0f7a4 (some (.int v')) h' := C0
  subst hl
  show aw G 0 [some (.int a0)] [] h 0 0
  unfold f_J6_bitCount_0f7a4 at H
  refine aw_iload_n C dJ6_bitCount_0f7a4_0 rfl ?_
  refine aw_iload_n C dJ6_bitCount_0f7a4_1 rfl ?_
  refine aw_iconst C dJ6_bitCount_0f7a4_2 (v := (nI 1)) (by decide) ?_
  refine aw_iushr C dJ6_bitCount_0f7a4_3 ?_
  refine aw_ldcw C wd_390 dJ6_bitCount_0f7a4_4 ?_
  refine aw_iand C dJ6_bitCount_0f7a4_7 ?_
  refine aw_isub C dJ6_bitCount_0f7a4_8 ?_
  refine aw_istore_n C dJ6_bitCount_0f7a4_9 (by rw [hn]; decide) rfl ?_
  refine aw_iload_n C dJ6_bitCount_0f7a4_10 rfl ?_
  refine aw_ldcw C wd_391 dJ6_bitCount_0f7a4_11 ?_
  refine aw_iand C dJ6_bitCount_0f7a4_14 ?_
  refine aw_iload_n C dJ6_bitCount_0f7a4_15 rfl ?_
  refine aw_iconst C dJ6_bitCount_0f7a4_16 (v := (nI 2)) (by decide) ?_
  refine aw_iushr C dJ6_bitCount_0f7a4_17 ?_
  refine aw_ldcw C wd_391 dJ6_bitCount_0f7a4_18 ?_
  refine aw_iand C dJ6_bitCount_0f7a4_21 ?_
  refine aw_iadd C dJ6_bitCount_0f7a4_22 ?_
  refine aw_istore_n C dJ6_bitCount_0f7a4_23 (by rw [hn]; decide) rfl ?_
  refine aw_iload_n C dJ6_bitCount_0f7a4_24 rfl ?_
  refine aw_iload_n C dJ6_bitCount_0f7a4_25 rfl ?_
  refine aw_iconst C dJ6_bitCount_0f7a4_26 (v := (nI 4)) (by decide) ?_
  refine aw_iushr C dJ6_bitCount_0f7a4_27 ?_
  refine aw_iadd C dJ6_bitCount_0f7a4_28 ?_
  refine aw_ldcw C wd_392 dJ6_bitCount_0f7a4_29 ?_
  refine aw_iand C dJ6_bitCount_0f7a4_32 ?_
  refine aw_istore_n C dJ6_bitCount_0f7a4_33 (by rw [hn]; decide) rfl ?_
  refine aw_iload_n C dJ6_bitCount_0f7a4_34 rfl ?_
  refine aw_iload_n C dJ6_bitCount_0f7a4_35 rfl ?_
  refine aw_bipush C dJ6_bitCount_0f7a4_36 (v := (nI 8)) (by decide) ?_
  refine aw_iushr C dJ6_bitCount_0f7a4_38 ?_
  refine aw_iadd C dJ6_bitCount_0f7a4_39 ?_
  refine aw_istore_n C dJ6_bitCount_0f7a4_40 (by rw [hn]; decide) rfl ?_
  refine aw_iload_n C dJ6_bitCount_0f7a4_41 rfl ?_
  refine aw_iload_n C dJ6_bitCount_0f7a4_42 rfl ?_
  refine aw_bipush C dJ6_bitCount_0f7a4_43 (v := (nI 16)) (by decide) ?_
  refine aw_iushr C dJ6_bitCount_0f7a4_45 ?_
  refine aw_iadd C dJ6_bitCount_0f7a4_46 ?_
  refine aw_istore_n C dJ6_bitCount_0f7a4_47 (by rw [hn]; decide) rfl ?_
  refine aw_iload_n C dJ6_bitCount_0f7a4_48 rfl ?_
  refine aw_bipush C dJ6_bitCount_0f7a4_49 (v := (nI 63)) (by decide) ?_
  refine aw_iand C dJ6_bitCount_0f7a4_51 ?_
  cases H
  exact aw_iret C (Nat.zero_le _) (Nat.zero_le _) dJ6_bitCount_0f7a4_52
theorem hy_J9_min_7cf53 : hz_Y yJ9_min_7cf53 cJ9_min_7cf53 2 (some .int) 2 := ⟨wd_399, wd_69, by decide +kernel, by decide +kernel, by decide +kernel⟩
def f_J9_min_7cf53_10 (s0 : Int32) (h : HP) : Option (Int32 × HP) :=
  some (s0, h)
def f_J9_min_7cf53 (a0 : Int32) (a1 : Int32) (h : HP) : Option (Int32 × HP) :=
  if a1 < a0 then
    f_J9_min_7cf53_10  a1 h
  else
    f_J9_min_7cf53_10  a0 h
abbrev rm_J9_min_7cf53 : Room := { frames := 0, cells := 0, slots := 0, locals := 0 }
set_option maxRecDepth 100000 in
set_option maxHeartbeats 4000000 in
theorem k_J9_min_7cf53_10 {G : GX} {v' : Int32} {h' : HP} (hn : G.2.2.2.2.2.2.2.2.2.2.2.2 = 2) (C : Cx G cJ9_min_7cf53 RJ9 "min" (some .int) rm_J9_min_7cf53 (some (.int v')) h') (s0 : Int32) (h : HP) (H : f_J9_min_7cf53_10  s0 h = some (v', h')) : aw G 10 [none, none] [.int s0] h 0 0 := by
  unfold f_J9_min_7cf53_10 at H
  cases H
  exact aw_iret C (Nat.zero_le _) (Nat.zero_le _) dJ9_min_7cf53_10
set_option maxRecDepth 100000 in
set_option maxHeartbeats 4000000 in
theorem c_J9_min_7cf53 {l : Launch} (a0 : Int32) (a1 : Int32) (h : HP) (v' : Int32) (h' : HP) (H : f_J9_min_7cf53 a0 a1 h = some (v', h')) : Ct l yJ9_min_7cf53 cJ9_min_7cf53 2 (some .int) rm_J9_min_7cf53 [.int a0, .int a1] (some (.int v')) h h' := by
  refine Ct.of (by decide +kernel) (hz_s1c (hz_s1c hz_s1n rfl) rfl) (Nat.le_of_ble_eq_true rfl) (fun G hl hn C0 => ?_)
  have C : Cx G cJ9_min_7cf53 RJ9 "min" (some .int) rm_J9_min_7cf53 (some (.int v')) h' := C0
  subst hl
  show aw G 0 [some (.int a0), some (.int a1)] [] h 0 0
  unfold f_J9_min_7cf53 at H
  refine aw_iload_n C dJ9_min_7cf53_0 rfl ?_
  refine aw_iload_n C dJ9_min_7cf53_1 rfl ?_
  refine aw_icmp_gt (tgt := 9) C dJ9_min_7cf53_2 (by decide) (fun c1 => ?_) (fun c1 => ?_)
  · replace H := hz_it c1 H
    refine aw_iload_n C dJ9_min_7cf53_9 rfl ?_
    exact aw_loc (hz_sub_n (hz_sub_n hz_sub_0)) (k_J9_min_7cf53_10 hn C  _ _ H)
  · replace H := hz_if c1 H
    refine aw_iload_n C dJ9_min_7cf53_5 rfl ?_
    refine aw_goto (tgt := 10) C dJ9_min_7cf53_6 (by decide) ?_
    exact aw_loc (hz_sub_n (hz_sub_n hz_sub_0)) (k_J9_min_7cf53_10 hn C  _ _ H)
theorem hy_J9_max_7cf53 : hz_Y yJ9_max_7cf53 cJ9_max_7cf53 2 (some .int) 2 := ⟨wd_430, wd_69, by decide +kernel, by decide +kernel, by decide +kernel⟩
def f_J9_max_7cf53_10 (s0 : Int32) (h : HP) : Option (Int32 × HP) :=
  some (s0, h)
def f_J9_max_7cf53 (a0 : Int32) (a1 : Int32) (h : HP) : Option (Int32 × HP) :=
  if a0 < a1 then
    f_J9_max_7cf53_10  a1 h
  else
    f_J9_max_7cf53_10  a0 h
abbrev rm_J9_max_7cf53 : Room := { frames := 0, cells := 0, slots := 0, locals := 0 }
set_option maxRecDepth 100000 in
set_option maxHeartbeats 4000000 in
theorem k_J9_max_7cf53_10 {G : GX} {v' : Int32} {h' : HP} (hn : G.2.2.2.2.2.2.2.2.2.2.2.2 = 2) (C : Cx G cJ9_max_7cf53 RJ9 "max" (some .int) rm_J9_max_7cf53 (some (.int v')) h') (s0 : Int32) (h : HP) (H : f_J9_max_7cf53_10  s0 h = some (v', h')) : aw G 10 [none, none] [.int s0] h 0 0 := by
  unfold f_J9_max_7cf53_10 at H
  cases H
  exact aw_iret C (Nat.zero_le _) (Nat.zero_le _) dJ9_max_7cf53_10
set_option maxRecDepth 100000 in
set_option maxHeartbeats 4000000 in
theorem c_J9_max_7cf53 {l : Launch} (a0 : Int32) (a1 : Int32) (h : HP) (v' : Int32) (h' : HP) (H : f_J9_max_7cf53 a0 a1 h = some (v', h')) : Ct l yJ9_max_7cf53 cJ9_max_7cf53 2 (some .int) rm_J9_max_7cf53 [.int a0, .int a1] (some (.int v')) h h' := by
  refine Ct.of (by decide +kernel) (hz_s1c (hz_s1c hz_s1n rfl) rfl) (Nat.le_of_ble_eq_true rfl) (fun G hl hn C0 => ?_)
  have C : Cx G cJ9_max_7cf53 RJ9 "max" (some .int) rm_J9_max_7cf53 (some (.int v')) h' := C0
  subst hl
  show aw G 0 [some (.int a0), some (.int a1)] [] h 0 0
  unfold f_J9_max_7cf53 at H
  refine aw_iload_n C dJ9_max_7cf53_0 rfl ?_
  refine aw_iload_n C dJ9_max_7cf53_1 rfl ?_
  refine aw_icmp_lt (tgt := 9) C dJ9_max_7cf53_2 (by decide) (fun c1 => ?_) (fun c1 => ?_)
  · replace H := hz_it c1 H
    refine aw_iload_n C dJ9_max_7cf53_9 rfl ?_
    exact aw_loc (hz_sub_n (hz_sub_n hz_sub_0)) (k_J9_max_7cf53_10 hn C  _ _ H)
  · replace H := hz_if c1 H
    refine aw_iload_n C dJ9_max_7cf53_5 rfl ?_
    refine aw_goto (tgt := 10) C dJ9_max_7cf53_6 (by decide) ?_
    exact aw_loc (hz_sub_n (hz_sub_n hz_sub_0)) (k_J9_max_7cf53_10 hn C  _ _ H)
theorem hy_J9_floorMod_7cf53 : hz_Y yJ9_floorMod_7cf53 cJ9_floorMod_7cf53 3 (some .int) 2 := ⟨wd_498, wd_69, by decide +kernel, by decide +kernel, by decide +kernel⟩
def f_J9_floorMod_7cf53_18 (l2 : Int32) (h : HP) : Option (Int32 × HP) :=
  some (l2, h)
def f_J9_floorMod_7cf53 (a0 : Int32) (a1 : Int32) (h : HP) : Option (Int32 × HP) :=
  if a1 = 0 then none else
  if 0 ≤ (a0 ^^^ a1) then
    f_J9_floorMod_7cf53_18  (a0 - a0 / a1 * a1) h
  else
    if (a0 - a0 / a1 * a1) = 0 then
      f_J9_floorMod_7cf53_18  (a0 - a0 / a1 * a1) h
    else
      some (((a0 - a0 / a1 * a1) + a1), h)
abbrev rm_J9_floorMod_7cf53 : Room := { frames := 0, cells := 0, slots := 0, locals := 0 }
set_option maxRecDepth 100000 in
set_option maxHeartbeats 4000000 in
theorem k_J9_floorMod_7cf53_18 {G : GX} {v' : Int32} {h' : HP} (hn : G.2.2.2.2.2.2.2.2.2.2.2.2 = 3) (C : Cx G cJ9_floorMod_7cf53 RJ9 "floorMod" (some .int) rm_J9_floorMod_7cf53 (some (.int v')) h') (l2 : Int32) (h : HP) (H : f_J9_floorMod_7cf53_18  l2 h = some (v', h')) : aw G 18 [none, none, some (.int l2)] [] h 0 0 := by
  unfold f_J9_floorMod_7cf53_18 at H
  refine aw_iload_n C dJ9_floorMod_7cf53_18 rfl ?_
  cases H
  exact aw_iret C (Nat.zero_le _) (Nat.zero_le _) dJ9_floorMod_7cf53_19
set_option maxRecDepth 100000 in
set_option maxHeartbeats 4000000 in
theorem c_J9_floorMod_7cf53 {l : Launch} (a0 : Int32) (a1 : Int32) (h : HP) (v' : Int32) (h' : HP) (H : f_J9_floorMod_7cf53 a0 a1 h = some (v', h')) : Ct l yJ9_floorMod_7cf53 cJ9_floorMod_7cf53 3 (some .int) rm_J9_floorMod_7cf53 [.int a0, .int a1] (some (.int v')) h h' := by
  refine Ct.of (by decide +kernel) (hz_s1c (hz_s1c hz_s1n rfl) rfl) (Nat.le_of_ble_eq_true rfl) (fun G hl hn C0 => ?_)
  have C : Cx G cJ9_floorMod_7cf53 RJ9 "floorMod" (some .int) rm_J9_floorMod_7cf53 (some (.int v')) h' := C0
  subst hl
  show aw G 0 [some (.int a0), some (.int a1), none] [] h 0 0
  unfold f_J9_floorMod_7cf53 at H
  refine aw_iload_n C dJ9_floorMod_7cf53_0 rfl ?_
  refine aw_iload_n C dJ9_floorMod_7cf53_1 rfl ?_
  obtain ⟨g1, H⟩ := hz_un H
  refine aw_irem C dJ9_floorMod_7cf53_2 g1 ?_
  refine aw_istore_n C dJ9_floorMod_7cf53_3 (by rw [hn]; decide) rfl ?_
  refine aw_iload_n C dJ9_floorMod_7cf53_4 rfl ?_
  refine aw_iload_n C dJ9_floorMod_7cf53_5 rfl ?_
  refine aw_ixor C dJ9_floorMod_7cf53_6 ?_
  refine aw_if_ge (tgt := 18) C dJ9_floorMod_7cf53_7 (by decide) (fun c2 => ?_) (fun c2 => ?_)
  · replace H := hz_it c2 H
    exact aw_loc (hz_sub_n (hz_sub_n (hz_sub_s hz_sub_0))) (k_J9_floorMod_7cf53_18 hn C  _ _ H)
  · replace H := hz_if c2 H
    refine aw_iload_n C dJ9_floorMod_7cf53_10 rfl ?_
    refine aw_if_eq (tgt := 18) C dJ9_floorMod_7cf53_11 (by decide) (fun c3 => ?_) (fun c3 => ?_)
    · replace H := hz_it c3 H
      exact aw_loc (hz_sub_n (hz_sub_n (hz_sub_s hz_sub_0))) (k_J9_floorMod_7cf53_18 hn C  _ _ H)
    · replace H := hz_if c3 H
      refine aw_iload_n C dJ9_floorMod_7cf53_14 rfl ?_
      refine aw_iload_n C dJ9_floorMod_7cf53_15 rfl ?_
      refine aw_iadd C dJ9_floorMod_7cf53_16 ?_
      cases H
      exact aw_iret C (Nat.zero_le _) (Nat.zero_le _) dJ9_floorMod_7cf53_17
theorem hy_J7_copyOf_59c91 : hz_Y yJ7_copyOf_59c91 cJ7_copyOf_59c91 3 (some (.array .int)) 2 := ⟨wd_505, wd_70, by decide +kernel, by decide +kernel, by decide +kernel⟩
def f_J7_copyOf_59c91 (a0 : Option Nat) (a1 : Int32) (h : HP) : Option (Option Nat × HP) :=
  (hz_aL h a0).bind fun v1 =>
  if a1 = v1 then
    (hz_cl h a0 64).bind fun h11 =>
    (hz_ar h11 (some (h.1 + 1)) 0).bind fun x13 =>
    some ((some (h.1 + 1)), h11)
  else
    (hz_nA h 0 64 a1).bind fun h3 =>
    (hz_aL h3 a0).bind fun v5 =>
    (f_J9_min_7cf53 v5 a1 h3).bind fun p7 =>
    (hz_cp p7.2 a0 (nI 0) (some (h.1 + 1)) (nI 0) p7.1).bind fun h9 =>
    some ((some (h.1 + 1)), h9)
abbrev rm_J7_copyOf_59c91 : Room := { frames := 1, cells := 1, slots := 64, locals := 40 }
set_option maxRecDepth 100000 in
set_option maxHeartbeats 4000000 in
theorem c_J7_copyOf_59c91 {l : Launch} (a0 : Option Nat) (a1 : Int32) (h : HP) (v' : Option Nat) (h' : HP) (H : f_J7_copyOf_59c91 a0 a1 h = some (v', h')) : Ct l yJ7_copyOf_59c91 cJ7_copyOf_59c91 3 (some (.array .int)) rm_J7_copyOf_59c91 [va_rf a0, .int a1] (some (va_rf v')) h h' := by
  refine Ct.of (by decide +kernel) (hz_s1c (hz_s1c hz_s1n rfl) (hz_cr _)) (Nat.le_of_ble_eq_true rfl) (fun G hl hn C0 => ?_)
  have C : Cx G cJ7_copyOf_59c91 RJ7 "copyOf" (some (.array .int)) rm_J7_copyOf_59c91 (some (va_rf v')) h' := C0
  subst hl
  show aw G 0 [some (va_rf a0), some (.int a1), none] [] h 0 0
  unfold f_J7_copyOf_59c91 at H
  obtain ⟨cs, hcs⟩ : ∃ k : Nat, k = 0 := ⟨0, rfl⟩
  obtain ⟨sl, hsl⟩ : ∃ k : Nat, k = 0 := ⟨0, rfl⟩
  suffices hh : aw G 0 [some (va_rf a0), some (.int a1), none] [] h cs sl by rw [hcs, hsl] at hh; exact hh
  refine aw_iload_n C dJ7_copyOf_59c91_0 rfl ?_
  refine aw_aload_n C dJ7_copyOf_59c91_1 rfl ?_
  obtain ⟨v1, e2, H⟩ := hz_bd H
  refine aw_alen C e2 dJ7_copyOf_59c91_2 ?_
  refine aw_icmp_ne (tgt := 14) C dJ7_copyOf_59c91_3 (by decide) (fun c15 => ?_) (fun c15 => ?_)
  · replace H := hz_if c15 H
    refine aw_iload_n C dJ7_copyOf_59c91_14 rfl ?_
    obtain ⟨h3, e4, H⟩ := hz_bd H
    refine aw_newa (t := 0) (cap := 64) C (by decide) rfl wd_172 e4 (by decide) (by show cs + 1 ≤ 1; omega) (by show sl + 64 ≤ 64; omega) dJ7_copyOf_59c91_15 ?_
    refine aw_astore_n C dJ7_copyOf_59c91_17 (by rw [hn]; decide) rfl ?_
    refine aw_aload_n C dJ7_copyOf_59c91_18 rfl ?_
    refine aw_iconst C dJ7_copyOf_59c91_19 (v := (nI 0)) (by decide) ?_
    refine aw_aload_n C dJ7_copyOf_59c91_20 rfl ?_
    refine aw_iconst C dJ7_copyOf_59c91_21 (v := (nI 0)) (by decide) ?_
    refine aw_aload_n C dJ7_copyOf_59c91_22 rfl ?_
    obtain ⟨v5, e6, H⟩ := hz_bd H
    refine aw_alen C e6 dJ7_copyOf_59c91_23 ?_
    refine aw_iload_n C dJ7_copyOf_59c91_24 rfl ?_
    obtain ⟨p7, e8, H⟩ := hz_bd H
    refine aw_S (As := [.int v5, .int a1]) (rest := [.int (nI 0), va_rf (some (h.1 + 1)), .int (nI 0), va_rf a0]) C hy_J9_min_7cf53 wd_398 wd_513 (c_J9_min_7cf53 _ _ _ _ _  e8) (hz_roi _) rfl rfl (Nat.le_of_ble_eq_true rfl) (by decide) (kc := 0) (ks := 0) rfl rfl ⟨(by show cs + 1 + 0 ≤ 1; omega), (by show sl + 64 + 0 ≤ 64; omega)⟩ dJ7_copyOf_59c91_25 ?_
    obtain ⟨h9, e10, H⟩ := hz_bd H
    refine aw_cp C wd_514 wd_516 wd_515 wd_71 e10 ⟨Nat.le_of_ble_eq_true rfl, Nat.le_of_ble_eq_true rfl⟩ dJ7_copyOf_59c91_28 ?_
    refine aw_aload_n C dJ7_copyOf_59c91_31 rfl ?_
    cases H
    exact aw_aret C (Or.inr ⟨_, rfl⟩) (by show cs + 1 + 0 ≤ 1; omega) (by show sl + 64 + 0 ≤ 64; omega) dJ7_copyOf_59c91_32
  · replace H := hz_it c15 H
    refine aw_aload_n C dJ7_copyOf_59c91_6 rfl ?_
    obtain ⟨h11, e12, H⟩ := hz_bd H
    refine aw_cl (cap := 64) C wd_506 wd_507 wd_508 wd_509 wd_510 wn_511 e12 ⟨Nat.le_of_ble_eq_true rfl, Nat.le_of_ble_eq_true rfl⟩ (by show cs + 1 ≤ 1; omega) (by show sl + 64 ≤ 64; omega) dJ7_copyOf_59c91_7 ?_
    obtain ⟨x13, e14, H⟩ := hz_bd H
    refine aw_castI C wd_512 e14 dJ7_copyOf_59c91_10 ?_
    cases H
    exact aw_aret C (Or.inr ⟨_, rfl⟩) (by show cs + 1 ≤ 1; omega) (by show sl + 64 ≤ 64; omega) dJ7_copyOf_59c91_13
theorem hy_J7_fill_53178 : hz_Y yJ7_fill_53178 cJ7_fill_53178 4 none 2 := ⟨wd_570, wd_70, by decide +kernel, by decide +kernel, by decide +kernel⟩
def f_J7_fill_53178_5 : Nat → Option Nat → Int32 → Int32 → Int32 → HP → Option HP
  | 0, _, _, _, _, _ => none
  | n + 1, l0, l1, l2, l3, h =>
    if l3 ≤ l2 then
      some h
    else
      (hz_aS h l0 0 l2 l1).bind fun h3 =>
      f_J7_fill_53178_5  n l0 l1 (l2 + (nI 1)) l3 h3
def f_J7_fill_53178 (a0 : Option Nat) (a1 : Int32) (h : HP) : Option HP :=
  (hz_aL h a0).bind fun v1 =>
  f_J7_fill_53178_5  600 a0 a1 (nI 0) v1 h
abbrev rm_J7_fill_53178 : Room := { frames := 0, cells := 0, slots := 0, locals := 0 }
set_option maxRecDepth 100000 in
set_option maxHeartbeats 4000000 in
theorem k_J7_fill_53178_5 {G : GX} {h' : HP} (hn : G.2.2.2.2.2.2.2.2.2.2.2.2 = 4) (C : Cx G cJ7_fill_53178 RJ7 "fill" none rm_J7_fill_53178 none h') : ∀ (n : Nat) (l0 : Option Nat) (l1 : Int32) (l2 : Int32) (l3 : Int32) (h : HP), f_J7_fill_53178_5  n l0 l1 l2 l3 h = some h' → aw G 5 [some (va_rf l0), some (.int l1), some (.int l2), some (.int l3)] [] h 0 0 := by
  intro n
  induction n with
  | zero => intro l0 l1 l2 l3 h H; cases H
  | succ n ih =>
    intro l0 l1 l2 l3 h H
    rw [f_J7_fill_53178_5] at H
    refine aw_iload_n C dJ7_fill_53178_5 rfl ?_
    refine aw_iload_n C dJ7_fill_53178_6 rfl ?_
    refine aw_icmp_ge (tgt := 20) C dJ7_fill_53178_7 (by decide) (fun c5 => ?_) (fun c5 => ?_)
    · replace H := hz_it c5 H
      cases H
      exact aw_vret C (Nat.zero_le _) (Nat.zero_le _) dJ7_fill_53178_20
    · replace H := hz_if c5 H
      refine aw_aload_n C dJ7_fill_53178_10 rfl ?_
      refine aw_iload_n C dJ7_fill_53178_11 rfl ?_
      refine aw_iload_n C dJ7_fill_53178_12 rfl ?_
      obtain ⟨h3, e4, H⟩ := hz_bd H
      refine aw_iast C e4 dJ7_fill_53178_13 ?_
      refine aw_iinc (d := (nI 1)) C dJ7_fill_53178_14 (by rw [hn]; decide) rfl (by decide) rfl ?_
      refine aw_goto (tgt := 5) C dJ7_fill_53178_17 (by decide) ?_
      exact ih _ _ _ _ _ H
set_option maxRecDepth 100000 in
set_option maxHeartbeats 4000000 in
theorem c_J7_fill_53178 {l : Launch} (a0 : Option Nat) (a1 : Int32) (h : HP) (h' : HP) (H : f_J7_fill_53178 a0 a1 h = some h') : Ct l yJ7_fill_53178 cJ7_fill_53178 4 none rm_J7_fill_53178 [va_rf a0, .int a1] none h h' := by
  refine Ct.of (by decide +kernel) (hz_s1c (hz_s1c hz_s1n rfl) (hz_cr _)) (Nat.le_of_ble_eq_true rfl) (fun G hl hn C0 => ?_)
  have C : Cx G cJ7_fill_53178 RJ7 "fill" none rm_J7_fill_53178 none h' := C0
  subst hl
  show aw G 0 [some (va_rf a0), some (.int a1), none, none] [] h 0 0
  unfold f_J7_fill_53178 at H
  refine aw_iconst C dJ7_fill_53178_0 (v := (nI 0)) (by decide) ?_
  refine aw_istore_n C dJ7_fill_53178_1 (by rw [hn]; decide) rfl ?_
  refine aw_aload_n C dJ7_fill_53178_2 rfl ?_
  obtain ⟨v1, e2, H⟩ := hz_bd H
  refine aw_alen C e2 dJ7_fill_53178_3 ?_
  refine aw_istore_n C dJ7_fill_53178_4 (by rw [hn]; decide) rfl ?_
  exact k_J7_fill_53178_5 hn C  600 _ _ _ _ _ H
