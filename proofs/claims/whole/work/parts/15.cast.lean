theorem hy_X8_init : hz_Y yX8_init cX8_init 4 none 1 := ⟨wd_76, wd_58, by decide +kernel, by decide +kernel, by decide +kernel⟩
def f_X8_init_58 : Nat → Option Nat → Int32 → Int32 → HP → Option HP
  | 0, _, _, _, _ => none
  | n + 1, l0, l2, l3, h =>
    if l2 ≤ l3 then
      some h
    else
      (hz_gR h l0 8 2).bind fun r18 =>
      (some (hz_nO h 4 [.int 0, .int 0, .null, .null, .null, .null, .null, .null, .int 0, .int 0, .int 0, .int 0, .int 0, .int 0, .int 0, .int 0, .int 0])).bind fun h20 =>
      (hz_gR h20 l0 8 1).bind fun r21 =>
      (hz_gR h20 l0 8 0).bind fun r23 =>
      (f_X4_init (some (h.1 + 1)) l3 l2 r21 r23 h20).bind fun p25 =>
      (hz_aT p25 r18 3 4 l3 (some (h.1 + 1))).bind fun h27 =>
      f_X8_init_58  n l0 l2 (l3 + (nI 1)) h27
def f_X8_init_20 (l0 : Option Nat) (s0 : Int32) (h : HP) : Option HP :=
  (some (hz_nO h 7 [.int 0, .int 0, .int 0, .int 0, .int 0])).bind fun h2 =>
  (f_X7_init (some (h.1 + 1)) h2).bind fun p3 =>
  (hz_pF p3 l0 8 0 (va_rf (some (h.1 + 1)))).bind fun h5 =>
  (some (hz_nO h5 5 [.int 0, .null, .null, .int 0])).bind fun h7 =>
  (hz_gR h7 l0 8 0).bind fun r8 =>
  (f_X5_init (some (h5.1 + 1)) s0 r8 h7).bind fun p10 =>
  (hz_pF p10 l0 8 1 (va_rf (some (h5.1 + 1)))).bind fun h12 =>
  (hz_nQ h12 3 64 s0).bind fun h14 =>
  (hz_pF h14 l0 8 2 (va_rf (some (h12.1 + 1)))).bind fun h16 =>
  f_X8_init_58  8 l0 s0 (nI 0) h16
def f_X8_init_19 (l0 : Option Nat) (h : HP) : Option HP :=
  f_X8_init_20  l0 (nI 3) h
def f_X8_init (a0 : Option Nat) (a1 : Int32) (h : HP) : Option HP :=
  if a0 = none then none else
  if a1 < (nI 2) then
    f_X8_init_19  a0 h
  else
    if (nI 7) < a1 then
      f_X8_init_19  a0 h
    else
      f_X8_init_20  a0 a1 h
abbrev rm_X8_init : Room := { frames := 3, cells := 124, slots := 1689, locals := 84 }
set_option maxRecDepth 100000 in
set_option maxHeartbeats 4000000 in
theorem k_X8_init_58 {G : GX} {h' : HP} (hn : G.2.2.2.2.2.2.2.2.2.2.2.2 = 4) (C : Cx G cX8_init RX8 "<init>" none rm_X8_init none h') : ∀ (n : Nat) {cs sl : Nat} (l0 : Option Nat) (l2 : Int32) (l3 : Int32) (h : HP), f_X8_init_58  n l0 l2 l3 h = some h' → cs + (n * 7 + 0) ≤ 124 → sl + (n * 170 + 0) ≤ 1689 → aw G 58 [some (va_rf l0), none, some (.int l2), some (.int l3)] [] h cs sl := by
  intro n
  induction n with
  | zero => intro cs sl l0 l2 l3 h H hcs hsl; cases H
  | succ n ih =>
    intro cs sl l0 l2 l3 h H hcs hsl
    rw [f_X8_init_58] at H
    refine aw_iload_n C dX8_init_58 rfl ?_
    refine aw_iload_n C dX8_init_59 rfl ?_
    refine aw_icmp_ge (tgt := 92) C dX8_init_60 (by decide) (fun c29 => ?_) (fun c29 => ?_)
    · replace H := hz_it c29 H
      cases H
      exact aw_vret C (by show cs ≤ 124; omega) (by show sl ≤ 1689; omega) dX8_init_92
    · replace H := hz_if c29 H
      refine aw_aload_n C dX8_init_63 rfl ?_
      obtain ⟨r18, e19, H⟩ := hz_bd H
      refine aw_gR (k := 2) C cl_8 (by decide) wd_273 e19 dX8_init_64 ?_
      refine aw_iload_n C dX8_init_67 rfl ?_
      replace H := hz_lt H
      refine aw_new C cl_4 wd_148 wd_150 wd_62 df_4 (by show cs + 1 ≤ 124; omega) (by show sl + 17 ≤ 1689; omega) dX8_init_68 ?_
      refine aw_dup C dX8_init_71 ?_
      refine aw_iload_n C dX8_init_72 rfl ?_
      refine aw_iload_n C dX8_init_73 rfl ?_
      refine aw_aload_n C dX8_init_74 rfl ?_
      obtain ⟨r21, e22, H⟩ := hz_bd H
      refine aw_gR (k := 1) C cl_8 (by decide) wd_272 e22 dX8_init_75 ?_
      refine aw_aload_n C dX8_init_78 rfl ?_
      obtain ⟨r23, e24, H⟩ := hz_bd H
      refine aw_gR (k := 0) C cl_8 (by decide) wd_271 e24 dX8_init_79 ?_
      obtain ⟨p25, e26, H⟩ := hz_bd H
      refine aw_I (As := [.int l3, .int l2, va_rf r21, va_rf r23]) (rest := [va_rf (some (h.1 + 1)), .int l3, va_rf r18]) C hy_X4_init rfl wd_152 wd_151 (c_X4_init _ _ _ _ _ _ _  e26) rfl rfl (Nat.le_of_ble_eq_true rfl) (by decide) (kc := 6) (ks := 153) rfl rfl ⟨(by show cs + 1 + 6 ≤ 124; omega), (by show sl + 17 + 153 ≤ 1689; omega)⟩ dX8_init_82 ?_
      obtain ⟨h27, e28, H⟩ := hz_bd H
      refine aw_aast (t := 3) C (by decide) rfl cl_4.1 e28 dX8_init_85 ?_
      refine aw_iinc (d := (nI 1)) C dX8_init_86 (by rw [hn]; decide) rfl (by decide) rfl ?_
      refine aw_goto (tgt := 58) C dX8_init_89 (by decide) ?_
      exact ih (cs := cs + 1 + 6) (sl := sl + 17 + 153) _ _ _ _ H (by omega) (by omega)
set_option maxRecDepth 100000 in
set_option maxHeartbeats 4000000 in
theorem k_X8_init_20 {G : GX} {h' : HP} (hn : G.2.2.2.2.2.2.2.2.2.2.2.2 = 4) (C : Cx G cX8_init RX8 "<init>" none rm_X8_init none h') {cs sl : Nat} (l0 : Option Nat) (s0 : Int32) (h : HP) (H : f_X8_init_20  l0 s0 h = some h') (hcs : cs + 124 ≤ 124) (hsl : sl + 1689 ≤ 1689) : aw G 20 [some (va_rf l0), none, none, none] [.int s0] h cs sl := by
  unfold f_X8_init_20 at H
  refine aw_istore_n C dX8_init_20 (by rw [hn]; decide) rfl ?_
  refine aw_aload_n C dX8_init_21 rfl ?_
  replace H := hz_lt H
  refine aw_new C cl_7 wd_80 wd_81 wd_59 df_7 (by show cs + 1 ≤ 124; omega) (by show sl + 5 ≤ 1689; omega) dX8_init_22 ?_
  refine aw_dup C dX8_init_25 ?_
  obtain ⟨p3, e4, H⟩ := hz_bd H
  refine aw_IN (As := []) (rest := [va_rf (some (h.1 + 1)), va_rf l0]) C hy_X7_init rfl wd_83 wn_82 (c_X7_init _ _ _  e4) rfl rfl (Nat.le_of_ble_eq_true rfl) (by decide) (kc := 0) (ks := 0) rfl rfl ⟨(by show cs + 1 + 0 ≤ 124; omega), (by show sl + 5 + 0 ≤ 1689; omega)⟩ dX8_init_26 ?_
  obtain ⟨h5, e6, H⟩ := hz_bd H
  refine aw_pFF (k := 0) C cl_8 (by decide) rfl wd_271 (hz_fito _ _) e6 dX8_init_29 ?_
  refine aw_aload_n C dX8_init_32 rfl ?_
  replace H := hz_lt H
  refine aw_new C cl_5 wd_109 wd_110 wd_60 df_5 (by show cs + 1 + 0 + 1 ≤ 124; omega) (by show sl + 5 + 0 + 4 ≤ 1689; omega) dX8_init_33 ?_
  refine aw_dup C dX8_init_36 ?_
  refine aw_iload_n C dX8_init_37 rfl ?_
  refine aw_aload_n C dX8_init_38 rfl ?_
  obtain ⟨r8, e9, H⟩ := hz_bd H
  refine aw_gR (k := 0) C cl_8 (by decide) wd_271 e9 dX8_init_39 ?_
  obtain ⟨p10, e11, H⟩ := hz_bd H
  refine aw_I (As := [.int s0, va_rf r8]) (rest := [va_rf (some (h5.1 + 1)), va_rf l0]) C hy_X5_init rfl wd_112 wd_111 (c_X5_init _ _ _ _ _  e11) rfl rfl (Nat.le_of_ble_eq_true rfl) (by decide) (kc := 65) (ks := 256) rfl rfl ⟨(by show cs + 1 + 0 + 1 + 65 ≤ 124; omega), (by show sl + 5 + 0 + 4 + 256 ≤ 1689; omega)⟩ dX8_init_42 ?_
  obtain ⟨h12, e13, H⟩ := hz_bd H
  refine aw_pFF (k := 1) C cl_8 (by decide) rfl wd_272 (hz_fito _ _) e13 dX8_init_45 ?_
  refine aw_aload_n C dX8_init_48 rfl ?_
  refine aw_iload_n C dX8_init_49 rfl ?_
  obtain ⟨h14, e15, H⟩ := hz_bd H
  refine aw_newq (t := 3) (cap := 64) C (by decide) rfl hz_ao3 wd_148 e15 (by decide) (by show cs + 1 + 0 + 1 + 65 + 1 ≤ 124; omega) (by show sl + 5 + 0 + 4 + 256 + 64 ≤ 1689; omega) dX8_init_50 ?_
  obtain ⟨h16, e17, H⟩ := hz_bd H
  refine aw_pFF (k := 2) C cl_8 (by decide) rfl wd_273 (hz_fita _ _) e17 dX8_init_53 ?_
  refine aw_iconst C dX8_init_56 (v := (nI 0)) (by decide) ?_
  refine aw_istore_n C dX8_init_57 (by rw [hn]; decide) rfl ?_
  exact k_X8_init_58 hn C  8 (cs := cs + 1 + 0 + 1 + 65 + 1) (sl := sl + 5 + 0 + 4 + 256 + 64) _ _ _ _ H (by omega) (by omega)
set_option maxRecDepth 100000 in
set_option maxHeartbeats 4000000 in
theorem k_X8_init_19 {G : GX} {h' : HP} (hn : G.2.2.2.2.2.2.2.2.2.2.2.2 = 4) (C : Cx G cX8_init RX8 "<init>" none rm_X8_init none h') {cs sl : Nat} (l0 : Option Nat) (h : HP) (H : f_X8_init_19  l0 h = some h') (hcs : cs + 124 ≤ 124) (hsl : sl + 1689 ≤ 1689) : aw G 19 [some (va_rf l0), none, none, none] [] h cs sl := by
  unfold f_X8_init_19 at H
  refine aw_iconst C dX8_init_19 (v := (nI 3)) (by decide) ?_
  exact k_X8_init_20 (cs := cs) (sl := sl) hn C  _ _ _ H (by omega) (by omega)
set_option maxRecDepth 100000 in
set_option maxHeartbeats 4000000 in
theorem c_X8_init {l : Launch} (a0 : Option Nat) (a1 : Int32) (h : HP) (h' : HP) (H : f_X8_init a0 a1 h = some h') : Ct l yX8_init cX8_init 4 none rm_X8_init [va_rf a0, .int a1] none h h' := by
  refine Ct.of (plainFor_of_name (by decide)) (hz_s1c (hz_s1c hz_s1n rfl) (hz_cr _)) (Nat.le_of_ble_eq_true rfl) (fun G hl hn C0 => ?_)
  have C : Cx G cX8_init RX8 "<init>" none rm_X8_init none h' := C0
  subst hl
  show aw G 0 [some (va_rf a0), some (.int a1), none, none] [] h 0 0
  unfold f_X8_init at H
  obtain ⟨cs, hcs⟩ : ∃ k : Nat, k = 0 := ⟨0, rfl⟩
  obtain ⟨sl, hsl⟩ : ∃ k : Nat, k = 0 := ⟨0, rfl⟩
  suffices hh : aw G 0 [some (va_rf a0), some (.int a1), none, none] [] h cs sl by rw [hcs, hsl] at hh; exact hh
  refine aw_aload_n C dX8_init_0 rfl ?_
  obtain ⟨g1, H⟩ := hz_un H
  refine aw_objI C g1 wd_77 wd_78 wd_79 (Nat.le_of_ble_eq_true rfl) (by decide) dX8_init_1 ?_
  refine aw_iload_n C dX8_init_4 rfl ?_
  refine aw_iconst C dX8_init_5 (v := (nI 2)) (by decide) ?_
  refine aw_icmp_lt (tgt := 19) C dX8_init_6 (by decide) (fun c30 => ?_) (fun c30 => ?_)
  · replace H := hz_it c30 H
    exact aw_loc (hz_sub_s (hz_sub_n (hz_sub_n (hz_sub_n hz_sub_0)))) (k_X8_init_19 (cs := cs) (sl := sl) hn C  _ _ H (by omega) (by omega))
  · replace H := hz_if c30 H
    refine aw_iload_n C dX8_init_9 rfl ?_
    refine aw_bipush C dX8_init_10 (v := (nI 7)) (by decide) ?_
    refine aw_icmp_gt (tgt := 19) C dX8_init_12 (by decide) (fun c31 => ?_) (fun c31 => ?_)
    · replace H := hz_it c31 H
      exact aw_loc (hz_sub_s (hz_sub_n (hz_sub_n (hz_sub_n hz_sub_0)))) (k_X8_init_19 (cs := cs) (sl := sl) hn C  _ _ H (by omega) (by omega))
    · replace H := hz_if c31 H
      refine aw_iload_n C dX8_init_15 rfl ?_
      refine aw_goto (tgt := 20) C dX8_init_16 (by decide) ?_
      exact aw_loc (hz_sub_s (hz_sub_n (hz_sub_n (hz_sub_n hz_sub_0)))) (k_X8_init_20 (cs := cs) (sl := sl) hn C  _ _ _ H (by omega) (by omega))
theorem hy_X8_find : hz_Y yX8_find cX8_find 2 (some (.object "GroupCast$Node")) 1 := ⟨wd_288, wd_58, by decide +kernel, by decide +kernel, by decide +kernel⟩
theorem hv_X8_find : hz_YV yX8_find := ⟨wd_287, wd_0⟩
def f_X8_find_23 (s0 : Option Nat) (h : HP) : Option (Option Nat × HP) :=
  some (s0, h)
def f_X8_find_22 (h : HP) : Option (Option Nat × HP) :=
  f_X8_find_23  none h
def f_X8_find (a0 : Option Nat) (a1 : Int32) (h : HP) : Option (Option Nat × HP) :=
  if a1 < 0 then
    f_X8_find_22   h
  else
    (hz_gR h a0 8 2).bind fun r1 =>
    (hz_aL h r1).bind fun v3 =>
    if v3 ≤ a1 then
      f_X8_find_22   h
    else
      (hz_gR h a0 8 2).bind fun r5 =>
      (hz_aR h r5 3 a1).bind fun r7 =>
      f_X8_find_23  r7 h
abbrev rm_X8_find : Room := { frames := 0, cells := 0, slots := 0, locals := 0 }
set_option maxRecDepth 100000 in
set_option maxHeartbeats 4000000 in
theorem k_X8_find_23 {G : GX} {v' : Option Nat} {h' : HP} (hn : G.2.2.2.2.2.2.2.2.2.2.2.2 = 2) (C : Cx G cX8_find RX8 "find" (some (.object "GroupCast$Node")) rm_X8_find (some (va_rf v')) h') (s0 : Option Nat) (h : HP) (H : f_X8_find_23  s0 h = some (v', h')) : aw G 23 [none, none] [va_rf s0] h 0 0 := by
  unfold f_X8_find_23 at H
  cases H
  exact aw_aret C (Or.inl ⟨_, rfl⟩) (Nat.zero_le _) (Nat.zero_le _) dX8_find_23
set_option maxRecDepth 100000 in
set_option maxHeartbeats 4000000 in
theorem k_X8_find_22 {G : GX} {v' : Option Nat} {h' : HP} (hn : G.2.2.2.2.2.2.2.2.2.2.2.2 = 2) (C : Cx G cX8_find RX8 "find" (some (.object "GroupCast$Node")) rm_X8_find (some (va_rf v')) h') (h : HP) (H : f_X8_find_22   h = some (v', h')) : aw G 22 [none, none] [] h 0 0 := by
  unfold f_X8_find_22 at H
  refine aw_null C dX8_find_22 ?_
  exact k_X8_find_23 hn C  _ _ H
set_option maxRecDepth 100000 in
set_option maxHeartbeats 4000000 in
theorem c_X8_find {l : Launch} (a0 : Option Nat) (a1 : Int32) (h : HP) (v' : Option Nat) (h' : HP) (H : f_X8_find a0 a1 h = some (v', h')) : Ct l yX8_find cX8_find 2 (some (.object "GroupCast$Node")) rm_X8_find [va_rf a0, .int a1] (some (va_rf v')) h h' := by
  refine Ct.of (plainFor_of_name (by decide)) (hz_s1c (hz_s1c hz_s1n rfl) (hz_cr _)) (Nat.le_of_ble_eq_true rfl) (fun G hl hn C0 => ?_)
  have C : Cx G cX8_find RX8 "find" (some (.object "GroupCast$Node")) rm_X8_find (some (va_rf v')) h' := C0
  subst hl
  show aw G 0 [some (va_rf a0), some (.int a1)] [] h 0 0
  unfold f_X8_find at H
  refine aw_iload_n C dX8_find_0 rfl ?_
  refine aw_if_lt (tgt := 22) C dX8_find_1 (by decide) (fun c9 => ?_) (fun c9 => ?_)
  · replace H := hz_it c9 H
    exact aw_loc (hz_sub_n (hz_sub_n hz_sub_0)) (k_X8_find_22 hn C  _ H)
  · replace H := hz_if c9 H
    refine aw_iload_n C dX8_find_4 rfl ?_
    refine aw_aload_n C dX8_find_5 rfl ?_
    obtain ⟨r1, e2, H⟩ := hz_bd H
    refine aw_gR (k := 2) C cl_8 (by decide) wd_273 e2 dX8_find_6 ?_
    obtain ⟨v3, e4, H⟩ := hz_bd H
    refine aw_alen C e4 dX8_find_9 ?_
    refine aw_icmp_ge (tgt := 22) C dX8_find_10 (by decide) (fun c10 => ?_) (fun c10 => ?_)
    · replace H := hz_it c10 H
      exact aw_loc (hz_sub_n (hz_sub_n hz_sub_0)) (k_X8_find_22 hn C  _ H)
    · replace H := hz_if c10 H
      refine aw_aload_n C dX8_find_13 rfl ?_
      obtain ⟨r5, e6, H⟩ := hz_bd H
      refine aw_gR (k := 2) C cl_8 (by decide) wd_273 e6 dX8_find_14 ?_
      refine aw_iload_n C dX8_find_17 rfl ?_
      obtain ⟨r7, e8, H⟩ := hz_bd H
      refine aw_aald (t := 3) C (by decide) rfl e8 dX8_find_18 ?_
      refine aw_goto (tgt := 23) C dX8_find_19 (by decide) ?_
      exact aw_loc (hz_sub_n (hz_sub_n hz_sub_0)) (k_X8_find_23 hn C  _ _ H)
theorem hy_X8_submit : hz_Y yX8_submit cX8_submit 4 (some .int) 2 := ⟨wd_284, wd_58, by decide +kernel, by decide +kernel, by decide +kernel⟩
theorem hv_X8_submit : hz_YV yX8_submit := ⟨wd_282, wd_283⟩
def f_X8_submit_17 (h : HP) : Option (Int32 × HP) :=
  some ((-1 : Int32), h)
def f_X8_submit_35 (s0 : Int32) (h : HP) : Option (Int32 × HP) :=
  some (s0, h)
def f_X8_submit (a0 : Option Nat) (a1 : Int32) (a2 : Int32) (h : HP) : Option (Int32 × HP) :=
  if hz_ob h a0 8 = true then
  (f_X8_find a0 a1 h).bind fun p1 =>
  if p1.1 = none then
    f_X8_submit_17   p1.2
  else
    (f_X8_isAct a2 p1.2).bind fun p4 =>
    if p4.1 = 0 then
      f_X8_submit_17   p4.2
    else
      if hz_ob p4.2 p1.1 4 = true then
      (f_X4_isLive p1.1 p4.2).bind fun p6 =>
      if p6.1 = 0 then
        f_X8_submit_35  (nI 0) p6.2
      else
        if hz_ob p6.2 p1.1 4 = true then
        (f_X4_accept p1.1 a2 p6.2).bind fun p9 =>
        f_X8_submit_35  p9.1 p9.2
        else none
      else none
  else none
abbrev rm_X8_submit : Room := { frames := 5, cells := 17, slots := 81, locals := 135 }
set_option maxRecDepth 100000 in
set_option maxHeartbeats 4000000 in
theorem k_X8_submit_17 {G : GX} {v' : Int32} {h' : HP} (hn : G.2.2.2.2.2.2.2.2.2.2.2.2 = 4) (C : Cx G cX8_submit RX8 "submit" (some .int) rm_X8_submit (some (.int v')) h') {cs sl : Nat} (h : HP) (H : f_X8_submit_17   h = some (v', h')) (hcs : cs + 0 ≤ 17) (hsl : sl + 0 ≤ 81) : aw G 17 [none, none, none, none] [] h cs sl := by
  unfold f_X8_submit_17 at H
  refine aw_iconst C dX8_submit_17 (v := (-1)) (by decide) ?_
  cases H
  exact aw_iret C (by show cs ≤ 17; omega) (by show sl ≤ 81; omega) dX8_submit_18
set_option maxRecDepth 100000 in
set_option maxHeartbeats 4000000 in
theorem k_X8_submit_35 {G : GX} {v' : Int32} {h' : HP} (hn : G.2.2.2.2.2.2.2.2.2.2.2.2 = 4) (C : Cx G cX8_submit RX8 "submit" (some .int) rm_X8_submit (some (.int v')) h') {cs sl : Nat} (s0 : Int32) (h : HP) (H : f_X8_submit_35  s0 h = some (v', h')) (hcs : cs + 0 ≤ 17) (hsl : sl + 0 ≤ 81) : aw G 35 [none, none, none, none] [.int s0] h cs sl := by
  unfold f_X8_submit_35 at H
  cases H
  exact aw_iret C (by show cs ≤ 17; omega) (by show sl ≤ 81; omega) dX8_submit_35
set_option maxRecDepth 100000 in
set_option maxHeartbeats 4000000 in
theorem c_X8_submit {l : Launch} (a0 : Option Nat) (a1 : Int32) (a2 : Int32) (h : HP) (v' : Int32) (h' : HP) (H : f_X8_submit a0 a1 a2 h = some (v', h')) : Ct l yX8_submit cX8_submit 4 (some .int) rm_X8_submit [va_rf a0, .int a1, .int a2] (some (.int v')) h h' := by
  refine Ct.of (plainFor_of_name (by decide)) (hz_s1c (hz_s1c (hz_s1c hz_s1n rfl) rfl) (hz_cr _)) (Nat.le_of_ble_eq_true rfl) (fun G hl hn C0 => ?_)
  have C : Cx G cX8_submit RX8 "submit" (some .int) rm_X8_submit (some (.int v')) h' := C0
  subst hl
  show aw G 0 [some (va_rf a0), some (.int a1), some (.int a2), none] [] h 0 0
  unfold f_X8_submit at H
  obtain ⟨cs, hcs⟩ : ∃ k : Nat, k = 0 := ⟨0, rfl⟩
  obtain ⟨sl, hsl⟩ : ∃ k : Nat, k = 0 := ⟨0, rfl⟩
  suffices hh : aw G 0 [some (va_rf a0), some (.int a1), some (.int a2), none] [] h cs sl by rw [hcs, hsl] at hh; exact hh
  refine aw_aload_n C dX8_submit_0 rfl ?_
  refine aw_iload_n C dX8_submit_1 rfl ?_
  obtain ⟨g3, H⟩ := hz_wn H
  obtain ⟨p1, e2, H⟩ := hz_bd H
  refine aw_V (As := [.int a1]) (rest := []) C hy_X8_find hv_X8_find wd_285 cl_8.1 g3 (c_X8_find _ _ _ _ _  e2) (hz_ror _) rfl rfl (Nat.le_of_ble_eq_true rfl) (by decide) (kc := 0) (ks := 0) rfl rfl ⟨(by show cs + 0 ≤ 17; omega), (by show sl + 0 ≤ 81; omega)⟩ dX8_submit_2 ?_
  refine aw_astore_n C dX8_submit_5 (by rw [hn]; decide) rfl ?_
  refine aw_aload_n C dX8_submit_6 rfl ?_
  refine aw_ifnull (tgt := 17) C dX8_submit_7 (by decide) (fun c12 => ?_) (fun c12 => ?_)
  · replace H := hz_it c12 H
    exact aw_loc (hz_sub_n (hz_sub_n (hz_sub_n (hz_sub_n hz_sub_0)))) (k_X8_submit_17 (cs := cs + 0) (sl := sl + 0) hn C  _ H (by omega) (by omega))
  · replace H := hz_if c12 H
    refine aw_iload_n C dX8_submit_10 rfl ?_
    obtain ⟨p4, e5, H⟩ := hz_bd H
    refine aw_S (As := [.int a2]) (rest := []) C hy_X8_isAct wd_290 wd_289 (c_X8_isAct _ _ _ _  e5) (hz_roi _) rfl rfl (Nat.le_of_ble_eq_true rfl) (by decide) (kc := 0) (ks := 0) rfl rfl ⟨(by show cs + 0 + 0 ≤ 17; omega), (by show sl + 0 + 0 ≤ 81; omega)⟩ dX8_submit_11 ?_
    refine aw_if_ne (tgt := 19) C dX8_submit_14 (by decide) (fun c13 => ?_) (fun c13 => ?_)
    · replace H := hz_if c13 H
      refine aw_aload_n C dX8_submit_19 rfl ?_
      obtain ⟨g8, H⟩ := hz_wn H
      obtain ⟨p6, e7, H⟩ := hz_bd H
      refine aw_V (As := []) (rest := []) C hy_X4_isLive hv_X4_isLive wd_292 cl_4.1 g8 (c_X4_isLive _ _ _ _  e7) (hz_roi _) rfl rfl (Nat.le_of_ble_eq_true rfl) (by decide) (kc := 0) (ks := 0) rfl rfl ⟨(by show cs + 0 + 0 + 0 ≤ 17; omega), (by show sl + 0 + 0 + 0 ≤ 81; omega)⟩ dX8_submit_20 ?_
      refine aw_if_eq (tgt := 34) C dX8_submit_23 (by decide) (fun c14 => ?_) (fun c14 => ?_)
      · replace H := hz_it c14 H
        refine aw_iconst C dX8_submit_34 (v := (nI 0)) (by decide) ?_
        exact aw_loc (hz_sub_n (hz_sub_n (hz_sub_n (hz_sub_n hz_sub_0)))) (k_X8_submit_35 (cs := cs + 0 + 0 + 0) (sl := sl + 0 + 0 + 0) hn C  _ _ H (by omega) (by omega))
      · replace H := hz_if c14 H
        refine aw_aload_n C dX8_submit_26 rfl ?_
        refine aw_iload_n C dX8_submit_27 rfl ?_
        obtain ⟨g11, H⟩ := hz_wn H
        obtain ⟨p9, e10, H⟩ := hz_bd H
        refine aw_V (As := [.int a2]) (rest := []) C hy_X4_accept hv_X4_accept wd_296 cl_4.1 g11 (c_X4_accept _ _ _ _ _  e10) (hz_roi _) rfl rfl (Nat.le_of_ble_eq_true rfl) (by decide) (kc := 17) (ks := 81) rfl rfl ⟨(by show cs + 0 + 0 + 0 + 17 ≤ 17; omega), (by show sl + 0 + 0 + 0 + 81 ≤ 81; omega)⟩ dX8_submit_28 ?_
        refine aw_goto (tgt := 35) C dX8_submit_31 (by decide) ?_
        exact aw_loc (hz_sub_n (hz_sub_n (hz_sub_n (hz_sub_n hz_sub_0)))) (k_X8_submit_35 (cs := cs + 0 + 0 + 0 + 17) (sl := sl + 0 + 0 + 0 + 81) hn C  _ _ H (by omega) (by omega))
    · replace H := hz_it c13 H
      exact aw_loc (hz_sub_n (hz_sub_n (hz_sub_n (hz_sub_n hz_sub_0)))) (k_X8_submit_17 (cs := cs + 0 + 0) (sl := sl + 0 + 0) hn C  _ H (by omega) (by omega))
theorem hy_X8_deliver : hz_Y yX8_deliver cX8_deliver 6 (some .int) 2 := ⟨wd_435, wd_58, by decide +kernel, by decide +kernel, by decide +kernel⟩
theorem hv_X8_deliver : hz_YV yX8_deliver := ⟨wd_433, wd_434⟩
def f_X8_deliver_26 (h : HP) : Option (Int32 × HP) :=
  some ((-1 : Int32), h)
def f_X8_deliver (a0 : Option Nat) (a1 : Int32) (a2 : Int32) (h : HP) : Option (Int32 × HP) :=
  if hz_ob h a0 8 = true then
  (f_X8_find a0 a2 h).bind fun p1 =>
  (hz_gR p1.2 a0 8 1).bind fun r4 =>
  if hz_ob p1.2 r4 5 = true then
  (f_X5_between r4 a1 a2 p1.2).bind fun p6 =>
  if p1.1 = none then
    f_X8_deliver_26   p6.2
  else
    if p6.1 = none then
      f_X8_deliver_26   p6.2
    else
      (hz_gR p6.2 a0 8 1).bind fun r9 =>
      if hz_ob p6.2 r9 5 = true then
      (f_X5_takeOldest r9 p6.1 p6.2).bind fun p11 =>
      if p11.1 = none then
        some ((nI 0), p11.2)
      else
        if hz_ob p11.2 p1.1 4 = true then
        (f_X4_isLive p1.1 p11.2).bind fun p14 =>
        if p14.1 = 0 then
          (hz_gR p14.2 a0 8 0).bind fun r25 =>
          (hz_gI p14.2 r25 7 1).bind fun v27 =>
          (hz_pF p14.2 r25 7 1 (.int (v27 + (nI 1)))).bind fun h29 =>
          (hz_gI h29 p11.1 2 0).bind fun v31 =>
          some (((nI 20) + v31), h29)
        else
          if hz_ob p14.2 p1.1 4 = true then
          (f_X4_receive p1.1 a1 p11.1 p14.2).bind fun p17 =>
          if hz_ob p17 p1.1 4 = true then
          (f_X4_goOn p1.1 p17).bind fun p20 =>
          (hz_gI p20 p11.1 2 0).bind fun v23 =>
          some (v23, p20)
          else none
          else none
        else none
      else none
  else none
  else none
abbrev rm_X8_deliver : Room := { frames := 7, cells := 41, slots := 264, locals := 177 }
set_option maxRecDepth 100000 in
set_option maxHeartbeats 4000000 in
theorem k_X8_deliver_26 {G : GX} {v' : Int32} {h' : HP} (hn : G.2.2.2.2.2.2.2.2.2.2.2.2 = 6) (C : Cx G cX8_deliver RX8 "deliver" (some .int) rm_X8_deliver (some (.int v')) h') {cs sl : Nat} (h : HP) (H : f_X8_deliver_26   h = some (v', h')) (hcs : cs + 0 ≤ 41) (hsl : sl + 0 ≤ 264) : aw G 26 [none, none, none, none, none, none] [] h cs sl := by
  unfold f_X8_deliver_26 at H
  refine aw_iconst C dX8_deliver_26 (v := (-1)) (by decide) ?_
  cases H
  exact aw_iret C (by show cs ≤ 41; omega) (by show sl ≤ 264; omega) dX8_deliver_27
set_option maxRecDepth 100000 in
set_option maxHeartbeats 4000000 in
theorem c_X8_deliver {l : Launch} (a0 : Option Nat) (a1 : Int32) (a2 : Int32) (h : HP) (v' : Int32) (h' : HP) (H : f_X8_deliver a0 a1 a2 h = some (v', h')) : Ct l yX8_deliver cX8_deliver 6 (some .int) rm_X8_deliver [va_rf a0, .int a1, .int a2] (some (.int v')) h h' := by
  refine Ct.of (plainFor_of_name (by decide)) (hz_s1c (hz_s1c (hz_s1c hz_s1n rfl) rfl) (hz_cr _)) (Nat.le_of_ble_eq_true rfl) (fun G hl hn C0 => ?_)
  have C : Cx G cX8_deliver RX8 "deliver" (some .int) rm_X8_deliver (some (.int v')) h' := C0
  subst hl
  show aw G 0 [some (va_rf a0), some (.int a1), some (.int a2), none, none, none] [] h 0 0
  unfold f_X8_deliver at H
  obtain ⟨cs, hcs⟩ : ∃ k : Nat, k = 0 := ⟨0, rfl⟩
  obtain ⟨sl, hsl⟩ : ∃ k : Nat, k = 0 := ⟨0, rfl⟩
  suffices hh : aw G 0 [some (va_rf a0), some (.int a1), some (.int a2), none, none, none] [] h cs sl by rw [hcs, hsl] at hh; exact hh
  refine aw_aload_n C dX8_deliver_0 rfl ?_
  refine aw_iload_n C dX8_deliver_1 rfl ?_
  obtain ⟨g3, H⟩ := hz_wn H
  obtain ⟨p1, e2, H⟩ := hz_bd H
  refine aw_V (As := [.int a2]) (rest := []) C hy_X8_find hv_X8_find wd_285 cl_8.1 g3 (c_X8_find _ _ _ _ _  e2) (hz_ror _) rfl rfl (Nat.le_of_ble_eq_true rfl) (by decide) (kc := 0) (ks := 0) rfl rfl ⟨(by show cs + 0 ≤ 41; omega), (by show sl + 0 ≤ 264; omega)⟩ dX8_deliver_2 ?_
  refine aw_astore_n C dX8_deliver_5 (by rw [hn]; decide) rfl ?_
  refine aw_aload_n C dX8_deliver_6 rfl ?_
  obtain ⟨r4, e5, H⟩ := hz_bd H
  refine aw_gR (k := 1) C cl_8 (by decide) wd_272 e5 dX8_deliver_7 ?_
  refine aw_iload_n C dX8_deliver_10 rfl ?_
  refine aw_iload_n C dX8_deliver_11 rfl ?_
  obtain ⟨g8, H⟩ := hz_wn H
  obtain ⟨p6, e7, H⟩ := hz_bd H
  refine aw_V (As := [.int a1, .int a2]) (rest := []) C hy_X5_between hv_X5_between wd_436 cl_5.1 g8 (c_X5_between _ _ _ _ _ _  e7) (hz_ror _) rfl rfl (Nat.le_of_ble_eq_true rfl) (by decide) (kc := 0) (ks := 0) rfl rfl ⟨(by show cs + 0 + 0 ≤ 41; omega), (by show sl + 0 + 0 ≤ 264; omega)⟩ dX8_deliver_12 ?_
  refine aw_astore C dX8_deliver_15 (by rw [hn]; decide) rfl ?_
  refine aw_aload_n C dX8_deliver_17 rfl ?_
  refine aw_ifnull (tgt := 26) C dX8_deliver_18 (by decide) (fun c33 => ?_) (fun c33 => ?_)
  · replace H := hz_it c33 H
    exact aw_loc (hz_sub_n (hz_sub_n (hz_sub_n (hz_sub_n (hz_sub_n (hz_sub_n hz_sub_0)))))) (k_X8_deliver_26 (cs := cs + 0 + 0) (sl := sl + 0 + 0) hn C  _ H (by omega) (by omega))
  · replace H := hz_if c33 H
    refine aw_aload C dX8_deliver_21 rfl ?_
    refine aw_ifnonnull (tgt := 28) C dX8_deliver_23 (by decide) (fun c34 => ?_) (fun c34 => ?_)
    · replace H := hz_if c34 H
      refine aw_aload_n C dX8_deliver_28 rfl ?_
      obtain ⟨r9, e10, H⟩ := hz_bd H
      refine aw_gR (k := 1) C cl_8 (by decide) wd_272 e10 dX8_deliver_29 ?_
      refine aw_aload C dX8_deliver_32 rfl ?_
      obtain ⟨g13, H⟩ := hz_wn H
      obtain ⟨p11, e12, H⟩ := hz_bd H
      refine aw_V (As := [va_rf p6.1]) (rest := []) C hy_X5_takeOldest hv_X5_takeOldest wd_437 cl_5.1 g13 (c_X5_takeOldest _ _ _ _ _  e12) (hz_ror _) rfl rfl (Nat.le_of_ble_eq_true rfl) (by decide) (kc := 0) (ks := 0) rfl rfl ⟨(by show cs + 0 + 0 + 0 ≤ 41; omega), (by show sl + 0 + 0 + 0 ≤ 264; omega)⟩ dX8_deliver_34 ?_
      refine aw_astore C dX8_deliver_37 (by rw [hn]; decide) rfl ?_
      refine aw_aload C dX8_deliver_39 rfl ?_
      refine aw_ifnonnull (tgt := 46) C dX8_deliver_41 (by decide) (fun c35 => ?_) (fun c35 => ?_)
      · replace H := hz_if c35 H
        refine aw_aload_n C dX8_deliver_46 rfl ?_
        obtain ⟨g16, H⟩ := hz_wn H
        obtain ⟨p14, e15, H⟩ := hz_bd H
        refine aw_V (As := []) (rest := []) C hy_X4_isLive hv_X4_isLive wd_292 cl_4.1 g16 (c_X4_isLive _ _ _ _  e15) (hz_roi _) rfl rfl (Nat.le_of_ble_eq_true rfl) (by decide) (kc := 0) (ks := 0) rfl rfl ⟨(by show cs + 0 + 0 + 0 + 0 ≤ 41; omega), (by show sl + 0 + 0 + 0 + 0 ≤ 264; omega)⟩ dX8_deliver_47 ?_
        refine aw_if_ne (tgt := 75) C dX8_deliver_50 (by decide) (fun c36 => ?_) (fun c36 => ?_)
        · replace H := hz_if c36 H
          refine aw_aload_n C dX8_deliver_75 rfl ?_
          refine aw_iload_n C dX8_deliver_76 rfl ?_
          refine aw_aload C dX8_deliver_77 rfl ?_
          obtain ⟨g19, H⟩ := hz_wn H
          obtain ⟨p17, e18, H⟩ := hz_bd H
          refine aw_V (As := [.int a1, va_rf p11.1]) (rest := []) C hy_X4_receive hv_X4_receive wd_445 cl_4.1 g19 (c_X4_receive _ _ _ _ _  e18) hz_ron rfl rfl (Nat.le_of_ble_eq_true rfl) (by decide) (kc := 17) (ks := 144) rfl rfl ⟨(by show cs + 0 + 0 + 0 + 0 + 17 ≤ 41; omega), (by show sl + 0 + 0 + 0 + 0 + 144 ≤ 264; omega)⟩ dX8_deliver_79 ?_
          refine aw_aload_n C dX8_deliver_82 rfl ?_
          obtain ⟨g22, H⟩ := hz_wn H
          obtain ⟨p20, e21, H⟩ := hz_bd H
          refine aw_V (As := []) (rest := []) C hy_X4_goOn hv_X4_goOn wd_571 cl_4.1 g22 (c_X4_goOn _ _ _  e21) hz_ron rfl rfl (Nat.le_of_ble_eq_true rfl) (by decide) (kc := 24) (ks := 120) rfl rfl ⟨(by show cs + 0 + 0 + 0 + 0 + 17 + 24 ≤ 41; omega), (by show sl + 0 + 0 + 0 + 0 + 144 + 120 ≤ 264; omega)⟩ dX8_deliver_83 ?_
          refine aw_aload C dX8_deliver_86 rfl ?_
          obtain ⟨v23, e24, H⟩ := hz_bd H
          refine aw_gI (k := 0) C cl_2 (by decide) wd_327 e24 dX8_deliver_88 ?_
          cases H
          exact aw_iret C (by show cs + 0 + 0 + 0 + 0 + 17 + 24 ≤ 41; omega) (by show sl + 0 + 0 + 0 + 0 + 144 + 120 ≤ 264; omega) dX8_deliver_91
        · replace H := hz_it c36 H
          refine aw_aload_n C dX8_deliver_53 rfl ?_
          obtain ⟨r25, e26, H⟩ := hz_bd H
          refine aw_gR (k := 0) C cl_8 (by decide) wd_271 e26 dX8_deliver_54 ?_
          refine aw_dup C dX8_deliver_57 ?_
          obtain ⟨v27, e28, H⟩ := hz_bd H
          refine aw_gI (k := 1) C cl_7 (by decide) wd_89 e28 dX8_deliver_58 ?_
          refine aw_iconst C dX8_deliver_61 (v := (nI 1)) (by decide) ?_
          refine aw_iadd C dX8_deliver_62 ?_
          obtain ⟨h29, e30, H⟩ := hz_bd H
          refine aw_pF (k := 1) C cl_7 (by decide) rfl wd_89 (hz_fiti _) e30 dX8_deliver_63 ?_
          refine aw_bipush C dX8_deliver_66 (v := (nI 20)) (by decide) ?_
          refine aw_aload C dX8_deliver_68 rfl ?_
          obtain ⟨v31, e32, H⟩ := hz_bd H
          refine aw_gI (k := 0) C cl_2 (by decide) wd_327 e32 dX8_deliver_70 ?_
          refine aw_iadd C dX8_deliver_73 ?_
          cases H
          exact aw_iret C (by show cs + 0 + 0 + 0 + 0 ≤ 41; omega) (by show sl + 0 + 0 + 0 + 0 ≤ 264; omega) dX8_deliver_74
      · replace H := hz_it c35 H
        refine aw_iconst C dX8_deliver_44 (v := (nI 0)) (by decide) ?_
        cases H
        exact aw_iret C (by show cs + 0 + 0 + 0 ≤ 41; omega) (by show sl + 0 + 0 + 0 ≤ 264; omega) dX8_deliver_45
    · replace H := hz_it c34 H
      exact aw_loc (hz_sub_n (hz_sub_n (hz_sub_n (hz_sub_n (hz_sub_n (hz_sub_n hz_sub_0)))))) (k_X8_deliver_26 (cs := cs + 0 + 0) (sl := sl + 0 + 0) hn C  _ H (by omega) (by omega))
theorem hy_X8_suspect : hz_Y yX8_suspect cX8_suspect 4 (some .int) 2 := ⟨wd_586, wd_58, by decide +kernel, by decide +kernel, by decide +kernel⟩
theorem hv_X8_suspect : hz_YV yX8_suspect := ⟨wd_584, wd_585⟩
def f_X8_suspect_18 (h : HP) : Option (Int32 × HP) :=
  some ((-1 : Int32), h)
def f_X8_suspect_43 (h : HP) : Option (Int32 × HP) :=
  some ((nI 0), h)
def f_X8_suspect (a0 : Option Nat) (a1 : Int32) (a2 : Int32) (h : HP) : Option (Int32 × HP) :=
  if hz_ob h a0 8 = true then
  (f_X8_find a0 a1 h).bind fun p1 =>
  if p1.1 = none then
    f_X8_suspect_18   p1.2
  else
    if hz_ob p1.2 a0 8 = true then
    (f_X8_find a0 a2 p1.2).bind fun p4 =>
    if p4.1 = none then
      f_X8_suspect_18   p4.2
    else
      if a1 = a2 then
        f_X8_suspect_43   p4.2
      else
        if hz_ob p4.2 p1.1 4 = true then
        (f_X4_isLive p1.1 p4.2).bind fun p7 =>
        if p7.1 = 0 then
          f_X8_suspect_43   p7.2
        else
          (hz_gI p7.2 p1.1 4 15).bind fun v10 =>
          (f_X8_has v10 a2 p7.2).bind fun p12 =>
          if p12.1 = 0 then
            if hz_ob p12.2 p1.1 4 = true then
            (f_X4_turnAgainst p1.1 a2 p12.2).bind fun p14 =>
            if hz_ob p14 p1.1 4 = true then
            (f_X4_goOn p1.1 p14).bind fun p17 =>
            some ((nI 1), p17)
            else none
            else none
          else
            f_X8_suspect_43   p12.2
        else none
    else none
  else none
abbrev rm_X8_suspect : Room := { frames := 6, cells := 33, slots := 224, locals := 156 }
set_option maxRecDepth 100000 in
set_option maxHeartbeats 4000000 in
theorem k_X8_suspect_18 {G : GX} {v' : Int32} {h' : HP} (hn : G.2.2.2.2.2.2.2.2.2.2.2.2 = 4) (C : Cx G cX8_suspect RX8 "suspect" (some .int) rm_X8_suspect (some (.int v')) h') {cs sl : Nat} (h : HP) (H : f_X8_suspect_18   h = some (v', h')) (hcs : cs + 0 ≤ 33) (hsl : sl + 0 ≤ 224) : aw G 18 [none, none, none, none] [] h cs sl := by
  unfold f_X8_suspect_18 at H
  refine aw_iconst C dX8_suspect_18 (v := (-1)) (by decide) ?_
  cases H
  exact aw_iret C (by show cs ≤ 33; omega) (by show sl ≤ 224; omega) dX8_suspect_19
set_option maxRecDepth 100000 in
set_option maxHeartbeats 4000000 in
theorem k_X8_suspect_43 {G : GX} {v' : Int32} {h' : HP} (hn : G.2.2.2.2.2.2.2.2.2.2.2.2 = 4) (C : Cx G cX8_suspect RX8 "suspect" (some .int) rm_X8_suspect (some (.int v')) h') {cs sl : Nat} (h : HP) (H : f_X8_suspect_43   h = some (v', h')) (hcs : cs + 0 ≤ 33) (hsl : sl + 0 ≤ 224) : aw G 43 [none, none, none, none] [] h cs sl := by
  unfold f_X8_suspect_43 at H
  refine aw_iconst C dX8_suspect_43 (v := (nI 0)) (by decide) ?_
  cases H
  exact aw_iret C (by show cs ≤ 33; omega) (by show sl ≤ 224; omega) dX8_suspect_44
set_option maxRecDepth 100000 in
set_option maxHeartbeats 4000000 in
theorem c_X8_suspect {l : Launch} (a0 : Option Nat) (a1 : Int32) (a2 : Int32) (h : HP) (v' : Int32) (h' : HP) (H : f_X8_suspect a0 a1 a2 h = some (v', h')) : Ct l yX8_suspect cX8_suspect 4 (some .int) rm_X8_suspect [va_rf a0, .int a1, .int a2] (some (.int v')) h h' := by
  refine Ct.of (plainFor_of_name (by decide)) (hz_s1c (hz_s1c (hz_s1c hz_s1n rfl) rfl) (hz_cr _)) (Nat.le_of_ble_eq_true rfl) (fun G hl hn C0 => ?_)
  have C : Cx G cX8_suspect RX8 "suspect" (some .int) rm_X8_suspect (some (.int v')) h' := C0
  subst hl
  show aw G 0 [some (va_rf a0), some (.int a1), some (.int a2), none] [] h 0 0
  unfold f_X8_suspect at H
  obtain ⟨cs, hcs⟩ : ∃ k : Nat, k = 0 := ⟨0, rfl⟩
  obtain ⟨sl, hsl⟩ : ∃ k : Nat, k = 0 := ⟨0, rfl⟩
  suffices hh : aw G 0 [some (va_rf a0), some (.int a1), some (.int a2), none] [] h cs sl by rw [hcs, hsl] at hh; exact hh
  refine aw_aload_n C dX8_suspect_0 rfl ?_
  refine aw_iload_n C dX8_suspect_1 rfl ?_
  obtain ⟨g3, H⟩ := hz_wn H
  obtain ⟨p1, e2, H⟩ := hz_bd H
  refine aw_V (As := [.int a1]) (rest := []) C hy_X8_find hv_X8_find wd_285 cl_8.1 g3 (c_X8_find _ _ _ _ _  e2) (hz_ror _) rfl rfl (Nat.le_of_ble_eq_true rfl) (by decide) (kc := 0) (ks := 0) rfl rfl ⟨(by show cs + 0 ≤ 33; omega), (by show sl + 0 ≤ 224; omega)⟩ dX8_suspect_2 ?_
  refine aw_astore_n C dX8_suspect_5 (by rw [hn]; decide) rfl ?_
  refine aw_aload_n C dX8_suspect_6 rfl ?_
  refine aw_ifnull (tgt := 18) C dX8_suspect_7 (by decide) (fun c20 => ?_) (fun c20 => ?_)
  · replace H := hz_it c20 H
    exact aw_loc (hz_sub_n (hz_sub_n (hz_sub_n (hz_sub_n hz_sub_0)))) (k_X8_suspect_18 (cs := cs + 0) (sl := sl + 0) hn C  _ H (by omega) (by omega))
  · replace H := hz_if c20 H
    refine aw_aload_n C dX8_suspect_10 rfl ?_
    refine aw_iload_n C dX8_suspect_11 rfl ?_
    obtain ⟨g6, H⟩ := hz_wn H
    obtain ⟨p4, e5, H⟩ := hz_bd H
    refine aw_V (As := [.int a2]) (rest := []) C hy_X8_find hv_X8_find wd_285 cl_8.1 g6 (c_X8_find _ _ _ _ _  e5) (hz_ror _) rfl rfl (Nat.le_of_ble_eq_true rfl) (by decide) (kc := 0) (ks := 0) rfl rfl ⟨(by show cs + 0 + 0 ≤ 33; omega), (by show sl + 0 + 0 ≤ 224; omega)⟩ dX8_suspect_12 ?_
    refine aw_ifnonnull (tgt := 20) C dX8_suspect_15 (by decide) (fun c21 => ?_) (fun c21 => ?_)
    · replace H := hz_if c21 H
      refine aw_iload_n C dX8_suspect_20 rfl ?_
      refine aw_iload_n C dX8_suspect_21 rfl ?_
      refine aw_icmp_eq (tgt := 43) C dX8_suspect_22 (by decide) (fun c22 => ?_) (fun c22 => ?_)
      · replace H := hz_it c22 H
        exact aw_loc (hz_sub_n (hz_sub_n (hz_sub_n (hz_sub_n hz_sub_0)))) (k_X8_suspect_43 (cs := cs + 0 + 0) (sl := sl + 0 + 0) hn C  _ H (by omega) (by omega))
      · replace H := hz_if c22 H
        refine aw_aload_n C dX8_suspect_25 rfl ?_
        obtain ⟨g9, H⟩ := hz_wn H
        obtain ⟨p7, e8, H⟩ := hz_bd H
        refine aw_V (As := []) (rest := []) C hy_X4_isLive hv_X4_isLive wd_292 cl_4.1 g9 (c_X4_isLive _ _ _ _  e8) (hz_roi _) rfl rfl (Nat.le_of_ble_eq_true rfl) (by decide) (kc := 0) (ks := 0) rfl rfl ⟨(by show cs + 0 + 0 + 0 ≤ 33; omega), (by show sl + 0 + 0 + 0 ≤ 224; omega)⟩ dX8_suspect_26 ?_
        refine aw_if_eq (tgt := 43) C dX8_suspect_29 (by decide) (fun c23 => ?_) (fun c23 => ?_)
        · replace H := hz_it c23 H
          exact aw_loc (hz_sub_n (hz_sub_n (hz_sub_n (hz_sub_n hz_sub_0)))) (k_X8_suspect_43 (cs := cs + 0 + 0 + 0) (sl := sl + 0 + 0 + 0) hn C  _ H (by omega) (by omega))
        · replace H := hz_if c23 H
          refine aw_aload_n C dX8_suspect_32 rfl ?_
          obtain ⟨v10, e11, H⟩ := hz_bd H
          refine aw_gI (k := 15) C cl_4 (by decide) wd_234 e11 dX8_suspect_33 ?_
          refine aw_iload_n C dX8_suspect_36 rfl ?_
          obtain ⟨p12, e13, H⟩ := hz_bd H
          refine aw_S (As := [.int v10, .int a2]) (rest := []) C hy_X8_has wd_309 wd_587 (c_X8_has _ _ _ _ _  e13) (hz_roi _) rfl rfl (Nat.le_of_ble_eq_true rfl) (by decide) (kc := 0) (ks := 0) rfl rfl ⟨(by show cs + 0 + 0 + 0 + 0 ≤ 33; omega), (by show sl + 0 + 0 + 0 + 0 ≤ 224; omega)⟩ dX8_suspect_37 ?_
          refine aw_if_eq (tgt := 45) C dX8_suspect_40 (by decide) (fun c24 => ?_) (fun c24 => ?_)
          · replace H := hz_it c24 H
            refine aw_aload_n C dX8_suspect_45 rfl ?_
            refine aw_iload_n C dX8_suspect_46 rfl ?_
            obtain ⟨g16, H⟩ := hz_wn H
            obtain ⟨p14, e15, H⟩ := hz_bd H
            refine aw_V (As := [.int a2]) (rest := []) C hy_X4_turnAgainst hv_X4_turnAgainst wd_588 cl_4.1 g16 (c_X4_turnAgainst _ _ _ _  e15) hz_ron rfl rfl (Nat.le_of_ble_eq_true rfl) (by decide) (kc := 9) (ks := 104) rfl rfl ⟨(by show cs + 0 + 0 + 0 + 0 + 9 ≤ 33; omega), (by show sl + 0 + 0 + 0 + 0 + 104 ≤ 224; omega)⟩ dX8_suspect_47 ?_
            refine aw_aload_n C dX8_suspect_50 rfl ?_
            obtain ⟨g19, H⟩ := hz_wn H
            obtain ⟨p17, e18, H⟩ := hz_bd H
            refine aw_V (As := []) (rest := []) C hy_X4_goOn hv_X4_goOn wd_571 cl_4.1 g19 (c_X4_goOn _ _ _  e18) hz_ron rfl rfl (Nat.le_of_ble_eq_true rfl) (by decide) (kc := 24) (ks := 120) rfl rfl ⟨(by show cs + 0 + 0 + 0 + 0 + 9 + 24 ≤ 33; omega), (by show sl + 0 + 0 + 0 + 0 + 104 + 120 ≤ 224; omega)⟩ dX8_suspect_51 ?_
            refine aw_iconst C dX8_suspect_54 (v := (nI 1)) (by decide) ?_
            cases H
            exact aw_iret C (by show cs + 0 + 0 + 0 + 0 + 9 + 24 ≤ 33; omega) (by show sl + 0 + 0 + 0 + 0 + 104 + 120 ≤ 224; omega) dX8_suspect_55
          · replace H := hz_if c24 H
            exact aw_loc (hz_sub_n (hz_sub_n (hz_sub_n (hz_sub_n hz_sub_0)))) (k_X8_suspect_43 (cs := cs + 0 + 0 + 0 + 0) (sl := sl + 0 + 0 + 0 + 0) hn C  _ H (by omega) (by omega))
    · replace H := hz_it c21 H
      exact aw_loc (hz_sub_n (hz_sub_n (hz_sub_n (hz_sub_n hz_sub_0)))) (k_X8_suspect_18 (cs := cs + 0 + 0) (sl := sl + 0 + 0) hn C  _ H (by omega) (by omega))
theorem hy_X8_crash : hz_Y yX8_crash cX8_crash 3 (some .boolean) 1 := ⟨wd_599, wd_58, by decide +kernel, by decide +kernel, by decide +kernel⟩
theorem hv_X8_crash : hz_YV yX8_crash := ⟨wd_597, wd_598⟩
def f_X8_crash_17 (h : HP) : Option (Int32 × HP) :=
  some ((nI 0), h)
def f_X8_crash (a0 : Option Nat) (a1 : Int32) (h : HP) : Option (Int32 × HP) :=
  if hz_ob h a0 8 = true then
  (f_X8_find a0 a1 h).bind fun p1 =>
  if p1.1 = none then
    f_X8_crash_17   p1.2
  else
    if hz_ob p1.2 p1.1 4 = true then
    (f_X4_isLive p1.1 p1.2).bind fun p4 =>
    if p4.1 = 0 then
      f_X8_crash_17   p4.2
    else
      (hz_pF p4.2 p1.1 4 8 (.int (nI 1))).bind fun h7 =>
      some ((nI 1), h7)
    else none
  else none
abbrev rm_X8_crash : Room := { frames := 1, cells := 0, slots := 0, locals := 21 }
set_option maxRecDepth 100000 in
set_option maxHeartbeats 4000000 in
theorem k_X8_crash_17 {G : GX} {v' : Int32} {h' : HP} (hn : G.2.2.2.2.2.2.2.2.2.2.2.2 = 3) (C : Cx G cX8_crash RX8 "crash" (some .boolean) rm_X8_crash (some (.int v')) h') (h : HP) (H : f_X8_crash_17   h = some (v', h')) : aw G 17 [none, none, none] [] h 0 0 := by
  unfold f_X8_crash_17 at H
  refine aw_iconst C dX8_crash_17 (v := (nI 0)) (by decide) ?_
  cases H
  exact aw_zret C (by decide) (Nat.zero_le _) (Nat.zero_le _) dX8_crash_18
set_option maxRecDepth 100000 in
set_option maxHeartbeats 4000000 in
theorem c_X8_crash {l : Launch} (a0 : Option Nat) (a1 : Int32) (h : HP) (v' : Int32) (h' : HP) (H : f_X8_crash a0 a1 h = some (v', h')) : Ct l yX8_crash cX8_crash 3 (some .boolean) rm_X8_crash [va_rf a0, .int a1] (some (.int v')) h h' := by
  refine Ct.of (plainFor_of_name (by decide)) (hz_s1c (hz_s1c hz_s1n rfl) (hz_cr _)) (Nat.le_of_ble_eq_true rfl) (fun G hl hn C0 => ?_)
  have C : Cx G cX8_crash RX8 "crash" (some .boolean) rm_X8_crash (some (.int v')) h' := C0
  subst hl
  show aw G 0 [some (va_rf a0), some (.int a1), none] [] h 0 0
  unfold f_X8_crash at H
  refine aw_aload_n C dX8_crash_0 rfl ?_
  refine aw_iload_n C dX8_crash_1 rfl ?_
  obtain ⟨g3, H⟩ := hz_wn H
  obtain ⟨p1, e2, H⟩ := hz_bd H
  refine aw_V (As := [.int a1]) (rest := []) C hy_X8_find hv_X8_find wd_285 cl_8.1 g3 (c_X8_find _ _ _ _ _  e2) (hz_ror _) rfl rfl (Nat.le_of_ble_eq_true rfl) (by decide) (kc := 0) (ks := 0) rfl rfl (by decide) dX8_crash_2 ?_
  refine aw_astore_n C dX8_crash_5 (by rw [hn]; decide) rfl ?_
  refine aw_aload_n C dX8_crash_6 rfl ?_
  refine aw_ifnull (tgt := 17) C dX8_crash_7 (by decide) (fun c9 => ?_) (fun c9 => ?_)
  · replace H := hz_it c9 H
    exact aw_loc (hz_sub_n (hz_sub_n (hz_sub_n hz_sub_0))) (k_X8_crash_17 hn C  _ H)
  · replace H := hz_if c9 H
    refine aw_aload_n C dX8_crash_10 rfl ?_
    obtain ⟨g6, H⟩ := hz_wn H
    obtain ⟨p4, e5, H⟩ := hz_bd H
    refine aw_V (As := []) (rest := []) C hy_X4_isLive hv_X4_isLive wd_292 cl_4.1 g6 (c_X4_isLive _ _ _ _  e5) (hz_roi _) rfl rfl (Nat.le_of_ble_eq_true rfl) (by decide) (kc := 0) (ks := 0) rfl rfl (by decide) dX8_crash_11 ?_
    refine aw_if_ne (tgt := 19) C dX8_crash_14 (by decide) (fun c10 => ?_) (fun c10 => ?_)
    · replace H := hz_if c10 H
      refine aw_aload_n C dX8_crash_19 rfl ?_
      refine aw_iconst C dX8_crash_20 (v := (nI 1)) (by decide) ?_
      obtain ⟨h7, e8, H⟩ := hz_bd H
      refine aw_pF (k := 8) C cl_4 (by decide) rfl wd_225 (hz_fiti _) e8 dX8_crash_21 ?_
      refine aw_iconst C dX8_crash_24 (v := (nI 1)) (by decide) ?_
      cases H
      exact aw_zret C (by decide) (Nat.zero_le _) (Nat.zero_le _) dX8_crash_25
    · replace H := hz_it c10 H
      exact aw_loc (hz_sub_n (hz_sub_n (hz_sub_n hz_sub_0))) (k_X8_crash_17 hn C  _ H)
theorem hy_X8_timeout : hz_Y yX8_timeout cX8_timeout 3 (some .int) 1 := ⟨wd_603, wd_58, by decide +kernel, by decide +kernel, by decide +kernel⟩
theorem hv_X8_timeout : hz_YV yX8_timeout := ⟨wd_601, wd_602⟩
def f_X8_timeout_26 (h : HP) : Option (Int32 × HP) :=
  some ((nI 0), h)
def f_X8_timeout (a0 : Option Nat) (a1 : Int32) (h : HP) : Option (Int32 × HP) :=
  if hz_ob h a0 8 = true then
  (f_X8_find a0 a1 h).bind fun p1 =>
  if p1.1 = none then
    some ((-1 : Int32), p1.2)
  else
    if hz_ob p1.2 p1.1 4 = true then
    (f_X4_isLive p1.1 p1.2).bind fun p4 =>
    if p4.1 = 0 then
      f_X8_timeout_26   p4.2
    else
      (hz_gI p4.2 p1.1 4 9).bind fun v7 =>
      if v7 = 0 then
        f_X8_timeout_26   p4.2
      else
        if hz_ob p4.2 p1.1 4 = true then
        (f_X4_losePatience p1.1 p4.2).bind fun p9 =>
        if hz_ob p9 p1.1 4 = true then
        (f_X4_goOn p1.1 p9).bind fun p12 =>
        some ((nI 1), p12)
        else none
        else none
    else none
  else none
abbrev rm_X8_timeout : Room := { frames := 6, cells := 33, slots := 224, locals := 154 }
set_option maxRecDepth 100000 in
set_option maxHeartbeats 4000000 in
theorem k_X8_timeout_26 {G : GX} {v' : Int32} {h' : HP} (hn : G.2.2.2.2.2.2.2.2.2.2.2.2 = 3) (C : Cx G cX8_timeout RX8 "timeout" (some .int) rm_X8_timeout (some (.int v')) h') {cs sl : Nat} (h : HP) (H : f_X8_timeout_26   h = some (v', h')) (hcs : cs + 0 ≤ 33) (hsl : sl + 0 ≤ 224) : aw G 26 [none, none, none] [] h cs sl := by
  unfold f_X8_timeout_26 at H
  refine aw_iconst C dX8_timeout_26 (v := (nI 0)) (by decide) ?_
  cases H
  exact aw_iret C (by show cs ≤ 33; omega) (by show sl ≤ 224; omega) dX8_timeout_27
set_option maxRecDepth 100000 in
set_option maxHeartbeats 4000000 in
theorem c_X8_timeout {l : Launch} (a0 : Option Nat) (a1 : Int32) (h : HP) (v' : Int32) (h' : HP) (H : f_X8_timeout a0 a1 h = some (v', h')) : Ct l yX8_timeout cX8_timeout 3 (some .int) rm_X8_timeout [va_rf a0, .int a1] (some (.int v')) h h' := by
  refine Ct.of (plainFor_of_name (by decide)) (hz_s1c (hz_s1c hz_s1n rfl) (hz_cr _)) (Nat.le_of_ble_eq_true rfl) (fun G hl hn C0 => ?_)
  have C : Cx G cX8_timeout RX8 "timeout" (some .int) rm_X8_timeout (some (.int v')) h' := C0
  subst hl
  show aw G 0 [some (va_rf a0), some (.int a1), none] [] h 0 0
  unfold f_X8_timeout at H
  obtain ⟨cs, hcs⟩ : ∃ k : Nat, k = 0 := ⟨0, rfl⟩
  obtain ⟨sl, hsl⟩ : ∃ k : Nat, k = 0 := ⟨0, rfl⟩
  suffices hh : aw G 0 [some (va_rf a0), some (.int a1), none] [] h cs sl by rw [hcs, hsl] at hh; exact hh
  refine aw_aload_n C dX8_timeout_0 rfl ?_
  refine aw_iload_n C dX8_timeout_1 rfl ?_
  obtain ⟨g3, H⟩ := hz_wn H
  obtain ⟨p1, e2, H⟩ := hz_bd H
  refine aw_V (As := [.int a1]) (rest := []) C hy_X8_find hv_X8_find wd_285 cl_8.1 g3 (c_X8_find _ _ _ _ _  e2) (hz_ror _) rfl rfl (Nat.le_of_ble_eq_true rfl) (by decide) (kc := 0) (ks := 0) rfl rfl ⟨(by show cs + 0 ≤ 33; omega), (by show sl + 0 ≤ 224; omega)⟩ dX8_timeout_2 ?_
  refine aw_astore_n C dX8_timeout_5 (by rw [hn]; decide) rfl ?_
  refine aw_aload_n C dX8_timeout_6 rfl ?_
  refine aw_ifnonnull (tgt := 12) C dX8_timeout_7 (by decide) (fun c15 => ?_) (fun c15 => ?_)
  · replace H := hz_if c15 H
    refine aw_aload_n C dX8_timeout_12 rfl ?_
    obtain ⟨g6, H⟩ := hz_wn H
    obtain ⟨p4, e5, H⟩ := hz_bd H
    refine aw_V (As := []) (rest := []) C hy_X4_isLive hv_X4_isLive wd_292 cl_4.1 g6 (c_X4_isLive _ _ _ _  e5) (hz_roi _) rfl rfl (Nat.le_of_ble_eq_true rfl) (by decide) (kc := 0) (ks := 0) rfl rfl ⟨(by show cs + 0 + 0 ≤ 33; omega), (by show sl + 0 + 0 ≤ 224; omega)⟩ dX8_timeout_13 ?_
    refine aw_if_eq (tgt := 26) C dX8_timeout_16 (by decide) (fun c16 => ?_) (fun c16 => ?_)
    · replace H := hz_it c16 H
      exact aw_loc (hz_sub_n (hz_sub_n (hz_sub_n hz_sub_0))) (k_X8_timeout_26 (cs := cs + 0 + 0) (sl := sl + 0 + 0) hn C  _ H (by omega) (by omega))
    · replace H := hz_if c16 H
      refine aw_aload_n C dX8_timeout_19 rfl ?_
      obtain ⟨v7, e8, H⟩ := hz_bd H
      refine aw_gI (k := 9) C cl_4 (by decide) wd_227 e8 dX8_timeout_20 ?_
      refine aw_if_ne (tgt := 28) C dX8_timeout_23 (by decide) (fun c17 => ?_) (fun c17 => ?_)
      · replace H := hz_if c17 H
        refine aw_aload_n C dX8_timeout_28 rfl ?_
        obtain ⟨g11, H⟩ := hz_wn H
        obtain ⟨p9, e10, H⟩ := hz_bd H
        refine aw_V (As := []) (rest := []) C hy_X4_losePatience hv_X4_losePatience wd_604 cl_4.1 g11 (c_X4_losePatience _ _ _  e10) hz_ron rfl rfl (Nat.le_of_ble_eq_true rfl) (by decide) (kc := 9) (ks := 104) rfl rfl ⟨(by show cs + 0 + 0 + 9 ≤ 33; omega), (by show sl + 0 + 0 + 104 ≤ 224; omega)⟩ dX8_timeout_29 ?_
        refine aw_aload_n C dX8_timeout_32 rfl ?_
        obtain ⟨g14, H⟩ := hz_wn H
        obtain ⟨p12, e13, H⟩ := hz_bd H
        refine aw_V (As := []) (rest := []) C hy_X4_goOn hv_X4_goOn wd_571 cl_4.1 g14 (c_X4_goOn _ _ _  e13) hz_ron rfl rfl (Nat.le_of_ble_eq_true rfl) (by decide) (kc := 24) (ks := 120) rfl rfl ⟨(by show cs + 0 + 0 + 9 + 24 ≤ 33; omega), (by show sl + 0 + 0 + 104 + 120 ≤ 224; omega)⟩ dX8_timeout_33 ?_
        refine aw_iconst C dX8_timeout_36 (v := (nI 1)) (by decide) ?_
        cases H
        exact aw_iret C (by show cs + 0 + 0 + 9 + 24 ≤ 33; omega) (by show sl + 0 + 0 + 104 + 120 ≤ 224; omega) dX8_timeout_37
      · replace H := hz_it c17 H
        exact aw_loc (hz_sub_n (hz_sub_n (hz_sub_n hz_sub_0))) (k_X8_timeout_26 (cs := cs + 0 + 0) (sl := sl + 0 + 0) hn C  _ H (by omega) (by omega))
  · replace H := hz_it c15 H
    refine aw_iconst C dX8_timeout_10 (v := (-1)) (by decide) ?_
    cases H
    exact aw_iret C (by show cs + 0 ≤ 33; omega) (by show sl + 0 ≤ 224; omega) dX8_timeout_11
theorem hy_X8_node : hz_Y yX8_node cX8_node 4 (some .int) 2 := ⟨wd_611, wd_58, by decide +kernel, by decide +kernel, by decide +kernel⟩
theorem hv_X8_node : hz_YV yX8_node := ⟨wd_609, wd_610⟩
def f_X8_node_19 (s0 : Int32) (h : HP) : Option (Int32 × HP) :=
  some (s0, h)
def f_X8_node (a0 : Option Nat) (a1 : Int32) (a2 : Int32) (h : HP) : Option (Int32 × HP) :=
  if hz_ob h a0 8 = true then
  (f_X8_find a0 a1 h).bind fun p1 =>
  if p1.1 = none then
    f_X8_node_19  (-1 : Int32) p1.2
  else
    if hz_ob p1.2 p1.1 4 = true then
    (f_X4_tell p1.1 a2 p1.2).bind fun p4 =>
    f_X8_node_19  p4.1 p4.2
    else none
  else none
abbrev rm_X8_node : Room := { frames := 3, cells := 0, slots := 0, locals := 63 }
set_option maxRecDepth 100000 in
set_option maxHeartbeats 4000000 in
theorem k_X8_node_19 {G : GX} {v' : Int32} {h' : HP} (hn : G.2.2.2.2.2.2.2.2.2.2.2.2 = 4) (C : Cx G cX8_node RX8 "node" (some .int) rm_X8_node (some (.int v')) h') (s0 : Int32) (h : HP) (H : f_X8_node_19  s0 h = some (v', h')) : aw G 19 [none, none, none, none] [.int s0] h 0 0 := by
  unfold f_X8_node_19 at H
  cases H
  exact aw_iret C (Nat.zero_le _) (Nat.zero_le _) dX8_node_19
set_option maxRecDepth 100000 in
set_option maxHeartbeats 4000000 in
theorem c_X8_node {l : Launch} (a0 : Option Nat) (a1 : Int32) (a2 : Int32) (h : HP) (v' : Int32) (h' : HP) (H : f_X8_node a0 a1 a2 h = some (v', h')) : Ct l yX8_node cX8_node 4 (some .int) rm_X8_node [va_rf a0, .int a1, .int a2] (some (.int v')) h h' := by
  refine Ct.of (plainFor_of_name (by decide)) (hz_s1c (hz_s1c (hz_s1c hz_s1n rfl) rfl) (hz_cr _)) (Nat.le_of_ble_eq_true rfl) (fun G hl hn C0 => ?_)
  have C : Cx G cX8_node RX8 "node" (some .int) rm_X8_node (some (.int v')) h' := C0
  subst hl
  show aw G 0 [some (va_rf a0), some (.int a1), some (.int a2), none] [] h 0 0
  unfold f_X8_node at H
  refine aw_aload_n C dX8_node_0 rfl ?_
  refine aw_iload_n C dX8_node_1 rfl ?_
  obtain ⟨g3, H⟩ := hz_wn H
  obtain ⟨p1, e2, H⟩ := hz_bd H
  refine aw_V (As := [.int a1]) (rest := []) C hy_X8_find hv_X8_find wd_285 cl_8.1 g3 (c_X8_find _ _ _ _ _  e2) (hz_ror _) rfl rfl (Nat.le_of_ble_eq_true rfl) (by decide) (kc := 0) (ks := 0) rfl rfl (by decide) dX8_node_2 ?_
  refine aw_astore_n C dX8_node_5 (by rw [hn]; decide) rfl ?_
  refine aw_aload_n C dX8_node_6 rfl ?_
  refine aw_ifnonnull (tgt := 14) C dX8_node_7 (by decide) (fun c7 => ?_) (fun c7 => ?_)
  · replace H := hz_if c7 H
    refine aw_aload_n C dX8_node_14 rfl ?_
    refine aw_iload_n C dX8_node_15 rfl ?_
    obtain ⟨g6, H⟩ := hz_wn H
    obtain ⟨p4, e5, H⟩ := hz_bd H
    refine aw_V (As := [.int a2]) (rest := []) C hy_X4_tell hv_X4_tell wd_612 cl_4.1 g6 (c_X4_tell _ _ _ _ _  e5) (hz_roi _) rfl rfl (Nat.le_of_ble_eq_true rfl) (by decide) (kc := 0) (ks := 0) rfl rfl (by decide) dX8_node_16 ?_
    exact aw_loc (hz_sub_n (hz_sub_n (hz_sub_n (hz_sub_n hz_sub_0)))) (k_X8_node_19 hn C  _ _ H)
  · replace H := hz_it c7 H
    refine aw_iconst C dX8_node_10 (v := (-1)) (by decide) ?_
    refine aw_goto (tgt := 19) C dX8_node_11 (by decide) ?_
    exact aw_loc (hz_sub_n (hz_sub_n (hz_sub_n (hz_sub_n hz_sub_0)))) (k_X8_node_19 hn C  _ _ H)
theorem hy_X8_held : hz_Y yX8_held cX8_held 4 (some .int) 2 := ⟨wd_619, wd_58, by decide +kernel, by decide +kernel, by decide +kernel⟩
theorem hv_X8_held : hz_YV yX8_held := ⟨wd_617, wd_618⟩
def f_X8_held_25 (h : HP) : Option (Int32 × HP) :=
  some ((-100001 : Int32), h)
def f_X8_held (a0 : Option Nat) (a1 : Int32) (a2 : Int32) (h : HP) : Option (Int32 × HP) :=
  if hz_ob h a0 8 = true then
  (f_X8_find a0 a1 h).bind fun p1 =>
  if p1.1 = none then
    f_X8_held_25   p1.2
  else
    if a2 < 0 then
      f_X8_held_25   p1.2
    else
      (hz_gR p1.2 p1.1 4 4).bind fun r4 =>
      (hz_gI p1.2 r4 6 1).bind fun v6 =>
      if a2 < v6 then
        (hz_gR p1.2 p1.1 4 4).bind fun r8 =>
        (hz_gR p1.2 r8 6 0).bind fun r10 =>
        (hz_aI p1.2 r10 0 a2).bind fun v12 =>
        some (v12, p1.2)
      else
        f_X8_held_25   p1.2
  else none
abbrev rm_X8_held : Room := { frames := 1, cells := 0, slots := 0, locals := 21 }
set_option maxRecDepth 100000 in
set_option maxHeartbeats 4000000 in
theorem k_X8_held_25 {G : GX} {v' : Int32} {h' : HP} (hn : G.2.2.2.2.2.2.2.2.2.2.2.2 = 4) (C : Cx G cX8_held RX8 "held" (some .int) rm_X8_held (some (.int v')) h') (h : HP) (H : f_X8_held_25   h = some (v', h')) : aw G 25 [none, none, none, none] [] h 0 0 := by
  unfold f_X8_held_25 at H
  refine aw_ldc C wd_620 dX8_held_25 ?_
  cases H
  exact aw_iret C (Nat.zero_le _) (Nat.zero_le _) dX8_held_27
set_option maxRecDepth 100000 in
set_option maxHeartbeats 4000000 in
theorem c_X8_held {l : Launch} (a0 : Option Nat) (a1 : Int32) (a2 : Int32) (h : HP) (v' : Int32) (h' : HP) (H : f_X8_held a0 a1 a2 h = some (v', h')) : Ct l yX8_held cX8_held 4 (some .int) rm_X8_held [va_rf a0, .int a1, .int a2] (some (.int v')) h h' := by
  refine Ct.of (plainFor_of_name (by decide)) (hz_s1c (hz_s1c (hz_s1c hz_s1n rfl) rfl) (hz_cr _)) (Nat.le_of_ble_eq_true rfl) (fun G hl hn C0 => ?_)
  have C : Cx G cX8_held RX8 "held" (some .int) rm_X8_held (some (.int v')) h' := C0
  subst hl
  show aw G 0 [some (va_rf a0), some (.int a1), some (.int a2), none] [] h 0 0
  unfold f_X8_held at H
  refine aw_aload_n C dX8_held_0 rfl ?_
  refine aw_iload_n C dX8_held_1 rfl ?_
  obtain ⟨g3, H⟩ := hz_wn H
  obtain ⟨p1, e2, H⟩ := hz_bd H
  refine aw_V (As := [.int a1]) (rest := []) C hy_X8_find hv_X8_find wd_285 cl_8.1 g3 (c_X8_find _ _ _ _ _  e2) (hz_ror _) rfl rfl (Nat.le_of_ble_eq_true rfl) (by decide) (kc := 0) (ks := 0) rfl rfl (by decide) dX8_held_2 ?_
  refine aw_astore_n C dX8_held_5 (by rw [hn]; decide) rfl ?_
  refine aw_aload_n C dX8_held_6 rfl ?_
  refine aw_ifnull (tgt := 25) C dX8_held_7 (by decide) (fun c14 => ?_) (fun c14 => ?_)
  · replace H := hz_it c14 H
    exact aw_loc (hz_sub_n (hz_sub_n (hz_sub_n (hz_sub_n hz_sub_0)))) (k_X8_held_25 hn C  _ H)
  · replace H := hz_if c14 H
    refine aw_iload_n C dX8_held_10 rfl ?_
    refine aw_if_lt (tgt := 25) C dX8_held_11 (by decide) (fun c15 => ?_) (fun c15 => ?_)
    · replace H := hz_it c15 H
      exact aw_loc (hz_sub_n (hz_sub_n (hz_sub_n (hz_sub_n hz_sub_0)))) (k_X8_held_25 hn C  _ H)
    · replace H := hz_if c15 H
      refine aw_iload_n C dX8_held_14 rfl ?_
      refine aw_aload_n C dX8_held_15 rfl ?_
      obtain ⟨r4, e5, H⟩ := hz_bd H
      refine aw_gR (k := 4) C cl_4 (by decide) wd_219 e5 dX8_held_16 ?_
      obtain ⟨v6, e7, H⟩ := hz_bd H
      refine aw_gI (k := 1) C cl_6 (by decide) wd_166 e7 dX8_held_19 ?_
      refine aw_icmp_lt (tgt := 28) C dX8_held_22 (by decide) (fun c16 => ?_) (fun c16 => ?_)
      · replace H := hz_it c16 H
        refine aw_aload_n C dX8_held_28 rfl ?_
        obtain ⟨r8, e9, H⟩ := hz_bd H
        refine aw_gR (k := 4) C cl_4 (by decide) wd_219 e9 dX8_held_29 ?_
        obtain ⟨r10, e11, H⟩ := hz_bd H
        refine aw_gR (k := 0) C cl_6 (by decide) wd_162 e11 dX8_held_32 ?_
        refine aw_iload_n C dX8_held_35 rfl ?_
        obtain ⟨v12, e13, H⟩ := hz_bd H
        refine aw_iald C e13 dX8_held_36 ?_
        cases H
        exact aw_iret C (Nat.zero_le _) (Nat.zero_le _) dX8_held_37
      · replace H := hz_if c16 H
        exact aw_loc (hz_sub_n (hz_sub_n (hz_sub_n (hz_sub_n hz_sub_0)))) (k_X8_held_25 hn C  _ H)
theorem hy_X8_depth : hz_Y yX8_depth cX8_depth 3 (some .int) 1 := ⟨wd_624, wd_58, by decide +kernel, by decide +kernel, by decide +kernel⟩
theorem hv_X8_depth : hz_YV yX8_depth := ⟨wd_622, wd_623⟩
def f_X8_depth_21 (s0 : Int32) (h : HP) : Option (Int32 × HP) :=
  some (s0, h)
def f_X8_depth (a0 : Option Nat) (a1 : Int32) (h : HP) : Option (Int32 × HP) :=
  if hz_ob h a0 8 = true then
  (f_X8_find a0 a1 h).bind fun p1 =>
  if p1.1 = none then
    f_X8_depth_21  (-1 : Int32) p1.2
  else
    (hz_gR p1.2 p1.1 4 5).bind fun r4 =>
    (hz_gI p1.2 r4 3 1).bind fun v6 =>
    f_X8_depth_21  v6 p1.2
  else none
abbrev rm_X8_depth : Room := { frames := 1, cells := 0, slots := 0, locals := 21 }
set_option maxRecDepth 100000 in
set_option maxHeartbeats 4000000 in
theorem k_X8_depth_21 {G : GX} {v' : Int32} {h' : HP} (hn : G.2.2.2.2.2.2.2.2.2.2.2.2 = 3) (C : Cx G cX8_depth RX8 "depth" (some .int) rm_X8_depth (some (.int v')) h') (s0 : Int32) (h : HP) (H : f_X8_depth_21  s0 h = some (v', h')) : aw G 21 [none, none, none] [.int s0] h 0 0 := by
  unfold f_X8_depth_21 at H
  cases H
  exact aw_iret C (Nat.zero_le _) (Nat.zero_le _) dX8_depth_21
set_option maxRecDepth 100000 in
set_option maxHeartbeats 4000000 in
theorem c_X8_depth {l : Launch} (a0 : Option Nat) (a1 : Int32) (h : HP) (v' : Int32) (h' : HP) (H : f_X8_depth a0 a1 h = some (v', h')) : Ct l yX8_depth cX8_depth 3 (some .int) rm_X8_depth [va_rf a0, .int a1] (some (.int v')) h h' := by
  refine Ct.of (plainFor_of_name (by decide)) (hz_s1c (hz_s1c hz_s1n rfl) (hz_cr _)) (Nat.le_of_ble_eq_true rfl) (fun G hl hn C0 => ?_)
  have C : Cx G cX8_depth RX8 "depth" (some .int) rm_X8_depth (some (.int v')) h' := C0
  subst hl
  show aw G 0 [some (va_rf a0), some (.int a1), none] [] h 0 0
  unfold f_X8_depth at H
  refine aw_aload_n C dX8_depth_0 rfl ?_
  refine aw_iload_n C dX8_depth_1 rfl ?_
  obtain ⟨g3, H⟩ := hz_wn H
  obtain ⟨p1, e2, H⟩ := hz_bd H
  refine aw_V (As := [.int a1]) (rest := []) C hy_X8_find hv_X8_find wd_285 cl_8.1 g3 (c_X8_find _ _ _ _ _  e2) (hz_ror _) rfl rfl (Nat.le_of_ble_eq_true rfl) (by decide) (kc := 0) (ks := 0) rfl rfl (by decide) dX8_depth_2 ?_
  refine aw_astore_n C dX8_depth_5 (by rw [hn]; decide) rfl ?_
  refine aw_aload_n C dX8_depth_6 rfl ?_
  refine aw_ifnonnull (tgt := 14) C dX8_depth_7 (by decide) (fun c8 => ?_) (fun c8 => ?_)
  · replace H := hz_if c8 H
    refine aw_aload_n C dX8_depth_14 rfl ?_
    obtain ⟨r4, e5, H⟩ := hz_bd H
    refine aw_gR (k := 5) C cl_4 (by decide) wd_221 e5 dX8_depth_15 ?_
    obtain ⟨v6, e7, H⟩ := hz_bd H
    refine aw_gI (k := 1) C cl_3 (by decide) wd_181 e7 dX8_depth_18 ?_
    exact aw_loc (hz_sub_n (hz_sub_n (hz_sub_n hz_sub_0))) (k_X8_depth_21 hn C  _ _ H)
  · replace H := hz_it c8 H
    refine aw_iconst C dX8_depth_10 (v := (-1)) (by decide) ?_
    refine aw_goto (tgt := 21) C dX8_depth_11 (by decide) ?_
    exact aw_loc (hz_sub_n (hz_sub_n (hz_sub_n hz_sub_0))) (k_X8_depth_21 hn C  _ _ H)
theorem hy_X8_top : hz_Y yX8_top cX8_top 4 (some .int) 2 := ⟨wd_628, wd_58, by decide +kernel, by decide +kernel, by decide +kernel⟩
theorem hv_X8_top : hz_YV yX8_top := ⟨wd_626, wd_627⟩
def f_X8_top_22 (s0 : Int32) (h : HP) : Option (Int32 × HP) :=
  some (s0, h)
def f_X8_top (a0 : Option Nat) (a1 : Int32) (a2 : Int32) (h : HP) : Option (Int32 × HP) :=
  if hz_ob h a0 8 = true then
  (f_X8_find a0 a1 h).bind fun p1 =>
  if p1.1 = none then
    f_X8_top_22  (nI 0) p1.2
  else
    (hz_gR p1.2 p1.1 4 5).bind fun r4 =>
    if hz_ob p1.2 r4 3 = true then
    (f_X3_fromTop r4 a2 p1.2).bind fun p6 =>
    f_X8_top_22  p6.1 p6.2
    else none
  else none
abbrev rm_X8_top : Room := { frames := 1, cells := 0, slots := 0, locals := 21 }
set_option maxRecDepth 100000 in
set_option maxHeartbeats 4000000 in
theorem k_X8_top_22 {G : GX} {v' : Int32} {h' : HP} (hn : G.2.2.2.2.2.2.2.2.2.2.2.2 = 4) (C : Cx G cX8_top RX8 "top" (some .int) rm_X8_top (some (.int v')) h') (s0 : Int32) (h : HP) (H : f_X8_top_22  s0 h = some (v', h')) : aw G 22 [none, none, none, none] [.int s0] h 0 0 := by
  unfold f_X8_top_22 at H
  cases H
  exact aw_iret C (Nat.zero_le _) (Nat.zero_le _) dX8_top_22
set_option maxRecDepth 100000 in
set_option maxHeartbeats 4000000 in
theorem c_X8_top {l : Launch} (a0 : Option Nat) (a1 : Int32) (a2 : Int32) (h : HP) (v' : Int32) (h' : HP) (H : f_X8_top a0 a1 a2 h = some (v', h')) : Ct l yX8_top cX8_top 4 (some .int) rm_X8_top [va_rf a0, .int a1, .int a2] (some (.int v')) h h' := by
  refine Ct.of (plainFor_of_name (by decide)) (hz_s1c (hz_s1c (hz_s1c hz_s1n rfl) rfl) (hz_cr _)) (Nat.le_of_ble_eq_true rfl) (fun G hl hn C0 => ?_)
  have C : Cx G cX8_top RX8 "top" (some .int) rm_X8_top (some (.int v')) h' := C0
  subst hl
  show aw G 0 [some (va_rf a0), some (.int a1), some (.int a2), none] [] h 0 0
  unfold f_X8_top at H
  refine aw_aload_n C dX8_top_0 rfl ?_
  refine aw_iload_n C dX8_top_1 rfl ?_
  obtain ⟨g3, H⟩ := hz_wn H
  obtain ⟨p1, e2, H⟩ := hz_bd H
  refine aw_V (As := [.int a1]) (rest := []) C hy_X8_find hv_X8_find wd_285 cl_8.1 g3 (c_X8_find _ _ _ _ _  e2) (hz_ror _) rfl rfl (Nat.le_of_ble_eq_true rfl) (by decide) (kc := 0) (ks := 0) rfl rfl (by decide) dX8_top_2 ?_
  refine aw_astore_n C dX8_top_5 (by rw [hn]; decide) rfl ?_
  refine aw_aload_n C dX8_top_6 rfl ?_
  refine aw_ifnonnull (tgt := 14) C dX8_top_7 (by decide) (fun c9 => ?_) (fun c9 => ?_)
  · replace H := hz_if c9 H
    refine aw_aload_n C dX8_top_14 rfl ?_
    obtain ⟨r4, e5, H⟩ := hz_bd H
    refine aw_gR (k := 5) C cl_4 (by decide) wd_221 e5 dX8_top_15 ?_
    refine aw_iload_n C dX8_top_18 rfl ?_
    obtain ⟨g8, H⟩ := hz_wn H
    obtain ⟨p6, e7, H⟩ := hz_bd H
    refine aw_V (As := [.int a2]) (rest := []) C hy_X3_fromTop hv_X3_fromTop wd_629 cl_3.1 g8 (c_X3_fromTop _ _ _ _ _  e7) (hz_roi _) rfl rfl (Nat.le_of_ble_eq_true rfl) (by decide) (kc := 0) (ks := 0) rfl rfl (by decide) dX8_top_19 ?_
    exact aw_loc (hz_sub_n (hz_sub_n (hz_sub_n (hz_sub_n hz_sub_0)))) (k_X8_top_22 hn C  _ _ H)
  · replace H := hz_it c9 H
    refine aw_iconst C dX8_top_10 (v := (nI 0)) (by decide) ?_
    refine aw_goto (tgt := 22) C dX8_top_11 (by decide) ?_
    exact aw_loc (hz_sub_n (hz_sub_n (hz_sub_n (hz_sub_n hz_sub_0)))) (k_X8_top_22 hn C  _ _ H)
theorem hy_X8_flying : hz_Y yX8_flying cX8_flying 4 (some .int) 2 := ⟨wd_636, wd_58, by decide +kernel, by decide +kernel, by decide +kernel⟩
theorem hv_X8_flying : hz_YV yX8_flying := ⟨wd_634, wd_635⟩
def f_X8_flying_35 (s0 : Int32) (h : HP) : Option (Int32 × HP) :=
  some (s0, h)
def f_X8_flying (a0 : Option Nat) (a1 : Int32) (a2 : Int32) (h : HP) : Option (Int32 × HP) :=
  if a1 = (-1 : Int32) then
    (hz_gR h a0 8 1).bind fun r8 =>
    (hz_gI h r8 5 3).bind fun v10 =>
    some (v10, h)
  else
    (hz_gR h a0 8 1).bind fun r1 =>
    if hz_ob h r1 5 = true then
    (f_X5_between r1 a1 a2 h).bind fun p3 =>
    if p3.1 = none then
      f_X8_flying_35  (-1 : Int32) p3.2
    else
      (hz_gI p3.2 p3.1 1 2).bind fun v6 =>
      f_X8_flying_35  v6 p3.2
    else none
abbrev rm_X8_flying : Room := { frames := 1, cells := 0, slots := 0, locals := 23 }
set_option maxRecDepth 100000 in
set_option maxHeartbeats 4000000 in
theorem k_X8_flying_35 {G : GX} {v' : Int32} {h' : HP} (hn : G.2.2.2.2.2.2.2.2.2.2.2.2 = 4) (C : Cx G cX8_flying RX8 "flying" (some .int) rm_X8_flying (some (.int v')) h') (s0 : Int32) (h : HP) (H : f_X8_flying_35  s0 h = some (v', h')) : aw G 35 [none, none, none, none] [.int s0] h 0 0 := by
  unfold f_X8_flying_35 at H
  cases H
  exact aw_iret C (Nat.zero_le _) (Nat.zero_le _) dX8_flying_35
set_option maxRecDepth 100000 in
set_option maxHeartbeats 4000000 in
theorem c_X8_flying {l : Launch} (a0 : Option Nat) (a1 : Int32) (a2 : Int32) (h : HP) (v' : Int32) (h' : HP) (H : f_X8_flying a0 a1 a2 h = some (v', h')) : Ct l yX8_flying cX8_flying 4 (some .int) rm_X8_flying [va_rf a0, .int a1, .int a2] (some (.int v')) h h' := by
  refine Ct.of (plainFor_of_name (by decide)) (hz_s1c (hz_s1c (hz_s1c hz_s1n rfl) rfl) (hz_cr _)) (Nat.le_of_ble_eq_true rfl) (fun G hl hn C0 => ?_)
  have C : Cx G cX8_flying RX8 "flying" (some .int) rm_X8_flying (some (.int v')) h' := C0
  subst hl
  show aw G 0 [some (va_rf a0), some (.int a1), some (.int a2), none] [] h 0 0
  unfold f_X8_flying at H
  refine aw_iload_n C dX8_flying_0 rfl ?_
  refine aw_iconst C dX8_flying_1 (v := (-1)) (by decide) ?_
  refine aw_icmp_ne (tgt := 13) C dX8_flying_2 (by decide) (fun c12 => ?_) (fun c12 => ?_)
  · replace H := hz_if c12 H
    refine aw_aload_n C dX8_flying_13 rfl ?_
    obtain ⟨r1, e2, H⟩ := hz_bd H
    refine aw_gR (k := 1) C cl_8 (by decide) wd_272 e2 dX8_flying_14 ?_
    refine aw_iload_n C dX8_flying_17 rfl ?_
    refine aw_iload_n C dX8_flying_18 rfl ?_
    obtain ⟨g5, H⟩ := hz_wn H
    obtain ⟨p3, e4, H⟩ := hz_bd H
    refine aw_V (As := [.int a1, .int a2]) (rest := []) C hy_X5_between hv_X5_between wd_436 cl_5.1 g5 (c_X5_between _ _ _ _ _ _  e4) (hz_ror _) rfl rfl (Nat.le_of_ble_eq_true rfl) (by decide) (kc := 0) (ks := 0) rfl rfl (by decide) dX8_flying_19 ?_
    refine aw_astore_n C dX8_flying_22 (by rw [hn]; decide) rfl ?_
    refine aw_aload_n C dX8_flying_23 rfl ?_
    refine aw_ifnonnull (tgt := 31) C dX8_flying_24 (by decide) (fun c13 => ?_) (fun c13 => ?_)
    · replace H := hz_if c13 H
      refine aw_aload_n C dX8_flying_31 rfl ?_
      obtain ⟨v6, e7, H⟩ := hz_bd H
      refine aw_gI (k := 2) C cl_1 (by decide) wd_126 e7 dX8_flying_32 ?_
      exact aw_loc (hz_sub_n (hz_sub_n (hz_sub_n (hz_sub_n hz_sub_0)))) (k_X8_flying_35 hn C  _ _ H)
    · replace H := hz_it c13 H
      refine aw_iconst C dX8_flying_27 (v := (-1)) (by decide) ?_
      refine aw_goto (tgt := 35) C dX8_flying_28 (by decide) ?_
      exact aw_loc (hz_sub_n (hz_sub_n (hz_sub_n (hz_sub_n hz_sub_0)))) (k_X8_flying_35 hn C  _ _ H)
  · replace H := hz_it c12 H
    refine aw_aload_n C dX8_flying_5 rfl ?_
    obtain ⟨r8, e9, H⟩ := hz_bd H
    refine aw_gR (k := 1) C cl_8 (by decide) wd_272 e9 dX8_flying_6 ?_
    obtain ⟨v10, e11, H⟩ := hz_bd H
    refine aw_gI (k := 3) C cl_5 (by decide) wd_138 e11 dX8_flying_9 ?_
    cases H
    exact aw_iret C (Nat.zero_le _) (Nat.zero_le _) dX8_flying_12
theorem hy_X8_letter : hz_Y yX8_letter cX8_letter 5 (some .int) 3 := ⟨wd_640, wd_58, by decide +kernel, by decide +kernel, by decide +kernel⟩
theorem hv_X8_letter : hz_YV yX8_letter := ⟨wd_638, wd_639⟩
def f_X8_letter_24 (h : HP) : Option (Int32 × HP) :=
  some ((-1 : Int32), h)
def f_X8_letter (a0 : Option Nat) (a1 : Int32) (a2 : Int32) (a3 : Int32) (h : HP) : Option (Int32 × HP) :=
  (hz_gR h a0 8 1).bind fun r1 =>
  if hz_ob h r1 5 = true then
  (f_X5_between r1 a1 a2 h).bind fun p3 =>
  if p3.1 = none then
    f_X8_letter_24   p3.2
  else
    (hz_gR p3.2 p3.1 1 0).bind fun r6 =>
    if r6 = none then
      f_X8_letter_24   p3.2
    else
      (hz_gR p3.2 p3.1 1 0).bind fun r8 =>
      if hz_ob p3.2 r8 2 = true then
      (f_X2_tell r8 a3 p3.2).bind fun p10 =>
      some (p10.1, p10.2)
      else none
  else none
abbrev rm_X8_letter : Room := { frames := 1, cells := 0, slots := 0, locals := 23 }
set_option maxRecDepth 100000 in
set_option maxHeartbeats 4000000 in
theorem k_X8_letter_24 {G : GX} {v' : Int32} {h' : HP} (hn : G.2.2.2.2.2.2.2.2.2.2.2.2 = 5) (C : Cx G cX8_letter RX8 "letter" (some .int) rm_X8_letter (some (.int v')) h') (h : HP) (H : f_X8_letter_24   h = some (v', h')) : aw G 24 [none, none, none, none, none] [] h 0 0 := by
  unfold f_X8_letter_24 at H
  refine aw_iconst C dX8_letter_24 (v := (-1)) (by decide) ?_
  cases H
  exact aw_iret C (Nat.zero_le _) (Nat.zero_le _) dX8_letter_25
set_option maxRecDepth 100000 in
set_option maxHeartbeats 4000000 in
theorem c_X8_letter {l : Launch} (a0 : Option Nat) (a1 : Int32) (a2 : Int32) (a3 : Int32) (h : HP) (v' : Int32) (h' : HP) (H : f_X8_letter a0 a1 a2 a3 h = some (v', h')) : Ct l yX8_letter cX8_letter 5 (some .int) rm_X8_letter [va_rf a0, .int a1, .int a2, .int a3] (some (.int v')) h h' := by
  refine Ct.of (plainFor_of_name (by decide)) (hz_s1c (hz_s1c (hz_s1c (hz_s1c hz_s1n rfl) rfl) rfl) (hz_cr _)) (Nat.le_of_ble_eq_true rfl) (fun G hl hn C0 => ?_)
  have C : Cx G cX8_letter RX8 "letter" (some .int) rm_X8_letter (some (.int v')) h' := C0
  subst hl
  show aw G 0 [some (va_rf a0), some (.int a1), some (.int a2), some (.int a3), none] [] h 0 0
  unfold f_X8_letter at H
  refine aw_aload_n C dX8_letter_0 rfl ?_
  obtain ⟨r1, e2, H⟩ := hz_bd H
  refine aw_gR (k := 1) C cl_8 (by decide) wd_272 e2 dX8_letter_1 ?_
  refine aw_iload_n C dX8_letter_4 rfl ?_
  refine aw_iload_n C dX8_letter_5 rfl ?_
  obtain ⟨g5, H⟩ := hz_wn H
  obtain ⟨p3, e4, H⟩ := hz_bd H
  refine aw_V (As := [.int a1, .int a2]) (rest := []) C hy_X5_between hv_X5_between wd_436 cl_5.1 g5 (c_X5_between _ _ _ _ _ _  e4) (hz_ror _) rfl rfl (Nat.le_of_ble_eq_true rfl) (by decide) (kc := 0) (ks := 0) rfl rfl (by decide) dX8_letter_6 ?_
  refine aw_astore C dX8_letter_9 (by rw [hn]; decide) rfl ?_
  refine aw_aload C dX8_letter_11 rfl ?_
  refine aw_ifnull (tgt := 24) C dX8_letter_13 (by decide) (fun c13 => ?_) (fun c13 => ?_)
  · replace H := hz_it c13 H
    exact aw_loc (hz_sub_n (hz_sub_n (hz_sub_n (hz_sub_n (hz_sub_n hz_sub_0))))) (k_X8_letter_24 hn C  _ H)
  · replace H := hz_if c13 H
    refine aw_aload C dX8_letter_16 rfl ?_
    obtain ⟨r6, e7, H⟩ := hz_bd H
    refine aw_gR (k := 0) C cl_1 (by decide) wd_123 e7 dX8_letter_18 ?_
    refine aw_ifnonnull (tgt := 26) C dX8_letter_21 (by decide) (fun c14 => ?_) (fun c14 => ?_)
    · replace H := hz_if c14 H
      refine aw_aload C dX8_letter_26 rfl ?_
      obtain ⟨r8, e9, H⟩ := hz_bd H
      refine aw_gR (k := 0) C cl_1 (by decide) wd_123 e9 dX8_letter_28 ?_
      refine aw_iload_n C dX8_letter_31 rfl ?_
      obtain ⟨g12, H⟩ := hz_wn H
      obtain ⟨p10, e11, H⟩ := hz_bd H
      refine aw_V (As := [.int a3]) (rest := []) C hy_X2_tell hv_X2_tell wd_641 cl_2.1 g12 (c_X2_tell _ _ _ _ _  e11) (hz_roi _) rfl rfl (Nat.le_of_ble_eq_true rfl) (by decide) (kc := 0) (ks := 0) rfl rfl (by decide) dX8_letter_32 ?_
      cases H
      exact aw_iret C (Nat.zero_le _) (Nat.zero_le _) dX8_letter_35
    · replace H := hz_it c14 H
      exact aw_loc (hz_sub_n (hz_sub_n (hz_sub_n (hz_sub_n (hz_sub_n hz_sub_0))))) (k_X8_letter_24 hn C  _ H)
theorem hy_X8_count : hz_Y yX8_count cX8_count 2 (some .int) 1 := ⟨wd_648, wd_58, by decide +kernel, by decide +kernel, by decide +kernel⟩
theorem hv_X8_count : hz_YV yX8_count := ⟨wd_646, wd_647⟩
def f_X8_count (a0 : Option Nat) (a1 : Int32) (h : HP) : Option (Int32 × HP) :=
  (hz_gR h a0 8 0).bind fun r1 =>
  if hz_ob h r1 7 = true then
  (f_X7_tell r1 a1 h).bind fun p3 =>
  some (p3.1, p3.2)
  else none
abbrev rm_X8_count : Room := { frames := 1, cells := 0, slots := 0, locals := 21 }
set_option maxRecDepth 100000 in
set_option maxHeartbeats 4000000 in
theorem c_X8_count {l : Launch} (a0 : Option Nat) (a1 : Int32) (h : HP) (v' : Int32) (h' : HP) (H : f_X8_count a0 a1 h = some (v', h')) : Ct l yX8_count cX8_count 2 (some .int) rm_X8_count [va_rf a0, .int a1] (some (.int v')) h h' := by
  refine Ct.of (plainFor_of_name (by decide)) (hz_s1c (hz_s1c hz_s1n rfl) (hz_cr _)) (Nat.le_of_ble_eq_true rfl) (fun G hl hn C0 => ?_)
  have C : Cx G cX8_count RX8 "count" (some .int) rm_X8_count (some (.int v')) h' := C0
  subst hl
  show aw G 0 [some (va_rf a0), some (.int a1)] [] h 0 0
  unfold f_X8_count at H
  refine aw_aload_n C dX8_count_0 rfl ?_
  obtain ⟨r1, e2, H⟩ := hz_bd H
  refine aw_gR (k := 0) C cl_8 (by decide) wd_271 e2 dX8_count_1 ?_
  refine aw_iload_n C dX8_count_4 rfl ?_
  obtain ⟨g5, H⟩ := hz_wn H
  obtain ⟨p3, e4, H⟩ := hz_bd H
  refine aw_V (As := [.int a1]) (rest := []) C hy_X7_tell hv_X7_tell wd_649 cl_7.1 g5 (c_X7_tell _ _ _ _ _  e4) (hz_roi _) rfl rfl (Nat.le_of_ble_eq_true rfl) (by decide) (kc := 0) (ks := 0) rfl rfl (by decide) dX8_count_5 ?_
  cases H
  exact aw_iret C (Nat.zero_le _) (Nat.zero_le _) dX8_count_8
