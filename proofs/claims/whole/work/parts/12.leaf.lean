theorem hy_X0_init : hz_Y yX0_init cX0_init 1 none 0 := ⟨wd_191, wd_65, by decide +kernel, by decide +kernel, by decide +kernel⟩
def f_X0_init (a0 : Option Nat) (h : HP) : Option HP :=
  if a0 = none then none else
  (hz_pF h a0 0 2 (va_rf (some 0))).bind fun h2 =>
  some h2
abbrev rm_X0_init : Room := { frames := 1, cells := 0, slots := 0, locals := 40 }
set_option maxRecDepth 100000 in
set_option maxHeartbeats 4000000 in
theorem c_X0_init {l : Launch} (a0 : Option Nat) (h : HP) (h' : HP) (H : f_X0_init a0 h = some h') : Ct l yX0_init cX0_init 1 none rm_X0_init [va_rf a0] none h h' := by
  refine Ct.of (plainFor_of_name (by decide)) (hz_s1c hz_s1n (hz_cr _)) (Nat.le_of_ble_eq_true rfl) (fun G hl hn C0 => ?_)
  have C : Cx G cX0_init RX0 "<init>" none rm_X0_init none h' := C0
  subst hl
  show aw G 0 [some (va_rf a0)] [] h 0 0
  unfold f_X0_init at H
  refine aw_aload_n C dX0_init_0 rfl ?_
  obtain ⟨g1, H⟩ := hz_un H
  refine aw_objI C g1 wd_192 wd_78 wd_79 (Nat.le_of_ble_eq_true rfl) (by decide) dX0_init_1 ?_
  refine aw_aload_n C dX0_init_4 rfl ?_
  refine aw_gets C wn_193 dX0_init_5 ?_
  obtain ⟨h2, e3, H⟩ := hz_bd H
  refine aw_pF (k := 2) C cl_0 (by decide) rfl wd_199 (hz_fita _ _) e3 dX0_init_8 ?_
  cases H
  exact aw_vret C (Nat.zero_le _) (Nat.zero_le _) dX0_init_11
theorem hy_X8_without : hz_Y yX8_without cX8_without 2 (some .int) 2 := ⟨wd_370, wd_58, by decide +kernel, by decide +kernel, by decide +kernel⟩
def f_X8_without (a0 : Int32) (a1 : Int32) (h : HP) : Option (Int32 × HP) :=
  some ((a0 &&& (((nI 1) <<< (a1 &&& 31)) ^^^ (-1 : Int32))), h)
abbrev rm_X8_without : Room := { frames := 0, cells := 0, slots := 0, locals := 0 }
set_option maxRecDepth 100000 in
set_option maxHeartbeats 4000000 in
theorem c_X8_without {l : Launch} (a0 : Int32) (a1 : Int32) (h : HP) (v' : Int32) (h' : HP) (H : f_X8_without a0 a1 h = some (v', h')) : Ct l yX8_without cX8_without 2 (some .int) rm_X8_without [.int a0, .int a1] (some (.int v')) h h' := by
  refine Ct.of (plainFor_of_name (by decide)) (hz_s1c (hz_s1c hz_s1n rfl) rfl) (Nat.le_of_ble_eq_true rfl) (fun G hl hn C0 => ?_)
  have C : Cx G cX8_without RX8 "without" (some .int) rm_X8_without (some (.int v')) h' := C0
  subst hl
  show aw G 0 [some (.int a0), some (.int a1)] [] h 0 0
  unfold f_X8_without at H
  refine aw_iload_n C dX8_without_0 rfl ?_
  refine aw_iconst C dX8_without_1 (v := (nI 1)) (by decide) ?_
  refine aw_iload_n C dX8_without_2 rfl ?_
  refine aw_ishl C dX8_without_3 ?_
  refine aw_iconst C dX8_without_4 (v := (-1)) (by decide) ?_
  refine aw_ixor C dX8_without_5 ?_
  refine aw_iand C dX8_without_6 ?_
  cases H
  exact aw_iret C (Nat.zero_le _) (Nat.zero_le _) dX8_without_7
theorem hy_X0_start : hz_Y yX0_start cX0_start 5 none 4 := ⟨wd_520, wd_65, by decide +kernel, by decide +kernel, by decide +kernel⟩
theorem hv_X0_start : hz_YV yX0_start := ⟨wd_518, wd_519⟩
def f_X0_start (a0 : Option Nat) (a1 : Int32) (a2 : Int32) (a3 : Int32) (a4 : Option Nat) (h : HP) : Option HP :=
  (hz_pF h a0 0 0 (.int a1)).bind fun h1 =>
  (f_X8_without a1 a2 h1).bind fun p3 =>
  (hz_pF p3.2 a0 0 1 (.int p3.1)).bind fun h5 =>
  (hz_pF h5 a0 0 4 (.int a2)).bind fun h7 =>
  (hz_pF h7 a0 0 3 (.int a3)).bind fun h9 =>
  (hz_pF h9 a0 0 2 (va_rf a4)).bind fun h11 =>
  some h11
abbrev rm_X0_start : Room := { frames := 1, cells := 0, slots := 0, locals := 21 }
set_option maxRecDepth 100000 in
set_option maxHeartbeats 4000000 in
theorem c_X0_start {l : Launch} (a0 : Option Nat) (a1 : Int32) (a2 : Int32) (a3 : Int32) (a4 : Option Nat) (h : HP) (h' : HP) (H : f_X0_start a0 a1 a2 a3 a4 h = some h') : Ct l yX0_start cX0_start 5 none rm_X0_start [va_rf a0, .int a1, .int a2, .int a3, va_rf a4] none h h' := by
  refine Ct.of (plainFor_of_name (by decide)) (hz_s1c (hz_s1c (hz_s1c (hz_s1c (hz_s1c hz_s1n (hz_cr _)) rfl) rfl) rfl) (hz_cr _)) (Nat.le_of_ble_eq_true rfl) (fun G hl hn C0 => ?_)
  have C : Cx G cX0_start RX0 "start" none rm_X0_start none h' := C0
  subst hl
  show aw G 0 [some (va_rf a0), some (.int a1), some (.int a2), some (.int a3), some (va_rf a4)] [] h 0 0
  unfold f_X0_start at H
  refine aw_aload_n C dX0_start_0 rfl ?_
  refine aw_iload_n C dX0_start_1 rfl ?_
  obtain ⟨h1, e2, H⟩ := hz_bd H
  refine aw_pF (k := 0) C cl_0 (by decide) rfl wd_195 (hz_fiti _) e2 dX0_start_2 ?_
  refine aw_aload_n C dX0_start_5 rfl ?_
  refine aw_iload_n C dX0_start_6 rfl ?_
  refine aw_iload_n C dX0_start_7 rfl ?_
  obtain ⟨p3, e4, H⟩ := hz_bd H
  refine aw_SN (As := [.int a1, .int a2]) (rest := [va_rf a0]) C hy_X8_without wd_369 wn_521 (c_X8_without _ _ _ _ _  e4) (hz_roi _) rfl rfl (Nat.le_of_ble_eq_true rfl) (by decide) (kc := 0) (ks := 0) rfl rfl (by decide) dX0_start_8 ?_
  obtain ⟨h5, e6, H⟩ := hz_bd H
  refine aw_pF (k := 1) C cl_0 (by decide) rfl wd_197 (hz_fiti _) e6 dX0_start_11 ?_
  refine aw_aload_n C dX0_start_14 rfl ?_
  refine aw_iload_n C dX0_start_15 rfl ?_
  obtain ⟨h7, e8, H⟩ := hz_bd H
  refine aw_pF (k := 4) C cl_0 (by decide) rfl wd_202 (hz_fiti _) e8 dX0_start_16 ?_
  refine aw_aload_n C dX0_start_19 rfl ?_
  refine aw_iload_n C dX0_start_20 rfl ?_
  obtain ⟨h9, e10, H⟩ := hz_bd H
  refine aw_pF (k := 3) C cl_0 (by decide) rfl wd_201 (hz_fiti _) e10 dX0_start_21 ?_
  refine aw_aload_n C dX0_start_24 rfl ?_
  refine aw_aload C dX0_start_25 rfl ?_
  obtain ⟨h11, e12, H⟩ := hz_bd H
  refine aw_pF (k := 2) C cl_0 (by decide) rfl wd_199 (hz_fita _ _) e12 dX0_start_27 ?_
  cases H
  exact aw_vret C (Nat.zero_le _) (Nat.zero_le _) dX0_start_30
theorem hy_X0_answered : hz_Y yX0_answered cX0_answered 2 none 1 := ⟨wd_545, wd_65, by decide +kernel, by decide +kernel, by decide +kernel⟩
theorem hv_X0_answered : hz_YV yX0_answered := ⟨wd_543, wd_544⟩
def f_X0_answered (a0 : Option Nat) (a1 : Int32) (h : HP) : Option HP :=
  (hz_gI h a0 0 1).bind fun v1 =>
  (f_X8_without v1 a1 h).bind fun p3 =>
  (hz_pF p3.2 a0 0 1 (.int p3.1)).bind fun h5 =>
  some h5
abbrev rm_X0_answered : Room := { frames := 1, cells := 0, slots := 0, locals := 21 }
set_option maxRecDepth 100000 in
set_option maxHeartbeats 4000000 in
theorem c_X0_answered {l : Launch} (a0 : Option Nat) (a1 : Int32) (h : HP) (h' : HP) (H : f_X0_answered a0 a1 h = some h') : Ct l yX0_answered cX0_answered 2 none rm_X0_answered [va_rf a0, .int a1] none h h' := by
  refine Ct.of (plainFor_of_name (by decide)) (hz_s1c (hz_s1c hz_s1n rfl) (hz_cr _)) (Nat.le_of_ble_eq_true rfl) (fun G hl hn C0 => ?_)
  have C : Cx G cX0_answered RX0 "answered" none rm_X0_answered none h' := C0
  subst hl
  show aw G 0 [some (va_rf a0), some (.int a1)] [] h 0 0
  unfold f_X0_answered at H
  refine aw_aload_n C dX0_answered_0 rfl ?_
  refine aw_aload_n C dX0_answered_1 rfl ?_
  obtain ⟨v1, e2, H⟩ := hz_bd H
  refine aw_gI (k := 1) C cl_0 (by decide) wd_197 e2 dX0_answered_2 ?_
  refine aw_iload_n C dX0_answered_5 rfl ?_
  obtain ⟨p3, e4, H⟩ := hz_bd H
  refine aw_SN (As := [.int v1, .int a1]) (rest := [va_rf a0]) C hy_X8_without wd_369 wn_521 (c_X8_without _ _ _ _ _  e4) (hz_roi _) rfl rfl (Nat.le_of_ble_eq_true rfl) (by decide) (kc := 0) (ks := 0) rfl rfl (by decide) dX0_answered_6 ?_
  obtain ⟨h5, e6, H⟩ := hz_bd H
  refine aw_pF (k := 1) C cl_0 (by decide) rfl wd_197 (hz_fiti _) e6 dX0_answered_9 ?_
  cases H
  exact aw_vret C (Nat.zero_le _) (Nat.zero_le _) dX0_answered_12
theorem hy_X0_isBetter : hz_Y yX0_isBetter cX0_isBetter 4 (some .boolean) 3 := ⟨wd_541, wd_65, by decide +kernel, by decide +kernel, by decide +kernel⟩
theorem hv_X0_isBetter : hz_YV yX0_isBetter := ⟨wd_540, wd_29⟩
def f_X0_isBetter_59 (s0 : Int32) (h : HP) : Option (Int32 × HP) :=
  if s0 &&& 1 = s0 then some (s0, h) else none
def f_X0_isBetter_45 (s0 : Int32) (h : HP) : Option (Int32 × HP) :=
  if s0 &&& 1 = s0 then some (s0, h) else none
def f_X0_isBetter_21 (s0 : Int32) (h : HP) : Option (Int32 × HP) :=
  if s0 &&& 1 = s0 then some (s0, h) else none
def f_X0_isBetter (a0 : Option Nat) (a1 : Int32) (a2 : Int32) (a3 : Int32) (h : HP) : Option (Int32 × HP) :=
  (hz_gI h a0 0 3).bind fun v1 =>
  if a2 = v1 then
    (hz_gR h a0 0 2).bind fun r3 =>
    (hz_aL h r3).bind fun v5 =>
    if a3 = v5 then
      (hz_gI h a0 0 4).bind fun v7 =>
      if v7 ≤ a1 then
        f_X0_isBetter_59  (nI 0) h
      else
        f_X0_isBetter_59  (nI 1) h
    else
      (hz_gR h a0 0 2).bind fun r9 =>
      (hz_aL h r9).bind fun v11 =>
      if a3 ≤ v11 then
        f_X0_isBetter_45  (nI 0) h
      else
        f_X0_isBetter_45  (nI 1) h
  else
    (hz_gI h a0 0 3).bind fun v13 =>
    if a2 ≤ v13 then
      f_X0_isBetter_21  (nI 0) h
    else
      f_X0_isBetter_21  (nI 1) h
abbrev rm_X0_isBetter : Room := { frames := 0, cells := 0, slots := 0, locals := 0 }
set_option maxRecDepth 100000 in
set_option maxHeartbeats 4000000 in
theorem k_X0_isBetter_59 {G : GX} {v' : Int32} {h' : HP} (hn : G.2.2.2.2.2.2.2.2.2.2.2.2 = 4) (C : Cx G cX0_isBetter RX0 "isBetter" (some .boolean) rm_X0_isBetter (some (.int v')) h') (s0 : Int32) (h : HP) (H : f_X0_isBetter_59  s0 h = some (v', h')) : aw G 59 [none, none, none, none] [.int s0] h 0 0 := by
  unfold f_X0_isBetter_59 at H
  obtain ⟨gz, H⟩ := hz_wn H
  cases H
  exact aw_zret C gz (Nat.zero_le _) (Nat.zero_le _) dX0_isBetter_59
set_option maxRecDepth 100000 in
set_option maxHeartbeats 4000000 in
theorem k_X0_isBetter_45 {G : GX} {v' : Int32} {h' : HP} (hn : G.2.2.2.2.2.2.2.2.2.2.2.2 = 4) (C : Cx G cX0_isBetter RX0 "isBetter" (some .boolean) rm_X0_isBetter (some (.int v')) h') (s0 : Int32) (h : HP) (H : f_X0_isBetter_45  s0 h = some (v', h')) : aw G 45 [none, none, none, none] [.int s0] h 0 0 := by
  unfold f_X0_isBetter_45 at H
  obtain ⟨gz, H⟩ := hz_wn H
  cases H
  exact aw_zret C gz (Nat.zero_le _) (Nat.zero_le _) dX0_isBetter_45
set_option maxRecDepth 100000 in
set_option maxHeartbeats 4000000 in
theorem k_X0_isBetter_21 {G : GX} {v' : Int32} {h' : HP} (hn : G.2.2.2.2.2.2.2.2.2.2.2.2 = 4) (C : Cx G cX0_isBetter RX0 "isBetter" (some .boolean) rm_X0_isBetter (some (.int v')) h') (s0 : Int32) (h : HP) (H : f_X0_isBetter_21  s0 h = some (v', h')) : aw G 21 [none, none, none, none] [.int s0] h 0 0 := by
  unfold f_X0_isBetter_21 at H
  obtain ⟨gz, H⟩ := hz_wn H
  cases H
  exact aw_zret C gz (Nat.zero_le _) (Nat.zero_le _) dX0_isBetter_21
set_option maxRecDepth 100000 in
set_option maxHeartbeats 4000000 in
theorem c_X0_isBetter {l : Launch} (a0 : Option Nat) (a1 : Int32) (a2 : Int32) (a3 : Int32) (h : HP) (v' : Int32) (h' : HP) (H : f_X0_isBetter a0 a1 a2 a3 h = some (v', h')) : Ct l yX0_isBetter cX0_isBetter 4 (some .boolean) rm_X0_isBetter [va_rf a0, .int a1, .int a2, .int a3] (some (.int v')) h h' := by
  refine Ct.of (plainFor_of_name (by decide)) (hz_s1c (hz_s1c (hz_s1c (hz_s1c hz_s1n rfl) rfl) rfl) (hz_cr _)) (Nat.le_of_ble_eq_true rfl) (fun G hl hn C0 => ?_)
  have C : Cx G cX0_isBetter RX0 "isBetter" (some .boolean) rm_X0_isBetter (some (.int v')) h' := C0
  subst hl
  show aw G 0 [some (va_rf a0), some (.int a1), some (.int a2), some (.int a3)] [] h 0 0
  unfold f_X0_isBetter at H
  refine aw_iload_n C dX0_isBetter_0 rfl ?_
  refine aw_aload_n C dX0_isBetter_1 rfl ?_
  obtain ⟨v1, e2, H⟩ := hz_bd H
  refine aw_gI (k := 3) C cl_0 (by decide) wd_201 e2 dX0_isBetter_2 ?_
  refine aw_icmp_eq (tgt := 22) C dX0_isBetter_5 (by decide) (fun c15 => ?_) (fun c15 => ?_)
  · replace H := hz_it c15 H
    refine aw_iload_n C dX0_isBetter_22 rfl ?_
    refine aw_aload_n C dX0_isBetter_23 rfl ?_
    obtain ⟨r3, e4, H⟩ := hz_bd H
    refine aw_gR (k := 2) C cl_0 (by decide) wd_199 e4 dX0_isBetter_24 ?_
    obtain ⟨v5, e6, H⟩ := hz_bd H
    refine aw_alen C e6 dX0_isBetter_27 ?_
    refine aw_icmp_eq (tgt := 46) C dX0_isBetter_28 (by decide) (fun c16 => ?_) (fun c16 => ?_)
    · replace H := hz_it c16 H
      refine aw_iload_n C dX0_isBetter_46 rfl ?_
      refine aw_aload_n C dX0_isBetter_47 rfl ?_
      obtain ⟨v7, e8, H⟩ := hz_bd H
      refine aw_gI (k := 4) C cl_0 (by decide) wd_202 e8 dX0_isBetter_48 ?_
      refine aw_icmp_ge (tgt := 58) C dX0_isBetter_51 (by decide) (fun c17 => ?_) (fun c17 => ?_)
      · replace H := hz_it c17 H
        refine aw_iconst C dX0_isBetter_58 (v := (nI 0)) (by decide) ?_
        exact aw_loc (hz_sub_n (hz_sub_n (hz_sub_n (hz_sub_n hz_sub_0)))) (k_X0_isBetter_59 hn C  _ _ H)
      · replace H := hz_if c17 H
        refine aw_iconst C dX0_isBetter_54 (v := (nI 1)) (by decide) ?_
        refine aw_goto (tgt := 59) C dX0_isBetter_55 (by decide) ?_
        exact aw_loc (hz_sub_n (hz_sub_n (hz_sub_n (hz_sub_n hz_sub_0)))) (k_X0_isBetter_59 hn C  _ _ H)
    · replace H := hz_if c16 H
      refine aw_iload_n C dX0_isBetter_31 rfl ?_
      refine aw_aload_n C dX0_isBetter_32 rfl ?_
      obtain ⟨r9, e10, H⟩ := hz_bd H
      refine aw_gR (k := 2) C cl_0 (by decide) wd_199 e10 dX0_isBetter_33 ?_
      obtain ⟨v11, e12, H⟩ := hz_bd H
      refine aw_alen C e12 dX0_isBetter_36 ?_
      refine aw_icmp_le (tgt := 44) C dX0_isBetter_37 (by decide) (fun c18 => ?_) (fun c18 => ?_)
      · replace H := hz_it c18 H
        refine aw_iconst C dX0_isBetter_44 (v := (nI 0)) (by decide) ?_
        exact aw_loc (hz_sub_n (hz_sub_n (hz_sub_n (hz_sub_n hz_sub_0)))) (k_X0_isBetter_45 hn C  _ _ H)
      · replace H := hz_if c18 H
        refine aw_iconst C dX0_isBetter_40 (v := (nI 1)) (by decide) ?_
        refine aw_goto (tgt := 45) C dX0_isBetter_41 (by decide) ?_
        exact aw_loc (hz_sub_n (hz_sub_n (hz_sub_n (hz_sub_n hz_sub_0)))) (k_X0_isBetter_45 hn C  _ _ H)
  · replace H := hz_if c15 H
    refine aw_iload_n C dX0_isBetter_8 rfl ?_
    refine aw_aload_n C dX0_isBetter_9 rfl ?_
    obtain ⟨v13, e14, H⟩ := hz_bd H
    refine aw_gI (k := 3) C cl_0 (by decide) wd_201 e14 dX0_isBetter_10 ?_
    refine aw_icmp_le (tgt := 20) C dX0_isBetter_13 (by decide) (fun c19 => ?_) (fun c19 => ?_)
    · replace H := hz_it c19 H
      refine aw_iconst C dX0_isBetter_20 (v := (nI 0)) (by decide) ?_
      exact aw_loc (hz_sub_n (hz_sub_n (hz_sub_n (hz_sub_n hz_sub_0)))) (k_X0_isBetter_21 hn C  _ _ H)
    · replace H := hz_if c19 H
      refine aw_iconst C dX0_isBetter_16 (v := (nI 1)) (by decide) ?_
      refine aw_goto (tgt := 21) C dX0_isBetter_17 (by decide) ?_
      exact aw_loc (hz_sub_n (hz_sub_n (hz_sub_n (hz_sub_n hz_sub_0)))) (k_X0_isBetter_21 hn C  _ _ H)
theorem hy_X0_weigh : hz_Y yX0_weigh cX0_weigh 4 none 3 := ⟨wd_537, wd_65, by decide +kernel, by decide +kernel, by decide +kernel⟩
theorem hv_X0_weigh : hz_YV yX0_weigh := ⟨wd_535, wd_536⟩
def f_X0_weigh_26 (h : HP) : Option HP :=
  some h
def f_X0_weigh (a0 : Option Nat) (a1 : Int32) (a2 : Int32) (a3 : Option Nat) (h : HP) : Option HP :=
  (hz_aL h a3).bind fun v1 =>
  if hz_ob h a0 0 = true then
  (f_X0_isBetter a0 a1 a2 v1 h).bind fun p3 =>
  if p3.1 = 0 then
    f_X0_weigh_26   p3.2
  else
    (hz_pF p3.2 a0 0 4 (.int a1)).bind fun h6 =>
    (hz_pF h6 a0 0 3 (.int a2)).bind fun h8 =>
    (hz_pF h8 a0 0 2 (va_rf a3)).bind fun h10 =>
    f_X0_weigh_26   h10
  else none
abbrev rm_X0_weigh : Room := { frames := 1, cells := 0, slots := 0, locals := 23 }
set_option maxRecDepth 100000 in
set_option maxHeartbeats 4000000 in
theorem k_X0_weigh_26 {G : GX} {h' : HP} (hn : G.2.2.2.2.2.2.2.2.2.2.2.2 = 4) (C : Cx G cX0_weigh RX0 "weigh" none rm_X0_weigh none h') (h : HP) (H : f_X0_weigh_26   h = some h') : aw G 26 [none, none, none, none] [] h 0 0 := by
  unfold f_X0_weigh_26 at H
  cases H
  exact aw_vret C (Nat.zero_le _) (Nat.zero_le _) dX0_weigh_26
set_option maxRecDepth 100000 in
set_option maxHeartbeats 4000000 in
theorem c_X0_weigh {l : Launch} (a0 : Option Nat) (a1 : Int32) (a2 : Int32) (a3 : Option Nat) (h : HP) (h' : HP) (H : f_X0_weigh a0 a1 a2 a3 h = some h') : Ct l yX0_weigh cX0_weigh 4 none rm_X0_weigh [va_rf a0, .int a1, .int a2, va_rf a3] none h h' := by
  refine Ct.of (plainFor_of_name (by decide)) (hz_s1c (hz_s1c (hz_s1c (hz_s1c hz_s1n (hz_cr _)) rfl) rfl) (hz_cr _)) (Nat.le_of_ble_eq_true rfl) (fun G hl hn C0 => ?_)
  have C : Cx G cX0_weigh RX0 "weigh" none rm_X0_weigh none h' := C0
  subst hl
  show aw G 0 [some (va_rf a0), some (.int a1), some (.int a2), some (va_rf a3)] [] h 0 0
  unfold f_X0_weigh at H
  refine aw_aload_n C dX0_weigh_0 rfl ?_
  refine aw_iload_n C dX0_weigh_1 rfl ?_
  refine aw_iload_n C dX0_weigh_2 rfl ?_
  refine aw_aload_n C dX0_weigh_3 rfl ?_
  obtain ⟨v1, e2, H⟩ := hz_bd H
  refine aw_alen C e2 dX0_weigh_4 ?_
  obtain ⟨g5, H⟩ := hz_wn H
  obtain ⟨p3, e4, H⟩ := hz_bd H
  refine aw_V (As := [.int a1, .int a2, .int v1]) (rest := []) C hy_X0_isBetter hv_X0_isBetter wd_538 cl_0.1 g5 (c_X0_isBetter _ _ _ _ _ _ _  e4) (hz_roi _) rfl rfl (Nat.le_of_ble_eq_true rfl) (by decide) (kc := 0) (ks := 0) rfl rfl (by decide) dX0_weigh_5 ?_
  refine aw_if_eq (tgt := 26) C dX0_weigh_8 (by decide) (fun c12 => ?_) (fun c12 => ?_)
  · replace H := hz_it c12 H
    exact aw_loc (hz_sub_n (hz_sub_n (hz_sub_n (hz_sub_n hz_sub_0)))) (k_X0_weigh_26 hn C  _ H)
  · replace H := hz_if c12 H
    refine aw_aload_n C dX0_weigh_11 rfl ?_
    refine aw_iload_n C dX0_weigh_12 rfl ?_
    obtain ⟨h6, e7, H⟩ := hz_bd H
    refine aw_pF (k := 4) C cl_0 (by decide) rfl wd_202 (hz_fiti _) e7 dX0_weigh_13 ?_
    refine aw_aload_n C dX0_weigh_16 rfl ?_
    refine aw_iload_n C dX0_weigh_17 rfl ?_
    obtain ⟨h8, e9, H⟩ := hz_bd H
    refine aw_pF (k := 3) C cl_0 (by decide) rfl wd_201 (hz_fiti _) e9 dX0_weigh_18 ?_
    refine aw_aload_n C dX0_weigh_21 rfl ?_
    refine aw_aload_n C dX0_weigh_22 rfl ?_
    obtain ⟨h10, e11, H⟩ := hz_bd H
    refine aw_pF (k := 2) C cl_0 (by decide) rfl wd_199 (hz_fita _ _) e11 dX0_weigh_23 ?_
    exact aw_loc (hz_sub_n (hz_sub_n (hz_sub_n (hz_sub_n hz_sub_0)))) (k_X0_weigh_26 hn C  _ H)
theorem hy_X1_init : hz_Y yX1_init cX1_init 1 none 0 := ⟨wd_120, wd_61, by decide +kernel, by decide +kernel, by decide +kernel⟩
def f_X1_init (a0 : Option Nat) (h : HP) : Option HP :=
  if a0 = none then none else
  some h
abbrev rm_X1_init : Room := { frames := 1, cells := 0, slots := 0, locals := 40 }
set_option maxRecDepth 100000 in
set_option maxHeartbeats 4000000 in
theorem c_X1_init {l : Launch} (a0 : Option Nat) (h : HP) (h' : HP) (H : f_X1_init a0 h = some h') : Ct l yX1_init cX1_init 1 none rm_X1_init [va_rf a0] none h h' := by
  refine Ct.of (plainFor_of_name (by decide)) (hz_s1c hz_s1n (hz_cr _)) (Nat.le_of_ble_eq_true rfl) (fun G hl hn C0 => ?_)
  have C : Cx G cX1_init RX1 "<init>" none rm_X1_init none h' := C0
  subst hl
  show aw G 0 [some (va_rf a0)] [] h 0 0
  unfold f_X1_init at H
  refine aw_aload_n C dX1_init_0 rfl ?_
  obtain ⟨g1, H⟩ := hz_un H
  refine aw_objI C g1 wd_121 wd_78 wd_79 (Nat.le_of_ble_eq_true rfl) (by decide) dX1_init_1 ?_
  cases H
  exact aw_vret C (Nat.zero_le _) (Nat.zero_le _) dX1_init_4
theorem hy_X1_put : hz_Y yX1_put cX1_put 2 none 1 := ⟨wd_350, wd_61, by decide +kernel, by decide +kernel, by decide +kernel⟩
theorem hv_X1_put : hz_YV yX1_put := ⟨wd_348, wd_349⟩
def f_X1_put_23 (l0 : Option Nat) (l1 : Option Nat) (h : HP) : Option HP :=
  (hz_pF h l0 1 1 (va_rf l1)).bind fun h9 =>
  (hz_gI h9 l0 1 2).bind fun v11 =>
  (hz_pF h9 l0 1 2 (.int (v11 + (nI 1)))).bind fun h13 =>
  some h13
def f_X1_put (a0 : Option Nat) (a1 : Option Nat) (h : HP) : Option HP :=
  (hz_gR h a0 1 1).bind fun r1 =>
  if r1 = none then
    (hz_pF h a0 1 0 (va_rf a1)).bind fun h7 =>
    f_X1_put_23  a0 a1 h7
  else
    (hz_gR h a0 1 1).bind fun r3 =>
    (hz_pF h r3 2 4 (va_rf a1)).bind fun h5 =>
    f_X1_put_23  a0 a1 h5
abbrev rm_X1_put : Room := { frames := 0, cells := 0, slots := 0, locals := 0 }
set_option maxRecDepth 100000 in
set_option maxHeartbeats 4000000 in
theorem k_X1_put_23 {G : GX} {h' : HP} (hn : G.2.2.2.2.2.2.2.2.2.2.2.2 = 2) (C : Cx G cX1_put RX1 "put" none rm_X1_put none h') (l0 : Option Nat) (l1 : Option Nat) (h : HP) (H : f_X1_put_23  l0 l1 h = some h') : aw G 23 [some (va_rf l0), some (va_rf l1)] [] h 0 0 := by
  unfold f_X1_put_23 at H
  refine aw_aload_n C dX1_put_23 rfl ?_
  refine aw_aload_n C dX1_put_24 rfl ?_
  obtain ⟨h9, e10, H⟩ := hz_bd H
  refine aw_pF (k := 1) C cl_1 (by decide) rfl wd_124 (hz_fito _ _) e10 dX1_put_25 ?_
  refine aw_aload_n C dX1_put_28 rfl ?_
  refine aw_dup C dX1_put_29 ?_
  obtain ⟨v11, e12, H⟩ := hz_bd H
  refine aw_gI (k := 2) C cl_1 (by decide) wd_125 e12 dX1_put_30 ?_
  refine aw_iconst C dX1_put_33 (v := (nI 1)) (by decide) ?_
  refine aw_iadd C dX1_put_34 ?_
  obtain ⟨h13, e14, H⟩ := hz_bd H
  refine aw_pF (k := 2) C cl_1 (by decide) rfl wd_125 (hz_fiti _) e14 dX1_put_35 ?_
  cases H
  exact aw_vret C (Nat.zero_le _) (Nat.zero_le _) dX1_put_38
set_option maxRecDepth 100000 in
set_option maxHeartbeats 4000000 in
theorem c_X1_put {l : Launch} (a0 : Option Nat) (a1 : Option Nat) (h : HP) (h' : HP) (H : f_X1_put a0 a1 h = some h') : Ct l yX1_put cX1_put 2 none rm_X1_put [va_rf a0, va_rf a1] none h h' := by
  refine Ct.of (plainFor_of_name (by decide)) (hz_s1c (hz_s1c hz_s1n (hz_cr _)) (hz_cr _)) (Nat.le_of_ble_eq_true rfl) (fun G hl hn C0 => ?_)
  have C : Cx G cX1_put RX1 "put" none rm_X1_put none h' := C0
  subst hl
  show aw G 0 [some (va_rf a0), some (va_rf a1)] [] h 0 0
  unfold f_X1_put at H
  refine aw_aload_n C dX1_put_0 rfl ?_
  obtain ⟨r1, e2, H⟩ := hz_bd H
  refine aw_gR (k := 1) C cl_1 (by decide) wd_124 e2 dX1_put_1 ?_
  refine aw_ifnonnull (tgt := 15) C dX1_put_4 (by decide) (fun c15 => ?_) (fun c15 => ?_)
  · replace H := hz_if c15 H
    refine aw_aload_n C dX1_put_15 rfl ?_
    obtain ⟨r3, e4, H⟩ := hz_bd H
    refine aw_gR (k := 1) C cl_1 (by decide) wd_124 e4 dX1_put_16 ?_
    refine aw_aload_n C dX1_put_19 rfl ?_
    obtain ⟨h5, e6, H⟩ := hz_bd H
    refine aw_pF (k := 4) C cl_2 (by decide) rfl wd_335 (hz_fito _ _) e6 dX1_put_20 ?_
    exact k_X1_put_23 hn C  _ _ _ H
  · replace H := hz_it c15 H
    refine aw_aload_n C dX1_put_7 rfl ?_
    refine aw_aload_n C dX1_put_8 rfl ?_
    obtain ⟨h7, e8, H⟩ := hz_bd H
    refine aw_pF (k := 0) C cl_1 (by decide) rfl wd_122 (hz_fito _ _) e8 dX1_put_9 ?_
    refine aw_goto (tgt := 23) C dX1_put_12 (by decide) ?_
    exact k_X1_put_23 hn C  _ _ _ H
theorem hy_X1_take : hz_Y yX1_take cX1_take 2 (some (.object "GroupCast$Letter")) 0 := ⟨wd_444, wd_61, by decide +kernel, by decide +kernel, by decide +kernel⟩
theorem hv_X1_take : hz_YV yX1_take := ⟨wd_442, wd_443⟩
def f_X1_take_31 (l0 : Option Nat) (l1 : Option Nat) (h : HP) : Option (Option Nat × HP) :=
  (hz_gI h l0 1 2).bind fun v11 =>
  (hz_pF h l0 1 2 (.int (v11 - (nI 1)))).bind fun h13 =>
  some (l1, h13)
def f_X1_take (a0 : Option Nat) (h : HP) : Option (Option Nat × HP) :=
  (hz_gR h a0 1 0).bind fun r1 =>
  if r1 = none then
    some (none, h)
  else
    (hz_gR h r1 2 4).bind fun r3 =>
    (hz_pF h a0 1 0 (va_rf r3)).bind fun h5 =>
    (hz_gR h5 a0 1 0).bind fun r7 =>
    if r7 = none then
      (hz_pF h5 a0 1 1 (va_rf none)).bind fun h9 =>
      f_X1_take_31  a0 r1 h9
    else
      f_X1_take_31  a0 r1 h5
abbrev rm_X1_take : Room := { frames := 0, cells := 0, slots := 0, locals := 0 }
set_option maxRecDepth 100000 in
set_option maxHeartbeats 4000000 in
theorem k_X1_take_31 {G : GX} {v' : Option Nat} {h' : HP} (hn : G.2.2.2.2.2.2.2.2.2.2.2.2 = 2) (C : Cx G cX1_take RX1 "take" (some (.object "GroupCast$Letter")) rm_X1_take (some (va_rf v')) h') (l0 : Option Nat) (l1 : Option Nat) (h : HP) (H : f_X1_take_31  l0 l1 h = some (v', h')) : aw G 31 [some (va_rf l0), some (va_rf l1)] [] h 0 0 := by
  unfold f_X1_take_31 at H
  refine aw_aload_n C dX1_take_31 rfl ?_
  refine aw_dup C dX1_take_32 ?_
  obtain ⟨v11, e12, H⟩ := hz_bd H
  refine aw_gI (k := 2) C cl_1 (by decide) wd_125 e12 dX1_take_33 ?_
  refine aw_iconst C dX1_take_36 (v := (nI 1)) (by decide) ?_
  refine aw_isub C dX1_take_37 ?_
  obtain ⟨h13, e14, H⟩ := hz_bd H
  refine aw_pF (k := 2) C cl_1 (by decide) rfl wd_125 (hz_fiti _) e14 dX1_take_38 ?_
  refine aw_aload_n C dX1_take_41 rfl ?_
  cases H
  exact aw_aret C (Or.inl ⟨_, rfl⟩) (Nat.zero_le _) (Nat.zero_le _) dX1_take_42
set_option maxRecDepth 100000 in
set_option maxHeartbeats 4000000 in
theorem c_X1_take {l : Launch} (a0 : Option Nat) (h : HP) (v' : Option Nat) (h' : HP) (H : f_X1_take a0 h = some (v', h')) : Ct l yX1_take cX1_take 2 (some (.object "GroupCast$Letter")) rm_X1_take [va_rf a0] (some (va_rf v')) h h' := by
  refine Ct.of (plainFor_of_name (by decide)) (hz_s1c hz_s1n (hz_cr _)) (Nat.le_of_ble_eq_true rfl) (fun G hl hn C0 => ?_)
  have C : Cx G cX1_take RX1 "take" (some (.object "GroupCast$Letter")) rm_X1_take (some (va_rf v')) h' := C0
  subst hl
  show aw G 0 [some (va_rf a0), none] [] h 0 0
  unfold f_X1_take at H
  refine aw_aload_n C dX1_take_0 rfl ?_
  obtain ⟨r1, e2, H⟩ := hz_bd H
  refine aw_gR (k := 0) C cl_1 (by decide) wd_122 e2 dX1_take_1 ?_
  refine aw_astore_n C dX1_take_4 (by rw [hn]; decide) rfl ?_
  refine aw_aload_n C dX1_take_5 rfl ?_
  refine aw_ifnonnull (tgt := 11) C dX1_take_6 (by decide) (fun c15 => ?_) (fun c15 => ?_)
  · replace H := hz_if c15 H
    refine aw_aload_n C dX1_take_11 rfl ?_
    refine aw_aload_n C dX1_take_12 rfl ?_
    obtain ⟨r3, e4, H⟩ := hz_bd H
    refine aw_gR (k := 4) C cl_2 (by decide) wd_335 e4 dX1_take_13 ?_
    obtain ⟨h5, e6, H⟩ := hz_bd H
    refine aw_pF (k := 0) C cl_1 (by decide) rfl wd_122 (hz_fito _ _) e6 dX1_take_16 ?_
    refine aw_aload_n C dX1_take_19 rfl ?_
    obtain ⟨r7, e8, H⟩ := hz_bd H
    refine aw_gR (k := 0) C cl_1 (by decide) wd_122 e8 dX1_take_20 ?_
    refine aw_ifnonnull (tgt := 31) C dX1_take_23 (by decide) (fun c16 => ?_) (fun c16 => ?_)
    · replace H := hz_if c16 H
      exact k_X1_take_31 hn C  _ _ _ H
    · replace H := hz_it c16 H
      refine aw_aload_n C dX1_take_26 rfl ?_
      refine aw_null C dX1_take_27 ?_
      obtain ⟨h9, e10, H⟩ := hz_bd H
      refine aw_pF (k := 1) C cl_1 (by decide) rfl wd_124 (hz_fito _ _) e10 dX1_take_28 ?_
      exact k_X1_take_31 hn C  _ _ _ H
  · replace H := hz_it c15 H
    refine aw_null C dX1_take_9 ?_
    cases H
    exact aw_aret C (Or.inl ⟨_, rfl⟩) (Nat.zero_le _) (Nat.zero_le _) dX1_take_10
theorem hy_X2_init : hz_Y yX2_init cX2_init 5 none 4 := ⟨wd_324, wd_67, by decide +kernel, by decide +kernel, by decide +kernel⟩
def f_X2_init (a0 : Option Nat) (a1 : Int32) (a2 : Int32) (a3 : Int32) (a4 : Option Nat) (h : HP) : Option HP :=
  if a0 = none then none else
  (hz_pF h a0 2 0 (.int a1)).bind fun h2 =>
  (hz_pF h2 a0 2 1 (.int a2)).bind fun h4 =>
  (hz_pF h4 a0 2 2 (.int a3)).bind fun h6 =>
  (hz_pF h6 a0 2 3 (va_rf a4)).bind fun h8 =>
  some h8
abbrev rm_X2_init : Room := { frames := 1, cells := 0, slots := 0, locals := 40 }
set_option maxRecDepth 100000 in
set_option maxHeartbeats 4000000 in
theorem c_X2_init {l : Launch} (a0 : Option Nat) (a1 : Int32) (a2 : Int32) (a3 : Int32) (a4 : Option Nat) (h : HP) (h' : HP) (H : f_X2_init a0 a1 a2 a3 a4 h = some h') : Ct l yX2_init cX2_init 5 none rm_X2_init [va_rf a0, .int a1, .int a2, .int a3, va_rf a4] none h h' := by
  refine Ct.of (plainFor_of_name (by decide)) (hz_s1c (hz_s1c (hz_s1c (hz_s1c (hz_s1c hz_s1n (hz_cr _)) rfl) rfl) rfl) (hz_cr _)) (Nat.le_of_ble_eq_true rfl) (fun G hl hn C0 => ?_)
  have C : Cx G cX2_init RX2 "<init>" none rm_X2_init none h' := C0
  subst hl
  show aw G 0 [some (va_rf a0), some (.int a1), some (.int a2), some (.int a3), some (va_rf a4)] [] h 0 0
  unfold f_X2_init at H
  refine aw_aload_n C dX2_init_0 rfl ?_
  obtain ⟨g1, H⟩ := hz_un H
  refine aw_objI C g1 wd_325 wd_78 wd_79 (Nat.le_of_ble_eq_true rfl) (by decide) dX2_init_1 ?_
  refine aw_aload_n C dX2_init_4 rfl ?_
  refine aw_iload_n C dX2_init_5 rfl ?_
  obtain ⟨h2, e3, H⟩ := hz_bd H
  refine aw_pFF (k := 0) C cl_2 (by decide) rfl wd_326 (hz_fiti _) e3 dX2_init_6 ?_
  refine aw_aload_n C dX2_init_9 rfl ?_
  refine aw_iload_n C dX2_init_10 rfl ?_
  obtain ⟨h4, e5, H⟩ := hz_bd H
  refine aw_pFF (k := 1) C cl_2 (by decide) rfl wd_329 (hz_fiti _) e5 dX2_init_11 ?_
  refine aw_aload_n C dX2_init_14 rfl ?_
  refine aw_iload_n C dX2_init_15 rfl ?_
  obtain ⟨h6, e7, H⟩ := hz_bd H
  refine aw_pFF (k := 2) C cl_2 (by decide) rfl wd_331 (hz_fiti _) e7 dX2_init_16 ?_
  refine aw_aload_n C dX2_init_19 rfl ?_
  refine aw_aload C dX2_init_20 rfl ?_
  obtain ⟨h8, e9, H⟩ := hz_bd H
  refine aw_pFF (k := 3) C cl_2 (by decide) rfl wd_333 (hz_fita _ _) e9 dX2_init_22 ?_
  cases H
  exact aw_vret C (Nat.zero_le _) (Nat.zero_le _) dX2_init_25
theorem hy_X2_firstAct : hz_Y yX2_firstAct cX2_firstAct 1 (some .int) 0 := ⟨wd_460, wd_67, by decide +kernel, by decide +kernel, by decide +kernel⟩
theorem hv_X2_firstAct : hz_YV yX2_firstAct := ⟨wd_458, wd_459⟩
def f_X2_firstAct_18 (s0 : Int32) (h : HP) : Option (Int32 × HP) :=
  some (s0, h)
def f_X2_firstAct (a0 : Option Nat) (h : HP) : Option (Int32 × HP) :=
  (hz_gR h a0 2 3).bind fun r1 =>
  (hz_aL h r1).bind fun v3 =>
  if v3 ≤ 0 then
    f_X2_firstAct_18  (nI 0) h
  else
    (hz_gR h a0 2 3).bind fun r5 =>
    (hz_aI h r5 0 (nI 0)).bind fun v7 =>
    f_X2_firstAct_18  v7 h
abbrev rm_X2_firstAct : Room := { frames := 0, cells := 0, slots := 0, locals := 0 }
set_option maxRecDepth 100000 in
set_option maxHeartbeats 4000000 in
theorem k_X2_firstAct_18 {G : GX} {v' : Int32} {h' : HP} (hn : G.2.2.2.2.2.2.2.2.2.2.2.2 = 1) (C : Cx G cX2_firstAct RX2 "firstAct" (some .int) rm_X2_firstAct (some (.int v')) h') (s0 : Int32) (h : HP) (H : f_X2_firstAct_18  s0 h = some (v', h')) : aw G 18 [none] [.int s0] h 0 0 := by
  unfold f_X2_firstAct_18 at H
  cases H
  exact aw_iret C (Nat.zero_le _) (Nat.zero_le _) dX2_firstAct_18
set_option maxRecDepth 100000 in
set_option maxHeartbeats 4000000 in
theorem c_X2_firstAct {l : Launch} (a0 : Option Nat) (h : HP) (v' : Int32) (h' : HP) (H : f_X2_firstAct a0 h = some (v', h')) : Ct l yX2_firstAct cX2_firstAct 1 (some .int) rm_X2_firstAct [va_rf a0] (some (.int v')) h h' := by
  refine Ct.of (plainFor_of_name (by decide)) (hz_s1c hz_s1n (hz_cr _)) (Nat.le_of_ble_eq_true rfl) (fun G hl hn C0 => ?_)
  have C : Cx G cX2_firstAct RX2 "firstAct" (some .int) rm_X2_firstAct (some (.int v')) h' := C0
  subst hl
  show aw G 0 [some (va_rf a0)] [] h 0 0
  unfold f_X2_firstAct at H
  refine aw_aload_n C dX2_firstAct_0 rfl ?_
  obtain ⟨r1, e2, H⟩ := hz_bd H
  refine aw_gR (k := 3) C cl_2 (by decide) wd_333 e2 dX2_firstAct_1 ?_
  obtain ⟨v3, e4, H⟩ := hz_bd H
  refine aw_alen C e4 dX2_firstAct_4 ?_
  refine aw_if_le (tgt := 17) C dX2_firstAct_5 (by decide) (fun c9 => ?_) (fun c9 => ?_)
  · replace H := hz_it c9 H
    refine aw_iconst C dX2_firstAct_17 (v := (nI 0)) (by decide) ?_
    exact aw_loc (hz_sub_n hz_sub_0) (k_X2_firstAct_18 hn C  _ _ H)
  · replace H := hz_if c9 H
    refine aw_aload_n C dX2_firstAct_8 rfl ?_
    obtain ⟨r5, e6, H⟩ := hz_bd H
    refine aw_gR (k := 3) C cl_2 (by decide) wd_333 e6 dX2_firstAct_9 ?_
    refine aw_iconst C dX2_firstAct_12 (v := (nI 0)) (by decide) ?_
    obtain ⟨v7, e8, H⟩ := hz_bd H
    refine aw_iald C e8 dX2_firstAct_13 ?_
    refine aw_goto (tgt := 18) C dX2_firstAct_14 (by decide) ?_
    exact aw_loc (hz_sub_n hz_sub_0) (k_X2_firstAct_18 hn C  _ _ H)
theorem hy_X2_tell : hz_Y yX2_tell cX2_tell 2 (some .int) 1 := ⟨wd_644, wd_67, by decide +kernel, by decide +kernel, by decide +kernel⟩
theorem hv_X2_tell : hz_YV yX2_tell := ⟨wd_642, wd_643⟩
def f_X2_tell (a0 : Option Nat) (a1 : Int32) (h : HP) : Option (Int32 × HP) :=
  if a1 = nI 0 then
    (hz_gI h a0 2 0).bind fun v1 =>
    some (v1, h)
  else
  if a1 = nI 1 then
    (hz_gI h a0 2 1).bind fun v3 =>
    some (v3, h)
  else
  if a1 = nI 2 then
    (hz_gI h a0 2 2).bind fun v5 =>
    some (v5, h)
  else
  if a1 = nI 3 then
    (hz_gR h a0 2 3).bind fun r7 =>
    (hz_aL h r7).bind fun v9 =>
    some (v9, h)
  else
    some ((-1 : Int32), h)
abbrev rm_X2_tell : Room := { frames := 0, cells := 0, slots := 0, locals := 0 }
set_option maxRecDepth 100000 in
set_option maxHeartbeats 4000000 in
theorem c_X2_tell {l : Launch} (a0 : Option Nat) (a1 : Int32) (h : HP) (v' : Int32) (h' : HP) (H : f_X2_tell a0 a1 h = some (v', h')) : Ct l yX2_tell cX2_tell 2 (some .int) rm_X2_tell [va_rf a0, .int a1] (some (.int v')) h h' := by
  refine Ct.of (plainFor_of_name (by decide)) (hz_s1c (hz_s1c hz_s1n rfl) (hz_cr _)) (Nat.le_of_ble_eq_true rfl) (fun G hl hn C0 => ?_)
  have C : Cx G cX2_tell RX2 "tell" (some .int) rm_X2_tell (some (.int v')) h' := C0
  subst hl
  show aw G 0 [some (va_rf a0), some (.int a1)] [] h 0 0
  unfold f_X2_tell at H
  refine aw_iload_n C dX2_tell_0 rfl ?_
  by_cases c11 : a1 = nI 0
  · replace H := hz_it c11 H
    refine aw_tabI (a := 0) (off := 31) (tgt := 32) C dX2_tell_1 (by rw [c11]; decide) (by decide) (by decide) rfl (by decide) ?_
    refine aw_aload_n C dX2_tell_32 rfl ?_
    obtain ⟨v1, e2, H⟩ := hz_bd H
    refine aw_gI (k := 0) C cl_2 (by decide) wd_326 e2 dX2_tell_33 ?_
    cases H
    exact aw_iret C (Nat.zero_le _) (Nat.zero_le _) dX2_tell_36
  replace H := hz_if c11 H
  by_cases c12 : a1 = nI 1
  · replace H := hz_it c12 H
    refine aw_tabI (a := 1) (off := 36) (tgt := 37) C dX2_tell_1 (by rw [c12]; decide) (by decide) (by decide) rfl (by decide) ?_
    refine aw_aload_n C dX2_tell_37 rfl ?_
    obtain ⟨v3, e4, H⟩ := hz_bd H
    refine aw_gI (k := 1) C cl_2 (by decide) wd_329 e4 dX2_tell_38 ?_
    cases H
    exact aw_iret C (Nat.zero_le _) (Nat.zero_le _) dX2_tell_41
  replace H := hz_if c12 H
  by_cases c13 : a1 = nI 2
  · replace H := hz_it c13 H
    refine aw_tabI (a := 2) (off := 41) (tgt := 42) C dX2_tell_1 (by rw [c13]; decide) (by decide) (by decide) rfl (by decide) ?_
    refine aw_aload_n C dX2_tell_42 rfl ?_
    obtain ⟨v5, e6, H⟩ := hz_bd H
    refine aw_gI (k := 2) C cl_2 (by decide) wd_331 e6 dX2_tell_43 ?_
    cases H
    exact aw_iret C (Nat.zero_le _) (Nat.zero_le _) dX2_tell_46
  replace H := hz_if c13 H
  by_cases c14 : a1 = nI 3
  · replace H := hz_it c14 H
    refine aw_tabI (a := 3) (off := 46) (tgt := 47) C dX2_tell_1 (by rw [c14]; decide) (by decide) (by decide) rfl (by decide) ?_
    refine aw_aload_n C dX2_tell_47 rfl ?_
    obtain ⟨r7, e8, H⟩ := hz_bd H
    refine aw_gR (k := 3) C cl_2 (by decide) wd_333 e8 dX2_tell_48 ?_
    obtain ⟨v9, e10, H⟩ := hz_bd H
    refine aw_alen C e10 dX2_tell_51 ?_
    cases H
    exact aw_iret C (Nat.zero_le _) (Nat.zero_le _) dX2_tell_52
  replace H := hz_if c14 H
  refine aw_tabO (tgt := 53) C dX2_tell_1 (by have z0 := lv_neT (a := 0) c11 rfl; have z1 := lv_neT (a := 1) c12 rfl; have z2 := lv_neT (a := 2) c13 rfl; have z3 := lv_neT (a := 3) c14 rfl; omega) (by decide) ?_
  refine aw_iconst C dX2_tell_53 (v := (-1)) (by decide) ?_
  cases H
  exact aw_iret C (Nat.zero_le _) (Nat.zero_le _) dX2_tell_54
theorem hy_X3_init : hz_Y yX3_init cX3_init 1 none 0 := ⟨wd_177, wd_64, by decide +kernel, by decide +kernel, by decide +kernel⟩
def f_X3_init (a0 : Option Nat) (h : HP) : Option HP :=
  if a0 = none then none else
  (hz_nA h 0 20 (nI 20)).bind fun h2 =>
  (hz_pF h2 a0 3 0 (va_rf (some (h.1 + 1)))).bind fun h4 =>
  some h4
abbrev rm_X3_init : Room := { frames := 1, cells := 1, slots := 20, locals := 40 }
set_option maxRecDepth 100000 in
set_option maxHeartbeats 4000000 in
theorem c_X3_init {l : Launch} (a0 : Option Nat) (h : HP) (h' : HP) (H : f_X3_init a0 h = some h') : Ct l yX3_init cX3_init 1 none rm_X3_init [va_rf a0] none h h' := by
  refine Ct.of (plainFor_of_name (by decide)) (hz_s1c hz_s1n (hz_cr _)) (Nat.le_of_ble_eq_true rfl) (fun G hl hn C0 => ?_)
  have C : Cx G cX3_init RX3 "<init>" none rm_X3_init none h' := C0
  subst hl
  show aw G 0 [some (va_rf a0)] [] h 0 0
  unfold f_X3_init at H
  obtain ⟨cs, hcs⟩ : ∃ k : Nat, k = 0 := ⟨0, rfl⟩
  obtain ⟨sl, hsl⟩ : ∃ k : Nat, k = 0 := ⟨0, rfl⟩
  suffices hh : aw G 0 [some (va_rf a0)] [] h cs sl by rw [hcs, hsl] at hh; exact hh
  refine aw_aload_n C dX3_init_0 rfl ?_
  obtain ⟨g1, H⟩ := hz_un H
  refine aw_objI C g1 wd_178 wd_78 wd_79 (Nat.le_of_ble_eq_true rfl) (by decide) dX3_init_1 ?_
  refine aw_aload_n C dX3_init_4 rfl ?_
  refine aw_bipush C dX3_init_5 (v := (nI 20)) (by decide) ?_
  obtain ⟨h2, e3, H⟩ := hz_bd H
  refine aw_newa (t := 0) (cap := 20) C (by decide) rfl wd_172 e3 (by decide) (by show cs + 1 ≤ 1; omega) (by show sl + 20 ≤ 20; omega) dX3_init_7 ?_
  obtain ⟨h4, e5, H⟩ := hz_bd H
  refine aw_pFF (k := 0) C cl_3 (by decide) rfl wd_179 (hz_fita _ _) e5 dX3_init_9 ?_
  cases H
  exact aw_vret C (by show cs + 1 ≤ 1; omega) (by show sl + 20 ≤ 20; omega) dX3_init_12
theorem hy_X3_add : hz_Y yX3_add cX3_add 1 none 0 := ⟨wd_407, wd_64, by decide +kernel, by decide +kernel, by decide +kernel⟩
theorem hv_X3_add : hz_YV yX3_add := ⟨wd_406, wd_10⟩
def f_X3_add_43 (h : HP) : Option HP :=
  some h
def f_X3_add (a0 : Option Nat) (h : HP) : Option HP :=
  (hz_gI h a0 3 1).bind fun v1 =>
  if v1 < (nI 2) then
    f_X3_add_43   h
  else
    (hz_gR h a0 3 0).bind fun r3 =>
    (hz_gI h a0 3 1).bind fun v5 =>
    (hz_aI h r3 0 (v5 - (nI 2))).bind fun v7 =>
    (hz_gR h a0 3 0).bind fun r9 =>
    (hz_gI h a0 3 1).bind fun v11 =>
    (hz_aI h r9 0 (v11 - (nI 1))).bind fun v13 =>
    (hz_aS h r3 0 (v5 - (nI 2)) (v7 + v13)).bind fun h15 =>
    (hz_gI h15 a0 3 1).bind fun v17 =>
    (hz_pF h15 a0 3 1 (.int (v17 - (nI 1)))).bind fun h19 =>
    f_X3_add_43   h19
abbrev rm_X3_add : Room := { frames := 0, cells := 0, slots := 0, locals := 0 }
set_option maxRecDepth 100000 in
set_option maxHeartbeats 4000000 in
theorem k_X3_add_43 {G : GX} {h' : HP} (hn : G.2.2.2.2.2.2.2.2.2.2.2.2 = 1) (C : Cx G cX3_add RX3 "add" none rm_X3_add none h') (h : HP) (H : f_X3_add_43   h = some h') : aw G 43 [none] [] h 0 0 := by
  unfold f_X3_add_43 at H
  cases H
  exact aw_vret C (Nat.zero_le _) (Nat.zero_le _) dX3_add_43
set_option maxRecDepth 100000 in
set_option maxHeartbeats 4000000 in
theorem c_X3_add {l : Launch} (a0 : Option Nat) (h : HP) (h' : HP) (H : f_X3_add a0 h = some h') : Ct l yX3_add cX3_add 1 none rm_X3_add [va_rf a0] none h h' := by
  refine Ct.of (plainFor_of_name (by decide)) (hz_s1c hz_s1n (hz_cr _)) (Nat.le_of_ble_eq_true rfl) (fun G hl hn C0 => ?_)
  have C : Cx G cX3_add RX3 "add" none rm_X3_add none h' := C0
  subst hl
  show aw G 0 [some (va_rf a0)] [] h 0 0
  unfold f_X3_add at H
  refine aw_aload_n C dX3_add_0 rfl ?_
  obtain ⟨v1, e2, H⟩ := hz_bd H
  refine aw_gI (k := 1) C cl_3 (by decide) wd_180 e2 dX3_add_1 ?_
  refine aw_iconst C dX3_add_4 (v := (nI 2)) (by decide) ?_
  refine aw_icmp_lt (tgt := 43) C dX3_add_5 (by decide) (fun c21 => ?_) (fun c21 => ?_)
  · replace H := hz_it c21 H
    exact aw_loc (hz_sub_n hz_sub_0) (k_X3_add_43 hn C  _ H)
  · replace H := hz_if c21 H
    refine aw_aload_n C dX3_add_8 rfl ?_
    obtain ⟨r3, e4, H⟩ := hz_bd H
    refine aw_gR (k := 0) C cl_3 (by decide) wd_179 e4 dX3_add_9 ?_
    refine aw_aload_n C dX3_add_12 rfl ?_
    obtain ⟨v5, e6, H⟩ := hz_bd H
    refine aw_gI (k := 1) C cl_3 (by decide) wd_180 e6 dX3_add_13 ?_
    refine aw_iconst C dX3_add_16 (v := (nI 2)) (by decide) ?_
    refine aw_isub C dX3_add_17 ?_
    refine aw_dup2 C dX3_add_18 ?_
    obtain ⟨v7, e8, H⟩ := hz_bd H
    refine aw_iald C e8 dX3_add_19 ?_
    refine aw_aload_n C dX3_add_20 rfl ?_
    obtain ⟨r9, e10, H⟩ := hz_bd H
    refine aw_gR (k := 0) C cl_3 (by decide) wd_179 e10 dX3_add_21 ?_
    refine aw_aload_n C dX3_add_24 rfl ?_
    obtain ⟨v11, e12, H⟩ := hz_bd H
    refine aw_gI (k := 1) C cl_3 (by decide) wd_180 e12 dX3_add_25 ?_
    refine aw_iconst C dX3_add_28 (v := (nI 1)) (by decide) ?_
    refine aw_isub C dX3_add_29 ?_
    obtain ⟨v13, e14, H⟩ := hz_bd H
    refine aw_iald C e14 dX3_add_30 ?_
    refine aw_iadd C dX3_add_31 ?_
    obtain ⟨h15, e16, H⟩ := hz_bd H
    refine aw_iast C e16 dX3_add_32 ?_
    refine aw_aload_n C dX3_add_33 rfl ?_
    refine aw_dup C dX3_add_34 ?_
    obtain ⟨v17, e18, H⟩ := hz_bd H
    refine aw_gI (k := 1) C cl_3 (by decide) wd_180 e18 dX3_add_35 ?_
    refine aw_iconst C dX3_add_38 (v := (nI 1)) (by decide) ?_
    refine aw_isub C dX3_add_39 ?_
    obtain ⟨h19, e20, H⟩ := hz_bd H
    refine aw_pF (k := 1) C cl_3 (by decide) rfl wd_180 (hz_fiti _) e20 dX3_add_40 ?_
    exact aw_loc (hz_sub_n hz_sub_0) (k_X3_add_43 hn C  _ H)
theorem hy_X3_multiply : hz_Y yX3_multiply cX3_multiply 1 none 0 := ⟨wd_411, wd_64, by decide +kernel, by decide +kernel, by decide +kernel⟩
theorem hv_X3_multiply : hz_YV yX3_multiply := ⟨wd_410, wd_11⟩
def f_X3_multiply_43 (h : HP) : Option HP :=
  some h
def f_X3_multiply (a0 : Option Nat) (h : HP) : Option HP :=
  (hz_gI h a0 3 1).bind fun v1 =>
  if v1 < (nI 2) then
    f_X3_multiply_43   h
  else
    (hz_gR h a0 3 0).bind fun r3 =>
    (hz_gI h a0 3 1).bind fun v5 =>
    (hz_aI h r3 0 (v5 - (nI 2))).bind fun v7 =>
    (hz_gR h a0 3 0).bind fun r9 =>
    (hz_gI h a0 3 1).bind fun v11 =>
    (hz_aI h r9 0 (v11 - (nI 1))).bind fun v13 =>
    (hz_aS h r3 0 (v5 - (nI 2)) (v7 * v13)).bind fun h15 =>
    (hz_gI h15 a0 3 1).bind fun v17 =>
    (hz_pF h15 a0 3 1 (.int (v17 - (nI 1)))).bind fun h19 =>
    f_X3_multiply_43   h19
abbrev rm_X3_multiply : Room := { frames := 0, cells := 0, slots := 0, locals := 0 }
set_option maxRecDepth 100000 in
set_option maxHeartbeats 4000000 in
theorem k_X3_multiply_43 {G : GX} {h' : HP} (hn : G.2.2.2.2.2.2.2.2.2.2.2.2 = 1) (C : Cx G cX3_multiply RX3 "multiply" none rm_X3_multiply none h') (h : HP) (H : f_X3_multiply_43   h = some h') : aw G 43 [none] [] h 0 0 := by
  unfold f_X3_multiply_43 at H
  cases H
  exact aw_vret C (Nat.zero_le _) (Nat.zero_le _) dX3_multiply_43
set_option maxRecDepth 100000 in
set_option maxHeartbeats 4000000 in
theorem c_X3_multiply {l : Launch} (a0 : Option Nat) (h : HP) (h' : HP) (H : f_X3_multiply a0 h = some h') : Ct l yX3_multiply cX3_multiply 1 none rm_X3_multiply [va_rf a0] none h h' := by
  refine Ct.of (plainFor_of_name (by decide)) (hz_s1c hz_s1n (hz_cr _)) (Nat.le_of_ble_eq_true rfl) (fun G hl hn C0 => ?_)
  have C : Cx G cX3_multiply RX3 "multiply" none rm_X3_multiply none h' := C0
  subst hl
  show aw G 0 [some (va_rf a0)] [] h 0 0
  unfold f_X3_multiply at H
  refine aw_aload_n C dX3_multiply_0 rfl ?_
  obtain ⟨v1, e2, H⟩ := hz_bd H
  refine aw_gI (k := 1) C cl_3 (by decide) wd_180 e2 dX3_multiply_1 ?_
  refine aw_iconst C dX3_multiply_4 (v := (nI 2)) (by decide) ?_
  refine aw_icmp_lt (tgt := 43) C dX3_multiply_5 (by decide) (fun c21 => ?_) (fun c21 => ?_)
  · replace H := hz_it c21 H
    exact aw_loc (hz_sub_n hz_sub_0) (k_X3_multiply_43 hn C  _ H)
  · replace H := hz_if c21 H
    refine aw_aload_n C dX3_multiply_8 rfl ?_
    obtain ⟨r3, e4, H⟩ := hz_bd H
    refine aw_gR (k := 0) C cl_3 (by decide) wd_179 e4 dX3_multiply_9 ?_
    refine aw_aload_n C dX3_multiply_12 rfl ?_
    obtain ⟨v5, e6, H⟩ := hz_bd H
    refine aw_gI (k := 1) C cl_3 (by decide) wd_180 e6 dX3_multiply_13 ?_
    refine aw_iconst C dX3_multiply_16 (v := (nI 2)) (by decide) ?_
    refine aw_isub C dX3_multiply_17 ?_
    refine aw_dup2 C dX3_multiply_18 ?_
    obtain ⟨v7, e8, H⟩ := hz_bd H
    refine aw_iald C e8 dX3_multiply_19 ?_
    refine aw_aload_n C dX3_multiply_20 rfl ?_
    obtain ⟨r9, e10, H⟩ := hz_bd H
    refine aw_gR (k := 0) C cl_3 (by decide) wd_179 e10 dX3_multiply_21 ?_
    refine aw_aload_n C dX3_multiply_24 rfl ?_
    obtain ⟨v11, e12, H⟩ := hz_bd H
    refine aw_gI (k := 1) C cl_3 (by decide) wd_180 e12 dX3_multiply_25 ?_
    refine aw_iconst C dX3_multiply_28 (v := (nI 1)) (by decide) ?_
    refine aw_isub C dX3_multiply_29 ?_
    obtain ⟨v13, e14, H⟩ := hz_bd H
    refine aw_iald C e14 dX3_multiply_30 ?_
    refine aw_imul C dX3_multiply_31 ?_
    obtain ⟨h15, e16, H⟩ := hz_bd H
    refine aw_iast C e16 dX3_multiply_32 ?_
    refine aw_aload_n C dX3_multiply_33 rfl ?_
    refine aw_dup C dX3_multiply_34 ?_
    obtain ⟨v17, e18, H⟩ := hz_bd H
    refine aw_gI (k := 1) C cl_3 (by decide) wd_180 e18 dX3_multiply_35 ?_
    refine aw_iconst C dX3_multiply_38 (v := (nI 1)) (by decide) ?_
    refine aw_isub C dX3_multiply_39 ?_
    obtain ⟨h19, e20, H⟩ := hz_bd H
    refine aw_pF (k := 1) C cl_3 (by decide) rfl wd_180 (hz_fiti _) e20 dX3_multiply_40 ?_
    exact aw_loc (hz_sub_n hz_sub_0) (k_X3_multiply_43 hn C  _ H)
theorem hy_X3_duplicate : hz_Y yX3_duplicate cX3_duplicate 1 none 0 := ⟨wd_415, wd_64, by decide +kernel, by decide +kernel, by decide +kernel⟩
theorem hv_X3_duplicate : hz_YV yX3_duplicate := ⟨wd_414, wd_12⟩
def f_X3_duplicate_47 (h : HP) : Option HP :=
  some h
def f_X3_duplicate (a0 : Option Nat) (h : HP) : Option HP :=
  (hz_gI h a0 3 1).bind fun v1 =>
  if v1 < (nI 1) then
    f_X3_duplicate_47   h
  else
    (hz_gI h a0 3 1).bind fun v3 =>
    if (nI 20) ≤ v3 then
      f_X3_duplicate_47   h
    else
      (hz_gR h a0 3 0).bind fun r5 =>
      (hz_gI h a0 3 1).bind fun v7 =>
      (hz_gR h a0 3 0).bind fun r9 =>
      (hz_gI h a0 3 1).bind fun v11 =>
      (hz_aI h r9 0 (v11 - (nI 1))).bind fun v13 =>
      (hz_aS h r5 0 v7 v13).bind fun h15 =>
      (hz_gI h15 a0 3 1).bind fun v17 =>
      (hz_pF h15 a0 3 1 (.int (v17 + (nI 1)))).bind fun h19 =>
      f_X3_duplicate_47   h19
abbrev rm_X3_duplicate : Room := { frames := 0, cells := 0, slots := 0, locals := 0 }
set_option maxRecDepth 100000 in
set_option maxHeartbeats 4000000 in
theorem k_X3_duplicate_47 {G : GX} {h' : HP} (hn : G.2.2.2.2.2.2.2.2.2.2.2.2 = 1) (C : Cx G cX3_duplicate RX3 "duplicate" none rm_X3_duplicate none h') (h : HP) (H : f_X3_duplicate_47   h = some h') : aw G 47 [none] [] h 0 0 := by
  unfold f_X3_duplicate_47 at H
  cases H
  exact aw_vret C (Nat.zero_le _) (Nat.zero_le _) dX3_duplicate_47
set_option maxRecDepth 100000 in
set_option maxHeartbeats 4000000 in
theorem c_X3_duplicate {l : Launch} (a0 : Option Nat) (h : HP) (h' : HP) (H : f_X3_duplicate a0 h = some h') : Ct l yX3_duplicate cX3_duplicate 1 none rm_X3_duplicate [va_rf a0] none h h' := by
  refine Ct.of (plainFor_of_name (by decide)) (hz_s1c hz_s1n (hz_cr _)) (Nat.le_of_ble_eq_true rfl) (fun G hl hn C0 => ?_)
  have C : Cx G cX3_duplicate RX3 "duplicate" none rm_X3_duplicate none h' := C0
  subst hl
  show aw G 0 [some (va_rf a0)] [] h 0 0
  unfold f_X3_duplicate at H
  refine aw_aload_n C dX3_duplicate_0 rfl ?_
  obtain ⟨v1, e2, H⟩ := hz_bd H
  refine aw_gI (k := 1) C cl_3 (by decide) wd_180 e2 dX3_duplicate_1 ?_
  refine aw_iconst C dX3_duplicate_4 (v := (nI 1)) (by decide) ?_
  refine aw_icmp_lt (tgt := 47) C dX3_duplicate_5 (by decide) (fun c21 => ?_) (fun c21 => ?_)
  · replace H := hz_it c21 H
    exact aw_loc (hz_sub_n hz_sub_0) (k_X3_duplicate_47 hn C  _ H)
  · replace H := hz_if c21 H
    refine aw_aload_n C dX3_duplicate_8 rfl ?_
    obtain ⟨v3, e4, H⟩ := hz_bd H
    refine aw_gI (k := 1) C cl_3 (by decide) wd_180 e4 dX3_duplicate_9 ?_
    refine aw_bipush C dX3_duplicate_12 (v := (nI 20)) (by decide) ?_
    refine aw_icmp_ge (tgt := 47) C dX3_duplicate_14 (by decide) (fun c22 => ?_) (fun c22 => ?_)
    · replace H := hz_it c22 H
      exact aw_loc (hz_sub_n hz_sub_0) (k_X3_duplicate_47 hn C  _ H)
    · replace H := hz_if c22 H
      refine aw_aload_n C dX3_duplicate_17 rfl ?_
      obtain ⟨r5, e6, H⟩ := hz_bd H
      refine aw_gR (k := 0) C cl_3 (by decide) wd_179 e6 dX3_duplicate_18 ?_
      refine aw_aload_n C dX3_duplicate_21 rfl ?_
      obtain ⟨v7, e8, H⟩ := hz_bd H
      refine aw_gI (k := 1) C cl_3 (by decide) wd_180 e8 dX3_duplicate_22 ?_
      refine aw_aload_n C dX3_duplicate_25 rfl ?_
      obtain ⟨r9, e10, H⟩ := hz_bd H
      refine aw_gR (k := 0) C cl_3 (by decide) wd_179 e10 dX3_duplicate_26 ?_
      refine aw_aload_n C dX3_duplicate_29 rfl ?_
      obtain ⟨v11, e12, H⟩ := hz_bd H
      refine aw_gI (k := 1) C cl_3 (by decide) wd_180 e12 dX3_duplicate_30 ?_
      refine aw_iconst C dX3_duplicate_33 (v := (nI 1)) (by decide) ?_
      refine aw_isub C dX3_duplicate_34 ?_
      obtain ⟨v13, e14, H⟩ := hz_bd H
      refine aw_iald C e14 dX3_duplicate_35 ?_
      obtain ⟨h15, e16, H⟩ := hz_bd H
      refine aw_iast C e16 dX3_duplicate_36 ?_
      refine aw_aload_n C dX3_duplicate_37 rfl ?_
      refine aw_dup C dX3_duplicate_38 ?_
      obtain ⟨v17, e18, H⟩ := hz_bd H
      refine aw_gI (k := 1) C cl_3 (by decide) wd_180 e18 dX3_duplicate_39 ?_
      refine aw_iconst C dX3_duplicate_42 (v := (nI 1)) (by decide) ?_
      refine aw_iadd C dX3_duplicate_43 ?_
      obtain ⟨h19, e20, H⟩ := hz_bd H
      refine aw_pF (k := 1) C cl_3 (by decide) rfl wd_180 (hz_fiti _) e20 dX3_duplicate_44 ?_
      exact aw_loc (hz_sub_n hz_sub_0) (k_X3_duplicate_47 hn C  _ H)
theorem hy_X3_drop : hz_Y yX3_drop cX3_drop 1 none 0 := ⟨wd_419, wd_64, by decide +kernel, by decide +kernel, by decide +kernel⟩
theorem hv_X3_drop : hz_YV yX3_drop := ⟨wd_418, wd_13⟩
def f_X3_drop_18 (h : HP) : Option HP :=
  some h
def f_X3_drop (a0 : Option Nat) (h : HP) : Option HP :=
  (hz_gI h a0 3 1).bind fun v1 =>
  if v1 < (nI 1) then
    f_X3_drop_18   h
  else
    (hz_gI h a0 3 1).bind fun v3 =>
    (hz_pF h a0 3 1 (.int (v3 - (nI 1)))).bind fun h5 =>
    f_X3_drop_18   h5
abbrev rm_X3_drop : Room := { frames := 0, cells := 0, slots := 0, locals := 0 }
set_option maxRecDepth 100000 in
set_option maxHeartbeats 4000000 in
theorem k_X3_drop_18 {G : GX} {h' : HP} (hn : G.2.2.2.2.2.2.2.2.2.2.2.2 = 1) (C : Cx G cX3_drop RX3 "drop" none rm_X3_drop none h') (h : HP) (H : f_X3_drop_18   h = some h') : aw G 18 [none] [] h 0 0 := by
  unfold f_X3_drop_18 at H
  cases H
  exact aw_vret C (Nat.zero_le _) (Nat.zero_le _) dX3_drop_18
set_option maxRecDepth 100000 in
set_option maxHeartbeats 4000000 in
theorem c_X3_drop {l : Launch} (a0 : Option Nat) (h : HP) (h' : HP) (H : f_X3_drop a0 h = some h') : Ct l yX3_drop cX3_drop 1 none rm_X3_drop [va_rf a0] none h h' := by
  refine Ct.of (plainFor_of_name (by decide)) (hz_s1c hz_s1n (hz_cr _)) (Nat.le_of_ble_eq_true rfl) (fun G hl hn C0 => ?_)
  have C : Cx G cX3_drop RX3 "drop" none rm_X3_drop none h' := C0
  subst hl
  show aw G 0 [some (va_rf a0)] [] h 0 0
  unfold f_X3_drop at H
  refine aw_aload_n C dX3_drop_0 rfl ?_
  obtain ⟨v1, e2, H⟩ := hz_bd H
  refine aw_gI (k := 1) C cl_3 (by decide) wd_180 e2 dX3_drop_1 ?_
  refine aw_iconst C dX3_drop_4 (v := (nI 1)) (by decide) ?_
  refine aw_icmp_lt (tgt := 18) C dX3_drop_5 (by decide) (fun c7 => ?_) (fun c7 => ?_)
  · replace H := hz_it c7 H
    exact aw_loc (hz_sub_n hz_sub_0) (k_X3_drop_18 hn C  _ H)
  · replace H := hz_if c7 H
    refine aw_aload_n C dX3_drop_8 rfl ?_
    refine aw_dup C dX3_drop_9 ?_
    obtain ⟨v3, e4, H⟩ := hz_bd H
    refine aw_gI (k := 1) C cl_3 (by decide) wd_180 e4 dX3_drop_10 ?_
    refine aw_iconst C dX3_drop_13 (v := (nI 1)) (by decide) ?_
    refine aw_isub C dX3_drop_14 ?_
    obtain ⟨h5, e6, H⟩ := hz_bd H
    refine aw_pF (k := 1) C cl_3 (by decide) rfl wd_180 (hz_fiti _) e6 dX3_drop_15 ?_
    exact aw_loc (hz_sub_n hz_sub_0) (k_X3_drop_18 hn C  _ H)
theorem hy_X3_swap : hz_Y yX3_swap cX3_swap 2 none 0 := ⟨wd_423, wd_64, by decide +kernel, by decide +kernel, by decide +kernel⟩
theorem hv_X3_swap : hz_YV yX3_swap := ⟨wd_422, wd_14⟩
def f_X3_swap_54 (h : HP) : Option HP :=
  some h
def f_X3_swap (a0 : Option Nat) (h : HP) : Option HP :=
  (hz_gI h a0 3 1).bind fun v1 =>
  if v1 < (nI 2) then
    f_X3_swap_54   h
  else
    (hz_gR h a0 3 0).bind fun r3 =>
    (hz_gI h a0 3 1).bind fun v5 =>
    (hz_aI h r3 0 (v5 - (nI 1))).bind fun v7 =>
    (hz_gR h a0 3 0).bind fun r9 =>
    (hz_gI h a0 3 1).bind fun v11 =>
    (hz_gR h a0 3 0).bind fun r13 =>
    (hz_gI h a0 3 1).bind fun v15 =>
    (hz_aI h r13 0 (v15 - (nI 2))).bind fun v17 =>
    (hz_aS h r9 0 (v11 - (nI 1)) v17).bind fun h19 =>
    (hz_gR h19 a0 3 0).bind fun r21 =>
    (hz_gI h19 a0 3 1).bind fun v23 =>
    (hz_aS h19 r21 0 (v23 - (nI 2)) v7).bind fun h25 =>
    f_X3_swap_54   h25
abbrev rm_X3_swap : Room := { frames := 0, cells := 0, slots := 0, locals := 0 }
set_option maxRecDepth 100000 in
set_option maxHeartbeats 4000000 in
theorem k_X3_swap_54 {G : GX} {h' : HP} (hn : G.2.2.2.2.2.2.2.2.2.2.2.2 = 2) (C : Cx G cX3_swap RX3 "swap" none rm_X3_swap none h') (h : HP) (H : f_X3_swap_54   h = some h') : aw G 54 [none, none] [] h 0 0 := by
  unfold f_X3_swap_54 at H
  cases H
  exact aw_vret C (Nat.zero_le _) (Nat.zero_le _) dX3_swap_54
set_option maxRecDepth 100000 in
set_option maxHeartbeats 4000000 in
theorem c_X3_swap {l : Launch} (a0 : Option Nat) (h : HP) (h' : HP) (H : f_X3_swap a0 h = some h') : Ct l yX3_swap cX3_swap 2 none rm_X3_swap [va_rf a0] none h h' := by
  refine Ct.of (plainFor_of_name (by decide)) (hz_s1c hz_s1n (hz_cr _)) (Nat.le_of_ble_eq_true rfl) (fun G hl hn C0 => ?_)
  have C : Cx G cX3_swap RX3 "swap" none rm_X3_swap none h' := C0
  subst hl
  show aw G 0 [some (va_rf a0), none] [] h 0 0
  unfold f_X3_swap at H
  refine aw_aload_n C dX3_swap_0 rfl ?_
  obtain ⟨v1, e2, H⟩ := hz_bd H
  refine aw_gI (k := 1) C cl_3 (by decide) wd_180 e2 dX3_swap_1 ?_
  refine aw_iconst C dX3_swap_4 (v := (nI 2)) (by decide) ?_
  refine aw_icmp_lt (tgt := 54) C dX3_swap_5 (by decide) (fun c27 => ?_) (fun c27 => ?_)
  · replace H := hz_it c27 H
    exact aw_loc (hz_sub_n (hz_sub_n hz_sub_0)) (k_X3_swap_54 hn C  _ H)
  · replace H := hz_if c27 H
    refine aw_aload_n C dX3_swap_8 rfl ?_
    obtain ⟨r3, e4, H⟩ := hz_bd H
    refine aw_gR (k := 0) C cl_3 (by decide) wd_179 e4 dX3_swap_9 ?_
    refine aw_aload_n C dX3_swap_12 rfl ?_
    obtain ⟨v5, e6, H⟩ := hz_bd H
    refine aw_gI (k := 1) C cl_3 (by decide) wd_180 e6 dX3_swap_13 ?_
    refine aw_iconst C dX3_swap_16 (v := (nI 1)) (by decide) ?_
    refine aw_isub C dX3_swap_17 ?_
    obtain ⟨v7, e8, H⟩ := hz_bd H
    refine aw_iald C e8 dX3_swap_18 ?_
    refine aw_istore_n C dX3_swap_19 (by rw [hn]; decide) rfl ?_
    refine aw_aload_n C dX3_swap_20 rfl ?_
    obtain ⟨r9, e10, H⟩ := hz_bd H
    refine aw_gR (k := 0) C cl_3 (by decide) wd_179 e10 dX3_swap_21 ?_
    refine aw_aload_n C dX3_swap_24 rfl ?_
    obtain ⟨v11, e12, H⟩ := hz_bd H
    refine aw_gI (k := 1) C cl_3 (by decide) wd_180 e12 dX3_swap_25 ?_
    refine aw_iconst C dX3_swap_28 (v := (nI 1)) (by decide) ?_
    refine aw_isub C dX3_swap_29 ?_
    refine aw_aload_n C dX3_swap_30 rfl ?_
    obtain ⟨r13, e14, H⟩ := hz_bd H
    refine aw_gR (k := 0) C cl_3 (by decide) wd_179 e14 dX3_swap_31 ?_
    refine aw_aload_n C dX3_swap_34 rfl ?_
    obtain ⟨v15, e16, H⟩ := hz_bd H
    refine aw_gI (k := 1) C cl_3 (by decide) wd_180 e16 dX3_swap_35 ?_
    refine aw_iconst C dX3_swap_38 (v := (nI 2)) (by decide) ?_
    refine aw_isub C dX3_swap_39 ?_
    obtain ⟨v17, e18, H⟩ := hz_bd H
    refine aw_iald C e18 dX3_swap_40 ?_
    obtain ⟨h19, e20, H⟩ := hz_bd H
    refine aw_iast C e20 dX3_swap_41 ?_
    refine aw_aload_n C dX3_swap_42 rfl ?_
    obtain ⟨r21, e22, H⟩ := hz_bd H
    refine aw_gR (k := 0) C cl_3 (by decide) wd_179 e22 dX3_swap_43 ?_
    refine aw_aload_n C dX3_swap_46 rfl ?_
    obtain ⟨v23, e24, H⟩ := hz_bd H
    refine aw_gI (k := 1) C cl_3 (by decide) wd_180 e24 dX3_swap_47 ?_
    refine aw_iconst C dX3_swap_50 (v := (nI 2)) (by decide) ?_
    refine aw_isub C dX3_swap_51 ?_
    refine aw_iload_n C dX3_swap_52 rfl ?_
    obtain ⟨h25, e26, H⟩ := hz_bd H
    refine aw_iast C e26 dX3_swap_53 ?_
    exact aw_loc (hz_sub_n (hz_sub_n hz_sub_0)) (k_X3_swap_54 hn C  _ H)
theorem hy_X3_push : hz_Y yX3_push cX3_push 2 none 1 := ⟨wd_427, wd_64, by decide +kernel, by decide +kernel, by decide +kernel⟩
theorem hv_X3_push : hz_YV yX3_push := ⟨wd_426, wd_15⟩
def f_X3_push_29 (h : HP) : Option HP :=
  some h
def f_X3_push (a0 : Option Nat) (a1 : Int32) (h : HP) : Option HP :=
  (hz_gI h a0 3 1).bind fun v1 =>
  if (nI 20) ≤ v1 then
    f_X3_push_29   h
  else
    (hz_gR h a0 3 0).bind fun r3 =>
    (hz_gI h a0 3 1).bind fun v5 =>
    (hz_aS h r3 0 v5 a1).bind fun h7 =>
    (hz_gI h7 a0 3 1).bind fun v9 =>
    (hz_pF h7 a0 3 1 (.int (v9 + (nI 1)))).bind fun h11 =>
    f_X3_push_29   h11
abbrev rm_X3_push : Room := { frames := 0, cells := 0, slots := 0, locals := 0 }
set_option maxRecDepth 100000 in
set_option maxHeartbeats 4000000 in
theorem k_X3_push_29 {G : GX} {h' : HP} (hn : G.2.2.2.2.2.2.2.2.2.2.2.2 = 2) (C : Cx G cX3_push RX3 "push" none rm_X3_push none h') (h : HP) (H : f_X3_push_29   h = some h') : aw G 29 [none, none] [] h 0 0 := by
  unfold f_X3_push_29 at H
  cases H
  exact aw_vret C (Nat.zero_le _) (Nat.zero_le _) dX3_push_29
set_option maxRecDepth 100000 in
set_option maxHeartbeats 4000000 in
theorem c_X3_push {l : Launch} (a0 : Option Nat) (a1 : Int32) (h : HP) (h' : HP) (H : f_X3_push a0 a1 h = some h') : Ct l yX3_push cX3_push 2 none rm_X3_push [va_rf a0, .int a1] none h h' := by
  refine Ct.of (plainFor_of_name (by decide)) (hz_s1c (hz_s1c hz_s1n rfl) (hz_cr _)) (Nat.le_of_ble_eq_true rfl) (fun G hl hn C0 => ?_)
  have C : Cx G cX3_push RX3 "push" none rm_X3_push none h' := C0
  subst hl
  show aw G 0 [some (va_rf a0), some (.int a1)] [] h 0 0
  unfold f_X3_push at H
  refine aw_aload_n C dX3_push_0 rfl ?_
  obtain ⟨v1, e2, H⟩ := hz_bd H
  refine aw_gI (k := 1) C cl_3 (by decide) wd_180 e2 dX3_push_1 ?_
  refine aw_bipush C dX3_push_4 (v := (nI 20)) (by decide) ?_
  refine aw_icmp_ge (tgt := 29) C dX3_push_6 (by decide) (fun c13 => ?_) (fun c13 => ?_)
  · replace H := hz_it c13 H
    exact aw_loc (hz_sub_n (hz_sub_n hz_sub_0)) (k_X3_push_29 hn C  _ H)
  · replace H := hz_if c13 H
    refine aw_aload_n C dX3_push_9 rfl ?_
    obtain ⟨r3, e4, H⟩ := hz_bd H
    refine aw_gR (k := 0) C cl_3 (by decide) wd_179 e4 dX3_push_10 ?_
    refine aw_aload_n C dX3_push_13 rfl ?_
    obtain ⟨v5, e6, H⟩ := hz_bd H
    refine aw_gI (k := 1) C cl_3 (by decide) wd_180 e6 dX3_push_14 ?_
    refine aw_iload_n C dX3_push_17 rfl ?_
    obtain ⟨h7, e8, H⟩ := hz_bd H
    refine aw_iast C e8 dX3_push_18 ?_
    refine aw_aload_n C dX3_push_19 rfl ?_
    refine aw_dup C dX3_push_20 ?_
    obtain ⟨v9, e10, H⟩ := hz_bd H
    refine aw_gI (k := 1) C cl_3 (by decide) wd_180 e10 dX3_push_21 ?_
    refine aw_iconst C dX3_push_24 (v := (nI 1)) (by decide) ?_
    refine aw_iadd C dX3_push_25 ?_
    obtain ⟨h11, e12, H⟩ := hz_bd H
    refine aw_pF (k := 1) C cl_3 (by decide) rfl wd_180 (hz_fiti _) e12 dX3_push_26 ?_
    exact aw_loc (hz_sub_n (hz_sub_n hz_sub_0)) (k_X3_push_29 hn C  _ H)
theorem hy_X3_carryOut : hz_Y yX3_carryOut cX3_carryOut 2 none 1 := ⟨wd_403, wd_64, by decide +kernel, by decide +kernel, by decide +kernel⟩
theorem hv_X3_carryOut : hz_YV yX3_carryOut := ⟨wd_401, wd_402⟩
def f_X3_carryOut_79 (h : HP) : Option HP :=
  some h
def f_X3_carryOut (a0 : Option Nat) (a1 : Int32) (h : HP) : Option HP :=
  if a1 = nI 1 then
    if hz_ob h a0 3 = true then
    (f_X3_add a0 h).bind fun p1 =>
    f_X3_carryOut_79   p1
    else none
  else
  if a1 = nI 2 then
    if hz_ob h a0 3 = true then
    (f_X3_multiply a0 h).bind fun p4 =>
    f_X3_carryOut_79   p4
    else none
  else
  if a1 = nI 3 then
    if hz_ob h a0 3 = true then
    (f_X3_duplicate a0 h).bind fun p7 =>
    f_X3_carryOut_79   p7
    else none
  else
  if a1 = nI 4 then
    if hz_ob h a0 3 = true then
    (f_X3_drop a0 h).bind fun p10 =>
    f_X3_carryOut_79   p10
    else none
  else
  if a1 = nI 5 then
    if hz_ob h a0 3 = true then
    (f_X3_swap a0 h).bind fun p13 =>
    f_X3_carryOut_79   p13
    else none
  else
    if hz_ob h a0 3 = true then
    (f_X3_push a0 (a1 / (nI 8)) h).bind fun p16 =>
    f_X3_carryOut_79   p16
    else none
abbrev rm_X3_carryOut : Room := { frames := 1, cells := 0, slots := 0, locals := 21 }
set_option maxRecDepth 100000 in
set_option maxHeartbeats 4000000 in
theorem k_X3_carryOut_79 {G : GX} {h' : HP} (hn : G.2.2.2.2.2.2.2.2.2.2.2.2 = 2) (C : Cx G cX3_carryOut RX3 "carryOut" none rm_X3_carryOut none h') (h : HP) (H : f_X3_carryOut_79   h = some h') : aw G 79 [none, none] [] h 0 0 := by
  unfold f_X3_carryOut_79 at H
  cases H
  exact aw_vret C (Nat.zero_le _) (Nat.zero_le _) dX3_carryOut_79
set_option maxRecDepth 100000 in
set_option maxHeartbeats 4000000 in
theorem c_X3_carryOut {l : Launch} (a0 : Option Nat) (a1 : Int32) (h : HP) (h' : HP) (H : f_X3_carryOut a0 a1 h = some h') : Ct l yX3_carryOut cX3_carryOut 2 none rm_X3_carryOut [va_rf a0, .int a1] none h h' := by
  refine Ct.of (plainFor_of_name (by decide)) (hz_s1c (hz_s1c hz_s1n rfl) (hz_cr _)) (Nat.le_of_ble_eq_true rfl) (fun G hl hn C0 => ?_)
  have C : Cx G cX3_carryOut RX3 "carryOut" none rm_X3_carryOut none h' := C0
  subst hl
  show aw G 0 [some (va_rf a0), some (.int a1)] [] h 0 0
  unfold f_X3_carryOut at H
  refine aw_iload_n C dX3_carryOut_0 rfl ?_
  by_cases c19 : a1 = nI 1
  · replace H := hz_it c19 H
    refine aw_tabI (a := 1) (off := 35) (tgt := 36) C dX3_carryOut_1 (by rw [c19]; decide) (by decide) (by decide) rfl (by decide) ?_
    refine aw_aload_n C dX3_carryOut_36 rfl ?_
    obtain ⟨g3, H⟩ := hz_wn H
    obtain ⟨p1, e2, H⟩ := hz_bd H
    refine aw_V (As := []) (rest := []) C hy_X3_add hv_X3_add wd_404 cl_3.1 g3 (c_X3_add _ _ _  e2) hz_ron rfl rfl (Nat.le_of_ble_eq_true rfl) (by decide) (kc := 0) (ks := 0) rfl rfl (by decide) dX3_carryOut_37 ?_
    refine aw_goto (tgt := 79) C dX3_carryOut_40 (by decide) ?_
    exact aw_loc (hz_sub_n (hz_sub_n hz_sub_0)) (k_X3_carryOut_79 hn C  _ H)
  replace H := hz_if c19 H
  by_cases c20 : a1 = nI 2
  · replace H := hz_it c20 H
    refine aw_tabI (a := 2) (off := 42) (tgt := 43) C dX3_carryOut_1 (by rw [c20]; decide) (by decide) (by decide) rfl (by decide) ?_
    refine aw_aload_n C dX3_carryOut_43 rfl ?_
    obtain ⟨g6, H⟩ := hz_wn H
    obtain ⟨p4, e5, H⟩ := hz_bd H
    refine aw_V (As := []) (rest := []) C hy_X3_multiply hv_X3_multiply wd_408 cl_3.1 g6 (c_X3_multiply _ _ _  e5) hz_ron rfl rfl (Nat.le_of_ble_eq_true rfl) (by decide) (kc := 0) (ks := 0) rfl rfl (by decide) dX3_carryOut_44 ?_
    refine aw_goto (tgt := 79) C dX3_carryOut_47 (by decide) ?_
    exact aw_loc (hz_sub_n (hz_sub_n hz_sub_0)) (k_X3_carryOut_79 hn C  _ H)
  replace H := hz_if c20 H
  by_cases c21 : a1 = nI 3
  · replace H := hz_it c21 H
    refine aw_tabI (a := 3) (off := 49) (tgt := 50) C dX3_carryOut_1 (by rw [c21]; decide) (by decide) (by decide) rfl (by decide) ?_
    refine aw_aload_n C dX3_carryOut_50 rfl ?_
    obtain ⟨g9, H⟩ := hz_wn H
    obtain ⟨p7, e8, H⟩ := hz_bd H
    refine aw_V (As := []) (rest := []) C hy_X3_duplicate hv_X3_duplicate wd_412 cl_3.1 g9 (c_X3_duplicate _ _ _  e8) hz_ron rfl rfl (Nat.le_of_ble_eq_true rfl) (by decide) (kc := 0) (ks := 0) rfl rfl (by decide) dX3_carryOut_51 ?_
    refine aw_goto (tgt := 79) C dX3_carryOut_54 (by decide) ?_
    exact aw_loc (hz_sub_n (hz_sub_n hz_sub_0)) (k_X3_carryOut_79 hn C  _ H)
  replace H := hz_if c21 H
  by_cases c22 : a1 = nI 4
  · replace H := hz_it c22 H
    refine aw_tabI (a := 4) (off := 56) (tgt := 57) C dX3_carryOut_1 (by rw [c22]; decide) (by decide) (by decide) rfl (by decide) ?_
    refine aw_aload_n C dX3_carryOut_57 rfl ?_
    obtain ⟨g12, H⟩ := hz_wn H
    obtain ⟨p10, e11, H⟩ := hz_bd H
    refine aw_V (As := []) (rest := []) C hy_X3_drop hv_X3_drop wd_416 cl_3.1 g12 (c_X3_drop _ _ _  e11) hz_ron rfl rfl (Nat.le_of_ble_eq_true rfl) (by decide) (kc := 0) (ks := 0) rfl rfl (by decide) dX3_carryOut_58 ?_
    refine aw_goto (tgt := 79) C dX3_carryOut_61 (by decide) ?_
    exact aw_loc (hz_sub_n (hz_sub_n hz_sub_0)) (k_X3_carryOut_79 hn C  _ H)
  replace H := hz_if c22 H
  by_cases c23 : a1 = nI 5
  · replace H := hz_it c23 H
    refine aw_tabI (a := 5) (off := 63) (tgt := 64) C dX3_carryOut_1 (by rw [c23]; decide) (by decide) (by decide) rfl (by decide) ?_
    refine aw_aload_n C dX3_carryOut_64 rfl ?_
    obtain ⟨g15, H⟩ := hz_wn H
    obtain ⟨p13, e14, H⟩ := hz_bd H
    refine aw_V (As := []) (rest := []) C hy_X3_swap hv_X3_swap wd_420 cl_3.1 g15 (c_X3_swap _ _ _  e14) hz_ron rfl rfl (Nat.le_of_ble_eq_true rfl) (by decide) (kc := 0) (ks := 0) rfl rfl (by decide) dX3_carryOut_65 ?_
    refine aw_goto (tgt := 79) C dX3_carryOut_68 (by decide) ?_
    exact aw_loc (hz_sub_n (hz_sub_n hz_sub_0)) (k_X3_carryOut_79 hn C  _ H)
  replace H := hz_if c23 H
  refine aw_tabO (tgt := 71) C dX3_carryOut_1 (by have z0 := lv_neT (a := 1) c19 rfl; have z1 := lv_neT (a := 2) c20 rfl; have z2 := lv_neT (a := 3) c21 rfl; have z3 := lv_neT (a := 4) c22 rfl; have z4 := lv_neT (a := 5) c23 rfl; omega) (by decide) ?_
  refine aw_aload_n C dX3_carryOut_71 rfl ?_
  refine aw_iload_n C dX3_carryOut_72 rfl ?_
  refine aw_bipush C dX3_carryOut_73 (v := (nI 8)) (by decide) ?_
  refine aw_idiv C dX3_carryOut_75 (by decide) ?_
  obtain ⟨g18, H⟩ := hz_wn H
  obtain ⟨p16, e17, H⟩ := hz_bd H
  refine aw_V (As := [.int (a1 / (nI 8))]) (rest := []) C hy_X3_push hv_X3_push wd_424 cl_3.1 g18 (c_X3_push _ _ _ _  e17) hz_ron rfl rfl (Nat.le_of_ble_eq_true rfl) (by decide) (kc := 0) (ks := 0) rfl rfl (by decide) dX3_carryOut_76 ?_
  exact aw_loc (hz_sub_n (hz_sub_n hz_sub_0)) (k_X3_carryOut_79 hn C  _ H)
theorem hy_X3_fromTop : hz_Y yX3_fromTop cX3_fromTop 2 (some .int) 1 := ⟨wd_632, wd_64, by decide +kernel, by decide +kernel, by decide +kernel⟩
theorem hv_X3_fromTop : hz_YV yX3_fromTop := ⟨wd_630, wd_631⟩
def f_X3_fromTop_29 (s0 : Int32) (h : HP) : Option (Int32 × HP) :=
  some (s0, h)
def f_X3_fromTop_28 (h : HP) : Option (Int32 × HP) :=
  f_X3_fromTop_29  (nI 0) h
def f_X3_fromTop (a0 : Option Nat) (a1 : Int32) (h : HP) : Option (Int32 × HP) :=
  if a1 < 0 then
    f_X3_fromTop_28   h
  else
    (hz_gI h a0 3 1).bind fun v1 =>
    if v1 ≤ a1 then
      f_X3_fromTop_28   h
    else
      (hz_gR h a0 3 0).bind fun r3 =>
      (hz_gI h a0 3 1).bind fun v5 =>
      (hz_aI h r3 0 ((v5 - (nI 1)) - a1)).bind fun v7 =>
      f_X3_fromTop_29  v7 h
abbrev rm_X3_fromTop : Room := { frames := 0, cells := 0, slots := 0, locals := 0 }
set_option maxRecDepth 100000 in
set_option maxHeartbeats 4000000 in
theorem k_X3_fromTop_29 {G : GX} {v' : Int32} {h' : HP} (hn : G.2.2.2.2.2.2.2.2.2.2.2.2 = 2) (C : Cx G cX3_fromTop RX3 "fromTop" (some .int) rm_X3_fromTop (some (.int v')) h') (s0 : Int32) (h : HP) (H : f_X3_fromTop_29  s0 h = some (v', h')) : aw G 29 [none, none] [.int s0] h 0 0 := by
  unfold f_X3_fromTop_29 at H
  cases H
  exact aw_iret C (Nat.zero_le _) (Nat.zero_le _) dX3_fromTop_29
set_option maxRecDepth 100000 in
set_option maxHeartbeats 4000000 in
theorem k_X3_fromTop_28 {G : GX} {v' : Int32} {h' : HP} (hn : G.2.2.2.2.2.2.2.2.2.2.2.2 = 2) (C : Cx G cX3_fromTop RX3 "fromTop" (some .int) rm_X3_fromTop (some (.int v')) h') (h : HP) (H : f_X3_fromTop_28   h = some (v', h')) : aw G 28 [none, none] [] h 0 0 := by
  unfold f_X3_fromTop_28 at H
  refine aw_iconst C dX3_fromTop_28 (v := (nI 0)) (by decide) ?_
  exact k_X3_fromTop_29 hn C  _ _ H
set_option maxRecDepth 100000 in
set_option maxHeartbeats 4000000 in
theorem c_X3_fromTop {l : Launch} (a0 : Option Nat) (a1 : Int32) (h : HP) (v' : Int32) (h' : HP) (H : f_X3_fromTop a0 a1 h = some (v', h')) : Ct l yX3_fromTop cX3_fromTop 2 (some .int) rm_X3_fromTop [va_rf a0, .int a1] (some (.int v')) h h' := by
  refine Ct.of (plainFor_of_name (by decide)) (hz_s1c (hz_s1c hz_s1n rfl) (hz_cr _)) (Nat.le_of_ble_eq_true rfl) (fun G hl hn C0 => ?_)
  have C : Cx G cX3_fromTop RX3 "fromTop" (some .int) rm_X3_fromTop (some (.int v')) h' := C0
  subst hl
  show aw G 0 [some (va_rf a0), some (.int a1)] [] h 0 0
  unfold f_X3_fromTop at H
  refine aw_iload_n C dX3_fromTop_0 rfl ?_
  refine aw_if_lt (tgt := 28) C dX3_fromTop_1 (by decide) (fun c9 => ?_) (fun c9 => ?_)
  · replace H := hz_it c9 H
    exact aw_loc (hz_sub_n (hz_sub_n hz_sub_0)) (k_X3_fromTop_28 hn C  _ H)
  · replace H := hz_if c9 H
    refine aw_iload_n C dX3_fromTop_4 rfl ?_
    refine aw_aload_n C dX3_fromTop_5 rfl ?_
    obtain ⟨v1, e2, H⟩ := hz_bd H
    refine aw_gI (k := 1) C cl_3 (by decide) wd_180 e2 dX3_fromTop_6 ?_
    refine aw_icmp_ge (tgt := 28) C dX3_fromTop_9 (by decide) (fun c10 => ?_) (fun c10 => ?_)
    · replace H := hz_it c10 H
      exact aw_loc (hz_sub_n (hz_sub_n hz_sub_0)) (k_X3_fromTop_28 hn C  _ H)
    · replace H := hz_if c10 H
      refine aw_aload_n C dX3_fromTop_12 rfl ?_
      obtain ⟨r3, e4, H⟩ := hz_bd H
      refine aw_gR (k := 0) C cl_3 (by decide) wd_179 e4 dX3_fromTop_13 ?_
      refine aw_aload_n C dX3_fromTop_16 rfl ?_
      obtain ⟨v5, e6, H⟩ := hz_bd H
      refine aw_gI (k := 1) C cl_3 (by decide) wd_180 e6 dX3_fromTop_17 ?_
      refine aw_iconst C dX3_fromTop_20 (v := (nI 1)) (by decide) ?_
      refine aw_isub C dX3_fromTop_21 ?_
      refine aw_iload_n C dX3_fromTop_22 rfl ?_
      refine aw_isub C dX3_fromTop_23 ?_
      obtain ⟨v7, e8, H⟩ := hz_bd H
      refine aw_iald C e8 dX3_fromTop_24 ?_
      refine aw_goto (tgt := 29) C dX3_fromTop_25 (by decide) ?_
      exact aw_loc (hz_sub_n (hz_sub_n hz_sub_0)) (k_X3_fromTop_29 hn C  _ _ H)
theorem hy_X6_init : hz_Y yX6_init cX6_init 1 none 0 := ⟨wd_159, wd_63, by decide +kernel, by decide +kernel, by decide +kernel⟩
def f_X6_init (a0 : Option Nat) (h : HP) : Option HP :=
  if a0 = none then none else
  (hz_nA h 0 60 (nI 60)).bind fun h2 =>
  (hz_pF h2 a0 6 0 (va_rf (some (h.1 + 1)))).bind fun h4 =>
  some h4
abbrev rm_X6_init : Room := { frames := 1, cells := 1, slots := 60, locals := 40 }
set_option maxRecDepth 100000 in
set_option maxHeartbeats 4000000 in
theorem c_X6_init {l : Launch} (a0 : Option Nat) (h : HP) (h' : HP) (H : f_X6_init a0 h = some h') : Ct l yX6_init cX6_init 1 none rm_X6_init [va_rf a0] none h h' := by
  refine Ct.of (plainFor_of_name (by decide)) (hz_s1c hz_s1n (hz_cr _)) (Nat.le_of_ble_eq_true rfl) (fun G hl hn C0 => ?_)
  have C : Cx G cX6_init RX6 "<init>" none rm_X6_init none h' := C0
  subst hl
  show aw G 0 [some (va_rf a0)] [] h 0 0
  unfold f_X6_init at H
  obtain ⟨cs, hcs⟩ : ∃ k : Nat, k = 0 := ⟨0, rfl⟩
  obtain ⟨sl, hsl⟩ : ∃ k : Nat, k = 0 := ⟨0, rfl⟩
  suffices hh : aw G 0 [some (va_rf a0)] [] h cs sl by rw [hcs, hsl] at hh; exact hh
  refine aw_aload_n C dX6_init_0 rfl ?_
  obtain ⟨g1, H⟩ := hz_un H
  refine aw_objI C g1 wd_160 wd_78 wd_79 (Nat.le_of_ble_eq_true rfl) (by decide) dX6_init_1 ?_
  refine aw_aload_n C dX6_init_4 rfl ?_
  refine aw_bipush C dX6_init_5 (v := (nI 60)) (by decide) ?_
  obtain ⟨h2, e3, H⟩ := hz_bd H
  refine aw_newa (t := 0) (cap := 60) C (by decide) rfl wd_172 e3 (by decide) (by show cs + 1 ≤ 1; omega) (by show sl + 60 ≤ 60; omega) dX6_init_7 ?_
  obtain ⟨h4, e5, H⟩ := hz_bd H
  refine aw_pFF (k := 0) C cl_6 (by decide) rfl wd_161 (hz_fita _ _) e5 dX6_init_9 ?_
  cases H
  exact aw_vret C (by show cs + 1 ≤ 1; omega) (by show sl + 60 ≤ 60; omega) dX6_init_12
theorem hy_X8_has : hz_Y yX8_has cX8_has 2 (some .boolean) 2 := ⟨wd_310, wd_58, by decide +kernel, by decide +kernel, by decide +kernel⟩
def f_X8_has_13 (s0 : Int32) (h : HP) : Option (Int32 × HP) :=
  if s0 &&& 1 = s0 then some (s0, h) else none
def f_X8_has (a0 : Int32) (a1 : Int32) (h : HP) : Option (Int32 × HP) :=
  if (a0 &&& ((nI 1) <<< (a1 &&& 31))) = 0 then
    f_X8_has_13  (nI 0) h
  else
    f_X8_has_13  (nI 1) h
abbrev rm_X8_has : Room := { frames := 0, cells := 0, slots := 0, locals := 0 }
set_option maxRecDepth 100000 in
set_option maxHeartbeats 4000000 in
theorem k_X8_has_13 {G : GX} {v' : Int32} {h' : HP} (hn : G.2.2.2.2.2.2.2.2.2.2.2.2 = 2) (C : Cx G cX8_has RX8 "has" (some .boolean) rm_X8_has (some (.int v')) h') (s0 : Int32) (h : HP) (H : f_X8_has_13  s0 h = some (v', h')) : aw G 13 [none, none] [.int s0] h 0 0 := by
  unfold f_X8_has_13 at H
  obtain ⟨gz, H⟩ := hz_wn H
  cases H
  exact aw_zret C gz (Nat.zero_le _) (Nat.zero_le _) dX8_has_13
set_option maxRecDepth 100000 in
set_option maxHeartbeats 4000000 in
theorem c_X8_has {l : Launch} (a0 : Int32) (a1 : Int32) (h : HP) (v' : Int32) (h' : HP) (H : f_X8_has a0 a1 h = some (v', h')) : Ct l yX8_has cX8_has 2 (some .boolean) rm_X8_has [.int a0, .int a1] (some (.int v')) h h' := by
  refine Ct.of (plainFor_of_name (by decide)) (hz_s1c (hz_s1c hz_s1n rfl) rfl) (Nat.le_of_ble_eq_true rfl) (fun G hl hn C0 => ?_)
  have C : Cx G cX8_has RX8 "has" (some .boolean) rm_X8_has (some (.int v')) h' := C0
  subst hl
  show aw G 0 [some (.int a0), some (.int a1)] [] h 0 0
  unfold f_X8_has at H
  refine aw_iload_n C dX8_has_0 rfl ?_
  refine aw_iconst C dX8_has_1 (v := (nI 1)) (by decide) ?_
  refine aw_iload_n C dX8_has_2 rfl ?_
  refine aw_ishl C dX8_has_3 ?_
  refine aw_iand C dX8_has_4 ?_
  refine aw_if_eq (tgt := 12) C dX8_has_5 (by decide) (fun c1 => ?_) (fun c1 => ?_)
  · replace H := hz_it c1 H
    refine aw_iconst C dX8_has_12 (v := (nI 0)) (by decide) ?_
    exact aw_loc (hz_sub_n (hz_sub_n hz_sub_0)) (k_X8_has_13 hn C  _ _ H)
  · replace H := hz_if c1 H
    refine aw_iconst C dX8_has_8 (v := (nI 1)) (by decide) ?_
    refine aw_goto (tgt := 13) C dX8_has_9 (by decide) ?_
    exact aw_loc (hz_sub_n (hz_sub_n hz_sub_0)) (k_X8_has_13 hn C  _ _ H)
theorem hy_X6_isFull : hz_Y yX6_isFull cX6_isFull 1 (some .boolean) 0 := ⟨wd_354, wd_63, by decide +kernel, by decide +kernel, by decide +kernel⟩
theorem hv_X6_isFull : hz_YV yX6_isFull := ⟨wd_352, wd_353⟩
def f_X6_isFull_14 (s0 : Int32) (h : HP) : Option (Int32 × HP) :=
  if s0 &&& 1 = s0 then some (s0, h) else none
def f_X6_isFull (a0 : Option Nat) (h : HP) : Option (Int32 × HP) :=
  (hz_gI h a0 6 1).bind fun v1 =>
  if v1 < (nI 60) then
    f_X6_isFull_14  (nI 0) h
  else
    f_X6_isFull_14  (nI 1) h
abbrev rm_X6_isFull : Room := { frames := 0, cells := 0, slots := 0, locals := 0 }
set_option maxRecDepth 100000 in
set_option maxHeartbeats 4000000 in
theorem k_X6_isFull_14 {G : GX} {v' : Int32} {h' : HP} (hn : G.2.2.2.2.2.2.2.2.2.2.2.2 = 1) (C : Cx G cX6_isFull RX6 "isFull" (some .boolean) rm_X6_isFull (some (.int v')) h') (s0 : Int32) (h : HP) (H : f_X6_isFull_14  s0 h = some (v', h')) : aw G 14 [none] [.int s0] h 0 0 := by
  unfold f_X6_isFull_14 at H
  obtain ⟨gz, H⟩ := hz_wn H
  cases H
  exact aw_zret C gz (Nat.zero_le _) (Nat.zero_le _) dX6_isFull_14
set_option maxRecDepth 100000 in
set_option maxHeartbeats 4000000 in
theorem c_X6_isFull {l : Launch} (a0 : Option Nat) (h : HP) (v' : Int32) (h' : HP) (H : f_X6_isFull a0 h = some (v', h')) : Ct l yX6_isFull cX6_isFull 1 (some .boolean) rm_X6_isFull [va_rf a0] (some (.int v')) h h' := by
  refine Ct.of (plainFor_of_name (by decide)) (hz_s1c hz_s1n (hz_cr _)) (Nat.le_of_ble_eq_true rfl) (fun G hl hn C0 => ?_)
  have C : Cx G cX6_isFull RX6 "isFull" (some .boolean) rm_X6_isFull (some (.int v')) h' := C0
  subst hl
  show aw G 0 [some (va_rf a0)] [] h 0 0
  unfold f_X6_isFull at H
  refine aw_aload_n C dX6_isFull_0 rfl ?_
  obtain ⟨v1, e2, H⟩ := hz_bd H
  refine aw_gI (k := 1) C cl_6 (by decide) wd_164 e2 dX6_isFull_1 ?_
  refine aw_bipush C dX6_isFull_4 (v := (nI 60)) (by decide) ?_
  refine aw_icmp_lt (tgt := 13) C dX6_isFull_6 (by decide) (fun c3 => ?_) (fun c3 => ?_)
  · replace H := hz_it c3 H
    refine aw_iconst C dX6_isFull_13 (v := (nI 0)) (by decide) ?_
    exact aw_loc (hz_sub_n hz_sub_0) (k_X6_isFull_14 hn C  _ _ H)
  · replace H := hz_if c3 H
    refine aw_iconst C dX6_isFull_9 (v := (nI 1)) (by decide) ?_
    refine aw_goto (tgt := 14) C dX6_isFull_10 (by decide) ?_
    exact aw_loc (hz_sub_n hz_sub_0) (k_X6_isFull_14 hn C  _ _ H)
theorem hy_X6_add : hz_Y yX6_add cX6_add 2 none 1 := ⟨wd_362, wd_63, by decide +kernel, by decide +kernel, by decide +kernel⟩
theorem hv_X6_add : hz_YV yX6_add := ⟨wd_360, wd_361⟩
def f_X6_add_27 (h : HP) : Option HP :=
  some h
def f_X6_add (a0 : Option Nat) (a1 : Int32) (h : HP) : Option HP :=
  if hz_ob h a0 6 = true then
  (f_X6_isFull a0 h).bind fun p1 =>
  if p1.1 = 0 then
    (hz_gR p1.2 a0 6 0).bind fun r4 =>
    (hz_gI p1.2 a0 6 1).bind fun v6 =>
    (hz_aS p1.2 r4 0 v6 a1).bind fun h8 =>
    (hz_gI h8 a0 6 1).bind fun v10 =>
    (hz_pF h8 a0 6 1 (.int (v10 + (nI 1)))).bind fun h12 =>
    f_X6_add_27   h12
  else
    f_X6_add_27   p1.2
  else none
abbrev rm_X6_add : Room := { frames := 1, cells := 0, slots := 0, locals := 20 }
set_option maxRecDepth 100000 in
set_option maxHeartbeats 4000000 in
theorem k_X6_add_27 {G : GX} {h' : HP} (hn : G.2.2.2.2.2.2.2.2.2.2.2.2 = 2) (C : Cx G cX6_add RX6 "add" none rm_X6_add none h') (h : HP) (H : f_X6_add_27   h = some h') : aw G 27 [none, none] [] h 0 0 := by
  unfold f_X6_add_27 at H
  cases H
  exact aw_vret C (Nat.zero_le _) (Nat.zero_le _) dX6_add_27
set_option maxRecDepth 100000 in
set_option maxHeartbeats 4000000 in
theorem c_X6_add {l : Launch} (a0 : Option Nat) (a1 : Int32) (h : HP) (h' : HP) (H : f_X6_add a0 a1 h = some h') : Ct l yX6_add cX6_add 2 none rm_X6_add [va_rf a0, .int a1] none h h' := by
  refine Ct.of (plainFor_of_name (by decide)) (hz_s1c (hz_s1c hz_s1n rfl) (hz_cr _)) (Nat.le_of_ble_eq_true rfl) (fun G hl hn C0 => ?_)
  have C : Cx G cX6_add RX6 "add" none rm_X6_add none h' := C0
  subst hl
  show aw G 0 [some (va_rf a0), some (.int a1)] [] h 0 0
  unfold f_X6_add at H
  refine aw_aload_n C dX6_add_0 rfl ?_
  obtain ⟨g3, H⟩ := hz_wn H
  obtain ⟨p1, e2, H⟩ := hz_bd H
  refine aw_V (As := []) (rest := []) C hy_X6_isFull hv_X6_isFull wd_363 cl_6.1 g3 (c_X6_isFull _ _ _ _  e2) (hz_roi _) rfl rfl (Nat.le_of_ble_eq_true rfl) (by decide) (kc := 0) (ks := 0) rfl rfl (by decide) dX6_add_1 ?_
  refine aw_if_ne (tgt := 27) C dX6_add_4 (by decide) (fun c14 => ?_) (fun c14 => ?_)
  · replace H := hz_if c14 H
    exact aw_loc (hz_sub_n (hz_sub_n hz_sub_0)) (k_X6_add_27 hn C  _ H)
  · replace H := hz_it c14 H
    refine aw_aload_n C dX6_add_7 rfl ?_
    obtain ⟨r4, e5, H⟩ := hz_bd H
    refine aw_gR (k := 0) C cl_6 (by decide) wd_161 e5 dX6_add_8 ?_
    refine aw_aload_n C dX6_add_11 rfl ?_
    obtain ⟨v6, e7, H⟩ := hz_bd H
    refine aw_gI (k := 1) C cl_6 (by decide) wd_164 e7 dX6_add_12 ?_
    refine aw_iload_n C dX6_add_15 rfl ?_
    obtain ⟨h8, e9, H⟩ := hz_bd H
    refine aw_iast C e9 dX6_add_16 ?_
    refine aw_aload_n C dX6_add_17 rfl ?_
    refine aw_dup C dX6_add_18 ?_
    obtain ⟨v10, e11, H⟩ := hz_bd H
    refine aw_gI (k := 1) C cl_6 (by decide) wd_164 e11 dX6_add_19 ?_
    refine aw_iconst C dX6_add_22 (v := (nI 1)) (by decide) ?_
    refine aw_iadd C dX6_add_23 ?_
    obtain ⟨h12, e13, H⟩ := hz_bd H
    refine aw_pF (k := 1) C cl_6 (by decide) rfl wd_164 (hz_fiti _) e13 dX6_add_24 ?_
    exact aw_loc (hz_sub_n (hz_sub_n hz_sub_0)) (k_X6_add_27 hn C  _ H)
theorem hy_X8_allAbove : hz_Y yX8_allAbove cX8_allAbove 2 (some .int) 2 := ⟨wd_487, wd_58, by decide +kernel, by decide +kernel, by decide +kernel⟩
def f_X8_allAbove (a0 : Int32) (a1 : Int32) (h : HP) : Option (Int32 × HP) :=
  some ((a0 &&& ((((nI 2) <<< (a1 &&& 31)) - (nI 1)) ^^^ (-1 : Int32))), h)
abbrev rm_X8_allAbove : Room := { frames := 0, cells := 0, slots := 0, locals := 0 }
set_option maxRecDepth 100000 in
set_option maxHeartbeats 4000000 in
theorem c_X8_allAbove {l : Launch} (a0 : Int32) (a1 : Int32) (h : HP) (v' : Int32) (h' : HP) (H : f_X8_allAbove a0 a1 h = some (v', h')) : Ct l yX8_allAbove cX8_allAbove 2 (some .int) rm_X8_allAbove [.int a0, .int a1] (some (.int v')) h h' := by
  refine Ct.of (plainFor_of_name (by decide)) (hz_s1c (hz_s1c hz_s1n rfl) rfl) (Nat.le_of_ble_eq_true rfl) (fun G hl hn C0 => ?_)
  have C : Cx G cX8_allAbove RX8 "allAbove" (some .int) rm_X8_allAbove (some (.int v')) h' := C0
  subst hl
  show aw G 0 [some (.int a0), some (.int a1)] [] h 0 0
  unfold f_X8_allAbove at H
  refine aw_iload_n C dX8_allAbove_0 rfl ?_
  refine aw_iconst C dX8_allAbove_1 (v := (nI 2)) (by decide) ?_
  refine aw_iload_n C dX8_allAbove_2 rfl ?_
  refine aw_ishl C dX8_allAbove_3 ?_
  refine aw_iconst C dX8_allAbove_4 (v := (nI 1)) (by decide) ?_
  refine aw_isub C dX8_allAbove_5 ?_
  refine aw_iconst C dX8_allAbove_6 (v := (-1)) (by decide) ?_
  refine aw_ixor C dX8_allAbove_7 ?_
  refine aw_iand C dX8_allAbove_8 ?_
  cases H
  exact aw_iret C (Nat.zero_le _) (Nat.zero_le _) dX8_allAbove_9
theorem hy_X6_copy : hz_Y yX6_copy cX6_copy 1 (some (.array .int)) 0 := ⟨wd_502, wd_63, by decide +kernel, by decide +kernel, by decide +kernel⟩
theorem hv_X6_copy : hz_YV yX6_copy := ⟨wd_500, wd_501⟩
def f_X6_copy (a0 : Option Nat) (h : HP) : Option (Option Nat × HP) :=
  (hz_gR h a0 6 0).bind fun r1 =>
  (hz_gI h a0 6 1).bind fun v3 =>
  (f_J7_copyOf_59c91 r1 v3 h).bind fun p5 =>
  some (p5.1, p5.2)
abbrev rm_X6_copy : Room := { frames := 2, cells := 1, slots := 64, locals := 62 }
set_option maxRecDepth 100000 in
set_option maxHeartbeats 4000000 in
theorem c_X6_copy {l : Launch} (a0 : Option Nat) (h : HP) (v' : Option Nat) (h' : HP) (H : f_X6_copy a0 h = some (v', h')) : Ct l yX6_copy cX6_copy 1 (some (.array .int)) rm_X6_copy [va_rf a0] (some (va_rf v')) h h' := by
  refine Ct.of (plainFor_of_name (by decide)) (hz_s1c hz_s1n (hz_cr _)) (Nat.le_of_ble_eq_true rfl) (fun G hl hn C0 => ?_)
  have C : Cx G cX6_copy RX6 "copy" (some (.array .int)) rm_X6_copy (some (va_rf v')) h' := C0
  subst hl
  show aw G 0 [some (va_rf a0)] [] h 0 0
  unfold f_X6_copy at H
  obtain ⟨cs, hcs⟩ : ∃ k : Nat, k = 0 := ⟨0, rfl⟩
  obtain ⟨sl, hsl⟩ : ∃ k : Nat, k = 0 := ⟨0, rfl⟩
  suffices hh : aw G 0 [some (va_rf a0)] [] h cs sl by rw [hcs, hsl] at hh; exact hh
  refine aw_aload_n C dX6_copy_0 rfl ?_
  obtain ⟨r1, e2, H⟩ := hz_bd H
  refine aw_gR (k := 0) C cl_6 (by decide) wd_161 e2 dX6_copy_1 ?_
  refine aw_aload_n C dX6_copy_4 rfl ?_
  obtain ⟨v3, e4, H⟩ := hz_bd H
  refine aw_gI (k := 1) C cl_6 (by decide) wd_164 e4 dX6_copy_5 ?_
  obtain ⟨p5, e6, H⟩ := hz_bd H
  refine aw_S (As := [va_rf r1, .int v3]) (rest := []) C hy_J7_copyOf_59c91 wd_504 wd_503 (c_J7_copyOf_59c91 _ _ _ _ _  e6) (hz_ror _) rfl rfl (Nat.le_of_ble_eq_true rfl) (by decide) (kc := 1) (ks := 64) rfl rfl ⟨(by show cs + 1 ≤ 1; omega), (by show sl + 64 ≤ 64; omega)⟩ dX6_copy_8 ?_
  cases H
  exact aw_aret C (Or.inr ⟨_, rfl⟩) (by show cs + 1 ≤ 1; omega) (by show sl + 64 ≤ 64; omega) dX6_copy_11
theorem hy_X6_become : hz_Y yX6_become cX6_become 2 none 1 := ⟨wd_553, wd_63, by decide +kernel, by decide +kernel, by decide +kernel⟩
theorem hv_X6_become : hz_YV yX6_become := ⟨wd_551, wd_552⟩
def f_X6_become (a0 : Option Nat) (a1 : Option Nat) (h : HP) : Option HP :=
  (hz_aL h a1).bind fun v1 =>
  (f_J9_min_7cf53 v1 (nI 60) h).bind fun p3 =>
  (hz_pF p3.2 a0 6 1 (.int p3.1)).bind fun h5 =>
  (hz_gR h5 a0 6 0).bind fun r7 =>
  (hz_gI h5 a0 6 1).bind fun v9 =>
  (hz_cp h5 a1 (nI 0) r7 (nI 0) v9).bind fun h11 =>
  some h11
abbrev rm_X6_become : Room := { frames := 1, cells := 0, slots := 0, locals := 40 }
set_option maxRecDepth 100000 in
set_option maxHeartbeats 4000000 in
theorem c_X6_become {l : Launch} (a0 : Option Nat) (a1 : Option Nat) (h : HP) (h' : HP) (H : f_X6_become a0 a1 h = some h') : Ct l yX6_become cX6_become 2 none rm_X6_become [va_rf a0, va_rf a1] none h h' := by
  refine Ct.of (plainFor_of_name (by decide)) (hz_s1c (hz_s1c hz_s1n (hz_cr _)) (hz_cr _)) (Nat.le_of_ble_eq_true rfl) (fun G hl hn C0 => ?_)
  have C : Cx G cX6_become RX6 "become" none rm_X6_become none h' := C0
  subst hl
  show aw G 0 [some (va_rf a0), some (va_rf a1)] [] h 0 0
  unfold f_X6_become at H
  refine aw_aload_n C dX6_become_0 rfl ?_
  refine aw_aload_n C dX6_become_1 rfl ?_
  obtain ⟨v1, e2, H⟩ := hz_bd H
  refine aw_alen C e2 dX6_become_2 ?_
  refine aw_bipush C dX6_become_3 (v := (nI 60)) (by decide) ?_
  obtain ⟨p3, e4, H⟩ := hz_bd H
  refine aw_S (As := [.int v1, .int (nI 60)]) (rest := [va_rf a0]) C hy_J9_min_7cf53 wd_398 wd_554 (c_J9_min_7cf53 _ _ _ _ _  e4) (hz_roi _) rfl rfl (Nat.le_of_ble_eq_true rfl) (by decide) (kc := 0) (ks := 0) rfl rfl (by decide) dX6_become_5 ?_
  obtain ⟨h5, e6, H⟩ := hz_bd H
  refine aw_pF (k := 1) C cl_6 (by decide) rfl wd_164 (hz_fiti _) e6 dX6_become_8 ?_
  refine aw_aload_n C dX6_become_11 rfl ?_
  refine aw_iconst C dX6_become_12 (v := (nI 0)) (by decide) ?_
  refine aw_aload_n C dX6_become_13 rfl ?_
  obtain ⟨r7, e8, H⟩ := hz_bd H
  refine aw_gR (k := 0) C cl_6 (by decide) wd_161 e8 dX6_become_14 ?_
  refine aw_iconst C dX6_become_17 (v := (nI 0)) (by decide) ?_
  refine aw_aload_n C dX6_become_18 rfl ?_
  obtain ⟨v9, e10, H⟩ := hz_bd H
  refine aw_gI (k := 1) C cl_6 (by decide) wd_164 e10 dX6_become_19 ?_
  obtain ⟨h11, e12, H⟩ := hz_bd H
  refine aw_cp C wd_555 wd_516 wd_515 wd_71 e12 ⟨Nat.le_of_ble_eq_true rfl, Nat.le_of_ble_eq_true rfl⟩ dX6_become_22 ?_
  cases H
  exact aw_vret C (Nat.zero_le _) (Nat.zero_le _) dX6_become_25
theorem hy_X7_init : hz_Y yX7_init cX7_init 1 none 0 := ⟨wd_84, wd_59, by decide +kernel, by decide +kernel, by decide +kernel⟩
def f_X7_init (a0 : Option Nat) (h : HP) : Option HP :=
  if a0 = none then none else
  some h
abbrev rm_X7_init : Room := { frames := 1, cells := 0, slots := 0, locals := 40 }
set_option maxRecDepth 100000 in
set_option maxHeartbeats 4000000 in
theorem c_X7_init {l : Launch} (a0 : Option Nat) (h : HP) (h' : HP) (H : f_X7_init a0 h = some h') : Ct l yX7_init cX7_init 1 none rm_X7_init [va_rf a0] none h h' := by
  refine Ct.of (plainFor_of_name (by decide)) (hz_s1c hz_s1n (hz_cr _)) (Nat.le_of_ble_eq_true rfl) (fun G hl hn C0 => ?_)
  have C : Cx G cX7_init RX7 "<init>" none rm_X7_init none h' := C0
  subst hl
  show aw G 0 [some (va_rf a0)] [] h 0 0
  unfold f_X7_init at H
  refine aw_aload_n C dX7_init_0 rfl ?_
  obtain ⟨g1, H⟩ := hz_un H
  refine aw_objI C g1 wd_85 wd_78 wd_79 (Nat.le_of_ble_eq_true rfl) (by decide) dX7_init_1 ?_
  cases H
  exact aw_vret C (Nat.zero_le _) (Nat.zero_le _) dX7_init_4
theorem hy_X7_tell : hz_Y yX7_tell cX7_tell 2 (some .int) 1 := ⟨wd_652, wd_59, by decide +kernel, by decide +kernel, by decide +kernel⟩
theorem hv_X7_tell : hz_YV yX7_tell := ⟨wd_650, wd_651⟩
def f_X7_tell (a0 : Option Nat) (a1 : Int32) (h : HP) : Option (Int32 × HP) :=
  if a1 = nI 0 then
    (hz_gI h a0 7 0).bind fun v1 =>
    some (v1, h)
  else
  if a1 = nI 1 then
    (hz_gI h a0 7 1).bind fun v3 =>
    some (v3, h)
  else
  if a1 = nI 2 then
    (hz_gI h a0 7 2).bind fun v5 =>
    some (v5, h)
  else
  if a1 = nI 3 then
    (hz_gI h a0 7 3).bind fun v7 =>
    some (v7, h)
  else
  if a1 = nI 4 then
    (hz_gI h a0 7 4).bind fun v9 =>
    some (v9, h)
  else
    some ((-1 : Int32), h)
abbrev rm_X7_tell : Room := { frames := 0, cells := 0, slots := 0, locals := 0 }
set_option maxRecDepth 100000 in
set_option maxHeartbeats 4000000 in
theorem c_X7_tell {l : Launch} (a0 : Option Nat) (a1 : Int32) (h : HP) (v' : Int32) (h' : HP) (H : f_X7_tell a0 a1 h = some (v', h')) : Ct l yX7_tell cX7_tell 2 (some .int) rm_X7_tell [va_rf a0, .int a1] (some (.int v')) h h' := by
  refine Ct.of (plainFor_of_name (by decide)) (hz_s1c (hz_s1c hz_s1n rfl) (hz_cr _)) (Nat.le_of_ble_eq_true rfl) (fun G hl hn C0 => ?_)
  have C : Cx G cX7_tell RX7 "tell" (some .int) rm_X7_tell (some (.int v')) h' := C0
  subst hl
  show aw G 0 [some (va_rf a0), some (.int a1)] [] h 0 0
  unfold f_X7_tell at H
  refine aw_iload_n C dX7_tell_0 rfl ?_
  by_cases c11 : a1 = nI 0
  · replace H := hz_it c11 H
    refine aw_tabI (a := 0) (off := 35) (tgt := 36) C dX7_tell_1 (by rw [c11]; decide) (by decide) (by decide) rfl (by decide) ?_
    refine aw_aload_n C dX7_tell_36 rfl ?_
    obtain ⟨v1, e2, H⟩ := hz_bd H
    refine aw_gI (k := 0) C cl_7 (by decide) wd_86 e2 dX7_tell_37 ?_
    cases H
    exact aw_iret C (Nat.zero_le _) (Nat.zero_le _) dX7_tell_40
  replace H := hz_if c11 H
  by_cases c12 : a1 = nI 1
  · replace H := hz_it c12 H
    refine aw_tabI (a := 1) (off := 40) (tgt := 41) C dX7_tell_1 (by rw [c12]; decide) (by decide) (by decide) rfl (by decide) ?_
    refine aw_aload_n C dX7_tell_41 rfl ?_
    obtain ⟨v3, e4, H⟩ := hz_bd H
    refine aw_gI (k := 1) C cl_7 (by decide) wd_88 e4 dX7_tell_42 ?_
    cases H
    exact aw_iret C (Nat.zero_le _) (Nat.zero_le _) dX7_tell_45
  replace H := hz_if c12 H
  by_cases c13 : a1 = nI 2
  · replace H := hz_it c13 H
    refine aw_tabI (a := 2) (off := 45) (tgt := 46) C dX7_tell_1 (by rw [c13]; decide) (by decide) (by decide) rfl (by decide) ?_
    refine aw_aload_n C dX7_tell_46 rfl ?_
    obtain ⟨v5, e6, H⟩ := hz_bd H
    refine aw_gI (k := 2) C cl_7 (by decide) wd_92 e6 dX7_tell_47 ?_
    cases H
    exact aw_iret C (Nat.zero_le _) (Nat.zero_le _) dX7_tell_50
  replace H := hz_if c13 H
  by_cases c14 : a1 = nI 3
  · replace H := hz_it c14 H
    refine aw_tabI (a := 3) (off := 50) (tgt := 51) C dX7_tell_1 (by rw [c14]; decide) (by decide) (by decide) rfl (by decide) ?_
    refine aw_aload_n C dX7_tell_51 rfl ?_
    obtain ⟨v7, e8, H⟩ := hz_bd H
    refine aw_gI (k := 3) C cl_7 (by decide) wd_94 e8 dX7_tell_52 ?_
    cases H
    exact aw_iret C (Nat.zero_le _) (Nat.zero_le _) dX7_tell_55
  replace H := hz_if c14 H
  by_cases c15 : a1 = nI 4
  · replace H := hz_it c15 H
    refine aw_tabI (a := 4) (off := 55) (tgt := 56) C dX7_tell_1 (by rw [c15]; decide) (by decide) (by decide) rfl (by decide) ?_
    refine aw_aload_n C dX7_tell_56 rfl ?_
    obtain ⟨v9, e10, H⟩ := hz_bd H
    refine aw_gI (k := 4) C cl_7 (by decide) wd_96 e10 dX7_tell_57 ?_
    cases H
    exact aw_iret C (Nat.zero_le _) (Nat.zero_le _) dX7_tell_60
  replace H := hz_if c15 H
  refine aw_tabO (tgt := 61) C dX7_tell_1 (by have z0 := lv_neT (a := 0) c11 rfl; have z1 := lv_neT (a := 1) c12 rfl; have z2 := lv_neT (a := 2) c13 rfl; have z3 := lv_neT (a := 3) c14 rfl; have z4 := lv_neT (a := 4) c15 rfl; omega) (by decide) ?_
  refine aw_iconst C dX7_tell_61 (v := (-1)) (by decide) ?_
  cases H
  exact aw_iret C (Nat.zero_le _) (Nat.zero_le _) dX7_tell_62
theorem hy_X8_isAct : hz_Y yX8_isAct cX8_isAct 2 (some .boolean) 1 := ⟨wd_291, wd_58, by decide +kernel, by decide +kernel, by decide +kernel⟩
def f_X8_isAct_48 (s0 : Int32) (h : HP) : Option (Int32 × HP) :=
  if s0 &&& 1 = s0 then some (s0, h) else none
def f_X8_isAct_47 (h : HP) : Option (Int32 × HP) :=
  f_X8_isAct_48  (nI 0) h
def f_X8_isAct_31 (l0 : Int32) (s0 : Int32) (h : HP) : Option (Int32 × HP) :=
  if s0 = 0 then
    f_X8_isAct_47   h
  else
    if (l0 - l0 / (nI 8) * (nI 8)) = 0 then
      f_X8_isAct_48  (nI 1) h
    else
      f_X8_isAct_47   h
def f_X8_isAct_30 (l0 : Int32) (h : HP) : Option (Int32 × HP) :=
  f_X8_isAct_31  l0 (nI 0) h
def f_X8_isAct_12 (l0 : Int32) (h : HP) : Option (Int32 × HP) :=
  if l0 < (-8000 : Int32) then
    f_X8_isAct_30  l0 h
  else
    if (nI 8000) < l0 then
      f_X8_isAct_30  l0 h
    else
      f_X8_isAct_31  l0 (nI 1) h
def f_X8_isAct (a0 : Int32) (h : HP) : Option (Int32 × HP) :=
  if a0 < (nI 1) then
    f_X8_isAct_12  a0 h
  else
    if (nI 5) < a0 then
      f_X8_isAct_12  a0 h
    else
      some ((nI 1), h)
abbrev rm_X8_isAct : Room := { frames := 0, cells := 0, slots := 0, locals := 0 }
set_option maxRecDepth 100000 in
set_option maxHeartbeats 4000000 in
theorem k_X8_isAct_48 {G : GX} {v' : Int32} {h' : HP} (hn : G.2.2.2.2.2.2.2.2.2.2.2.2 = 2) (C : Cx G cX8_isAct RX8 "isAct" (some .boolean) rm_X8_isAct (some (.int v')) h') (s0 : Int32) (h : HP) (H : f_X8_isAct_48  s0 h = some (v', h')) : aw G 48 [none, none] [.int s0] h 0 0 := by
  unfold f_X8_isAct_48 at H
  obtain ⟨gz, H⟩ := hz_wn H
  cases H
  exact aw_zret C gz (Nat.zero_le _) (Nat.zero_le _) dX8_isAct_48
set_option maxRecDepth 100000 in
set_option maxHeartbeats 4000000 in
theorem k_X8_isAct_47 {G : GX} {v' : Int32} {h' : HP} (hn : G.2.2.2.2.2.2.2.2.2.2.2.2 = 2) (C : Cx G cX8_isAct RX8 "isAct" (some .boolean) rm_X8_isAct (some (.int v')) h') (h : HP) (H : f_X8_isAct_47   h = some (v', h')) : aw G 47 [none, none] [] h 0 0 := by
  unfold f_X8_isAct_47 at H
  refine aw_iconst C dX8_isAct_47 (v := (nI 0)) (by decide) ?_
  exact k_X8_isAct_48 hn C  _ _ H
set_option maxRecDepth 100000 in
set_option maxHeartbeats 4000000 in
theorem k_X8_isAct_31 {G : GX} {v' : Int32} {h' : HP} (hn : G.2.2.2.2.2.2.2.2.2.2.2.2 = 2) (C : Cx G cX8_isAct RX8 "isAct" (some .boolean) rm_X8_isAct (some (.int v')) h') (l0 : Int32) (s0 : Int32) (h : HP) (H : f_X8_isAct_31  l0 s0 h = some (v', h')) : aw G 31 [some (.int l0), none] [.int s0] h 0 0 := by
  unfold f_X8_isAct_31 at H
  refine aw_istore_n C dX8_isAct_31 (by rw [hn]; decide) rfl ?_
  refine aw_iload_n C dX8_isAct_32 rfl ?_
  refine aw_if_eq (tgt := 47) C dX8_isAct_33 (by decide) (fun c1 => ?_) (fun c1 => ?_)
  · replace H := hz_it c1 H
    exact aw_loc (hz_sub_n (hz_sub_n hz_sub_0)) (k_X8_isAct_47 hn C  _ H)
  · replace H := hz_if c1 H
    refine aw_iload_n C dX8_isAct_36 rfl ?_
    refine aw_bipush C dX8_isAct_37 (v := (nI 8)) (by decide) ?_
    refine aw_irem C dX8_isAct_39 (by decide) ?_
    refine aw_if_ne (tgt := 47) C dX8_isAct_40 (by decide) (fun c2 => ?_) (fun c2 => ?_)
    · replace H := hz_if c2 H
      exact aw_loc (hz_sub_n (hz_sub_n hz_sub_0)) (k_X8_isAct_47 hn C  _ H)
    · replace H := hz_it c2 H
      refine aw_iconst C dX8_isAct_43 (v := (nI 1)) (by decide) ?_
      refine aw_goto (tgt := 48) C dX8_isAct_44 (by decide) ?_
      exact aw_loc (hz_sub_n (hz_sub_n hz_sub_0)) (k_X8_isAct_48 hn C  _ _ H)
set_option maxRecDepth 100000 in
set_option maxHeartbeats 4000000 in
theorem k_X8_isAct_30 {G : GX} {v' : Int32} {h' : HP} (hn : G.2.2.2.2.2.2.2.2.2.2.2.2 = 2) (C : Cx G cX8_isAct RX8 "isAct" (some .boolean) rm_X8_isAct (some (.int v')) h') (l0 : Int32) (h : HP) (H : f_X8_isAct_30  l0 h = some (v', h')) : aw G 30 [some (.int l0), none] [] h 0 0 := by
  unfold f_X8_isAct_30 at H
  refine aw_iconst C dX8_isAct_30 (v := (nI 0)) (by decide) ?_
  exact k_X8_isAct_31 hn C  _ _ _ H
set_option maxRecDepth 100000 in
set_option maxHeartbeats 4000000 in
theorem k_X8_isAct_12 {G : GX} {v' : Int32} {h' : HP} (hn : G.2.2.2.2.2.2.2.2.2.2.2.2 = 2) (C : Cx G cX8_isAct RX8 "isAct" (some .boolean) rm_X8_isAct (some (.int v')) h') (l0 : Int32) (h : HP) (H : f_X8_isAct_12  l0 h = some (v', h')) : aw G 12 [some (.int l0), none] [] h 0 0 := by
  unfold f_X8_isAct_12 at H
  refine aw_iload_n C dX8_isAct_12 rfl ?_
  refine aw_sipush C dX8_isAct_13 (v := (-8000)) (by decide) ?_
  refine aw_icmp_lt (tgt := 30) C dX8_isAct_16 (by decide) (fun c3 => ?_) (fun c3 => ?_)
  · replace H := hz_it c3 H
    exact k_X8_isAct_30 hn C  _ _ H
  · replace H := hz_if c3 H
    refine aw_iload_n C dX8_isAct_19 rfl ?_
    refine aw_sipush C dX8_isAct_20 (v := (nI 8000)) (by decide) ?_
    refine aw_icmp_gt (tgt := 30) C dX8_isAct_23 (by decide) (fun c4 => ?_) (fun c4 => ?_)
    · replace H := hz_it c4 H
      exact k_X8_isAct_30 hn C  _ _ H
    · replace H := hz_if c4 H
      refine aw_iconst C dX8_isAct_26 (v := (nI 1)) (by decide) ?_
      refine aw_goto (tgt := 31) C dX8_isAct_27 (by decide) ?_
      exact k_X8_isAct_31 hn C  _ _ _ H
set_option maxRecDepth 100000 in
set_option maxHeartbeats 4000000 in
theorem c_X8_isAct {l : Launch} (a0 : Int32) (h : HP) (v' : Int32) (h' : HP) (H : f_X8_isAct a0 h = some (v', h')) : Ct l yX8_isAct cX8_isAct 2 (some .boolean) rm_X8_isAct [.int a0] (some (.int v')) h h' := by
  refine Ct.of (plainFor_of_name (by decide)) (hz_s1c hz_s1n rfl) (Nat.le_of_ble_eq_true rfl) (fun G hl hn C0 => ?_)
  have C : Cx G cX8_isAct RX8 "isAct" (some .boolean) rm_X8_isAct (some (.int v')) h' := C0
  subst hl
  show aw G 0 [some (.int a0), none] [] h 0 0
  unfold f_X8_isAct at H
  refine aw_iload_n C dX8_isAct_0 rfl ?_
  refine aw_iconst C dX8_isAct_1 (v := (nI 1)) (by decide) ?_
  refine aw_icmp_lt (tgt := 12) C dX8_isAct_2 (by decide) (fun c5 => ?_) (fun c5 => ?_)
  · replace H := hz_it c5 H
    exact k_X8_isAct_12 hn C  _ _ H
  · replace H := hz_if c5 H
    refine aw_iload_n C dX8_isAct_5 rfl ?_
    refine aw_iconst C dX8_isAct_6 (v := (nI 5)) (by decide) ?_
    refine aw_icmp_gt (tgt := 12) C dX8_isAct_7 (by decide) (fun c6 => ?_) (fun c6 => ?_)
    · replace H := hz_it c6 H
      exact k_X8_isAct_12 hn C  _ _ H
    · replace H := hz_if c6 H
      refine aw_iconst C dX8_isAct_10 (v := (nI 1)) (by decide) ?_
      cases H
      exact aw_zret C (by decide) (Nat.zero_le _) (Nat.zero_le _) dX8_isAct_11
