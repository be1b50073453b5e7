theorem hy_X4_init : hz_Y yX4_init cX4_init 5 none 4 := ⟨wd_153, wd_62, by decide +kernel, by decide +kernel, by decide +kernel⟩
def f_X4_init (a0 : Option Nat) (a1 : Int32) (a2 : Int32) (a3 : Option Nat) (a4 : Option Nat) (h : HP) : Option HP :=
  if a0 = none then none else
  (some (hz_nO h 6 [.null, .int 0])).bind fun h2 =>
  (f_X6_init (some (h.1 + 1)) h2).bind fun p3 =>
  (hz_pF p3 a0 4 4 (va_rf (some (h.1 + 1)))).bind fun h5 =>
  (some (hz_nO h5 3 [.null, .int 0])).bind fun h7 =>
  (f_X3_init (some (h5.1 + 1)) h7).bind fun p8 =>
  (hz_pF p8 a0 4 5 (va_rf (some (h5.1 + 1)))).bind fun h10 =>
  (some (hz_nO h10 0 [.int 0, .int 0, .null, .int 0, .int 0])).bind fun h12 =>
  (f_X0_init (some (h10.1 + 1)) h12).bind fun p13 =>
  (hz_pF p13 a0 4 6 (va_rf (some (h10.1 + 1)))).bind fun h15 =>
  (hz_pF h15 a0 4 8 (.int (nI 0))).bind fun h17 =>
  (hz_pF h17 a0 4 9 (.int (nI 0))).bind fun h19 =>
  (hz_pF h19 a0 4 16 (.int (-1 : Int32))).bind fun h21 =>
  (hz_pF h21 a0 4 0 (.int a1)).bind fun h23 =>
  (hz_pF h23 a0 4 1 (.int a2)).bind fun h25 =>
  (hz_pF h25 a0 4 2 (va_rf a3)).bind fun h27 =>
  (hz_pF h27 a0 4 3 (va_rf a4)).bind fun h29 =>
  (hz_nA h29 0 64 a2).bind fun h31 =>
  (hz_pF h31 a0 4 7 (va_rf (some (h29.1 + 1)))).bind fun h33 =>
  (hz_pF h33 a0 4 11 (.int (((nI 1) <<< (a2 &&& 31)) - (nI 1)))).bind fun h35 =>
  some h35
abbrev rm_X4_init : Room := { frames := 2, cells := 6, slots := 153, locals := 60 }
set_option maxRecDepth 100000 in
set_option maxHeartbeats 4000000 in
theorem c_X4_init {l : Launch} (a0 : Option Nat) (a1 : Int32) (a2 : Int32) (a3 : Option Nat) (a4 : Option Nat) (h : HP) (h' : HP) (H : f_X4_init a0 a1 a2 a3 a4 h = some h') : Ct l yX4_init cX4_init 5 none rm_X4_init [va_rf a0, .int a1, .int a2, va_rf a3, va_rf a4] none h h' := by
  refine Ct.of (plainFor_of_name (by decide)) (hz_s1c (hz_s1c (hz_s1c (hz_s1c (hz_s1c hz_s1n (hz_cr _)) (hz_cr _)) rfl) rfl) (hz_cr _)) (Nat.le_of_ble_eq_true rfl) (fun G hl hn C0 => ?_)
  have C : Cx G cX4_init RX4 "<init>" none rm_X4_init none h' := C0
  subst hl
  show aw G 0 [some (va_rf a0), some (.int a1), some (.int a2), some (va_rf a3), some (va_rf a4)] [] h 0 0
  unfold f_X4_init at H
  obtain ⟨cs, hcs⟩ : ∃ k : Nat, k = 0 := ⟨0, rfl⟩
  obtain ⟨sl, hsl⟩ : ∃ k : Nat, k = 0 := ⟨0, rfl⟩
  suffices hh : aw G 0 [some (va_rf a0), some (.int a1), some (.int a2), some (va_rf a3), some (va_rf a4)] [] h cs sl by rw [hcs, hsl] at hh; exact hh
  refine aw_aload_n C dX4_init_0 rfl ?_
  obtain ⟨g1, H⟩ := hz_un H
  refine aw_objI C g1 wd_154 wd_78 wd_79 (Nat.le_of_ble_eq_true rfl) (by decide) dX4_init_1 ?_
  refine aw_aload_n C dX4_init_4 rfl ?_
  replace H := hz_lt H
  refine aw_new C cl_6 wd_155 wd_156 wd_63 df_6 (by show cs + 1 ≤ 6; omega) (by show sl + 2 ≤ 153; omega) dX4_init_5 ?_
  refine aw_dup C dX4_init_8 ?_
  obtain ⟨p3, e4, H⟩ := hz_bd H
  refine aw_IN (As := []) (rest := [va_rf (some (h.1 + 1)), va_rf a0]) C hy_X6_init rfl wd_158 wn_157 (c_X6_init _ _ _  e4) rfl rfl (Nat.le_of_ble_eq_true rfl) (by decide) (kc := 1) (ks := 60) rfl rfl ⟨(by show cs + 1 + 1 ≤ 6; omega), (by show sl + 2 + 60 ≤ 153; omega)⟩ dX4_init_9 ?_
  obtain ⟨h5, e6, H⟩ := hz_bd H
  refine aw_pFF (k := 4) C cl_4 (by decide) rfl wd_218 (hz_fito _ _) e6 dX4_init_12 ?_
  refine aw_aload_n C dX4_init_15 rfl ?_
  replace H := hz_lt H
  refine aw_new C cl_3 wd_173 wd_174 wd_64 df_3 (by show cs + 1 + 1 + 1 ≤ 6; omega) (by show sl + 2 + 60 + 2 ≤ 153; omega) dX4_init_16 ?_
  refine aw_dup C dX4_init_19 ?_
  obtain ⟨p8, e9, H⟩ := hz_bd H
  refine aw_IN (As := []) (rest := [va_rf (some (h5.1 + 1)), va_rf a0]) C hy_X3_init rfl wd_176 wn_175 (c_X3_init _ _ _  e9) rfl rfl (Nat.le_of_ble_eq_true rfl) (by decide) (kc := 1) (ks := 20) rfl rfl ⟨(by show cs + 1 + 1 + 1 + 1 ≤ 6; omega), (by show sl + 2 + 60 + 2 + 20 ≤ 153; omega)⟩ dX4_init_20 ?_
  obtain ⟨h10, e11, H⟩ := hz_bd H
  refine aw_pFF (k := 5) C cl_4 (by decide) rfl wd_220 (hz_fito _ _) e11 dX4_init_23 ?_
  refine aw_aload_n C dX4_init_26 rfl ?_
  replace H := hz_lt H
  refine aw_new C cl_0 wd_187 wd_188 wd_65 df_0 (by show cs + 1 + 1 + 1 + 1 + 1 ≤ 6; omega) (by show sl + 2 + 60 + 2 + 20 + 5 ≤ 153; omega) dX4_init_27 ?_
  refine aw_dup C dX4_init_30 ?_
  obtain ⟨p13, e14, H⟩ := hz_bd H
  refine aw_IN (As := []) (rest := [va_rf (some (h10.1 + 1)), va_rf a0]) C hy_X0_init rfl wd_190 wn_189 (c_X0_init _ _ _  e14) rfl rfl (Nat.le_of_ble_eq_true rfl) (by decide) (kc := 0) (ks := 0) rfl rfl ⟨(by show cs + 1 + 1 + 1 + 1 + 1 + 0 ≤ 6; omega), (by show sl + 2 + 60 + 2 + 20 + 5 + 0 ≤ 153; omega)⟩ dX4_init_31 ?_
  obtain ⟨h15, e16, H⟩ := hz_bd H
  refine aw_pFF (k := 6) C cl_4 (by decide) rfl wd_222 (hz_fito _ _) e16 dX4_init_34 ?_
  refine aw_aload_n C dX4_init_37 rfl ?_
  refine aw_iconst C dX4_init_38 (v := (nI 0)) (by decide) ?_
  obtain ⟨h17, e18, H⟩ := hz_bd H
  refine aw_pF (k := 8) C cl_4 (by decide) rfl wd_224 (hz_fiti _) e18 dX4_init_39 ?_
  refine aw_aload_n C dX4_init_42 rfl ?_
  refine aw_iconst C dX4_init_43 (v := (nI 0)) (by decide) ?_
  obtain ⟨h19, e20, H⟩ := hz_bd H
  refine aw_pF (k := 9) C cl_4 (by decide) rfl wd_226 (hz_fiti _) e20 dX4_init_44 ?_
  refine aw_aload_n C dX4_init_47 rfl ?_
  refine aw_iconst C dX4_init_48 (v := (-1)) (by decide) ?_
  obtain ⟨h21, e22, H⟩ := hz_bd H
  refine aw_pF (k := 16) C cl_4 (by decide) rfl wd_235 (hz_fiti _) e22 dX4_init_49 ?_
  refine aw_aload_n C dX4_init_52 rfl ?_
  refine aw_iload_n C dX4_init_53 rfl ?_
  obtain ⟨h23, e24, H⟩ := hz_bd H
  refine aw_pFF (k := 0) C cl_4 (by decide) rfl wd_214 (hz_fiti _) e24 dX4_init_54 ?_
  refine aw_aload_n C dX4_init_57 rfl ?_
  refine aw_iload_n C dX4_init_58 rfl ?_
  obtain ⟨h25, e26, H⟩ := hz_bd H
  refine aw_pFF (k := 1) C cl_4 (by decide) rfl wd_215 (hz_fiti _) e26 dX4_init_59 ?_
  refine aw_aload_n C dX4_init_62 rfl ?_
  refine aw_aload_n C dX4_init_63 rfl ?_
  obtain ⟨h27, e28, H⟩ := hz_bd H
  refine aw_pFF (k := 2) C cl_4 (by decide) rfl wd_216 (hz_fito _ _) e28 dX4_init_64 ?_
  refine aw_aload_n C dX4_init_67 rfl ?_
  refine aw_aload C dX4_init_68 rfl ?_
  obtain ⟨h29, e30, H⟩ := hz_bd H
  refine aw_pFF (k := 3) C cl_4 (by decide) rfl wd_217 (hz_fito _ _) e30 dX4_init_70 ?_
  refine aw_aload_n C dX4_init_73 rfl ?_
  refine aw_iload_n C dX4_init_74 rfl ?_
  obtain ⟨h31, e32, H⟩ := hz_bd H
  refine aw_newa (t := 0) (cap := 64) C (by decide) rfl wd_172 e32 (by decide) (by show cs + 1 + 1 + 1 + 1 + 1 + 0 + 1 ≤ 6; omega) (by show sl + 2 + 60 + 2 + 20 + 5 + 0 + 64 ≤ 153; omega) dX4_init_75 ?_
  obtain ⟨h33, e34, H⟩ := hz_bd H
  refine aw_pFF (k := 7) C cl_4 (by decide) rfl wd_223 (hz_fita _ _) e34 dX4_init_77 ?_
  refine aw_aload_n C dX4_init_80 rfl ?_
  refine aw_iconst C dX4_init_81 (v := (nI 1)) (by decide) ?_
  refine aw_iload_n C dX4_init_82 rfl ?_
  refine aw_ishl C dX4_init_83 ?_
  refine aw_iconst C dX4_init_84 (v := (nI 1)) (by decide) ?_
  refine aw_isub C dX4_init_85 ?_
  obtain ⟨h35, e36, H⟩ := hz_bd H
  refine aw_pF (k := 11) C cl_4 (by decide) rfl wd_229 (hz_fiti _) e36 dX4_init_86 ?_
  cases H
  exact aw_vret C (by show cs + 1 + 1 + 1 + 1 + 1 + 0 + 1 ≤ 6; omega) (by show sl + 2 + 60 + 2 + 20 + 5 + 0 + 64 ≤ 153; omega) dX4_init_89
theorem hy_X4_leader : hz_Y yX4_leader cX4_leader 2 (some .int) 0 := ⟨wd_307, wd_62, by decide +kernel, by decide +kernel, by decide +kernel⟩
theorem hv_X4_leader : hz_YV yX4_leader := ⟨wd_306, wd_2⟩
def f_X4_leader_7 : Nat → Option Nat → Int32 → HP → Option (Int32 × HP)
  | 0, _, _, _ => none
  | n + 1, l0, l1, h =>
    if l1 ≤ 0 then
      some ((nI 0), h)
    else
      (hz_gI h l0 4 11).bind fun v3 =>
      (f_X8_has v3 l1 h).bind fun p5 =>
      if p5.1 = 0 then
        f_X4_leader_7  n l0 (l1 + (-1 : Int32)) p5.2
      else
        some (l1, p5.2)
def f_X4_leader (a0 : Option Nat) (h : HP) : Option (Int32 × HP) :=
  (hz_gI h a0 4 1).bind fun v1 =>
  f_X4_leader_7  600 a0 (v1 - (nI 1)) h
abbrev rm_X4_leader : Room := { frames := 1, cells := 0, slots := 0, locals := 21 }
set_option maxRecDepth 100000 in
set_option maxHeartbeats 4000000 in
theorem k_X4_leader_7 {G : GX} {v' : Int32} {h' : HP} (hn : G.2.2.2.2.2.2.2.2.2.2.2.2 = 2) (C : Cx G cX4_leader RX4 "leader" (some .int) rm_X4_leader (some (.int v')) h') : ∀ (n : Nat) (l0 : Option Nat) (l1 : Int32) (h : HP), f_X4_leader_7  n l0 l1 h = some (v', h') → aw G 7 [some (va_rf l0), some (.int l1)] [] h 0 0 := by
  intro n
  induction n with
  | zero => intro l0 l1 h H; cases H
  | succ n ih =>
    intro l0 l1 h H
    rw [f_X4_leader_7] at H
    refine aw_iload_n C dX4_leader_7 rfl ?_
    refine aw_if_le (tgt := 30) C dX4_leader_8 (by decide) (fun c7 => ?_) (fun c7 => ?_)
    · replace H := hz_it c7 H
      refine aw_iconst C dX4_leader_30 (v := (nI 0)) (by decide) ?_
      cases H
      exact aw_iret C (Nat.zero_le _) (Nat.zero_le _) dX4_leader_31
    · replace H := hz_if c7 H
      refine aw_aload_n C dX4_leader_11 rfl ?_
      obtain ⟨v3, e4, H⟩ := hz_bd H
      refine aw_gI (k := 11) C cl_4 (by decide) wd_229 e4 dX4_leader_12 ?_
      refine aw_iload_n C dX4_leader_15 rfl ?_
      obtain ⟨p5, e6, H⟩ := hz_bd H
      refine aw_SN (As := [.int v3, .int l1]) (rest := []) C hy_X8_has wd_309 wn_308 (c_X8_has _ _ _ _ _  e6) (hz_roi _) rfl rfl (Nat.le_of_ble_eq_true rfl) (by decide) (kc := 0) (ks := 0) rfl rfl (by decide) dX4_leader_16 ?_
      refine aw_if_eq (tgt := 24) C dX4_leader_19 (by decide) (fun c8 => ?_) (fun c8 => ?_)
      · replace H := hz_it c8 H
        refine aw_iinc (d := (-1)) C dX4_leader_24 (by rw [hn]; decide) rfl (by decide) rfl ?_
        refine aw_goto (tgt := 7) C dX4_leader_27 (by decide) ?_
        exact ih _ _ _ H
      · replace H := hz_if c8 H
        refine aw_iload_n C dX4_leader_22 rfl ?_
        cases H
        exact aw_iret C (Nat.zero_le _) (Nat.zero_le _) dX4_leader_23
set_option maxRecDepth 100000 in
set_option maxHeartbeats 4000000 in
theorem c_X4_leader {l : Launch} (a0 : Option Nat) (h : HP) (v' : Int32) (h' : HP) (H : f_X4_leader a0 h = some (v', h')) : Ct l yX4_leader cX4_leader 2 (some .int) rm_X4_leader [va_rf a0] (some (.int v')) h h' := by
  refine Ct.of (plainFor_of_name (by decide)) (hz_s1c hz_s1n (hz_cr _)) (Nat.le_of_ble_eq_true rfl) (fun G hl hn C0 => ?_)
  have C : Cx G cX4_leader RX4 "leader" (some .int) rm_X4_leader (some (.int v')) h' := C0
  subst hl
  show aw G 0 [some (va_rf a0), none] [] h 0 0
  unfold f_X4_leader at H
  refine aw_aload_n C dX4_leader_0 rfl ?_
  obtain ⟨v1, e2, H⟩ := hz_bd H
  refine aw_gI (k := 1) C cl_4 (by decide) wd_215 e2 dX4_leader_1 ?_
  refine aw_iconst C dX4_leader_4 (v := (nI 1)) (by decide) ?_
  refine aw_isub C dX4_leader_5 ?_
  refine aw_istore_n C dX4_leader_6 (by rw [hn]; decide) rfl ?_
  exact k_X4_leader_7 hn C  600 _ _ _ H
theorem hy_X4_isBlocked : hz_Y yX4_isBlocked cX4_isBlocked 1 (some .boolean) 0 := ⟨wd_303, wd_62, by decide +kernel, by decide +kernel, by decide +kernel⟩
theorem hv_X4_isBlocked : hz_YV yX4_isBlocked := ⟨wd_302, wd_1⟩
def f_X4_isBlocked_16 (s0 : Int32) (h : HP) : Option (Int32 × HP) :=
  if s0 &&& 1 = s0 then some (s0, h) else none
def f_X4_isBlocked (a0 : Option Nat) (h : HP) : Option (Int32 × HP) :=
  (hz_gI h a0 4 12).bind fun v1 =>
  (hz_gI h a0 4 10).bind fun v3 =>
  if v1 = v3 then
    f_X4_isBlocked_16  (nI 0) h
  else
    f_X4_isBlocked_16  (nI 1) h
abbrev rm_X4_isBlocked : Room := { frames := 0, cells := 0, slots := 0, locals := 0 }
set_option maxRecDepth 100000 in
set_option maxHeartbeats 4000000 in
theorem k_X4_isBlocked_16 {G : GX} {v' : Int32} {h' : HP} (hn : G.2.2.2.2.2.2.2.2.2.2.2.2 = 1) (C : Cx G cX4_isBlocked RX4 "isBlocked" (some .boolean) rm_X4_isBlocked (some (.int v')) h') (s0 : Int32) (h : HP) (H : f_X4_isBlocked_16  s0 h = some (v', h')) : aw G 16 [none] [.int s0] h 0 0 := by
  unfold f_X4_isBlocked_16 at H
  obtain ⟨gz, H⟩ := hz_wn H
  cases H
  exact aw_zret C gz (Nat.zero_le _) (Nat.zero_le _) dX4_isBlocked_16
set_option maxRecDepth 100000 in
set_option maxHeartbeats 4000000 in
theorem c_X4_isBlocked {l : Launch} (a0 : Option Nat) (h : HP) (v' : Int32) (h' : HP) (H : f_X4_isBlocked a0 h = some (v', h')) : Ct l yX4_isBlocked cX4_isBlocked 1 (some .boolean) rm_X4_isBlocked [va_rf a0] (some (.int v')) h h' := by
  refine Ct.of (plainFor_of_name (by decide)) (hz_s1c hz_s1n (hz_cr _)) (Nat.le_of_ble_eq_true rfl) (fun G hl hn C0 => ?_)
  have C : Cx G cX4_isBlocked RX4 "isBlocked" (some .boolean) rm_X4_isBlocked (some (.int v')) h' := C0
  subst hl
  show aw G 0 [some (va_rf a0)] [] h 0 0
  unfold f_X4_isBlocked at H
  refine aw_aload_n C dX4_isBlocked_0 rfl ?_
  obtain ⟨v1, e2, H⟩ := hz_bd H
  refine aw_gI (k := 12) C cl_4 (by decide) wd_230 e2 dX4_isBlocked_1 ?_
  refine aw_aload_n C dX4_isBlocked_4 rfl ?_
  obtain ⟨v3, e4, H⟩ := hz_bd H
  refine aw_gI (k := 10) C cl_4 (by decide) wd_228 e4 dX4_isBlocked_5 ?_
  refine aw_icmp_eq (tgt := 15) C dX4_isBlocked_8 (by decide) (fun c5 => ?_) (fun c5 => ?_)
  · replace H := hz_it c5 H
    refine aw_iconst C dX4_isBlocked_15 (v := (nI 0)) (by decide) ?_
    exact aw_loc (hz_sub_n hz_sub_0) (k_X4_isBlocked_16 hn C  _ _ H)
  · replace H := hz_if c5 H
    refine aw_iconst C dX4_isBlocked_11 (v := (nI 1)) (by decide) ?_
    refine aw_goto (tgt := 16) C dX4_isBlocked_12 (by decide) ?_
    exact aw_loc (hz_sub_n hz_sub_0) (k_X4_isBlocked_16 hn C  _ _ H)
theorem hy_X4_isChanging : hz_Y yX4_isChanging cX4_isChanging 1 (some .boolean) 0 := ⟨wd_595, wd_62, by decide +kernel, by decide +kernel, by decide +kernel⟩
theorem hv_X4_isChanging : hz_YV yX4_isChanging := ⟨wd_594, wd_36⟩
def f_X4_isChanging_21 (s0 : Int32) (h : HP) : Option (Int32 × HP) :=
  if s0 &&& 1 = s0 then some (s0, h) else none
def f_X4_isChanging_16 (h : HP) : Option (Int32 × HP) :=
  f_X4_isChanging_21  (nI 1) h
def f_X4_isChanging (a0 : Option Nat) (h : HP) : Option (Int32 × HP) :=
  (hz_gI h a0 4 9).bind fun v1 =>
  if v1 = (nI 3) then
    f_X4_isChanging_16   h
  else
    (hz_gI h a0 4 9).bind fun v3 =>
    if v3 = (nI 4) then
      f_X4_isChanging_16   h
    else
      f_X4_isChanging_21  (nI 0) h
abbrev rm_X4_isChanging : Room := { frames := 0, cells := 0, slots := 0, locals := 0 }
set_option maxRecDepth 100000 in
set_option maxHeartbeats 4000000 in
theorem k_X4_isChanging_21 {G : GX} {v' : Int32} {h' : HP} (hn : G.2.2.2.2.2.2.2.2.2.2.2.2 = 1) (C : Cx G cX4_isChanging RX4 "isChanging" (some .boolean) rm_X4_isChanging (some (.int v')) h') (s0 : Int32) (h : HP) (H : f_X4_isChanging_21  s0 h = some (v', h')) : aw G 21 [none] [.int s0] h 0 0 := by
  unfold f_X4_isChanging_21 at H
  obtain ⟨gz, H⟩ := hz_wn H
  cases H
  exact aw_zret C gz (Nat.zero_le _) (Nat.zero_le _) dX4_isChanging_21
set_option maxRecDepth 100000 in
set_option maxHeartbeats 4000000 in
theorem k_X4_isChanging_16 {G : GX} {v' : Int32} {h' : HP} (hn : G.2.2.2.2.2.2.2.2.2.2.2.2 = 1) (C : Cx G cX4_isChanging RX4 "isChanging" (some .boolean) rm_X4_isChanging (some (.int v')) h') (h : HP) (H : f_X4_isChanging_16   h = some (v', h')) : aw G 16 [none] [] h 0 0 := by
  unfold f_X4_isChanging_16 at H
  refine aw_iconst C dX4_isChanging_16 (v := (nI 1)) (by decide) ?_
  refine aw_goto (tgt := 21) C dX4_isChanging_17 (by decide) ?_
  exact k_X4_isChanging_21 hn C  _ _ H
set_option maxRecDepth 100000 in
set_option maxHeartbeats 4000000 in
theorem c_X4_isChanging {l : Launch} (a0 : Option Nat) (h : HP) (v' : Int32) (h' : HP) (H : f_X4_isChanging a0 h = some (v', h')) : Ct l yX4_isChanging cX4_isChanging 1 (some .boolean) rm_X4_isChanging [va_rf a0] (some (.int v')) h h' := by
  refine Ct.of (plainFor_of_name (by decide)) (hz_s1c hz_s1n (hz_cr _)) (Nat.le_of_ble_eq_true rfl) (fun G hl hn C0 => ?_)
  have C : Cx G cX4_isChanging RX4 "isChanging" (some .boolean) rm_X4_isChanging (some (.int v')) h' := C0
  subst hl
  show aw G 0 [some (va_rf a0)] [] h 0 0
  unfold f_X4_isChanging at H
  refine aw_aload_n C dX4_isChanging_0 rfl ?_
  obtain ⟨v1, e2, H⟩ := hz_bd H
  refine aw_gI (k := 9) C cl_4 (by decide) wd_226 e2 dX4_isChanging_1 ?_
  refine aw_iconst C dX4_isChanging_4 (v := (nI 3)) (by decide) ?_
  refine aw_icmp_eq (tgt := 16) C dX4_isChanging_5 (by decide) (fun c5 => ?_) (fun c5 => ?_)
  · replace H := hz_it c5 H
    exact aw_loc (hz_sub_n hz_sub_0) (k_X4_isChanging_16 hn C  _ H)
  · replace H := hz_if c5 H
    refine aw_aload_n C dX4_isChanging_8 rfl ?_
    obtain ⟨v3, e4, H⟩ := hz_bd H
    refine aw_gI (k := 9) C cl_4 (by decide) wd_226 e4 dX4_isChanging_9 ?_
    refine aw_iconst C dX4_isChanging_12 (v := (nI 4)) (by decide) ?_
    refine aw_icmp_ne (tgt := 20) C dX4_isChanging_13 (by decide) (fun c6 => ?_) (fun c6 => ?_)
    · replace H := hz_if c6 H
      refine aw_iconst C dX4_isChanging_20 (v := (nI 0)) (by decide) ?_
      exact aw_loc (hz_sub_n hz_sub_0) (k_X4_isChanging_21 hn C  _ _ H)
    · replace H := hz_it c6 H
      exact aw_loc (hz_sub_n hz_sub_0) (k_X4_isChanging_16 hn C  _ H)
theorem hy_X4_tell : hz_Y yX4_tell cX4_tell 2 (some .int) 1 := ⟨wd_615, wd_62, by decide +kernel, by decide +kernel, by decide +kernel⟩
theorem hv_X4_tell : hz_YV yX4_tell := ⟨wd_613, wd_614⟩
def f_X4_tell_129 (s0 : Int32) (h : HP) : Option (Int32 × HP) :=
  some (s0, h)
def f_X4_tell_148 (s0 : Int32) (h : HP) : Option (Int32 × HP) :=
  some (s0, h)
def f_X4_tell (a0 : Option Nat) (a1 : Int32) (h : HP) : Option (Int32 × HP) :=
  if a1 = nI 0 then
    (hz_gI h a0 4 8).bind fun v1 =>
    some (v1, h)
  else
  if a1 = nI 1 then
    (hz_gI h a0 4 9).bind fun v3 =>
    some (v3, h)
  else
  if a1 = nI 2 then
    (hz_gI h a0 4 10).bind fun v5 =>
    some (v5, h)
  else
  if a1 = nI 3 then
    (hz_gI h a0 4 11).bind fun v7 =>
    some (v7, h)
  else
  if a1 = nI 4 then
    if hz_ob h a0 4 = true then
    (f_X4_leader a0 h).bind fun p9 =>
    some (p9.1, p9.2)
    else none
  else
  if a1 = nI 5 then
    (hz_gI h a0 4 12).bind fun v12 =>
    some (v12, h)
  else
  if a1 = nI 6 then
    (hz_gI h a0 4 15).bind fun v14 =>
    some (v14, h)
  else
  if a1 = nI 7 then
    (hz_gR h a0 4 4).bind fun r16 =>
    (hz_gI h r16 6 1).bind fun v18 =>
    some (v18, h)
  else
  if a1 = nI 8 then
    (hz_gI h a0 4 14).bind fun v20 =>
    some (v20, h)
  else
  if a1 = nI 9 then
    (hz_gI h a0 4 13).bind fun v22 =>
    some (v22, h)
  else
  if a1 = nI 10 then
    if hz_ob h a0 4 = true then
    (f_X4_isBlocked a0 h).bind fun p24 =>
    if p24.1 = 0 then
      f_X4_tell_129  (nI 0) p24.2
    else
      f_X4_tell_129  (nI 1) p24.2
    else none
  else
  if a1 = nI 11 then
    if hz_ob h a0 4 = true then
    (f_X4_isChanging a0 h).bind fun p27 =>
    if p27.1 = 0 then
      f_X4_tell_148  (nI 0) p27.2
    else
      (hz_gR p27.2 a0 4 6).bind fun r30 =>
      (hz_gI p27.2 r30 0 0).bind fun v32 =>
      f_X4_tell_148  v32 p27.2
    else none
  else
    some ((-1 : Int32), h)
abbrev rm_X4_tell : Room := { frames := 2, cells := 0, slots := 0, locals := 42 }
set_option maxRecDepth 100000 in
set_option maxHeartbeats 4000000 in
theorem k_X4_tell_129 {G : GX} {v' : Int32} {h' : HP} (hn : G.2.2.2.2.2.2.2.2.2.2.2.2 = 2) (C : Cx G cX4_tell RX4 "tell" (some .int) rm_X4_tell (some (.int v')) h') (s0 : Int32) (h : HP) (H : f_X4_tell_129  s0 h = some (v', h')) : aw G 129 [none, none] [.int s0] h 0 0 := by
  unfold f_X4_tell_129 at H
  cases H
  exact aw_iret C (Nat.zero_le _) (Nat.zero_le _) dX4_tell_129
set_option maxRecDepth 100000 in
set_option maxHeartbeats 4000000 in
theorem k_X4_tell_148 {G : GX} {v' : Int32} {h' : HP} (hn : G.2.2.2.2.2.2.2.2.2.2.2.2 = 2) (C : Cx G cX4_tell RX4 "tell" (some .int) rm_X4_tell (some (.int v')) h') (s0 : Int32) (h : HP) (H : f_X4_tell_148  s0 h = some (v', h')) : aw G 148 [none, none] [.int s0] h 0 0 := by
  unfold f_X4_tell_148 at H
  cases H
  exact aw_iret C (Nat.zero_le _) (Nat.zero_le _) dX4_tell_148
set_option maxRecDepth 100000 in
set_option maxHeartbeats 4000000 in
theorem c_X4_tell {l : Launch} (a0 : Option Nat) (a1 : Int32) (h : HP) (v' : Int32) (h' : HP) (H : f_X4_tell a0 a1 h = some (v', h')) : Ct l yX4_tell cX4_tell 2 (some .int) rm_X4_tell [va_rf a0, .int a1] (some (.int v')) h h' := by
  refine Ct.of (plainFor_of_name (by decide)) (hz_s1c (hz_s1c hz_s1n rfl) (hz_cr _)) (Nat.le_of_ble_eq_true rfl) (fun G hl hn C0 => ?_)
  have C : Cx G cX4_tell RX4 "tell" (some .int) rm_X4_tell (some (.int v')) h' := C0
  subst hl
  show aw G 0 [some (va_rf a0), some (.int a1)] [] h 0 0
  unfold f_X4_tell at H
  refine aw_iload_n C dX4_tell_0 rfl ?_
  by_cases c34 : a1 = nI 0
  · replace H := hz_it c34 H
    refine aw_tabI (a := 0) (off := 63) (tgt := 64) C dX4_tell_1 (by rw [c34]; decide) (by decide) (by decide) rfl (by decide) ?_
    refine aw_aload_n C dX4_tell_64 rfl ?_
    obtain ⟨v1, e2, H⟩ := hz_bd H
    refine aw_gI (k := 8) C cl_4 (by decide) wd_224 e2 dX4_tell_65 ?_
    cases H
    exact aw_iret C (Nat.zero_le _) (Nat.zero_le _) dX4_tell_68
  replace H := hz_if c34 H
  by_cases c35 : a1 = nI 1
  · replace H := hz_it c35 H
    refine aw_tabI (a := 1) (off := 68) (tgt := 69) C dX4_tell_1 (by rw [c35]; decide) (by decide) (by decide) rfl (by decide) ?_
    refine aw_aload_n C dX4_tell_69 rfl ?_
    obtain ⟨v3, e4, H⟩ := hz_bd H
    refine aw_gI (k := 9) C cl_4 (by decide) wd_226 e4 dX4_tell_70 ?_
    cases H
    exact aw_iret C (Nat.zero_le _) (Nat.zero_le _) dX4_tell_73
  replace H := hz_if c35 H
  by_cases c36 : a1 = nI 2
  · replace H := hz_it c36 H
    refine aw_tabI (a := 2) (off := 73) (tgt := 74) C dX4_tell_1 (by rw [c36]; decide) (by decide) (by decide) rfl (by decide) ?_
    refine aw_aload_n C dX4_tell_74 rfl ?_
    obtain ⟨v5, e6, H⟩ := hz_bd H
    refine aw_gI (k := 10) C cl_4 (by decide) wd_228 e6 dX4_tell_75 ?_
    cases H
    exact aw_iret C (Nat.zero_le _) (Nat.zero_le _) dX4_tell_78
  replace H := hz_if c36 H
  by_cases c37 : a1 = nI 3
  · replace H := hz_it c37 H
    refine aw_tabI (a := 3) (off := 78) (tgt := 79) C dX4_tell_1 (by rw [c37]; decide) (by decide) (by decide) rfl (by decide) ?_
    refine aw_aload_n C dX4_tell_79 rfl ?_
    obtain ⟨v7, e8, H⟩ := hz_bd H
    refine aw_gI (k := 11) C cl_4 (by decide) wd_229 e8 dX4_tell_80 ?_
    cases H
    exact aw_iret C (Nat.zero_le _) (Nat.zero_le _) dX4_tell_83
  replace H := hz_if c37 H
  by_cases c38 : a1 = nI 4
  · replace H := hz_it c38 H
    refine aw_tabI (a := 4) (off := 83) (tgt := 84) C dX4_tell_1 (by rw [c38]; decide) (by decide) (by decide) rfl (by decide) ?_
    refine aw_aload_n C dX4_tell_84 rfl ?_
    obtain ⟨g11, H⟩ := hz_wn H
    obtain ⟨p9, e10, H⟩ := hz_bd H
    refine aw_V (As := []) (rest := []) C hy_X4_leader hv_X4_leader wd_304 cl_4.1 g11 (c_X4_leader _ _ _ _  e10) (hz_roi _) rfl rfl (Nat.le_of_ble_eq_true rfl) (by decide) (kc := 0) (ks := 0) rfl rfl (by decide) dX4_tell_85 ?_
    cases H
    exact aw_iret C (Nat.zero_le _) (Nat.zero_le _) dX4_tell_88
  replace H := hz_if c38 H
  by_cases c39 : a1 = nI 5
  · replace H := hz_it c39 H
    refine aw_tabI (a := 5) (off := 88) (tgt := 89) C dX4_tell_1 (by rw [c39]; decide) (by decide) (by decide) rfl (by decide) ?_
    refine aw_aload_n C dX4_tell_89 rfl ?_
    obtain ⟨v12, e13, H⟩ := hz_bd H
    refine aw_gI (k := 12) C cl_4 (by decide) wd_230 e13 dX4_tell_90 ?_
    cases H
    exact aw_iret C (Nat.zero_le _) (Nat.zero_le _) dX4_tell_93
  replace H := hz_if c39 H
  by_cases c40 : a1 = nI 6
  · replace H := hz_it c40 H
    refine aw_tabI (a := 6) (off := 93) (tgt := 94) C dX4_tell_1 (by rw [c40]; decide) (by decide) (by decide) rfl (by decide) ?_
    refine aw_aload_n C dX4_tell_94 rfl ?_
    obtain ⟨v14, e15, H⟩ := hz_bd H
    refine aw_gI (k := 15) C cl_4 (by decide) wd_233 e15 dX4_tell_95 ?_
    cases H
    exact aw_iret C (Nat.zero_le _) (Nat.zero_le _) dX4_tell_98
  replace H := hz_if c40 H
  by_cases c41 : a1 = nI 7
  · replace H := hz_it c41 H
    refine aw_tabI (a := 7) (off := 98) (tgt := 99) C dX4_tell_1 (by rw [c41]; decide) (by decide) (by decide) rfl (by decide) ?_
    refine aw_aload_n C dX4_tell_99 rfl ?_
    obtain ⟨r16, e17, H⟩ := hz_bd H
    refine aw_gR (k := 4) C cl_4 (by decide) wd_218 e17 dX4_tell_100 ?_
    obtain ⟨v18, e19, H⟩ := hz_bd H
    refine aw_gI (k := 1) C cl_6 (by decide) wd_165 e19 dX4_tell_103 ?_
    cases H
    exact aw_iret C (Nat.zero_le _) (Nat.zero_le _) dX4_tell_106
  replace H := hz_if c41 H
  by_cases c42 : a1 = nI 8
  · replace H := hz_it c42 H
    refine aw_tabI (a := 8) (off := 106) (tgt := 107) C dX4_tell_1 (by rw [c42]; decide) (by decide) (by decide) rfl (by decide) ?_
    refine aw_aload_n C dX4_tell_107 rfl ?_
    obtain ⟨v20, e21, H⟩ := hz_bd H
    refine aw_gI (k := 14) C cl_4 (by decide) wd_232 e21 dX4_tell_108 ?_
    cases H
    exact aw_iret C (Nat.zero_le _) (Nat.zero_le _) dX4_tell_111
  replace H := hz_if c42 H
  by_cases c43 : a1 = nI 9
  · replace H := hz_it c43 H
    refine aw_tabI (a := 9) (off := 111) (tgt := 112) C dX4_tell_1 (by rw [c43]; decide) (by decide) (by decide) rfl (by decide) ?_
    refine aw_aload_n C dX4_tell_112 rfl ?_
    obtain ⟨v22, e23, H⟩ := hz_bd H
    refine aw_gI (k := 13) C cl_4 (by decide) wd_231 e23 dX4_tell_113 ?_
    cases H
    exact aw_iret C (Nat.zero_le _) (Nat.zero_le _) dX4_tell_116
  replace H := hz_if c43 H
  by_cases c44 : a1 = nI 10
  · replace H := hz_it c44 H
    refine aw_tabI (a := 10) (off := 116) (tgt := 117) C dX4_tell_1 (by rw [c44]; decide) (by decide) (by decide) rfl (by decide) ?_
    refine aw_aload_n C dX4_tell_117 rfl ?_
    obtain ⟨g26, H⟩ := hz_wn H
    obtain ⟨p24, e25, H⟩ := hz_bd H
    refine aw_V (As := []) (rest := []) C hy_X4_isBlocked hv_X4_isBlocked wd_300 cl_4.1 g26 (c_X4_isBlocked _ _ _ _  e25) (hz_roi _) rfl rfl (Nat.le_of_ble_eq_true rfl) (by decide) (kc := 0) (ks := 0) rfl rfl (by decide) dX4_tell_118 ?_
    refine aw_if_eq (tgt := 128) C dX4_tell_121 (by decide) (fun c45 => ?_) (fun c45 => ?_)
    · replace H := hz_it c45 H
      refine aw_iconst C dX4_tell_128 (v := (nI 0)) (by decide) ?_
      exact aw_loc (hz_sub_n (hz_sub_n hz_sub_0)) (k_X4_tell_129 hn C  _ _ H)
    · replace H := hz_if c45 H
      refine aw_iconst C dX4_tell_124 (v := (nI 1)) (by decide) ?_
      refine aw_goto (tgt := 129) C dX4_tell_125 (by decide) ?_
      exact aw_loc (hz_sub_n (hz_sub_n hz_sub_0)) (k_X4_tell_129 hn C  _ _ H)
  replace H := hz_if c44 H
  by_cases c46 : a1 = nI 11
  · replace H := hz_it c46 H
    refine aw_tabI (a := 11) (off := 129) (tgt := 130) C dX4_tell_1 (by rw [c46]; decide) (by decide) (by decide) rfl (by decide) ?_
    refine aw_aload_n C dX4_tell_130 rfl ?_
    obtain ⟨g29, H⟩ := hz_wn H
    obtain ⟨p27, e28, H⟩ := hz_bd H
    refine aw_V (As := []) (rest := []) C hy_X4_isChanging hv_X4_isChanging wd_592 cl_4.1 g29 (c_X4_isChanging _ _ _ _  e28) (hz_roi _) rfl rfl (Nat.le_of_ble_eq_true rfl) (by decide) (kc := 0) (ks := 0) rfl rfl (by decide) dX4_tell_131 ?_
    refine aw_if_eq (tgt := 147) C dX4_tell_134 (by decide) (fun c47 => ?_) (fun c47 => ?_)
    · replace H := hz_it c47 H
      refine aw_iconst C dX4_tell_147 (v := (nI 0)) (by decide) ?_
      exact aw_loc (hz_sub_n (hz_sub_n hz_sub_0)) (k_X4_tell_148 hn C  _ _ H)
    · replace H := hz_if c47 H
      refine aw_aload_n C dX4_tell_137 rfl ?_
      obtain ⟨r30, e31, H⟩ := hz_bd H
      refine aw_gR (k := 6) C cl_4 (by decide) wd_222 e31 dX4_tell_138 ?_
      obtain ⟨v32, e33, H⟩ := hz_bd H
      refine aw_gI (k := 0) C cl_0 (by decide) wd_196 e33 dX4_tell_141 ?_
      refine aw_goto (tgt := 148) C dX4_tell_144 (by decide) ?_
      exact aw_loc (hz_sub_n (hz_sub_n hz_sub_0)) (k_X4_tell_148 hn C  _ _ H)
  replace H := hz_if c46 H
  refine aw_tabO (tgt := 149) C dX4_tell_1 (by have z0 := lv_neT (a := 0) c34 rfl; have z1 := lv_neT (a := 1) c35 rfl; have z2 := lv_neT (a := 2) c36 rfl; have z3 := lv_neT (a := 3) c37 rfl; have z4 := lv_neT (a := 4) c38 rfl; have z5 := lv_neT (a := 5) c39 rfl; have z6 := lv_neT (a := 6) c40 rfl; have z7 := lv_neT (a := 7) c41 rfl; have z8 := lv_neT (a := 8) c42 rfl; have z9 := lv_neT (a := 9) c43 rfl; have z10 := lv_neT (a := 10) c44 rfl; have z11 := lv_neT (a := 11) c46 rfl; omega) (by decide) ?_
  refine aw_iconst C dX4_tell_149 (v := (-1)) (by decide) ?_
  cases H
  exact aw_iret C (Nat.zero_le _) (Nat.zero_le _) dX4_tell_150
theorem hy_X4_isLive : hz_Y yX4_isLive cX4_isLive 1 (some .boolean) 0 := ⟨wd_295, wd_62, by decide +kernel, by decide +kernel, by decide +kernel⟩
theorem hv_X4_isLive : hz_YV yX4_isLive := ⟨wd_293, wd_294⟩
def f_X4_isLive_12 (s0 : Int32) (h : HP) : Option (Int32 × HP) :=
  if s0 &&& 1 = s0 then some (s0, h) else none
def f_X4_isLive (a0 : Option Nat) (h : HP) : Option (Int32 × HP) :=
  (hz_gI h a0 4 8).bind fun v1 =>
  if v1 = 0 then
    f_X4_isLive_12  (nI 1) h
  else
    f_X4_isLive_12  (nI 0) h
abbrev rm_X4_isLive : Room := { frames := 0, cells := 0, slots := 0, locals := 0 }
set_option maxRecDepth 100000 in
set_option maxHeartbeats 4000000 in
theorem k_X4_isLive_12 {G : GX} {v' : Int32} {h' : HP} (hn : G.2.2.2.2.2.2.2.2.2.2.2.2 = 1) (C : Cx G cX4_isLive RX4 "isLive" (some .boolean) rm_X4_isLive (some (.int v')) h') (s0 : Int32) (h : HP) (H : f_X4_isLive_12  s0 h = some (v', h')) : aw G 12 [none] [.int s0] h 0 0 := by
  unfold f_X4_isLive_12 at H
  obtain ⟨gz, H⟩ := hz_wn H
  cases H
  exact aw_zret C gz (Nat.zero_le _) (Nat.zero_le _) dX4_isLive_12
set_option maxRecDepth 100000 in
set_option maxHeartbeats 4000000 in
theorem c_X4_isLive {l : Launch} (a0 : Option Nat) (h : HP) (v' : Int32) (h' : HP) (H : f_X4_isLive a0 h = some (v', h')) : Ct l yX4_isLive cX4_isLive 1 (some .boolean) rm_X4_isLive [va_rf a0] (some (.int v')) h h' := by
  refine Ct.of (plainFor_of_name (by decide)) (hz_s1c hz_s1n (hz_cr _)) (Nat.le_of_ble_eq_true rfl) (fun G hl hn C0 => ?_)
  have C : Cx G cX4_isLive RX4 "isLive" (some .boolean) rm_X4_isLive (some (.int v')) h' := C0
  subst hl
  show aw G 0 [some (va_rf a0)] [] h 0 0
  unfold f_X4_isLive at H
  refine aw_aload_n C dX4_isLive_0 rfl ?_
  obtain ⟨v1, e2, H⟩ := hz_bd H
  refine aw_gI (k := 8) C cl_4 (by decide) wd_224 e2 dX4_isLive_1 ?_
  refine aw_if_ne (tgt := 11) C dX4_isLive_4 (by decide) (fun c3 => ?_) (fun c3 => ?_)
  · replace H := hz_if c3 H
    refine aw_iconst C dX4_isLive_11 (v := (nI 0)) (by decide) ?_
    exact aw_loc (hz_sub_n hz_sub_0) (k_X4_isLive_12 hn C  _ _ H)
  · replace H := hz_it c3 H
    refine aw_iconst C dX4_isLive_7 (v := (nI 1)) (by decide) ?_
    refine aw_goto (tgt := 12) C dX4_isLive_8 (by decide) ?_
    exact aw_loc (hz_sub_n hz_sub_0) (k_X4_isLive_12 hn C  _ _ H)
theorem hy_X4_leadsUnblocked : hz_Y yX4_leadsUnblocked cX4_leadsUnblocked 1 (some .boolean) 0 := ⟨wd_456, wd_62, by decide +kernel, by decide +kernel, by decide +kernel⟩
theorem hv_X4_leadsUnblocked : hz_YV yX4_leadsUnblocked := ⟨wd_455, wd_17⟩
def f_X4_leadsUnblocked_23 (s0 : Int32) (h : HP) : Option (Int32 × HP) :=
  if s0 &&& 1 = s0 then some (s0, h) else none
def f_X4_leadsUnblocked_22 (h : HP) : Option (Int32 × HP) :=
  f_X4_leadsUnblocked_23  (nI 0) h
def f_X4_leadsUnblocked (a0 : Option Nat) (h : HP) : Option (Int32 × HP) :=
  if hz_ob h a0 4 = true then
  (f_X4_leader a0 h).bind fun p1 =>
  (hz_gI p1.2 a0 4 0).bind fun v4 =>
  if p1.1 = v4 then
    if hz_ob p1.2 a0 4 = true then
    (f_X4_isBlocked a0 p1.2).bind fun p6 =>
    if p6.1 = 0 then
      f_X4_leadsUnblocked_23  (nI 1) p6.2
    else
      f_X4_leadsUnblocked_22   p6.2
    else none
  else
    f_X4_leadsUnblocked_22   p1.2
  else none
abbrev rm_X4_leadsUnblocked : Room := { frames := 2, cells := 0, slots := 0, locals := 42 }
set_option maxRecDepth 100000 in
set_option maxHeartbeats 4000000 in
theorem k_X4_leadsUnblocked_23 {G : GX} {v' : Int32} {h' : HP} (hn : G.2.2.2.2.2.2.2.2.2.2.2.2 = 1) (C : Cx G cX4_leadsUnblocked RX4 "leadsUnblocked" (some .boolean) rm_X4_leadsUnblocked (some (.int v')) h') (s0 : Int32) (h : HP) (H : f_X4_leadsUnblocked_23  s0 h = some (v', h')) : aw G 23 [none] [.int s0] h 0 0 := by
  unfold f_X4_leadsUnblocked_23 at H
  obtain ⟨gz, H⟩ := hz_wn H
  cases H
  exact aw_zret C gz (Nat.zero_le _) (Nat.zero_le _) dX4_leadsUnblocked_23
set_option maxRecDepth 100000 in
set_option maxHeartbeats 4000000 in
theorem k_X4_leadsUnblocked_22 {G : GX} {v' : Int32} {h' : HP} (hn : G.2.2.2.2.2.2.2.2.2.2.2.2 = 1) (C : Cx G cX4_leadsUnblocked RX4 "leadsUnblocked" (some .boolean) rm_X4_leadsUnblocked (some (.int v')) h') (h : HP) (H : f_X4_leadsUnblocked_22   h = some (v', h')) : aw G 22 [none] [] h 0 0 := by
  unfold f_X4_leadsUnblocked_22 at H
  refine aw_iconst C dX4_leadsUnblocked_22 (v := (nI 0)) (by decide) ?_
  exact k_X4_leadsUnblocked_23 hn C  _ _ H
set_option maxRecDepth 100000 in
set_option maxHeartbeats 4000000 in
theorem c_X4_leadsUnblocked {l : Launch} (a0 : Option Nat) (h : HP) (v' : Int32) (h' : HP) (H : f_X4_leadsUnblocked a0 h = some (v', h')) : Ct l yX4_leadsUnblocked cX4_leadsUnblocked 1 (some .boolean) rm_X4_leadsUnblocked [va_rf a0] (some (.int v')) h h' := by
  refine Ct.of (plainFor_of_name (by decide)) (hz_s1c hz_s1n (hz_cr _)) (Nat.le_of_ble_eq_true rfl) (fun G hl hn C0 => ?_)
  have C : Cx G cX4_leadsUnblocked RX4 "leadsUnblocked" (some .boolean) rm_X4_leadsUnblocked (some (.int v')) h' := C0
  subst hl
  show aw G 0 [some (va_rf a0)] [] h 0 0
  unfold f_X4_leadsUnblocked at H
  refine aw_aload_n C dX4_leadsUnblocked_0 rfl ?_
  obtain ⟨g3, H⟩ := hz_wn H
  obtain ⟨p1, e2, H⟩ := hz_bd H
  refine aw_V (As := []) (rest := []) C hy_X4_leader hv_X4_leader wd_304 cl_4.1 g3 (c_X4_leader _ _ _ _  e2) (hz_roi _) rfl rfl (Nat.le_of_ble_eq_true rfl) (by decide) (kc := 0) (ks := 0) rfl rfl (by decide) dX4_leadsUnblocked_1 ?_
  refine aw_aload_n C dX4_leadsUnblocked_4 rfl ?_
  obtain ⟨v4, e5, H⟩ := hz_bd H
  refine aw_gI (k := 0) C cl_4 (by decide) wd_214 e5 dX4_leadsUnblocked_5 ?_
  refine aw_icmp_ne (tgt := 22) C dX4_leadsUnblocked_8 (by decide) (fun c9 => ?_) (fun c9 => ?_)
  · replace H := hz_if c9 H
    exact aw_loc (hz_sub_n hz_sub_0) (k_X4_leadsUnblocked_22 hn C  _ H)
  · replace H := hz_it c9 H
    refine aw_aload_n C dX4_leadsUnblocked_11 rfl ?_
    obtain ⟨g8, H⟩ := hz_wn H
    obtain ⟨p6, e7, H⟩ := hz_bd H
    refine aw_V (As := []) (rest := []) C hy_X4_isBlocked hv_X4_isBlocked wd_300 cl_4.1 g8 (c_X4_isBlocked _ _ _ _  e7) (hz_roi _) rfl rfl (Nat.le_of_ble_eq_true rfl) (by decide) (kc := 0) (ks := 0) rfl rfl (by decide) dX4_leadsUnblocked_12 ?_
    refine aw_if_ne (tgt := 22) C dX4_leadsUnblocked_15 (by decide) (fun c10 => ?_) (fun c10 => ?_)
    · replace H := hz_if c10 H
      exact aw_loc (hz_sub_n hz_sub_0) (k_X4_leadsUnblocked_22 hn C  _ H)
    · replace H := hz_it c10 H
      refine aw_iconst C dX4_leadsUnblocked_18 (v := (nI 1)) (by decide) ?_
      refine aw_goto (tgt := 23) C dX4_leadsUnblocked_19 (by decide) ?_
      exact aw_loc (hz_sub_n hz_sub_0) (k_X4_leadsUnblocked_23 hn C  _ _ H)
theorem hy_X4_areMost : hz_Y yX4_areMost cX4_areMost 2 (some .boolean) 1 := ⟨wd_386, wd_62, by decide +kernel, by decide +kernel, by decide +kernel⟩
theorem hv_X4_areMost : hz_YV yX4_areMost := ⟨wd_385, wd_8⟩
def f_X4_areMost_18 (s0 : Int32) (h : HP) : Option (Int32 × HP) :=
  if s0 &&& 1 = s0 then some (s0, h) else none
def f_X4_areMost (a0 : Option Nat) (a1 : Int32) (h : HP) : Option (Int32 × HP) :=
  (f_J6_bitCount_0f7a4 a1 h).bind fun p1 =>
  (hz_gI p1.2 a0 4 1).bind fun v3 =>
  if (p1.1 * (nI 2)) ≤ v3 then
    f_X4_areMost_18  (nI 0) p1.2
  else
    f_X4_areMost_18  (nI 1) p1.2
abbrev rm_X4_areMost : Room := { frames := 1, cells := 0, slots := 0, locals := 20 }
set_option maxRecDepth 100000 in
set_option maxHeartbeats 4000000 in
theorem k_X4_areMost_18 {G : GX} {v' : Int32} {h' : HP} (hn : G.2.2.2.2.2.2.2.2.2.2.2.2 = 2) (C : Cx G cX4_areMost RX4 "areMost" (some .boolean) rm_X4_areMost (some (.int v')) h') (s0 : Int32) (h : HP) (H : f_X4_areMost_18  s0 h = some (v', h')) : aw G 18 [none, none] [.int s0] h 0 0 := by
  unfold f_X4_areMost_18 at H
  obtain ⟨gz, H⟩ := hz_wn H
  cases H
  exact aw_zret C gz (Nat.zero_le _) (Nat.zero_le _) dX4_areMost_18
set_option maxRecDepth 100000 in
set_option maxHeartbeats 4000000 in
theorem c_X4_areMost {l : Launch} (a0 : Option Nat) (a1 : Int32) (h : HP) (v' : Int32) (h' : HP) (H : f_X4_areMost a0 a1 h = some (v', h')) : Ct l yX4_areMost cX4_areMost 2 (some .boolean) rm_X4_areMost [va_rf a0, .int a1] (some (.int v')) h h' := by
  refine Ct.of (plainFor_of_name (by decide)) (hz_s1c (hz_s1c hz_s1n rfl) (hz_cr _)) (Nat.le_of_ble_eq_true rfl) (fun G hl hn C0 => ?_)
  have C : Cx G cX4_areMost RX4 "areMost" (some .boolean) rm_X4_areMost (some (.int v')) h' := C0
  subst hl
  show aw G 0 [some (va_rf a0), some (.int a1)] [] h 0 0
  unfold f_X4_areMost at H
  refine aw_iload_n C dX4_areMost_0 rfl ?_
  obtain ⟨p1, e2, H⟩ := hz_bd H
  refine aw_S (As := [.int a1]) (rest := []) C hy_J6_bitCount_0f7a4 wd_388 wd_387 (c_J6_bitCount_0f7a4 _ _ _ _  e2) (hz_roi _) rfl rfl (Nat.le_of_ble_eq_true rfl) (by decide) (kc := 0) (ks := 0) rfl rfl (by decide) dX4_areMost_1 ?_
  refine aw_iconst C dX4_areMost_4 (v := (nI 2)) (by decide) ?_
  refine aw_imul C dX4_areMost_5 ?_
  refine aw_aload_n C dX4_areMost_6 rfl ?_
  obtain ⟨v3, e4, H⟩ := hz_bd H
  refine aw_gI (k := 1) C cl_4 (by decide) wd_215 e4 dX4_areMost_7 ?_
  refine aw_icmp_le (tgt := 17) C dX4_areMost_10 (by decide) (fun c5 => ?_) (fun c5 => ?_)
  · replace H := hz_it c5 H
    refine aw_iconst C dX4_areMost_17 (v := (nI 0)) (by decide) ?_
    exact aw_loc (hz_sub_n (hz_sub_n hz_sub_0)) (k_X4_areMost_18 hn C  _ _ H)
  · replace H := hz_if c5 H
    refine aw_iconst C dX4_areMost_13 (v := (nI 1)) (by decide) ?_
    refine aw_goto (tgt := 18) C dX4_areMost_14 (by decide) ?_
    exact aw_loc (hz_sub_n (hz_sub_n hz_sub_0)) (k_X4_areMost_18 hn C  _ _ H)
theorem hy_X4_others : hz_Y yX4_others cX4_others 1 (some .int) 0 := ⟨wd_367, wd_62, by decide +kernel, by decide +kernel, by decide +kernel⟩
theorem hv_X4_others : hz_YV yX4_others := ⟨wd_366, wd_4⟩
def f_X4_others (a0 : Option Nat) (h : HP) : Option (Int32 × HP) :=
  (hz_gI h a0 4 11).bind fun v1 =>
  (hz_gI h a0 4 0).bind fun v3 =>
  (f_X8_without v1 v3 h).bind fun p5 =>
  some (p5.1, p5.2)
abbrev rm_X4_others : Room := { frames := 1, cells := 0, slots := 0, locals := 21 }
set_option maxRecDepth 100000 in
set_option maxHeartbeats 4000000 in
theorem c_X4_others {l : Launch} (a0 : Option Nat) (h : HP) (v' : Int32) (h' : HP) (H : f_X4_others a0 h = some (v', h')) : Ct l yX4_others cX4_others 1 (some .int) rm_X4_others [va_rf a0] (some (.int v')) h h' := by
  refine Ct.of (plainFor_of_name (by decide)) (hz_s1c hz_s1n (hz_cr _)) (Nat.le_of_ble_eq_true rfl) (fun G hl hn C0 => ?_)
  have C : Cx G cX4_others RX4 "others" (some .int) rm_X4_others (some (.int v')) h' := C0
  subst hl
  show aw G 0 [some (va_rf a0)] [] h 0 0
  unfold f_X4_others at H
  refine aw_aload_n C dX4_others_0 rfl ?_
  obtain ⟨v1, e2, H⟩ := hz_bd H
  refine aw_gI (k := 11) C cl_4 (by decide) wd_229 e2 dX4_others_1 ?_
  refine aw_aload_n C dX4_others_4 rfl ?_
  obtain ⟨v3, e4, H⟩ := hz_bd H
  refine aw_gI (k := 0) C cl_4 (by decide) wd_214 e4 dX4_others_5 ?_
  obtain ⟨p5, e6, H⟩ := hz_bd H
  refine aw_SN (As := [.int v1, .int v3]) (rest := []) C hy_X8_without wd_369 wn_368 (c_X8_without _ _ _ _ _  e6) (hz_roi _) rfl rfl (Nat.le_of_ble_eq_true rfl) (by decide) (kc := 0) (ks := 0) rfl rfl (by decide) dX4_others_8 ?_
  cases H
  exact aw_iret C (Nat.zero_le _) (Nat.zero_le _) dX4_others_11
theorem hy_X4_reply : hz_Y yX4_reply cX4_reply 5 none 4 := ⟨wd_468, wd_62, by decide +kernel, by decide +kernel, by decide +kernel⟩
theorem hv_X4_reply : hz_YV yX4_reply := ⟨wd_467, wd_19⟩
def f_X4_reply (a0 : Option Nat) (a1 : Int32) (a2 : Int32) (a3 : Int32) (a4 : Int32) (h : HP) : Option HP :=
  (hz_gR h a0 4 2).bind fun r1 =>
  (hz_gI h a0 4 0).bind fun v3 =>
  if hz_ob h r1 5 = true then
  (f_X5_send r1 v3 ((nI 1) <<< (a1 &&& 31)) a2 a3 a4 (some 0) h).bind fun p5 =>
  some p5
  else none
abbrev rm_X4_reply : Room := { frames := 3, cells := 8, slots := 40, locals := 92 }
set_option maxRecDepth 100000 in
set_option maxHeartbeats 4000000 in
theorem c_X4_reply {l : Launch} (a0 : Option Nat) (a1 : Int32) (a2 : Int32) (a3 : Int32) (a4 : Int32) (h : HP) (h' : HP) (H : f_X4_reply a0 a1 a2 a3 a4 h = some h') : Ct l yX4_reply cX4_reply 5 none rm_X4_reply [va_rf a0, .int a1, .int a2, .int a3, .int a4] none h h' := by
  refine Ct.of (plainFor_of_name (by decide)) (hz_s1c (hz_s1c (hz_s1c (hz_s1c (hz_s1c hz_s1n rfl) rfl) rfl) rfl) (hz_cr _)) (Nat.le_of_ble_eq_true rfl) (fun G hl hn C0 => ?_)
  have C : Cx G cX4_reply RX4 "reply" none rm_X4_reply none h' := C0
  subst hl
  show aw G 0 [some (va_rf a0), some (.int a1), some (.int a2), some (.int a3), some (.int a4)] [] h 0 0
  unfold f_X4_reply at H
  obtain ⟨cs, hcs⟩ : ∃ k : Nat, k = 0 := ⟨0, rfl⟩
  obtain ⟨sl, hsl⟩ : ∃ k : Nat, k = 0 := ⟨0, rfl⟩
  suffices hh : aw G 0 [some (va_rf a0), some (.int a1), some (.int a2), some (.int a3), some (.int a4)] [] h cs sl by rw [hcs, hsl] at hh; exact hh
  refine aw_aload_n C dX4_reply_0 rfl ?_
  obtain ⟨r1, e2, H⟩ := hz_bd H
  refine aw_gR (k := 2) C cl_4 (by decide) wd_216 e2 dX4_reply_1 ?_
  refine aw_aload_n C dX4_reply_4 rfl ?_
  obtain ⟨v3, e4, H⟩ := hz_bd H
  refine aw_gI (k := 0) C cl_4 (by decide) wd_214 e4 dX4_reply_5 ?_
  refine aw_iconst C dX4_reply_8 (v := (nI 1)) (by decide) ?_
  refine aw_iload_n C dX4_reply_9 rfl ?_
  refine aw_ishl C dX4_reply_10 ?_
  refine aw_iload_n C dX4_reply_11 rfl ?_
  refine aw_iload_n C dX4_reply_12 rfl ?_
  refine aw_iload C dX4_reply_13 rfl ?_
  refine aw_gets C wn_431 dX4_reply_15 ?_
  obtain ⟨g7, H⟩ := hz_wn H
  obtain ⟨p5, e6, H⟩ := hz_bd H
  refine aw_V (As := [.int v3, .int ((nI 1) <<< (a1 &&& 31)), .int a2, .int a3, .int a4, va_rf (some 0)]) (rest := []) C hy_X5_send hv_X5_send wd_311 cl_5.1 g7 (c_X5_send _ _ _ _ _ _ _ _ _  e6) hz_ron rfl rfl (Nat.le_of_ble_eq_true rfl) (by decide) (kc := 8) (ks := 40) rfl rfl ⟨(by show cs + 8 ≤ 8; omega), (by show sl + 40 ≤ 40; omega)⟩ dX4_reply_18 ?_
  cases H
  exact aw_vret C (by show cs + 8 ≤ 8; omega) (by show sl + 40 ≤ 40; omega) dX4_reply_21
theorem hy_X4_putInOrder : hz_Y yX4_putInOrder cX4_putInOrder 3 none 1 := ⟨wd_358, wd_62, by decide +kernel, by decide +kernel, by decide +kernel⟩
theorem hv_X4_putInOrder : hz_YV yX4_putInOrder := ⟨wd_357, wd_3⟩
def f_X4_putInOrder (a0 : Option Nat) (a1 : Int32) (h : HP) : Option HP :=
  (hz_gR h a0 4 4).bind fun r1 =>
  (hz_gI h r1 6 1).bind fun v3 =>
  (hz_gR h a0 4 4).bind fun r5 =>
  if hz_ob h r5 6 = true then
  (f_X6_add r5 a1 h).bind fun p7 =>
  (hz_gR p7 a0 4 2).bind fun r10 =>
  (hz_gI p7 a0 4 0).bind fun v12 =>
  if hz_ob p7 a0 4 = true then
  (f_X4_others a0 p7).bind fun p14 =>
  (hz_gI p14.2 a0 4 10).bind fun v17 =>
  (hz_nA p14.2 0 1 (nI 1)).bind fun h19 =>
  (hz_aS h19 (some (p14.2.1 + 1)) 0 (nI 0) a1).bind fun h21 =>
  if hz_ob h21 r10 5 = true then
  (f_X5_send r10 v12 p14.1 (nI 2) v17 v3 (some (p14.2.1 + 1)) h21).bind fun p23 =>
  some p23
  else none
  else none
  else none
abbrev rm_X4_putInOrder : Room := { frames := 3, cells := 9, slots := 41, locals := 92 }
set_option maxRecDepth 100000 in
set_option maxHeartbeats 4000000 in
theorem c_X4_putInOrder {l : Launch} (a0 : Option Nat) (a1 : Int32) (h : HP) (h' : HP) (H : f_X4_putInOrder a0 a1 h = some h') : Ct l yX4_putInOrder cX4_putInOrder 3 none rm_X4_putInOrder [va_rf a0, .int a1] none h h' := by
  refine Ct.of (plainFor_of_name (by decide)) (hz_s1c (hz_s1c hz_s1n rfl) (hz_cr _)) (Nat.le_of_ble_eq_true rfl) (fun G hl hn C0 => ?_)
  have C : Cx G cX4_putInOrder RX4 "putInOrder" none rm_X4_putInOrder none h' := C0
  subst hl
  show aw G 0 [some (va_rf a0), some (.int a1), none] [] h 0 0
  unfold f_X4_putInOrder at H
  obtain ⟨cs, hcs⟩ : ∃ k : Nat, k = 0 := ⟨0, rfl⟩
  obtain ⟨sl, hsl⟩ : ∃ k : Nat, k = 0 := ⟨0, rfl⟩
  suffices hh : aw G 0 [some (va_rf a0), some (.int a1), none] [] h cs sl by rw [hcs, hsl] at hh; exact hh
  refine aw_aload_n C dX4_putInOrder_0 rfl ?_
  obtain ⟨r1, e2, H⟩ := hz_bd H
  refine aw_gR (k := 4) C cl_4 (by decide) wd_218 e2 dX4_putInOrder_1 ?_
  obtain ⟨v3, e4, H⟩ := hz_bd H
  refine aw_gI (k := 1) C cl_6 (by decide) wd_165 e4 dX4_putInOrder_4 ?_
  refine aw_istore_n C dX4_putInOrder_7 (by rw [hn]; decide) rfl ?_
  refine aw_aload_n C dX4_putInOrder_8 rfl ?_
  obtain ⟨r5, e6, H⟩ := hz_bd H
  refine aw_gR (k := 4) C cl_4 (by decide) wd_218 e6 dX4_putInOrder_9 ?_
  refine aw_iload_n C dX4_putInOrder_12 rfl ?_
  obtain ⟨g9, H⟩ := hz_wn H
  obtain ⟨p7, e8, H⟩ := hz_bd H
  refine aw_V (As := [.int a1]) (rest := []) C hy_X6_add hv_X6_add wd_359 cl_6.1 g9 (c_X6_add _ _ _ _  e8) hz_ron rfl rfl (Nat.le_of_ble_eq_true rfl) (by decide) (kc := 0) (ks := 0) rfl rfl ⟨(by show cs + 0 ≤ 9; omega), (by show sl + 0 ≤ 41; omega)⟩ dX4_putInOrder_13 ?_
  refine aw_aload_n C dX4_putInOrder_16 rfl ?_
  obtain ⟨r10, e11, H⟩ := hz_bd H
  refine aw_gR (k := 2) C cl_4 (by decide) wd_216 e11 dX4_putInOrder_17 ?_
  refine aw_aload_n C dX4_putInOrder_20 rfl ?_
  obtain ⟨v12, e13, H⟩ := hz_bd H
  refine aw_gI (k := 0) C cl_4 (by decide) wd_214 e13 dX4_putInOrder_21 ?_
  refine aw_aload_n C dX4_putInOrder_24 rfl ?_
  obtain ⟨g16, H⟩ := hz_wn H
  obtain ⟨p14, e15, H⟩ := hz_bd H
  refine aw_V (As := []) (rest := [.int v12, va_rf r10]) C hy_X4_others hv_X4_others wd_364 cl_4.1 g16 (c_X4_others _ _ _ _  e15) (hz_roi _) rfl rfl (Nat.le_of_ble_eq_true rfl) (by decide) (kc := 0) (ks := 0) rfl rfl ⟨(by show cs + 0 + 0 ≤ 9; omega), (by show sl + 0 + 0 ≤ 41; omega)⟩ dX4_putInOrder_25 ?_
  refine aw_iconst C dX4_putInOrder_28 (v := (nI 2)) (by decide) ?_
  refine aw_aload_n C dX4_putInOrder_29 rfl ?_
  obtain ⟨v17, e18, H⟩ := hz_bd H
  refine aw_gI (k := 10) C cl_4 (by decide) wd_228 e18 dX4_putInOrder_30 ?_
  refine aw_iload_n C dX4_putInOrder_33 rfl ?_
  refine aw_iconst C dX4_putInOrder_34 (v := (nI 1)) (by decide) ?_
  obtain ⟨h19, e20, H⟩ := hz_bd H
  refine aw_newa (t := 0) (cap := 1) C (by decide) rfl wd_172 e20 (by decide) (by show cs + 0 + 0 + 1 ≤ 9; omega) (by show sl + 0 + 0 + 1 ≤ 41; omega) dX4_putInOrder_35 ?_
  refine aw_dup C dX4_putInOrder_37 ?_
  refine aw_iconst C dX4_putInOrder_38 (v := (nI 0)) (by decide) ?_
  refine aw_iload_n C dX4_putInOrder_39 rfl ?_
  obtain ⟨h21, e22, H⟩ := hz_bd H
  refine aw_iast C e22 dX4_putInOrder_40 ?_
  obtain ⟨g25, H⟩ := hz_wn H
  obtain ⟨p23, e24, H⟩ := hz_bd H
  refine aw_V (As := [.int v12, .int p14.1, .int (nI 2), .int v17, .int v3, va_rf (some (p14.2.1 + 1))]) (rest := []) C hy_X5_send hv_X5_send wd_311 cl_5.1 g25 (c_X5_send _ _ _ _ _ _ _ _ _  e24) hz_ron rfl rfl (Nat.le_of_ble_eq_true rfl) (by decide) (kc := 8) (ks := 40) rfl rfl ⟨(by show cs + 0 + 0 + 1 + 8 ≤ 9; omega), (by show sl + 0 + 0 + 1 + 40 ≤ 41; omega)⟩ dX4_putInOrder_41 ?_
  cases H
  exact aw_vret C (by show cs + 0 + 0 + 1 + 8 ≤ 9; omega) (by show sl + 0 + 0 + 1 + 40 ≤ 41; omega) dX4_putInOrder_44
theorem hy_X4_holdersOf : hz_Y yX4_holdersOf cX4_holdersOf 5 (some .int) 1 := ⟨wd_382, wd_62, by decide +kernel, by decide +kernel, by decide +kernel⟩
theorem hv_X4_holdersOf : hz_YV yX4_holdersOf := ⟨wd_381, wd_7⟩
def f_X4_holdersOf_61 (K4 : Option Nat → Int32 → Int32 → Int32 → HP → Option (Int32 × HP)) (l0 : Option Nat) (l1 : Int32) (l2 : Int32) (l3 : Int32) (h : HP) : Option (Int32 × HP) :=
  K4 l0 l1 l2 (l3 + (nI 1)) h
def f_X4_holdersOf_36 (K4 : Option Nat → Int32 → Int32 → Int32 → HP → Option (Int32 × HP)) (l0 : Option Nat) (l1 : Int32) (l2 : Int32) (l3 : Int32) (s0 : Int32) (h : HP) : Option (Int32 × HP) :=
  (hz_gI h l0 4 11).bind fun v13 =>
  (f_X8_has v13 l3 h).bind fun p15 =>
  if p15.1 = 0 then
    f_X4_holdersOf_61 K4 l0 l1 l2 l3 p15.2
  else
    if s0 < l1 then
      f_X4_holdersOf_61 K4 l0 l1 l2 l3 p15.2
    else
      f_X4_holdersOf_61 K4 l0 l1 (l2 ||| ((nI 1) <<< (l3 &&& 31))) l3 p15.2
def f_X4_holdersOf_4 : Nat → Option Nat → Int32 → Int32 → Int32 → HP → Option (Int32 × HP)
  | 0, _, _, _, _, _ => none
  | n + 1, l0, l1, l2, l3, h =>
    (hz_gI h l0 4 1).bind fun v1 =>
    if v1 ≤ l3 then
      some (l2, h)
    else
      (hz_gI h l0 4 0).bind fun v3 =>
      if l3 = v3 then
        (hz_gR h l0 4 4).bind fun r9 =>
        (hz_gI h r9 6 1).bind fun v11 =>
        f_X4_holdersOf_36 (f_X4_holdersOf_4  n) l0 l1 l2 l3 v11 h
      else
        (hz_gR h l0 4 7).bind fun r5 =>
        (hz_aI h r5 0 l3).bind fun v7 =>
        f_X4_holdersOf_36 (f_X4_holdersOf_4  n) l0 l1 l2 l3 v7 h
def f_X4_holdersOf (a0 : Option Nat) (a1 : Int32) (h : HP) : Option (Int32 × HP) :=
  f_X4_holdersOf_4  600 a0 a1 (nI 0) (nI 0) h
abbrev rm_X4_holdersOf : Room := { frames := 1, cells := 0, slots := 0, locals := 21 }
set_option maxRecDepth 100000 in
set_option maxHeartbeats 4000000 in
theorem k_X4_holdersOf_61 {G : GX} {v' : Int32} {h' : HP} (hn : G.2.2.2.2.2.2.2.2.2.2.2.2 = 5) (C : Cx G cX4_holdersOf RX4 "holdersOf" (some .int) rm_X4_holdersOf (some (.int v')) h') {K4 : Option Nat → Int32 → Int32 → Int32 → HP → Option (Int32 × HP)} (hK4 : ∀ (l0 : Option Nat) (l1 : Int32) (l2 : Int32) (l3 : Int32) (h : HP), K4 l0 l1 l2 l3 h = some (v', h') → aw G 4 [some (va_rf l0), some (.int l1), some (.int l2), some (.int l3), none] [] h 0 0) (l0 : Option Nat) (l1 : Int32) (l2 : Int32) (l3 : Int32) (h : HP) (H : f_X4_holdersOf_61 K4 l0 l1 l2 l3 h = some (v', h')) : aw G 61 [some (va_rf l0), some (.int l1), some (.int l2), some (.int l3), none] [] h 0 0 := by
  unfold f_X4_holdersOf_61 at H
  refine aw_iinc (d := (nI 1)) C dX4_holdersOf_61 (by rw [hn]; decide) rfl (by decide) rfl ?_
  refine aw_goto (tgt := 4) C dX4_holdersOf_64 (by decide) ?_
  exact hK4 _ _ _ _ _ H
set_option maxRecDepth 100000 in
set_option maxHeartbeats 4000000 in
theorem k_X4_holdersOf_36 {G : GX} {v' : Int32} {h' : HP} (hn : G.2.2.2.2.2.2.2.2.2.2.2.2 = 5) (C : Cx G cX4_holdersOf RX4 "holdersOf" (some .int) rm_X4_holdersOf (some (.int v')) h') {K4 : Option Nat → Int32 → Int32 → Int32 → HP → Option (Int32 × HP)} (hK4 : ∀ (l0 : Option Nat) (l1 : Int32) (l2 : Int32) (l3 : Int32) (h : HP), K4 l0 l1 l2 l3 h = some (v', h') → aw G 4 [some (va_rf l0), some (.int l1), some (.int l2), some (.int l3), none] [] h 0 0) (l0 : Option Nat) (l1 : Int32) (l2 : Int32) (l3 : Int32) (s0 : Int32) (h : HP) (H : f_X4_holdersOf_36 K4 l0 l1 l2 l3 s0 h = some (v', h')) : aw G 36 [some (va_rf l0), some (.int l1), some (.int l2), some (.int l3), none] [.int s0] h 0 0 := by
  unfold f_X4_holdersOf_36 at H
  refine aw_istore C dX4_holdersOf_36 (by rw [hn]; decide) rfl ?_
  refine aw_aload_n C dX4_holdersOf_38 rfl ?_
  obtain ⟨v13, e14, H⟩ := hz_bd H
  refine aw_gI (k := 11) C cl_4 (by decide) wd_229 e14 dX4_holdersOf_39 ?_
  refine aw_iload_n C dX4_holdersOf_42 rfl ?_
  obtain ⟨p15, e16, H⟩ := hz_bd H
  refine aw_SN (As := [.int v13, .int l3]) (rest := []) C hy_X8_has wd_309 wn_308 (c_X8_has _ _ _ _ _  e16) (hz_roi _) rfl rfl (Nat.le_of_ble_eq_true rfl) (by decide) (kc := 0) (ks := 0) rfl rfl (by decide) dX4_holdersOf_43 ?_
  refine aw_if_eq (tgt := 61) C dX4_holdersOf_46 (by decide) (fun c17 => ?_) (fun c17 => ?_)
  · replace H := hz_it c17 H
    exact aw_loc (hz_sub_s (hz_sub_s (hz_sub_s (hz_sub_s (hz_sub_n hz_sub_0))))) (k_X4_holdersOf_61 hn C hK4 _ _ _ _ _ H)
  · replace H := hz_if c17 H
    refine aw_iload C dX4_holdersOf_49 rfl ?_
    refine aw_iload_n C dX4_holdersOf_51 rfl ?_
    refine aw_icmp_lt (tgt := 61) C dX4_holdersOf_52 (by decide) (fun c18 => ?_) (fun c18 => ?_)
    · replace H := hz_it c18 H
      exact aw_loc (hz_sub_s (hz_sub_s (hz_sub_s (hz_sub_s (hz_sub_n hz_sub_0))))) (k_X4_holdersOf_61 hn C hK4 _ _ _ _ _ H)
    · replace H := hz_if c18 H
      refine aw_iload_n C dX4_holdersOf_55 rfl ?_
      refine aw_iconst C dX4_holdersOf_56 (v := (nI 1)) (by decide) ?_
      refine aw_iload_n C dX4_holdersOf_57 rfl ?_
      refine aw_ishl C dX4_holdersOf_58 ?_
      refine aw_ior C dX4_holdersOf_59 ?_
      refine aw_istore_n C dX4_holdersOf_60 (by rw [hn]; decide) rfl ?_
      exact aw_loc (hz_sub_s (hz_sub_s (hz_sub_s (hz_sub_s (hz_sub_n hz_sub_0))))) (k_X4_holdersOf_61 hn C hK4 _ _ _ _ _ H)
set_option maxRecDepth 100000 in
set_option maxHeartbeats 4000000 in
theorem k_X4_holdersOf_4 {G : GX} {v' : Int32} {h' : HP} (hn : G.2.2.2.2.2.2.2.2.2.2.2.2 = 5) (C : Cx G cX4_holdersOf RX4 "holdersOf" (some .int) rm_X4_holdersOf (some (.int v')) h') : ∀ (n : Nat) (l0 : Option Nat) (l1 : Int32) (l2 : Int32) (l3 : Int32) (h : HP), f_X4_holdersOf_4  n l0 l1 l2 l3 h = some (v', h') → aw G 4 [some (va_rf l0), some (.int l1), some (.int l2), some (.int l3), none] [] h 0 0 := by
  intro n
  induction n with
  | zero => intro l0 l1 l2 l3 h H; cases H
  | succ n ih =>
    intro l0 l1 l2 l3 h H
    rw [f_X4_holdersOf_4] at H
    refine aw_iload_n C dX4_holdersOf_4 rfl ?_
    refine aw_aload_n C dX4_holdersOf_5 rfl ?_
    obtain ⟨v1, e2, H⟩ := hz_bd H
    refine aw_gI (k := 1) C cl_4 (by decide) wd_215 e2 dX4_holdersOf_6 ?_
    refine aw_icmp_ge (tgt := 67) C dX4_holdersOf_9 (by decide) (fun c19 => ?_) (fun c19 => ?_)
    · replace H := hz_it c19 H
      refine aw_iload_n C dX4_holdersOf_67 rfl ?_
      cases H
      exact aw_iret C (Nat.zero_le _) (Nat.zero_le _) dX4_holdersOf_68
    · replace H := hz_if c19 H
      refine aw_iload_n C dX4_holdersOf_12 rfl ?_
      refine aw_aload_n C dX4_holdersOf_13 rfl ?_
      obtain ⟨v3, e4, H⟩ := hz_bd H
      refine aw_gI (k := 0) C cl_4 (by decide) wd_214 e4 dX4_holdersOf_14 ?_
      refine aw_icmp_ne (tgt := 30) C dX4_holdersOf_17 (by decide) (fun c20 => ?_) (fun c20 => ?_)
      · replace H := hz_if c20 H
        refine aw_aload_n C dX4_holdersOf_30 rfl ?_
        obtain ⟨r5, e6, H⟩ := hz_bd H
        refine aw_gR (k := 7) C cl_4 (by decide) wd_223 e6 dX4_holdersOf_31 ?_
        refine aw_iload_n C dX4_holdersOf_34 rfl ?_
        obtain ⟨v7, e8, H⟩ := hz_bd H
        refine aw_iald C e8 dX4_holdersOf_35 ?_
        exact k_X4_holdersOf_36 hn C (fun _ _ _ _ _ H => ih _ _ _ _ _ H) _ _ _ _ _ _ H
      · replace H := hz_it c20 H
        refine aw_aload_n C dX4_holdersOf_20 rfl ?_
        obtain ⟨r9, e10, H⟩ := hz_bd H
        refine aw_gR (k := 4) C cl_4 (by decide) wd_218 e10 dX4_holdersOf_21 ?_
        obtain ⟨v11, e12, H⟩ := hz_bd H
        refine aw_gI (k := 1) C cl_6 (by decide) wd_165 e12 dX4_holdersOf_24 ?_
        refine aw_goto (tgt := 36) C dX4_holdersOf_27 (by decide) ?_
        exact k_X4_holdersOf_36 hn C (fun _ _ _ _ _ H => ih _ _ _ _ _ H) _ _ _ _ _ _ H
set_option maxRecDepth 100000 in
set_option maxHeartbeats 4000000 in
theorem c_X4_holdersOf {l : Launch} (a0 : Option Nat) (a1 : Int32) (h : HP) (v' : Int32) (h' : HP) (H : f_X4_holdersOf a0 a1 h = some (v', h')) : Ct l yX4_holdersOf cX4_holdersOf 5 (some .int) rm_X4_holdersOf [va_rf a0, .int a1] (some (.int v')) h h' := by
  refine Ct.of (plainFor_of_name (by decide)) (hz_s1c (hz_s1c hz_s1n rfl) (hz_cr _)) (Nat.le_of_ble_eq_true rfl) (fun G hl hn C0 => ?_)
  have C : Cx G cX4_holdersOf RX4 "holdersOf" (some .int) rm_X4_holdersOf (some (.int v')) h' := C0
  subst hl
  show aw G 0 [some (va_rf a0), some (.int a1), none, none, none] [] h 0 0
  unfold f_X4_holdersOf at H
  refine aw_iconst C dX4_holdersOf_0 (v := (nI 0)) (by decide) ?_
  refine aw_istore_n C dX4_holdersOf_1 (by rw [hn]; decide) rfl ?_
  refine aw_iconst C dX4_holdersOf_2 (v := (nI 0)) (by decide) ?_
  refine aw_istore_n C dX4_holdersOf_3 (by rw [hn]; decide) rfl ?_
  exact k_X4_holdersOf_4 hn C  600 _ _ _ _ _ H
theorem hy_X4_heldByMost : hz_Y yX4_heldByMost cX4_heldByMost 2 (some .int) 0 := ⟨wd_378, wd_62, by decide +kernel, by decide +kernel, by decide +kernel⟩
theorem hv_X4_heldByMost : hz_YV yX4_heldByMost := ⟨wd_377, wd_6⟩
def f_X4_heldByMost_8 : Nat → Option Nat → Int32 → HP → Option (Int32 × HP)
  | 0, _, _, _ => none
  | n + 1, l0, l1, h =>
    if l1 ≤ 0 then
      some ((nI 0), h)
    else
      if hz_ob h l0 4 = true then
      (f_X4_holdersOf l0 l1 h).bind fun p5 =>
      if hz_ob p5.2 l0 4 = true then
      (f_X4_areMost l0 p5.1 p5.2).bind fun p8 =>
      if p8.1 = 0 then
        f_X4_heldByMost_8  n l0 (l1 + (-1 : Int32)) p8.2
      else
        some (l1, p8.2)
      else none
      else none
def f_X4_heldByMost (a0 : Option Nat) (h : HP) : Option (Int32 × HP) :=
  (hz_gR h a0 4 4).bind fun r1 =>
  (hz_gI h r1 6 1).bind fun v3 =>
  f_X4_heldByMost_8  600 a0 v3 h
abbrev rm_X4_heldByMost : Room := { frames := 2, cells := 0, slots := 0, locals := 45 }
set_option maxRecDepth 100000 in
set_option maxHeartbeats 4000000 in
theorem k_X4_heldByMost_8 {G : GX} {v' : Int32} {h' : HP} (hn : G.2.2.2.2.2.2.2.2.2.2.2.2 = 2) (C : Cx G cX4_heldByMost RX4 "heldByMost" (some .int) rm_X4_heldByMost (some (.int v')) h') : ∀ (n : Nat) (l0 : Option Nat) (l1 : Int32) (h : HP), f_X4_heldByMost_8  n l0 l1 h = some (v', h') → aw G 8 [some (va_rf l0), some (.int l1)] [] h 0 0 := by
  intro n
  induction n with
  | zero => intro l0 l1 h H; cases H
  | succ n ih =>
    intro l0 l1 h H
    rw [f_X4_heldByMost_8] at H
    refine aw_iload_n C dX4_heldByMost_8 rfl ?_
    refine aw_if_le (tgt := 32) C dX4_heldByMost_9 (by decide) (fun c11 => ?_) (fun c11 => ?_)
    · replace H := hz_it c11 H
      refine aw_iconst C dX4_heldByMost_32 (v := (nI 0)) (by decide) ?_
      cases H
      exact aw_iret C (Nat.zero_le _) (Nat.zero_le _) dX4_heldByMost_33
    · replace H := hz_if c11 H
      refine aw_aload_n C dX4_heldByMost_12 rfl ?_
      refine aw_aload_n C dX4_heldByMost_13 rfl ?_
      refine aw_iload_n C dX4_heldByMost_14 rfl ?_
      obtain ⟨g7, H⟩ := hz_wn H
      obtain ⟨p5, e6, H⟩ := hz_bd H
      refine aw_V (As := [.int l1]) (rest := [va_rf l0]) C hy_X4_holdersOf hv_X4_holdersOf wd_379 cl_4.1 g7 (c_X4_holdersOf _ _ _ _ _  e6) (hz_roi _) rfl rfl (Nat.le_of_ble_eq_true rfl) (by decide) (kc := 0) (ks := 0) rfl rfl (by decide) dX4_heldByMost_15 ?_
      obtain ⟨g10, H⟩ := hz_wn H
      obtain ⟨p8, e9, H⟩ := hz_bd H
      refine aw_V (As := [.int p5.1]) (rest := []) C hy_X4_areMost hv_X4_areMost wd_383 cl_4.1 g10 (c_X4_areMost _ _ _ _ _  e9) (hz_roi _) rfl rfl (Nat.le_of_ble_eq_true rfl) (by decide) (kc := 0) (ks := 0) rfl rfl (by decide) dX4_heldByMost_18 ?_
      refine aw_if_eq (tgt := 26) C dX4_heldByMost_21 (by decide) (fun c12 => ?_) (fun c12 => ?_)
      · replace H := hz_it c12 H
        refine aw_iinc (d := (-1)) C dX4_heldByMost_26 (by rw [hn]; decide) rfl (by decide) rfl ?_
        refine aw_goto (tgt := 8) C dX4_heldByMost_29 (by decide) ?_
        exact ih _ _ _ H
      · replace H := hz_if c12 H
        refine aw_iload_n C dX4_heldByMost_24 rfl ?_
        cases H
        exact aw_iret C (Nat.zero_le _) (Nat.zero_le _) dX4_heldByMost_25
set_option maxRecDepth 100000 in
set_option maxHeartbeats 4000000 in
theorem c_X4_heldByMost {l : Launch} (a0 : Option Nat) (h : HP) (v' : Int32) (h' : HP) (H : f_X4_heldByMost a0 h = some (v', h')) : Ct l yX4_heldByMost cX4_heldByMost 2 (some .int) rm_X4_heldByMost [va_rf a0] (some (.int v')) h h' := by
  refine Ct.of (plainFor_of_name (by decide)) (hz_s1c hz_s1n (hz_cr _)) (Nat.le_of_ble_eq_true rfl) (fun G hl hn C0 => ?_)
  have C : Cx G cX4_heldByMost RX4 "heldByMost" (some .int) rm_X4_heldByMost (some (.int v')) h' := C0
  subst hl
  show aw G 0 [some (va_rf a0), none] [] h 0 0
  unfold f_X4_heldByMost at H
  refine aw_aload_n C dX4_heldByMost_0 rfl ?_
  obtain ⟨r1, e2, H⟩ := hz_bd H
  refine aw_gR (k := 4) C cl_4 (by decide) wd_218 e2 dX4_heldByMost_1 ?_
  obtain ⟨v3, e4, H⟩ := hz_bd H
  refine aw_gI (k := 1) C cl_6 (by decide) wd_165 e4 dX4_heldByMost_4 ?_
  refine aw_istore_n C dX4_heldByMost_7 (by rw [hn]; decide) rfl ?_
  exact k_X4_heldByMost_8 hn C  600 _ _ _ H
theorem hy_X4_carryOutUpTo : hz_Y yX4_carryOutUpTo cX4_carryOutUpTo 4 none 1 := ⟨wd_396, wd_62, by decide +kernel, by decide +kernel, by decide +kernel⟩
theorem hv_X4_carryOutUpTo : hz_YV yX4_carryOutUpTo := ⟨wd_395, wd_9⟩
def f_X4_carryOutUpTo_17 : Nat → Option Nat → Int32 → Int32 → HP → Option HP
  | 0, _, _, _, _ => none
  | n + 1, l0, l2, l3, h =>
    if l2 ≤ l3 then
      (hz_gI h l0 4 14).bind fun v9 =>
      (f_J9_max_7cf53 v9 l2 h).bind fun p11 =>
      (hz_pF p11.2 l0 4 14 (.int p11.1)).bind fun h13 =>
      some h13
    else
      (hz_gR h l0 4 5).bind fun r15 =>
      (hz_gR h l0 4 4).bind fun r17 =>
      (hz_gR h r17 6 0).bind fun r19 =>
      (hz_aI h r19 0 l3).bind fun v21 =>
      if hz_ob h r15 3 = true then
      (f_X3_carryOut r15 v21 h).bind fun p23 =>
      (hz_gR p23 l0 4 3).bind fun r26 =>
      (hz_gI p23 r26 7 2).bind fun v28 =>
      (hz_pF p23 r26 7 2 (.int (v28 + (nI 1)))).bind fun h30 =>
      f_X4_carryOutUpTo_17  n l0 l2 (l3 + (nI 1)) h30
      else none
def f_X4_carryOutUpTo (a0 : Option Nat) (a1 : Int32) (h : HP) : Option HP :=
  (hz_gR h a0 4 4).bind fun r1 =>
  (hz_gI h r1 6 1).bind fun v3 =>
  (f_J9_min_7cf53 a1 v3 h).bind fun p5 =>
  (hz_gI p5.2 a0 4 14).bind fun v7 =>
  f_X4_carryOutUpTo_17  600 a0 p5.1 v7 p5.2
abbrev rm_X4_carryOutUpTo : Room := { frames := 2, cells := 0, slots := 0, locals := 42 }
set_option maxRecDepth 100000 in
set_option maxHeartbeats 4000000 in
theorem k_X4_carryOutUpTo_17 {G : GX} {h' : HP} (hn : G.2.2.2.2.2.2.2.2.2.2.2.2 = 4) (C : Cx G cX4_carryOutUpTo RX4 "carryOutUpTo" none rm_X4_carryOutUpTo none h') : ∀ (n : Nat) (l0 : Option Nat) (l2 : Int32) (l3 : Int32) (h : HP), f_X4_carryOutUpTo_17  n l0 l2 l3 h = some h' → aw G 17 [some (va_rf l0), none, some (.int l2), some (.int l3)] [] h 0 0 := by
  intro n
  induction n with
  | zero => intro l0 l2 l3 h H; cases H
  | succ n ih =>
    intro l0 l2 l3 h H
    rw [f_X4_carryOutUpTo_17] at H
    refine aw_iload_n C dX4_carryOutUpTo_17 rfl ?_
    refine aw_iload_n C dX4_carryOutUpTo_18 rfl ?_
    refine aw_icmp_ge (tgt := 57) C dX4_carryOutUpTo_19 (by decide) (fun c32 => ?_) (fun c32 => ?_)
    · replace H := hz_it c32 H
      refine aw_aload_n C dX4_carryOutUpTo_57 rfl ?_
      refine aw_aload_n C dX4_carryOutUpTo_58 rfl ?_
      obtain ⟨v9, e10, H⟩ := hz_bd H
      refine aw_gI (k := 14) C cl_4 (by decide) wd_232 e10 dX4_carryOutUpTo_59 ?_
      refine aw_iload_n C dX4_carryOutUpTo_62 rfl ?_
      obtain ⟨p11, e12, H⟩ := hz_bd H
      refine aw_S (As := [.int v9, .int l2]) (rest := [va_rf l0]) C hy_J9_max_7cf53 wd_429 wd_428 (c_J9_max_7cf53 _ _ _ _ _  e12) (hz_roi _) rfl rfl (Nat.le_of_ble_eq_true rfl) (by decide) (kc := 0) (ks := 0) rfl rfl (by decide) dX4_carryOutUpTo_63 ?_
      obtain ⟨h13, e14, H⟩ := hz_bd H
      refine aw_pF (k := 14) C cl_4 (by decide) rfl wd_232 (hz_fiti _) e14 dX4_carryOutUpTo_66 ?_
      cases H
      exact aw_vret C (Nat.zero_le _) (Nat.zero_le _) dX4_carryOutUpTo_69
    · replace H := hz_if c32 H
      refine aw_aload_n C dX4_carryOutUpTo_22 rfl ?_
      obtain ⟨r15, e16, H⟩ := hz_bd H
      refine aw_gR (k := 5) C cl_4 (by decide) wd_220 e16 dX4_carryOutUpTo_23 ?_
      refine aw_aload_n C dX4_carryOutUpTo_26 rfl ?_
      obtain ⟨r17, e18, H⟩ := hz_bd H
      refine aw_gR (k := 4) C cl_4 (by decide) wd_218 e18 dX4_carryOutUpTo_27 ?_
      obtain ⟨r19, e20, H⟩ := hz_bd H
      refine aw_gR (k := 0) C cl_6 (by decide) wd_163 e20 dX4_carryOutUpTo_30 ?_
      refine aw_iload_n C dX4_carryOutUpTo_33 rfl ?_
      obtain ⟨v21, e22, H⟩ := hz_bd H
      refine aw_iald C e22 dX4_carryOutUpTo_34 ?_
      obtain ⟨g25, H⟩ := hz_wn H
      obtain ⟨p23, e24, H⟩ := hz_bd H
      refine aw_V (As := [.int v21]) (rest := []) C hy_X3_carryOut hv_X3_carryOut wd_400 cl_3.1 g25 (c_X3_carryOut _ _ _ _  e24) hz_ron rfl rfl (Nat.le_of_ble_eq_true rfl) (by decide) (kc := 0) (ks := 0) rfl rfl (by decide) dX4_carryOutUpTo_35 ?_
      refine aw_aload_n C dX4_carryOutUpTo_38 rfl ?_
      obtain ⟨r26, e27, H⟩ := hz_bd H
      refine aw_gR (k := 3) C cl_4 (by decide) wd_217 e27 dX4_carryOutUpTo_39 ?_
      refine aw_dup C dX4_carryOutUpTo_42 ?_
      obtain ⟨v28, e29, H⟩ := hz_bd H
      refine aw_gI (k := 2) C cl_7 (by decide) wd_93 e29 dX4_carryOutUpTo_43 ?_
      refine aw_iconst C dX4_carryOutUpTo_46 (v := (nI 1)) (by decide) ?_
      refine aw_iadd C dX4_carryOutUpTo_47 ?_
      obtain ⟨h30, e31, H⟩ := hz_bd H
      refine aw_pF (k := 2) C cl_7 (by decide) rfl wd_93 (hz_fiti _) e31 dX4_carryOutUpTo_48 ?_
      refine aw_iinc (d := (nI 1)) C dX4_carryOutUpTo_51 (by rw [hn]; decide) rfl (by decide) rfl ?_
      refine aw_goto (tgt := 17) C dX4_carryOutUpTo_54 (by decide) ?_
      exact ih _ _ _ _ H
set_option maxRecDepth 100000 in
set_option maxHeartbeats 4000000 in
theorem c_X4_carryOutUpTo {l : Launch} (a0 : Option Nat) (a1 : Int32) (h : HP) (h' : HP) (H : f_X4_carryOutUpTo a0 a1 h = some h') : Ct l yX4_carryOutUpTo cX4_carryOutUpTo 4 none rm_X4_carryOutUpTo [va_rf a0, .int a1] none h h' := by
  refine Ct.of (plainFor_of_name (by decide)) (hz_s1c (hz_s1c hz_s1n rfl) (hz_cr _)) (Nat.le_of_ble_eq_true rfl) (fun G hl hn C0 => ?_)
  have C : Cx G cX4_carryOutUpTo RX4 "carryOutUpTo" none rm_X4_carryOutUpTo none h' := C0
  subst hl
  show aw G 0 [some (va_rf a0), some (.int a1), none, none] [] h 0 0
  unfold f_X4_carryOutUpTo at H
  refine aw_iload_n C dX4_carryOutUpTo_0 rfl ?_
  refine aw_aload_n C dX4_carryOutUpTo_1 rfl ?_
  obtain ⟨r1, e2, H⟩ := hz_bd H
  refine aw_gR (k := 4) C cl_4 (by decide) wd_218 e2 dX4_carryOutUpTo_2 ?_
  obtain ⟨v3, e4, H⟩ := hz_bd H
  refine aw_gI (k := 1) C cl_6 (by decide) wd_165 e4 dX4_carryOutUpTo_5 ?_
  obtain ⟨p5, e6, H⟩ := hz_bd H
  refine aw_S (As := [.int a1, .int v3]) (rest := []) C hy_J9_min_7cf53 wd_398 wd_397 (c_J9_min_7cf53 _ _ _ _ _  e6) (hz_roi _) rfl rfl (Nat.le_of_ble_eq_true rfl) (by decide) (kc := 0) (ks := 0) rfl rfl (by decide) dX4_carryOutUpTo_8 ?_
  refine aw_istore_n C dX4_carryOutUpTo_11 (by rw [hn]; decide) rfl ?_
  refine aw_aload_n C dX4_carryOutUpTo_12 rfl ?_
  obtain ⟨v7, e8, H⟩ := hz_bd H
  refine aw_gI (k := 14) C cl_4 (by decide) wd_232 e8 dX4_carryOutUpTo_13 ?_
  refine aw_istore_n C dX4_carryOutUpTo_16 (by rw [hn]; decide) rfl ?_
  exact aw_loc (hz_sub_s (hz_sub_n (hz_sub_s (hz_sub_s hz_sub_0)))) (k_X4_carryOutUpTo_17 hn C  600 _ _ _ _ H)
theorem hy_X4_carryOutWhatMostHold : hz_Y yX4_carryOutWhatMostHold cX4_carryOutWhatMostHold 2 none 0 := ⟨wd_374, wd_62, by decide +kernel, by decide +kernel, by decide +kernel⟩
theorem hv_X4_carryOutWhatMostHold : hz_YV yX4_carryOutWhatMostHold := ⟨wd_373, wd_5⟩
def f_X4_carryOutWhatMostHold_42 (h : HP) : Option HP :=
  some h
def f_X4_carryOutWhatMostHold (a0 : Option Nat) (h : HP) : Option HP :=
  if hz_ob h a0 4 = true then
  (f_X4_heldByMost a0 h).bind fun p1 =>
  (hz_gI p1.2 a0 4 14).bind fun v4 =>
  if p1.1 ≤ v4 then
    f_X4_carryOutWhatMostHold_42   p1.2
  else
    if hz_ob p1.2 a0 4 = true then
    (f_X4_carryOutUpTo a0 p1.1 p1.2).bind fun p6 =>
    (hz_gR p6 a0 4 2).bind fun r9 =>
    (hz_gI p6 a0 4 0).bind fun v11 =>
    if hz_ob p6 a0 4 = true then
    (f_X4_others a0 p6).bind fun p13 =>
    (hz_gI p13.2 a0 4 10).bind fun v16 =>
    if hz_ob p13.2 r9 5 = true then
    (f_X5_send r9 v11 p13.1 (nI 4) v16 p1.1 (some 0) p13.2).bind fun p18 =>
    f_X4_carryOutWhatMostHold_42   p18
    else none
    else none
    else none
  else none
abbrev rm_X4_carryOutWhatMostHold : Room := { frames := 3, cells := 8, slots := 40, locals := 92 }
set_option maxRecDepth 100000 in
set_option maxHeartbeats 4000000 in
theorem k_X4_carryOutWhatMostHold_42 {G : GX} {h' : HP} (hn : G.2.2.2.2.2.2.2.2.2.2.2.2 = 2) (C : Cx G cX4_carryOutWhatMostHold RX4 "carryOutWhatMostHold" none rm_X4_carryOutWhatMostHold none h') {cs sl : Nat} (h : HP) (H : f_X4_carryOutWhatMostHold_42   h = some h') (hcs : cs + 0 ≤ 8) (hsl : sl + 0 ≤ 40) : aw G 42 [none, none] [] h cs sl := by
  unfold f_X4_carryOutWhatMostHold_42 at H
  cases H
  exact aw_vret C (by show cs ≤ 8; omega) (by show sl ≤ 40; omega) dX4_carryOutWhatMostHold_42
set_option maxRecDepth 100000 in
set_option maxHeartbeats 4000000 in
theorem c_X4_carryOutWhatMostHold {l : Launch} (a0 : Option Nat) (h : HP) (h' : HP) (H : f_X4_carryOutWhatMostHold a0 h = some h') : Ct l yX4_carryOutWhatMostHold cX4_carryOutWhatMostHold 2 none rm_X4_carryOutWhatMostHold [va_rf a0] none h h' := by
  refine Ct.of (plainFor_of_name (by decide)) (hz_s1c hz_s1n (hz_cr _)) (Nat.le_of_ble_eq_true rfl) (fun G hl hn C0 => ?_)
  have C : Cx G cX4_carryOutWhatMostHold RX4 "carryOutWhatMostHold" none rm_X4_carryOutWhatMostHold none h' := C0
  subst hl
  show aw G 0 [some (va_rf a0), none] [] h 0 0
  unfold f_X4_carryOutWhatMostHold at H
  obtain ⟨cs, hcs⟩ : ∃ k : Nat, k = 0 := ⟨0, rfl⟩
  obtain ⟨sl, hsl⟩ : ∃ k : Nat, k = 0 := ⟨0, rfl⟩
  suffices hh : aw G 0 [some (va_rf a0), none] [] h cs sl by rw [hcs, hsl] at hh; exact hh
  refine aw_aload_n C dX4_carryOutWhatMostHold_0 rfl ?_
  obtain ⟨g3, H⟩ := hz_wn H
  obtain ⟨p1, e2, H⟩ := hz_bd H
  refine aw_V (As := []) (rest := []) C hy_X4_heldByMost hv_X4_heldByMost wd_375 cl_4.1 g3 (c_X4_heldByMost _ _ _ _  e2) (hz_roi _) rfl rfl (Nat.le_of_ble_eq_true rfl) (by decide) (kc := 0) (ks := 0) rfl rfl ⟨(by show cs + 0 ≤ 8; omega), (by show sl + 0 ≤ 40; omega)⟩ dX4_carryOutWhatMostHold_1 ?_
  refine aw_istore_n C dX4_carryOutWhatMostHold_4 (by rw [hn]; decide) rfl ?_
  refine aw_iload_n C dX4_carryOutWhatMostHold_5 rfl ?_
  refine aw_aload_n C dX4_carryOutWhatMostHold_6 rfl ?_
  obtain ⟨v4, e5, H⟩ := hz_bd H
  refine aw_gI (k := 14) C cl_4 (by decide) wd_232 e5 dX4_carryOutWhatMostHold_7 ?_
  refine aw_icmp_le (tgt := 42) C dX4_carryOutWhatMostHold_10 (by decide) (fun c21 => ?_) (fun c21 => ?_)
  · replace H := hz_it c21 H
    exact aw_loc (hz_sub_n (hz_sub_n hz_sub_0)) (k_X4_carryOutWhatMostHold_42 (cs := cs + 0) (sl := sl + 0) hn C  _ H (by omega) (by omega))
  · replace H := hz_if c21 H
    refine aw_aload_n C dX4_carryOutWhatMostHold_13 rfl ?_
    refine aw_iload_n C dX4_carryOutWhatMostHold_14 rfl ?_
    obtain ⟨g8, H⟩ := hz_wn H
    obtain ⟨p6, e7, H⟩ := hz_bd H
    refine aw_V (As := [.int p1.1]) (rest := []) C hy_X4_carryOutUpTo hv_X4_carryOutUpTo wd_393 cl_4.1 g8 (c_X4_carryOutUpTo _ _ _ _  e7) hz_ron rfl rfl (Nat.le_of_ble_eq_true rfl) (by decide) (kc := 0) (ks := 0) rfl rfl ⟨(by show cs + 0 + 0 ≤ 8; omega), (by show sl + 0 + 0 ≤ 40; omega)⟩ dX4_carryOutWhatMostHold_15 ?_
    refine aw_aload_n C dX4_carryOutWhatMostHold_18 rfl ?_
    obtain ⟨r9, e10, H⟩ := hz_bd H
    refine aw_gR (k := 2) C cl_4 (by decide) wd_216 e10 dX4_carryOutWhatMostHold_19 ?_
    refine aw_aload_n C dX4_carryOutWhatMostHold_22 rfl ?_
    obtain ⟨v11, e12, H⟩ := hz_bd H
    refine aw_gI (k := 0) C cl_4 (by decide) wd_214 e12 dX4_carryOutWhatMostHold_23 ?_
    refine aw_aload_n C dX4_carryOutWhatMostHold_26 rfl ?_
    obtain ⟨g15, H⟩ := hz_wn H
    obtain ⟨p13, e14, H⟩ := hz_bd H
    refine aw_V (As := []) (rest := [.int v11, va_rf r9]) C hy_X4_others hv_X4_others wd_364 cl_4.1 g15 (c_X4_others _ _ _ _  e14) (hz_roi _) rfl rfl (Nat.le_of_ble_eq_true rfl) (by decide) (kc := 0) (ks := 0) rfl rfl ⟨(by show cs + 0 + 0 + 0 ≤ 8; omega), (by show sl + 0 + 0 + 0 ≤ 40; omega)⟩ dX4_carryOutWhatMostHold_27 ?_
    refine aw_iconst C dX4_carryOutWhatMostHold_30 (v := (nI 4)) (by decide) ?_
    refine aw_aload_n C dX4_carryOutWhatMostHold_31 rfl ?_
    obtain ⟨v16, e17, H⟩ := hz_bd H
    refine aw_gI (k := 10) C cl_4 (by decide) wd_228 e17 dX4_carryOutWhatMostHold_32 ?_
    refine aw_iload_n C dX4_carryOutWhatMostHold_35 rfl ?_
    refine aw_gets C wn_431 dX4_carryOutWhatMostHold_36 ?_
    obtain ⟨g20, H⟩ := hz_wn H
    obtain ⟨p18, e19, H⟩ := hz_bd H
    refine aw_V (As := [.int v11, .int p13.1, .int (nI 4), .int v16, .int p1.1, va_rf (some 0)]) (rest := []) C hy_X5_send hv_X5_send wd_311 cl_5.1 g20 (c_X5_send _ _ _ _ _ _ _ _ _  e19) hz_ron rfl rfl (Nat.le_of_ble_eq_true rfl) (by decide) (kc := 8) (ks := 40) rfl rfl ⟨(by show cs + 0 + 0 + 0 + 8 ≤ 8; omega), (by show sl + 0 + 0 + 0 + 40 ≤ 40; omega)⟩ dX4_carryOutWhatMostHold_39 ?_
    exact aw_loc (hz_sub_n (hz_sub_n hz_sub_0)) (k_X4_carryOutWhatMostHold_42 (cs := cs + 0 + 0 + 0 + 8) (sl := sl + 0 + 0 + 0 + 40) hn C  _ H (by omega) (by omega))
theorem hy_X4_accept : hz_Y yX4_accept cX4_accept 2 (some .int) 1 := ⟨wd_299, wd_62, by decide +kernel, by decide +kernel, by decide +kernel⟩
theorem hv_X4_accept : hz_YV yX4_accept := ⟨wd_297, wd_298⟩
def f_X4_accept (a0 : Option Nat) (a1 : Int32) (h : HP) : Option (Int32 × HP) :=
  if hz_ob h a0 4 = true then
  (f_X4_isBlocked a0 h).bind fun p1 =>
  if p1.1 = 0 then
    if hz_ob p1.2 a0 4 = true then
    (f_X4_leader a0 p1.2).bind fun p4 =>
    (hz_gI p4.2 a0 4 0).bind fun v7 =>
    if p4.1 = v7 then
      (hz_gR p4.2 a0 4 4).bind fun r9 =>
      if hz_ob p4.2 r9 6 = true then
      (f_X6_isFull r9 p4.2).bind fun p11 =>
      if p11.1 = 0 then
        if hz_ob p11.2 a0 4 = true then
        (f_X4_putInOrder a0 a1 p11.2).bind fun p14 =>
        if hz_ob p14 a0 4 = true then
        (f_X4_carryOutWhatMostHold a0 p14).bind fun p17 =>
        some ((nI 1), p17)
        else none
        else none
      else
        some ((nI 3), p11.2)
      else none
    else
      (hz_gR p4.2 a0 4 2).bind fun r20 =>
      (hz_gI p4.2 a0 4 0).bind fun v22 =>
      if hz_ob p4.2 a0 4 = true then
      (f_X4_leader a0 p4.2).bind fun p24 =>
      (hz_nA p24.2 0 1 (nI 1)).bind fun h27 =>
      (hz_aS h27 (some (p24.2.1 + 1)) 0 (nI 0) a1).bind fun h29 =>
      if hz_ob h29 r20 5 = true then
      (f_X5_send r20 v22 ((nI 1) <<< (p24.1 &&& 31)) (nI 1) (nI 0) (nI 0) (some (p24.2.1 + 1)) h29).bind fun p31 =>
      some ((nI 1), p31)
      else none
      else none
    else none
  else
    some ((nI 2), p1.2)
  else none
abbrev rm_X4_accept : Room := { frames := 4, cells := 17, slots := 81, locals := 114 }
set_option maxRecDepth 100000 in
set_option maxHeartbeats 4000000 in
theorem c_X4_accept {l : Launch} (a0 : Option Nat) (a1 : Int32) (h : HP) (v' : Int32) (h' : HP) (H : f_X4_accept a0 a1 h = some (v', h')) : Ct l yX4_accept cX4_accept 2 (some .int) rm_X4_accept [va_rf a0, .int a1] (some (.int v')) h h' := by
  refine Ct.of (plainFor_of_name (by decide)) (hz_s1c (hz_s1c hz_s1n rfl) (hz_cr _)) (Nat.le_of_ble_eq_true rfl) (fun G hl hn C0 => ?_)
  have C : Cx G cX4_accept RX4 "accept" (some .int) rm_X4_accept (some (.int v')) h' := C0
  subst hl
  show aw G 0 [some (va_rf a0), some (.int a1)] [] h 0 0
  unfold f_X4_accept at H
  obtain ⟨cs, hcs⟩ : ∃ k : Nat, k = 0 := ⟨0, rfl⟩
  obtain ⟨sl, hsl⟩ : ∃ k : Nat, k = 0 := ⟨0, rfl⟩
  suffices hh : aw G 0 [some (va_rf a0), some (.int a1)] [] h cs sl by rw [hcs, hsl] at hh; exact hh
  refine aw_aload_n C dX4_accept_0 rfl ?_
  obtain ⟨g3, H⟩ := hz_wn H
  obtain ⟨p1, e2, H⟩ := hz_bd H
  refine aw_V (As := []) (rest := []) C hy_X4_isBlocked hv_X4_isBlocked wd_300 cl_4.1 g3 (c_X4_isBlocked _ _ _ _  e2) (hz_roi _) rfl rfl (Nat.le_of_ble_eq_true rfl) (by decide) (kc := 0) (ks := 0) rfl rfl ⟨(by show cs + 0 ≤ 17; omega), (by show sl + 0 ≤ 81; omega)⟩ dX4_accept_1 ?_
  refine aw_if_eq (tgt := 9) C dX4_accept_4 (by decide) (fun c34 => ?_) (fun c34 => ?_)
  · replace H := hz_it c34 H
    refine aw_aload_n C dX4_accept_9 rfl ?_
    obtain ⟨g6, H⟩ := hz_wn H
    obtain ⟨p4, e5, H⟩ := hz_bd H
    refine aw_V (As := []) (rest := []) C hy_X4_leader hv_X4_leader wd_304 cl_4.1 g6 (c_X4_leader _ _ _ _  e5) (hz_roi _) rfl rfl (Nat.le_of_ble_eq_true rfl) (by decide) (kc := 0) (ks := 0) rfl rfl ⟨(by show cs + 0 + 0 ≤ 17; omega), (by show sl + 0 + 0 ≤ 81; omega)⟩ dX4_accept_10 ?_
    refine aw_aload_n C dX4_accept_13 rfl ?_
    obtain ⟨v7, e8, H⟩ := hz_bd H
    refine aw_gI (k := 0) C cl_4 (by decide) wd_214 e8 dX4_accept_14 ?_
    refine aw_icmp_eq (tgt := 49) C dX4_accept_17 (by decide) (fun c35 => ?_) (fun c35 => ?_)
    · replace H := hz_it c35 H
      refine aw_aload_n C dX4_accept_49 rfl ?_
      obtain ⟨r9, e10, H⟩ := hz_bd H
      refine aw_gR (k := 4) C cl_4 (by decide) wd_218 e10 dX4_accept_50 ?_
      obtain ⟨g13, H⟩ := hz_wn H
      obtain ⟨p11, e12, H⟩ := hz_bd H
      refine aw_V (As := []) (rest := []) C hy_X6_isFull hv_X6_isFull wd_351 cl_6.1 g13 (c_X6_isFull _ _ _ _  e12) (hz_roi _) rfl rfl (Nat.le_of_ble_eq_true rfl) (by decide) (kc := 0) (ks := 0) rfl rfl ⟨(by show cs + 0 + 0 + 0 ≤ 17; omega), (by show sl + 0 + 0 + 0 ≤ 81; omega)⟩ dX4_accept_53 ?_
      refine aw_if_eq (tgt := 61) C dX4_accept_56 (by decide) (fun c36 => ?_) (fun c36 => ?_)
      · replace H := hz_it c36 H
        refine aw_aload_n C dX4_accept_61 rfl ?_
        refine aw_iload_n C dX4_accept_62 rfl ?_
        obtain ⟨g16, H⟩ := hz_wn H
        obtain ⟨p14, e15, H⟩ := hz_bd H
        refine aw_V (As := [.int a1]) (rest := []) C hy_X4_putInOrder hv_X4_putInOrder wd_355 cl_4.1 g16 (c_X4_putInOrder _ _ _ _  e15) hz_ron rfl rfl (Nat.le_of_ble_eq_true rfl) (by decide) (kc := 9) (ks := 41) rfl rfl ⟨(by show cs + 0 + 0 + 0 + 9 ≤ 17; omega), (by show sl + 0 + 0 + 0 + 41 ≤ 81; omega)⟩ dX4_accept_63 ?_
        refine aw_aload_n C dX4_accept_66 rfl ?_
        obtain ⟨g19, H⟩ := hz_wn H
        obtain ⟨p17, e18, H⟩ := hz_bd H
        refine aw_V (As := []) (rest := []) C hy_X4_carryOutWhatMostHold hv_X4_carryOutWhatMostHold wd_371 cl_4.1 g19 (c_X4_carryOutWhatMostHold _ _ _  e18) hz_ron rfl rfl (Nat.le_of_ble_eq_true rfl) (by decide) (kc := 8) (ks := 40) rfl rfl ⟨(by show cs + 0 + 0 + 0 + 9 + 8 ≤ 17; omega), (by show sl + 0 + 0 + 0 + 41 + 40 ≤ 81; omega)⟩ dX4_accept_67 ?_
        refine aw_iconst C dX4_accept_70 (v := (nI 1)) (by decide) ?_
        cases H
        exact aw_iret C (by show cs + 0 + 0 + 0 + 9 + 8 ≤ 17; omega) (by show sl + 0 + 0 + 0 + 41 + 40 ≤ 81; omega) dX4_accept_71
      · replace H := hz_if c36 H
        refine aw_iconst C dX4_accept_59 (v := (nI 3)) (by decide) ?_
        cases H
        exact aw_iret C (by show cs + 0 + 0 + 0 ≤ 17; omega) (by show sl + 0 + 0 + 0 ≤ 81; omega) dX4_accept_60
    · replace H := hz_if c35 H
      refine aw_aload_n C dX4_accept_20 rfl ?_
      obtain ⟨r20, e21, H⟩ := hz_bd H
      refine aw_gR (k := 2) C cl_4 (by decide) wd_216 e21 dX4_accept_21 ?_
      refine aw_aload_n C dX4_accept_24 rfl ?_
      obtain ⟨v22, e23, H⟩ := hz_bd H
      refine aw_gI (k := 0) C cl_4 (by decide) wd_214 e23 dX4_accept_25 ?_
      refine aw_iconst C dX4_accept_28 (v := (nI 1)) (by decide) ?_
      refine aw_aload_n C dX4_accept_29 rfl ?_
      obtain ⟨g26, H⟩ := hz_wn H
      obtain ⟨p24, e25, H⟩ := hz_bd H
      refine aw_V (As := []) (rest := [.int (nI 1), .int v22, va_rf r20]) C hy_X4_leader hv_X4_leader wd_304 cl_4.1 g26 (c_X4_leader _ _ _ _  e25) (hz_roi _) rfl rfl (Nat.le_of_ble_eq_true rfl) (by decide) (kc := 0) (ks := 0) rfl rfl ⟨(by show cs + 0 + 0 + 0 ≤ 17; omega), (by show sl + 0 + 0 + 0 ≤ 81; omega)⟩ dX4_accept_30 ?_
      refine aw_ishl C dX4_accept_33 ?_
      refine aw_iconst C dX4_accept_34 (v := (nI 1)) (by decide) ?_
      refine aw_iconst C dX4_accept_35 (v := (nI 0)) (by decide) ?_
      refine aw_iconst C dX4_accept_36 (v := (nI 0)) (by decide) ?_
      refine aw_iconst C dX4_accept_37 (v := (nI 1)) (by decide) ?_
      obtain ⟨h27, e28, H⟩ := hz_bd H
      refine aw_newa (t := 0) (cap := 1) C (by decide) rfl wd_172 e28 (by decide) (by show cs + 0 + 0 + 0 + 1 ≤ 17; omega) (by show sl + 0 + 0 + 0 + 1 ≤ 81; omega) dX4_accept_38 ?_
      refine aw_dup C dX4_accept_40 ?_
      refine aw_iconst C dX4_accept_41 (v := (nI 0)) (by decide) ?_
      refine aw_iload_n C dX4_accept_42 rfl ?_
      obtain ⟨h29, e30, H⟩ := hz_bd H
      refine aw_iast C e30 dX4_accept_43 ?_
      obtain ⟨g33, H⟩ := hz_wn H
      obtain ⟨p31, e32, H⟩ := hz_bd H
      refine aw_V (As := [.int v22, .int ((nI 1) <<< (p24.1 &&& 31)), .int (nI 1), .int (nI 0), .int (nI 0), va_rf (some (p24.2.1 + 1))]) (rest := []) C hy_X5_send hv_X5_send wd_311 cl_5.1 g33 (c_X5_send _ _ _ _ _ _ _ _ _  e32) hz_ron rfl rfl (Nat.le_of_ble_eq_true rfl) (by decide) (kc := 8) (ks := 40) rfl rfl ⟨(by show cs + 0 + 0 + 0 + 1 + 8 ≤ 17; omega), (by show sl + 0 + 0 + 0 + 1 + 40 ≤ 81; omega)⟩ dX4_accept_44 ?_
      refine aw_iconst C dX4_accept_47 (v := (nI 1)) (by decide) ?_
      cases H
      exact aw_iret C (by show cs + 0 + 0 + 0 + 1 + 8 ≤ 17; omega) (by show sl + 0 + 0 + 0 + 1 + 40 ≤ 81; omega) dX4_accept_48
  · replace H := hz_if c34 H
    refine aw_iconst C dX4_accept_7 (v := (nI 2)) (by decide) ?_
    cases H
    exact aw_iret C (by show cs + 0 ≤ 17; omega) (by show sl + 0 ≤ 81; omega) dX4_accept_8
theorem hy_X4_onPass : hz_Y yX4_onPass cX4_onPass 2 none 1 := ⟨wd_452, wd_62, by decide +kernel, by decide +kernel, by decide +kernel⟩
theorem hv_X4_onPass : hz_YV yX4_onPass := ⟨wd_451, wd_16⟩
def f_X4_onPass_45 (h : HP) : Option HP :=
  some h
def f_X4_onPass_32 (l0 : Option Nat) (h : HP) : Option HP :=
  (hz_gR h l0 4 3).bind fun r18 =>
  (hz_gI h r18 7 1).bind fun v20 =>
  (hz_pF h r18 7 1 (.int (v20 + (nI 1)))).bind fun h22 =>
  f_X4_onPass_45   h22
def f_X4_onPass (a0 : Option Nat) (a1 : Option Nat) (h : HP) : Option HP :=
  if hz_ob h a0 4 = true then
  (f_X4_leadsUnblocked a0 h).bind fun p1 =>
  if p1.1 = 0 then
    f_X4_onPass_32  a0 p1.2
  else
    (hz_gR p1.2 a0 4 4).bind fun r4 =>
    if hz_ob p1.2 r4 6 = true then
    (f_X6_isFull r4 p1.2).bind fun p6 =>
    if p6.1 = 0 then
      if hz_ob p6.2 a1 2 = true then
      (f_X2_firstAct a1 p6.2).bind fun p9 =>
      if hz_ob p9.2 a0 4 = true then
      (f_X4_putInOrder a0 p9.1 p9.2).bind fun p12 =>
      if hz_ob p12 a0 4 = true then
      (f_X4_carryOutWhatMostHold a0 p12).bind fun p15 =>
      f_X4_onPass_45   p15
      else none
      else none
      else none
    else
      f_X4_onPass_32  a0 p6.2
    else none
  else none
abbrev rm_X4_onPass : Room := { frames := 4, cells := 17, slots := 81, locals := 114 }
set_option maxRecDepth 100000 in
set_option maxHeartbeats 4000000 in
theorem k_X4_onPass_45 {G : GX} {h' : HP} (hn : G.2.2.2.2.2.2.2.2.2.2.2.2 = 2) (C : Cx G cX4_onPass RX4 "onPass" none rm_X4_onPass none h') {cs sl : Nat} (h : HP) (H : f_X4_onPass_45   h = some h') (hcs : cs + 0 ≤ 17) (hsl : sl + 0 ≤ 81) : aw G 45 [none, none] [] h cs sl := by
  unfold f_X4_onPass_45 at H
  cases H
  exact aw_vret C (by show cs ≤ 17; omega) (by show sl ≤ 81; omega) dX4_onPass_45
set_option maxRecDepth 100000 in
set_option maxHeartbeats 4000000 in
theorem k_X4_onPass_32 {G : GX} {h' : HP} (hn : G.2.2.2.2.2.2.2.2.2.2.2.2 = 2) (C : Cx G cX4_onPass RX4 "onPass" none rm_X4_onPass none h') {cs sl : Nat} (l0 : Option Nat) (h : HP) (H : f_X4_onPass_32  l0 h = some h') (hcs : cs + 0 ≤ 17) (hsl : sl + 0 ≤ 81) : aw G 32 [some (va_rf l0), none] [] h cs sl := by
  unfold f_X4_onPass_32 at H
  refine aw_aload_n C dX4_onPass_32 rfl ?_
  obtain ⟨r18, e19, H⟩ := hz_bd H
  refine aw_gR (k := 3) C cl_4 (by decide) wd_217 e19 dX4_onPass_33 ?_
  refine aw_dup C dX4_onPass_36 ?_
  obtain ⟨v20, e21, H⟩ := hz_bd H
  refine aw_gI (k := 1) C cl_7 (by decide) wd_91 e21 dX4_onPass_37 ?_
  refine aw_iconst C dX4_onPass_40 (v := (nI 1)) (by decide) ?_
  refine aw_iadd C dX4_onPass_41 ?_
  obtain ⟨h22, e23, H⟩ := hz_bd H
  refine aw_pF (k := 1) C cl_7 (by decide) rfl wd_91 (hz_fiti _) e23 dX4_onPass_42 ?_
  exact aw_loc (hz_sub_n (hz_sub_n hz_sub_0)) (k_X4_onPass_45 (cs := cs) (sl := sl) hn C  _ H (by omega) (by omega))
set_option maxRecDepth 100000 in
set_option maxHeartbeats 4000000 in
theorem c_X4_onPass {l : Launch} (a0 : Option Nat) (a1 : Option Nat) (h : HP) (h' : HP) (H : f_X4_onPass a0 a1 h = some h') : Ct l yX4_onPass cX4_onPass 2 none rm_X4_onPass [va_rf a0, va_rf a1] none h h' := by
  refine Ct.of (plainFor_of_name (by decide)) (hz_s1c (hz_s1c hz_s1n (hz_cr _)) (hz_cr _)) (Nat.le_of_ble_eq_true rfl) (fun G hl hn C0 => ?_)
  have C : Cx G cX4_onPass RX4 "onPass" none rm_X4_onPass none h' := C0
  subst hl
  show aw G 0 [some (va_rf a0), some (va_rf a1)] [] h 0 0
  unfold f_X4_onPass at H
  obtain ⟨cs, hcs⟩ : ∃ k : Nat, k = 0 := ⟨0, rfl⟩
  obtain ⟨sl, hsl⟩ : ∃ k : Nat, k = 0 := ⟨0, rfl⟩
  suffices hh : aw G 0 [some (va_rf a0), some (va_rf a1)] [] h cs sl by rw [hcs, hsl] at hh; exact hh
  refine aw_aload_n C dX4_onPass_0 rfl ?_
  obtain ⟨g3, H⟩ := hz_wn H
  obtain ⟨p1, e2, H⟩ := hz_bd H
  refine aw_V (As := []) (rest := []) C hy_X4_leadsUnblocked hv_X4_leadsUnblocked wd_453 cl_4.1 g3 (c_X4_leadsUnblocked _ _ _ _  e2) (hz_roi _) rfl rfl (Nat.le_of_ble_eq_true rfl) (by decide) (kc := 0) (ks := 0) rfl rfl ⟨(by show cs + 0 ≤ 17; omega), (by show sl + 0 ≤ 81; omega)⟩ dX4_onPass_1 ?_
  refine aw_if_eq (tgt := 32) C dX4_onPass_4 (by decide) (fun c24 => ?_) (fun c24 => ?_)
  · replace H := hz_it c24 H
    exact aw_loc (hz_sub_s (hz_sub_n hz_sub_0)) (k_X4_onPass_32 (cs := cs + 0) (sl := sl + 0) hn C  _ _ H (by omega) (by omega))
  · replace H := hz_if c24 H
    refine aw_aload_n C dX4_onPass_7 rfl ?_
    obtain ⟨r4, e5, H⟩ := hz_bd H
    refine aw_gR (k := 4) C cl_4 (by decide) wd_218 e5 dX4_onPass_8 ?_
    obtain ⟨g8, H⟩ := hz_wn H
    obtain ⟨p6, e7, H⟩ := hz_bd H
    refine aw_V (As := []) (rest := []) C hy_X6_isFull hv_X6_isFull wd_351 cl_6.1 g8 (c_X6_isFull _ _ _ _  e7) (hz_roi _) rfl rfl (Nat.le_of_ble_eq_true rfl) (by decide) (kc := 0) (ks := 0) rfl rfl ⟨(by show cs + 0 + 0 ≤ 17; omega), (by show sl + 0 + 0 ≤ 81; omega)⟩ dX4_onPass_11 ?_
    refine aw_if_ne (tgt := 32) C dX4_onPass_14 (by decide) (fun c25 => ?_) (fun c25 => ?_)
    · replace H := hz_if c25 H
      exact aw_loc (hz_sub_s (hz_sub_n hz_sub_0)) (k_X4_onPass_32 (cs := cs + 0 + 0) (sl := sl + 0 + 0) hn C  _ _ H (by omega) (by omega))
    · replace H := hz_it c25 H
      refine aw_aload_n C dX4_onPass_17 rfl ?_
      refine aw_aload_n C dX4_onPass_18 rfl ?_
      obtain ⟨g11, H⟩ := hz_wn H
      obtain ⟨p9, e10, H⟩ := hz_bd H
      refine aw_V (As := []) (rest := [va_rf a0]) C hy_X2_firstAct hv_X2_firstAct wd_457 cl_2.1 g11 (c_X2_firstAct _ _ _ _  e10) (hz_roi _) rfl rfl (Nat.le_of_ble_eq_true rfl) (by decide) (kc := 0) (ks := 0) rfl rfl ⟨(by show cs + 0 + 0 + 0 ≤ 17; omega), (by show sl + 0 + 0 + 0 ≤ 81; omega)⟩ dX4_onPass_19 ?_
      obtain ⟨g14, H⟩ := hz_wn H
      obtain ⟨p12, e13, H⟩ := hz_bd H
      refine aw_V (As := [.int p9.1]) (rest := []) C hy_X4_putInOrder hv_X4_putInOrder wd_355 cl_4.1 g14 (c_X4_putInOrder _ _ _ _  e13) hz_ron rfl rfl (Nat.le_of_ble_eq_true rfl) (by decide) (kc := 9) (ks := 41) rfl rfl ⟨(by show cs + 0 + 0 + 0 + 9 ≤ 17; omega), (by show sl + 0 + 0 + 0 + 41 ≤ 81; omega)⟩ dX4_onPass_22 ?_
      refine aw_aload_n C dX4_onPass_25 rfl ?_
      obtain ⟨g17, H⟩ := hz_wn H
      obtain ⟨p15, e16, H⟩ := hz_bd H
      refine aw_V (As := []) (rest := []) C hy_X4_carryOutWhatMostHold hv_X4_carryOutWhatMostHold wd_371 cl_4.1 g17 (c_X4_carryOutWhatMostHold _ _ _  e16) hz_ron rfl rfl (Nat.le_of_ble_eq_true rfl) (by decide) (kc := 8) (ks := 40) rfl rfl ⟨(by show cs + 0 + 0 + 0 + 9 + 8 ≤ 17; omega), (by show sl + 0 + 0 + 0 + 41 + 40 ≤ 81; omega)⟩ dX4_onPass_26 ?_
      refine aw_goto (tgt := 45) C dX4_onPass_29 (by decide) ?_
      exact aw_loc (hz_sub_n (hz_sub_n hz_sub_0)) (k_X4_onPass_45 (cs := cs + 0 + 0 + 0 + 9 + 8) (sl := sl + 0 + 0 + 0 + 41 + 40) hn C  _ H (by omega) (by omega))
theorem hy_X4_onOrder : hz_Y yX4_onOrder cX4_onOrder 4 none 2 := ⟨wd_464, wd_62, by decide +kernel, by decide +kernel, by decide +kernel⟩
theorem hv_X4_onOrder : hz_YV yX4_onOrder := ⟨wd_463, wd_18⟩
def f_X4_onOrder_80 (h : HP) : Option HP :=
  some h
def f_X4_onOrder_29 (l0 : Option Nat) (l1 : Int32) (l2 : Option Nat) (s0 : Int32) (h : HP) : Option HP :=
  (hz_gI h l2 2 1).bind fun v12 =>
  (hz_gI h l0 4 10).bind fun v14 =>
  if v12 = v14 then
    if hz_ob h l0 4 = true then
    (f_X4_isBlocked l0 h).bind fun p16 =>
    if p16.1 = 0 then
      if s0 = 0 then
        f_X4_onOrder_80   p16.2
      else
        (hz_gR p16.2 l0 4 4).bind fun r19 =>
        if hz_ob p16.2 l2 2 = true then
        (f_X2_firstAct l2 p16.2).bind fun p21 =>
        if hz_ob p21.2 r19 6 = true then
        (f_X6_add r19 p21.1 p21.2).bind fun p24 =>
        (hz_gI p24 l0 4 10).bind fun v27 =>
        (hz_gR p24 l0 4 4).bind fun r29 =>
        (hz_gI p24 r29 6 1).bind fun v31 =>
        if hz_ob p24 l0 4 = true then
        (f_X4_reply l0 l1 (nI 3) v27 v31 p24).bind fun p33 =>
        f_X4_onOrder_80   p33
        else none
        else none
        else none
    else
      f_X4_onOrder_80   p16.2
    else none
  else
    f_X4_onOrder_80   h
def f_X4_onOrder_28 (l0 : Option Nat) (l1 : Int32) (l2 : Option Nat) (h : HP) : Option HP :=
  f_X4_onOrder_29  l0 l1 l2 (nI 0) h
def f_X4_onOrder (a0 : Option Nat) (a1 : Int32) (a2 : Option Nat) (h : HP) : Option HP :=
  (hz_gR h a0 4 4).bind fun r1 =>
  (hz_gI h r1 6 1).bind fun v3 =>
  (hz_gI h a2 2 2).bind fun v5 =>
  if v3 = v5 then
    (hz_gR h a0 4 4).bind fun r7 =>
    if hz_ob h r7 6 = true then
    (f_X6_isFull r7 h).bind fun p9 =>
    if p9.1 = 0 then
      f_X4_onOrder_29  a0 a1 a2 (nI 1) p9.2
    else
      f_X4_onOrder_28  a0 a1 a2 p9.2
    else none
  else
    f_X4_onOrder_28  a0 a1 a2 h
abbrev rm_X4_onOrder : Room := { frames := 4, cells := 8, slots := 40, locals := 116 }
set_option maxRecDepth 100000 in
set_option maxHeartbeats 4000000 in
theorem k_X4_onOrder_80 {G : GX} {h' : HP} (hn : G.2.2.2.2.2.2.2.2.2.2.2.2 = 4) (C : Cx G cX4_onOrder RX4 "onOrder" none rm_X4_onOrder none h') {cs sl : Nat} (h : HP) (H : f_X4_onOrder_80   h = some h') (hcs : cs + 0 ≤ 8) (hsl : sl + 0 ≤ 40) : aw G 80 [none, none, none, none] [] h cs sl := by
  unfold f_X4_onOrder_80 at H
  cases H
  exact aw_vret C (by show cs ≤ 8; omega) (by show sl ≤ 40; omega) dX4_onOrder_80
set_option maxRecDepth 100000 in
set_option maxHeartbeats 4000000 in
theorem k_X4_onOrder_29 {G : GX} {h' : HP} (hn : G.2.2.2.2.2.2.2.2.2.2.2.2 = 4) (C : Cx G cX4_onOrder RX4 "onOrder" none rm_X4_onOrder none h') {cs sl : Nat} (l0 : Option Nat) (l1 : Int32) (l2 : Option Nat) (s0 : Int32) (h : HP) (H : f_X4_onOrder_29  l0 l1 l2 s0 h = some h') (hcs : cs + 8 ≤ 8) (hsl : sl + 40 ≤ 40) : aw G 29 [some (va_rf l0), some (.int l1), some (va_rf l2), none] [.int s0] h cs sl := by
  unfold f_X4_onOrder_29 at H
  refine aw_istore_n C dX4_onOrder_29 (by rw [hn]; decide) rfl ?_
  refine aw_aload_n C dX4_onOrder_30 rfl ?_
  obtain ⟨v12, e13, H⟩ := hz_bd H
  refine aw_gI (k := 1) C cl_2 (by decide) wd_330 e13 dX4_onOrder_31 ?_
  refine aw_aload_n C dX4_onOrder_34 rfl ?_
  obtain ⟨v14, e15, H⟩ := hz_bd H
  refine aw_gI (k := 10) C cl_4 (by decide) wd_228 e15 dX4_onOrder_35 ?_
  refine aw_icmp_ne (tgt := 80) C dX4_onOrder_38 (by decide) (fun c36 => ?_) (fun c36 => ?_)
  · replace H := hz_if c36 H
    exact aw_loc (hz_sub_n (hz_sub_n (hz_sub_n (hz_sub_n hz_sub_0)))) (k_X4_onOrder_80 (cs := cs) (sl := sl) hn C  _ H (by omega) (by omega))
  · replace H := hz_it c36 H
    refine aw_aload_n C dX4_onOrder_41 rfl ?_
    obtain ⟨g18, H⟩ := hz_wn H
    obtain ⟨p16, e17, H⟩ := hz_bd H
    refine aw_V (As := []) (rest := []) C hy_X4_isBlocked hv_X4_isBlocked wd_300 cl_4.1 g18 (c_X4_isBlocked _ _ _ _  e17) (hz_roi _) rfl rfl (Nat.le_of_ble_eq_true rfl) (by decide) (kc := 0) (ks := 0) rfl rfl ⟨(by show cs + 0 ≤ 8; omega), (by show sl + 0 ≤ 40; omega)⟩ dX4_onOrder_42 ?_
    refine aw_if_ne (tgt := 80) C dX4_onOrder_45 (by decide) (fun c37 => ?_) (fun c37 => ?_)
    · replace H := hz_if c37 H
      exact aw_loc (hz_sub_n (hz_sub_n (hz_sub_n (hz_sub_n hz_sub_0)))) (k_X4_onOrder_80 (cs := cs + 0) (sl := sl + 0) hn C  _ H (by omega) (by omega))
    · replace H := hz_it c37 H
      refine aw_iload_n C dX4_onOrder_48 rfl ?_
      refine aw_if_eq (tgt := 80) C dX4_onOrder_49 (by decide) (fun c38 => ?_) (fun c38 => ?_)
      · replace H := hz_it c38 H
        exact aw_loc (hz_sub_n (hz_sub_n (hz_sub_n (hz_sub_n hz_sub_0)))) (k_X4_onOrder_80 (cs := cs + 0) (sl := sl + 0) hn C  _ H (by omega) (by omega))
      · replace H := hz_if c38 H
        refine aw_aload_n C dX4_onOrder_52 rfl ?_
        obtain ⟨r19, e20, H⟩ := hz_bd H
        refine aw_gR (k := 4) C cl_4 (by decide) wd_218 e20 dX4_onOrder_53 ?_
        refine aw_aload_n C dX4_onOrder_56 rfl ?_
        obtain ⟨g23, H⟩ := hz_wn H
        obtain ⟨p21, e22, H⟩ := hz_bd H
        refine aw_V (As := []) (rest := [va_rf r19]) C hy_X2_firstAct hv_X2_firstAct wd_457 cl_2.1 g23 (c_X2_firstAct _ _ _ _  e22) (hz_roi _) rfl rfl (Nat.le_of_ble_eq_true rfl) (by decide) (kc := 0) (ks := 0) rfl rfl ⟨(by show cs + 0 + 0 ≤ 8; omega), (by show sl + 0 + 0 ≤ 40; omega)⟩ dX4_onOrder_57 ?_
        obtain ⟨g26, H⟩ := hz_wn H
        obtain ⟨p24, e25, H⟩ := hz_bd H
        refine aw_V (As := [.int p21.1]) (rest := []) C hy_X6_add hv_X6_add wd_359 cl_6.1 g26 (c_X6_add _ _ _ _  e25) hz_ron rfl rfl (Nat.le_of_ble_eq_true rfl) (by decide) (kc := 0) (ks := 0) rfl rfl ⟨(by show cs + 0 + 0 + 0 ≤ 8; omega), (by show sl + 0 + 0 + 0 ≤ 40; omega)⟩ dX4_onOrder_60 ?_
        refine aw_aload_n C dX4_onOrder_63 rfl ?_
        refine aw_iload_n C dX4_onOrder_64 rfl ?_
        refine aw_iconst C dX4_onOrder_65 (v := (nI 3)) (by decide) ?_
        refine aw_aload_n C dX4_onOrder_66 rfl ?_
        obtain ⟨v27, e28, H⟩ := hz_bd H
        refine aw_gI (k := 10) C cl_4 (by decide) wd_228 e28 dX4_onOrder_67 ?_
        refine aw_aload_n C dX4_onOrder_70 rfl ?_
        obtain ⟨r29, e30, H⟩ := hz_bd H
        refine aw_gR (k := 4) C cl_4 (by decide) wd_218 e30 dX4_onOrder_71 ?_
        obtain ⟨v31, e32, H⟩ := hz_bd H
        refine aw_gI (k := 1) C cl_6 (by decide) wd_165 e32 dX4_onOrder_74 ?_
        obtain ⟨g35, H⟩ := hz_wn H
        obtain ⟨p33, e34, H⟩ := hz_bd H
        refine aw_V (As := [.int l1, .int (nI 3), .int v27, .int v31]) (rest := []) C hy_X4_reply hv_X4_reply wd_465 cl_4.1 g35 (c_X4_reply _ _ _ _ _ _ _  e34) hz_ron rfl rfl (Nat.le_of_ble_eq_true rfl) (by decide) (kc := 8) (ks := 40) rfl rfl ⟨(by show cs + 0 + 0 + 0 + 8 ≤ 8; omega), (by show sl + 0 + 0 + 0 + 40 ≤ 40; omega)⟩ dX4_onOrder_77 ?_
        exact aw_loc (hz_sub_n (hz_sub_n (hz_sub_n (hz_sub_n hz_sub_0)))) (k_X4_onOrder_80 (cs := cs + 0 + 0 + 0 + 8) (sl := sl + 0 + 0 + 0 + 40) hn C  _ H (by omega) (by omega))
set_option maxRecDepth 100000 in
set_option maxHeartbeats 4000000 in
theorem k_X4_onOrder_28 {G : GX} {h' : HP} (hn : G.2.2.2.2.2.2.2.2.2.2.2.2 = 4) (C : Cx G cX4_onOrder RX4 "onOrder" none rm_X4_onOrder none h') {cs sl : Nat} (l0 : Option Nat) (l1 : Int32) (l2 : Option Nat) (h : HP) (H : f_X4_onOrder_28  l0 l1 l2 h = some h') (hcs : cs + 8 ≤ 8) (hsl : sl + 40 ≤ 40) : aw G 28 [some (va_rf l0), some (.int l1), some (va_rf l2), none] [] h cs sl := by
  unfold f_X4_onOrder_28 at H
  refine aw_iconst C dX4_onOrder_28 (v := (nI 0)) (by decide) ?_
  exact k_X4_onOrder_29 (cs := cs) (sl := sl) hn C  _ _ _ _ _ H (by omega) (by omega)
set_option maxRecDepth 100000 in
set_option maxHeartbeats 4000000 in
theorem c_X4_onOrder {l : Launch} (a0 : Option Nat) (a1 : Int32) (a2 : Option Nat) (h : HP) (h' : HP) (H : f_X4_onOrder a0 a1 a2 h = some h') : Ct l yX4_onOrder cX4_onOrder 4 none rm_X4_onOrder [va_rf a0, .int a1, va_rf a2] none h h' := by
  refine Ct.of (plainFor_of_name (by decide)) (hz_s1c (hz_s1c (hz_s1c hz_s1n (hz_cr _)) rfl) (hz_cr _)) (Nat.le_of_ble_eq_true rfl) (fun G hl hn C0 => ?_)
  have C : Cx G cX4_onOrder RX4 "onOrder" none rm_X4_onOrder none h' := C0
  subst hl
  show aw G 0 [some (va_rf a0), some (.int a1), some (va_rf a2), none] [] h 0 0
  unfold f_X4_onOrder at H
  obtain ⟨cs, hcs⟩ : ∃ k : Nat, k = 0 := ⟨0, rfl⟩
  obtain ⟨sl, hsl⟩ : ∃ k : Nat, k = 0 := ⟨0, rfl⟩
  suffices hh : aw G 0 [some (va_rf a0), some (.int a1), some (va_rf a2), none] [] h cs sl by rw [hcs, hsl] at hh; exact hh
  refine aw_aload_n C dX4_onOrder_0 rfl ?_
  obtain ⟨r1, e2, H⟩ := hz_bd H
  refine aw_gR (k := 4) C cl_4 (by decide) wd_218 e2 dX4_onOrder_1 ?_
  obtain ⟨v3, e4, H⟩ := hz_bd H
  refine aw_gI (k := 1) C cl_6 (by decide) wd_165 e4 dX4_onOrder_4 ?_
  refine aw_aload_n C dX4_onOrder_7 rfl ?_
  obtain ⟨v5, e6, H⟩ := hz_bd H
  refine aw_gI (k := 2) C cl_2 (by decide) wd_332 e6 dX4_onOrder_8 ?_
  refine aw_icmp_ne (tgt := 28) C dX4_onOrder_11 (by decide) (fun c39 => ?_) (fun c39 => ?_)
  · replace H := hz_if c39 H
    exact k_X4_onOrder_28 (cs := cs) (sl := sl) hn C  _ _ _ _ H (by omega) (by omega)
  · replace H := hz_it c39 H
    refine aw_aload_n C dX4_onOrder_14 rfl ?_
    obtain ⟨r7, e8, H⟩ := hz_bd H
    refine aw_gR (k := 4) C cl_4 (by decide) wd_218 e8 dX4_onOrder_15 ?_
    obtain ⟨g11, H⟩ := hz_wn H
    obtain ⟨p9, e10, H⟩ := hz_bd H
    refine aw_V (As := []) (rest := []) C hy_X6_isFull hv_X6_isFull wd_351 cl_6.1 g11 (c_X6_isFull _ _ _ _  e10) (hz_roi _) rfl rfl (Nat.le_of_ble_eq_true rfl) (by decide) (kc := 0) (ks := 0) rfl rfl ⟨(by show cs + 0 ≤ 8; omega), (by show sl + 0 ≤ 40; omega)⟩ dX4_onOrder_18 ?_
    refine aw_if_ne (tgt := 28) C dX4_onOrder_21 (by decide) (fun c40 => ?_) (fun c40 => ?_)
    · replace H := hz_if c40 H
      exact k_X4_onOrder_28 (cs := cs + 0) (sl := sl + 0) hn C  _ _ _ _ H (by omega) (by omega)
    · replace H := hz_it c40 H
      refine aw_iconst C dX4_onOrder_24 (v := (nI 1)) (by decide) ?_
      refine aw_goto (tgt := 29) C dX4_onOrder_25 (by decide) ?_
      exact k_X4_onOrder_29 (cs := cs + 0) (sl := sl + 0) hn C  _ _ _ _ _ H (by omega) (by omega)
theorem hy_X4_onHeld : hz_Y yX4_onHeld cX4_onHeld 4 none 2 := ⟨wd_472, wd_62, by decide +kernel, by decide +kernel, by decide +kernel⟩
theorem hv_X4_onHeld : hz_YV yX4_onHeld := ⟨wd_471, wd_20⟩
def f_X4_onHeld_64 (h : HP) : Option HP :=
  some h
def f_X4_onHeld_18 (l0 : Option Nat) (l1 : Int32) (l2 : Option Nat) (s0 : Int32) (h : HP) : Option HP :=
  (hz_gI h l2 2 1).bind fun v5 =>
  (hz_gI h l0 4 10).bind fun v7 =>
  if v5 = v7 then
    if hz_ob h l0 4 = true then
    (f_X4_leadsUnblocked l0 h).bind fun p9 =>
    if p9.1 = 0 then
      f_X4_onHeld_64   p9.2
    else
      if s0 = 0 then
        f_X4_onHeld_64   p9.2
      else
        (hz_gR p9.2 l0 4 7).bind fun r12 =>
        (hz_gR p9.2 l0 4 7).bind fun r14 =>
        (hz_aI p9.2 r14 0 l1).bind fun v16 =>
        (hz_gI p9.2 l2 2 2).bind fun v18 =>
        (f_J9_max_7cf53 v16 v18 p9.2).bind fun p20 =>
        (hz_aS p20.2 r12 0 l1 p20.1).bind fun h22 =>
        if hz_ob h22 l0 4 = true then
        (f_X4_carryOutWhatMostHold l0 h22).bind fun p24 =>
        f_X4_onHeld_64   p24
        else none
    else none
  else
    f_X4_onHeld_64   h
def f_X4_onHeld_17 (l0 : Option Nat) (l1 : Int32) (l2 : Option Nat) (h : HP) : Option HP :=
  f_X4_onHeld_18  l0 l1 l2 (nI 0) h
def f_X4_onHeld (a0 : Option Nat) (a1 : Int32) (a2 : Option Nat) (h : HP) : Option HP :=
  if a1 < 0 then
    f_X4_onHeld_17  a0 a1 a2 h
  else
    (hz_gR h a0 4 7).bind fun r1 =>
    (hz_aL h r1).bind fun v3 =>
    if v3 ≤ a1 then
      f_X4_onHeld_17  a0 a1 a2 h
    else
      f_X4_onHeld_18  a0 a1 a2 (nI 1) h
abbrev rm_X4_onHeld : Room := { frames := 4, cells := 8, slots := 40, locals := 113 }
set_option maxRecDepth 100000 in
set_option maxHeartbeats 4000000 in
theorem k_X4_onHeld_64 {G : GX} {h' : HP} (hn : G.2.2.2.2.2.2.2.2.2.2.2.2 = 4) (C : Cx G cX4_onHeld RX4 "onHeld" none rm_X4_onHeld none h') {cs sl : Nat} (h : HP) (H : f_X4_onHeld_64   h = some h') (hcs : cs + 0 ≤ 8) (hsl : sl + 0 ≤ 40) : aw G 64 [none, none, none, none] [] h cs sl := by
  unfold f_X4_onHeld_64 at H
  cases H
  exact aw_vret C (by show cs ≤ 8; omega) (by show sl ≤ 40; omega) dX4_onHeld_64
set_option maxRecDepth 100000 in
set_option maxHeartbeats 4000000 in
theorem k_X4_onHeld_18 {G : GX} {h' : HP} (hn : G.2.2.2.2.2.2.2.2.2.2.2.2 = 4) (C : Cx G cX4_onHeld RX4 "onHeld" none rm_X4_onHeld none h') {cs sl : Nat} (l0 : Option Nat) (l1 : Int32) (l2 : Option Nat) (s0 : Int32) (h : HP) (H : f_X4_onHeld_18  l0 l1 l2 s0 h = some h') (hcs : cs + 8 ≤ 8) (hsl : sl + 40 ≤ 40) : aw G 18 [some (va_rf l0), some (.int l1), some (va_rf l2), none] [.int s0] h cs sl := by
  unfold f_X4_onHeld_18 at H
  refine aw_istore_n C dX4_onHeld_18 (by rw [hn]; decide) rfl ?_
  refine aw_aload_n C dX4_onHeld_19 rfl ?_
  obtain ⟨v5, e6, H⟩ := hz_bd H
  refine aw_gI (k := 1) C cl_2 (by decide) wd_330 e6 dX4_onHeld_20 ?_
  refine aw_aload_n C dX4_onHeld_23 rfl ?_
  obtain ⟨v7, e8, H⟩ := hz_bd H
  refine aw_gI (k := 10) C cl_4 (by decide) wd_228 e8 dX4_onHeld_24 ?_
  refine aw_icmp_ne (tgt := 64) C dX4_onHeld_27 (by decide) (fun c27 => ?_) (fun c27 => ?_)
  · replace H := hz_if c27 H
    exact aw_loc (hz_sub_n (hz_sub_n (hz_sub_n (hz_sub_n hz_sub_0)))) (k_X4_onHeld_64 (cs := cs) (sl := sl) hn C  _ H (by omega) (by omega))
  · replace H := hz_it c27 H
    refine aw_aload_n C dX4_onHeld_30 rfl ?_
    obtain ⟨g11, H⟩ := hz_wn H
    obtain ⟨p9, e10, H⟩ := hz_bd H
    refine aw_V (As := []) (rest := []) C hy_X4_leadsUnblocked hv_X4_leadsUnblocked wd_453 cl_4.1 g11 (c_X4_leadsUnblocked _ _ _ _  e10) (hz_roi _) rfl rfl (Nat.le_of_ble_eq_true rfl) (by decide) (kc := 0) (ks := 0) rfl rfl ⟨(by show cs + 0 ≤ 8; omega), (by show sl + 0 ≤ 40; omega)⟩ dX4_onHeld_31 ?_
    refine aw_if_eq (tgt := 64) C dX4_onHeld_34 (by decide) (fun c28 => ?_) (fun c28 => ?_)
    · replace H := hz_it c28 H
      exact aw_loc (hz_sub_n (hz_sub_n (hz_sub_n (hz_sub_n hz_sub_0)))) (k_X4_onHeld_64 (cs := cs + 0) (sl := sl + 0) hn C  _ H (by omega) (by omega))
    · replace H := hz_if c28 H
      refine aw_iload_n C dX4_onHeld_37 rfl ?_
      refine aw_if_eq (tgt := 64) C dX4_onHeld_38 (by decide) (fun c29 => ?_) (fun c29 => ?_)
      · replace H := hz_it c29 H
        exact aw_loc (hz_sub_n (hz_sub_n (hz_sub_n (hz_sub_n hz_sub_0)))) (k_X4_onHeld_64 (cs := cs + 0) (sl := sl + 0) hn C  _ H (by omega) (by omega))
      · replace H := hz_if c29 H
        refine aw_aload_n C dX4_onHeld_41 rfl ?_
        obtain ⟨r12, e13, H⟩ := hz_bd H
        refine aw_gR (k := 7) C cl_4 (by decide) wd_223 e13 dX4_onHeld_42 ?_
        refine aw_iload_n C dX4_onHeld_45 rfl ?_
        refine aw_aload_n C dX4_onHeld_46 rfl ?_
        obtain ⟨r14, e15, H⟩ := hz_bd H
        refine aw_gR (k := 7) C cl_4 (by decide) wd_223 e15 dX4_onHeld_47 ?_
        refine aw_iload_n C dX4_onHeld_50 rfl ?_
        obtain ⟨v16, e17, H⟩ := hz_bd H
        refine aw_iald C e17 dX4_onHeld_51 ?_
        refine aw_aload_n C dX4_onHeld_52 rfl ?_
        obtain ⟨v18, e19, H⟩ := hz_bd H
        refine aw_gI (k := 2) C cl_2 (by decide) wd_332 e19 dX4_onHeld_53 ?_
        obtain ⟨p20, e21, H⟩ := hz_bd H
        refine aw_S (As := [.int v16, .int v18]) (rest := [.int l1, va_rf r12]) C hy_J9_max_7cf53 wd_429 wd_428 (c_J9_max_7cf53 _ _ _ _ _  e21) (hz_roi _) rfl rfl (Nat.le_of_ble_eq_true rfl) (by decide) (kc := 0) (ks := 0) rfl rfl ⟨(by show cs + 0 + 0 ≤ 8; omega), (by show sl + 0 + 0 ≤ 40; omega)⟩ dX4_onHeld_56 ?_
        obtain ⟨h22, e23, H⟩ := hz_bd H
        refine aw_iast C e23 dX4_onHeld_59 ?_
        refine aw_aload_n C dX4_onHeld_60 rfl ?_
        obtain ⟨g26, H⟩ := hz_wn H
        obtain ⟨p24, e25, H⟩ := hz_bd H
        refine aw_V (As := []) (rest := []) C hy_X4_carryOutWhatMostHold hv_X4_carryOutWhatMostHold wd_371 cl_4.1 g26 (c_X4_carryOutWhatMostHold _ _ _  e25) hz_ron rfl rfl (Nat.le_of_ble_eq_true rfl) (by decide) (kc := 8) (ks := 40) rfl rfl ⟨(by show cs + 0 + 0 + 8 ≤ 8; omega), (by show sl + 0 + 0 + 40 ≤ 40; omega)⟩ dX4_onHeld_61 ?_
        exact aw_loc (hz_sub_n (hz_sub_n (hz_sub_n (hz_sub_n hz_sub_0)))) (k_X4_onHeld_64 (cs := cs + 0 + 0 + 8) (sl := sl + 0 + 0 + 40) hn C  _ H (by omega) (by omega))
set_option maxRecDepth 100000 in
set_option maxHeartbeats 4000000 in
theorem k_X4_onHeld_17 {G : GX} {h' : HP} (hn : G.2.2.2.2.2.2.2.2.2.2.2.2 = 4) (C : Cx G cX4_onHeld RX4 "onHeld" none rm_X4_onHeld none h') {cs sl : Nat} (l0 : Option Nat) (l1 : Int32) (l2 : Option Nat) (h : HP) (H : f_X4_onHeld_17  l0 l1 l2 h = some h') (hcs : cs + 8 ≤ 8) (hsl : sl + 40 ≤ 40) : aw G 17 [some (va_rf l0), some (.int l1), some (va_rf l2), none] [] h cs sl := by
  unfold f_X4_onHeld_17 at H
  refine aw_iconst C dX4_onHeld_17 (v := (nI 0)) (by decide) ?_
  exact k_X4_onHeld_18 (cs := cs) (sl := sl) hn C  _ _ _ _ _ H (by omega) (by omega)
set_option maxRecDepth 100000 in
set_option maxHeartbeats 4000000 in
theorem c_X4_onHeld {l : Launch} (a0 : Option Nat) (a1 : Int32) (a2 : Option Nat) (h : HP) (h' : HP) (H : f_X4_onHeld a0 a1 a2 h = some h') : Ct l yX4_onHeld cX4_onHeld 4 none rm_X4_onHeld [va_rf a0, .int a1, va_rf a2] none h h' := by
  refine Ct.of (plainFor_of_name (by decide)) (hz_s1c (hz_s1c (hz_s1c hz_s1n (hz_cr _)) rfl) (hz_cr _)) (Nat.le_of_ble_eq_true rfl) (fun G hl hn C0 => ?_)
  have C : Cx G cX4_onHeld RX4 "onHeld" none rm_X4_onHeld none h' := C0
  subst hl
  show aw G 0 [some (va_rf a0), some (.int a1), some (va_rf a2), none] [] h 0 0
  unfold f_X4_onHeld at H
  obtain ⟨cs, hcs⟩ : ∃ k : Nat, k = 0 := ⟨0, rfl⟩
  obtain ⟨sl, hsl⟩ : ∃ k : Nat, k = 0 := ⟨0, rfl⟩
  suffices hh : aw G 0 [some (va_rf a0), some (.int a1), some (va_rf a2), none] [] h cs sl by rw [hcs, hsl] at hh; exact hh
  refine aw_iload_n C dX4_onHeld_0 rfl ?_
  refine aw_if_lt (tgt := 17) C dX4_onHeld_1 (by decide) (fun c30 => ?_) (fun c30 => ?_)
  · replace H := hz_it c30 H
    exact k_X4_onHeld_17 (cs := cs) (sl := sl) hn C  _ _ _ _ H (by omega) (by omega)
  · replace H := hz_if c30 H
    refine aw_iload_n C dX4_onHeld_4 rfl ?_
    refine aw_aload_n C dX4_onHeld_5 rfl ?_
    obtain ⟨r1, e2, H⟩ := hz_bd H
    refine aw_gR (k := 7) C cl_4 (by decide) wd_223 e2 dX4_onHeld_6 ?_
    obtain ⟨v3, e4, H⟩ := hz_bd H
    refine aw_alen C e4 dX4_onHeld_9 ?_
    refine aw_icmp_ge (tgt := 17) C dX4_onHeld_10 (by decide) (fun c31 => ?_) (fun c31 => ?_)
    · replace H := hz_it c31 H
      exact k_X4_onHeld_17 (cs := cs) (sl := sl) hn C  _ _ _ _ H (by omega) (by omega)
    · replace H := hz_if c31 H
      refine aw_iconst C dX4_onHeld_13 (v := (nI 1)) (by decide) ?_
      refine aw_goto (tgt := 18) C dX4_onHeld_14 (by decide) ?_
      exact k_X4_onHeld_18 (cs := cs) (sl := sl) hn C  _ _ _ _ _ H (by omega) (by omega)
theorem hy_X4_onDo : hz_Y yX4_onDo cX4_onDo 2 none 1 := ⟨wd_476, wd_62, by decide +kernel, by decide +kernel, by decide +kernel⟩
theorem hv_X4_onDo : hz_YV yX4_onDo := ⟨wd_475, wd_21⟩
def f_X4_onDo_26 (h : HP) : Option HP :=
  some h
def f_X4_onDo (a0 : Option Nat) (a1 : Option Nat) (h : HP) : Option HP :=
  (hz_gI h a1 2 1).bind fun v1 =>
  (hz_gI h a0 4 10).bind fun v3 =>
  if v1 = v3 then
    if hz_ob h a0 4 = true then
    (f_X4_isBlocked a0 h).bind fun p5 =>
    if p5.1 = 0 then
      (hz_gI p5.2 a1 2 2).bind fun v8 =>
      if hz_ob p5.2 a0 4 = true then
      (f_X4_carryOutUpTo a0 v8 p5.2).bind fun p10 =>
      f_X4_onDo_26   p10
      else none
    else
      f_X4_onDo_26   p5.2
    else none
  else
    f_X4_onDo_26   h
abbrev rm_X4_onDo : Room := { frames := 3, cells := 0, slots := 0, locals := 65 }
set_option maxRecDepth 100000 in
set_option maxHeartbeats 4000000 in
theorem k_X4_onDo_26 {G : GX} {h' : HP} (hn : G.2.2.2.2.2.2.2.2.2.2.2.2 = 2) (C : Cx G cX4_onDo RX4 "onDo" none rm_X4_onDo none h') (h : HP) (H : f_X4_onDo_26   h = some h') : aw G 26 [none, none] [] h 0 0 := by
  unfold f_X4_onDo_26 at H
  cases H
  exact aw_vret C (Nat.zero_le _) (Nat.zero_le _) dX4_onDo_26
set_option maxRecDepth 100000 in
set_option maxHeartbeats 4000000 in
theorem c_X4_onDo {l : Launch} (a0 : Option Nat) (a1 : Option Nat) (h : HP) (h' : HP) (H : f_X4_onDo a0 a1 h = some h') : Ct l yX4_onDo cX4_onDo 2 none rm_X4_onDo [va_rf a0, va_rf a1] none h h' := by
  refine Ct.of (plainFor_of_name (by decide)) (hz_s1c (hz_s1c hz_s1n (hz_cr _)) (hz_cr _)) (Nat.le_of_ble_eq_true rfl) (fun G hl hn C0 => ?_)
  have C : Cx G cX4_onDo RX4 "onDo" none rm_X4_onDo none h' := C0
  subst hl
  show aw G 0 [some (va_rf a0), some (va_rf a1)] [] h 0 0
  unfold f_X4_onDo at H
  refine aw_aload_n C dX4_onDo_0 rfl ?_
  obtain ⟨v1, e2, H⟩ := hz_bd H
  refine aw_gI (k := 1) C cl_2 (by decide) wd_330 e2 dX4_onDo_1 ?_
  refine aw_aload_n C dX4_onDo_4 rfl ?_
  obtain ⟨v3, e4, H⟩ := hz_bd H
  refine aw_gI (k := 10) C cl_4 (by decide) wd_228 e4 dX4_onDo_5 ?_
  refine aw_icmp_ne (tgt := 26) C dX4_onDo_8 (by decide) (fun c13 => ?_) (fun c13 => ?_)
  · replace H := hz_if c13 H
    exact aw_loc (hz_sub_n (hz_sub_n hz_sub_0)) (k_X4_onDo_26 hn C  _ H)
  · replace H := hz_it c13 H
    refine aw_aload_n C dX4_onDo_11 rfl ?_
    obtain ⟨g7, H⟩ := hz_wn H
    obtain ⟨p5, e6, H⟩ := hz_bd H
    refine aw_V (As := []) (rest := []) C hy_X4_isBlocked hv_X4_isBlocked wd_300 cl_4.1 g7 (c_X4_isBlocked _ _ _ _  e6) (hz_roi _) rfl rfl (Nat.le_of_ble_eq_true rfl) (by decide) (kc := 0) (ks := 0) rfl rfl (by decide) dX4_onDo_12 ?_
    refine aw_if_ne (tgt := 26) C dX4_onDo_15 (by decide) (fun c14 => ?_) (fun c14 => ?_)
    · replace H := hz_if c14 H
      exact aw_loc (hz_sub_n (hz_sub_n hz_sub_0)) (k_X4_onDo_26 hn C  _ H)
    · replace H := hz_it c14 H
      refine aw_aload_n C dX4_onDo_18 rfl ?_
      refine aw_aload_n C dX4_onDo_19 rfl ?_
      obtain ⟨v8, e9, H⟩ := hz_bd H
      refine aw_gI (k := 2) C cl_2 (by decide) wd_332 e9 dX4_onDo_20 ?_
      obtain ⟨g12, H⟩ := hz_wn H
      obtain ⟨p10, e11, H⟩ := hz_bd H
      refine aw_V (As := [.int v8]) (rest := []) C hy_X4_carryOutUpTo hv_X4_carryOutUpTo wd_393 cl_4.1 g12 (c_X4_carryOutUpTo _ _ _ _  e11) hz_ron rfl rfl (Nat.le_of_ble_eq_true rfl) (by decide) (kc := 0) (ks := 0) rfl rfl (by decide) dX4_onDo_23 ?_
      exact aw_loc (hz_sub_n (hz_sub_n hz_sub_0)) (k_X4_onDo_26 hn C  _ H)
theorem hy_X4_nextOwnNumber : hz_Y yX4_nextOwnNumber cX4_nextOwnNumber 2 (some .int) 0 := ⟨wd_495, wd_62, by decide +kernel, by decide +kernel, by decide +kernel⟩
theorem hv_X4_nextOwnNumber : hz_YV yX4_nextOwnNumber := ⟨wd_494, wd_25⟩
def f_X4_nextOwnNumber (a0 : Option Nat) (h : HP) : Option (Int32 × HP) :=
  (hz_gI h a0 4 12).bind fun v1 =>
  (hz_gI h a0 4 0).bind fun v3 =>
  (hz_gI h a0 4 1).bind fun v5 =>
  (f_J9_floorMod_7cf53 (v3 - (v1 + (nI 1))) v5 h).bind fun p7 =>
  some (((v1 + (nI 1)) + p7.1), p7.2)
abbrev rm_X4_nextOwnNumber : Room := { frames := 1, cells := 0, slots := 0, locals := 22 }
set_option maxRecDepth 100000 in
set_option maxHeartbeats 4000000 in
theorem c_X4_nextOwnNumber {l : Launch} (a0 : Option Nat) (h : HP) (v' : Int32) (h' : HP) (H : f_X4_nextOwnNumber a0 h = some (v', h')) : Ct l yX4_nextOwnNumber cX4_nextOwnNumber 2 (some .int) rm_X4_nextOwnNumber [va_rf a0] (some (.int v')) h h' := by
  refine Ct.of (plainFor_of_name (by decide)) (hz_s1c hz_s1n (hz_cr _)) (Nat.le_of_ble_eq_true rfl) (fun G hl hn C0 => ?_)
  have C : Cx G cX4_nextOwnNumber RX4 "nextOwnNumber" (some .int) rm_X4_nextOwnNumber (some (.int v')) h' := C0
  subst hl
  show aw G 0 [some (va_rf a0), none] [] h 0 0
  unfold f_X4_nextOwnNumber at H
  refine aw_aload_n C dX4_nextOwnNumber_0 rfl ?_
  obtain ⟨v1, e2, H⟩ := hz_bd H
  refine aw_gI (k := 12) C cl_4 (by decide) wd_230 e2 dX4_nextOwnNumber_1 ?_
  refine aw_iconst C dX4_nextOwnNumber_4 (v := (nI 1)) (by decide) ?_
  refine aw_iadd C dX4_nextOwnNumber_5 ?_
  refine aw_istore_n C dX4_nextOwnNumber_6 (by rw [hn]; decide) rfl ?_
  refine aw_iload_n C dX4_nextOwnNumber_7 rfl ?_
  refine aw_aload_n C dX4_nextOwnNumber_8 rfl ?_
  obtain ⟨v3, e4, H⟩ := hz_bd H
  refine aw_gI (k := 0) C cl_4 (by decide) wd_214 e4 dX4_nextOwnNumber_9 ?_
  refine aw_iload_n C dX4_nextOwnNumber_12 rfl ?_
  refine aw_isub C dX4_nextOwnNumber_13 ?_
  refine aw_aload_n C dX4_nextOwnNumber_14 rfl ?_
  obtain ⟨v5, e6, H⟩ := hz_bd H
  refine aw_gI (k := 1) C cl_4 (by decide) wd_215 e6 dX4_nextOwnNumber_15 ?_
  obtain ⟨p7, e8, H⟩ := hz_bd H
  refine aw_S (As := [.int (v3 - (v1 + (nI 1))), .int v5]) (rest := [.int (v1 + (nI 1))]) C hy_J9_floorMod_7cf53 wd_497 wd_496 (c_J9_floorMod_7cf53 _ _ _ _ _  e8) (hz_roi _) rfl rfl (Nat.le_of_ble_eq_true rfl) (by decide) (kc := 0) (ks := 0) rfl rfl (by decide) dX4_nextOwnNumber_18 ?_
  refine aw_iadd C dX4_nextOwnNumber_21 ?_
  cases H
  exact aw_iret C (Nat.zero_le _) (Nat.zero_le _) dX4_nextOwnNumber_22
theorem hy_X4_flush : hz_Y yX4_flush cX4_flush 2 none 0 := ⟨wd_491, wd_62, by decide +kernel, by decide +kernel, by decide +kernel⟩
theorem hv_X4_flush : hz_YV yX4_flush := ⟨wd_490, wd_24⟩
def f_X4_flush (a0 : Option Nat) (h : HP) : Option HP :=
  (hz_gI h a0 4 11).bind fun v1 =>
  (hz_gI h a0 4 15).bind fun v3 =>
  if hz_ob h a0 4 = true then
  (f_X4_areMost a0 (v1 &&& (v3 ^^^ (-1 : Int32))) h).bind fun p5 =>
  if p5.1 = 0 then
    (hz_pF p5.2 a0 4 9 (.int (nI 0))).bind fun h48 =>
    some h48
  else
    if hz_ob p5.2 a0 4 = true then
    (f_X4_nextOwnNumber a0 p5.2).bind fun p8 =>
    (hz_pF p8.2 a0 4 12 (.int p8.1)).bind fun h11 =>
    (hz_pF h11 a0 4 9 (.int (nI 3))).bind fun h13 =>
    (hz_gR h13 a0 4 3).bind fun r15 =>
    (hz_gI h13 r15 7 4).bind fun v17 =>
    (hz_pF h13 r15 7 4 (.int (v17 + (nI 1)))).bind fun h19 =>
    (hz_gR h19 a0 4 6).bind fun r21 =>
    (hz_gI h19 a0 4 0).bind fun v23 =>
    (hz_gI h19 a0 4 13).bind fun v25 =>
    (hz_gR h19 a0 4 4).bind fun r27 =>
    if hz_ob h19 r27 6 = true then
    (f_X6_copy r27 h19).bind fun p29 =>
    if hz_ob p29.2 r21 0 = true then
    (f_X0_start r21 (v1 &&& (v3 ^^^ (-1 : Int32))) v23 v25 p29.1 p29.2).bind fun p32 =>
    (hz_gR p32 a0 4 2).bind fun r35 =>
    (hz_gI p32 a0 4 0).bind fun v37 =>
    (hz_gR p32 a0 4 6).bind fun r39 =>
    (hz_gI p32 r39 0 1).bind fun v41 =>
    (hz_gI p32 a0 4 12).bind fun v43 =>
    if hz_ob p32 r35 5 = true then
    (f_X5_send r35 v37 v41 (nI 7) v43 (v1 &&& (v3 ^^^ (-1 : Int32))) (some 0) p32).bind fun p45 =>
    some p45
    else none
    else none
    else none
    else none
  else none
abbrev rm_X4_flush : Room := { frames := 3, cells := 9, slots := 104, locals := 92 }
set_option maxRecDepth 100000 in
set_option maxHeartbeats 4000000 in
theorem c_X4_flush {l : Launch} (a0 : Option Nat) (h : HP) (h' : HP) (H : f_X4_flush a0 h = some h') : Ct l yX4_flush cX4_flush 2 none rm_X4_flush [va_rf a0] none h h' := by
  refine Ct.of (plainFor_of_name (by decide)) (hz_s1c hz_s1n (hz_cr _)) (Nat.le_of_ble_eq_true rfl) (fun G hl hn C0 => ?_)
  have C : Cx G cX4_flush RX4 "flush" none rm_X4_flush none h' := C0
  subst hl
  show aw G 0 [some (va_rf a0), none] [] h 0 0
  unfold f_X4_flush at H
  obtain ⟨cs, hcs⟩ : ∃ k : Nat, k = 0 := ⟨0, rfl⟩
  obtain ⟨sl, hsl⟩ : ∃ k : Nat, k = 0 := ⟨0, rfl⟩
  suffices hh : aw G 0 [some (va_rf a0), none] [] h cs sl by rw [hcs, hsl] at hh; exact hh
  refine aw_aload_n C dX4_flush_0 rfl ?_
  obtain ⟨v1, e2, H⟩ := hz_bd H
  refine aw_gI (k := 11) C cl_4 (by decide) wd_229 e2 dX4_flush_1 ?_
  refine aw_aload_n C dX4_flush_4 rfl ?_
  obtain ⟨v3, e4, H⟩ := hz_bd H
  refine aw_gI (k := 15) C cl_4 (by decide) wd_233 e4 dX4_flush_5 ?_
  refine aw_iconst C dX4_flush_8 (v := (-1)) (by decide) ?_
  refine aw_ixor C dX4_flush_9 ?_
  refine aw_iand C dX4_flush_10 ?_
  refine aw_istore_n C dX4_flush_11 (by rw [hn]; decide) rfl ?_
  refine aw_aload_n C dX4_flush_12 rfl ?_
  refine aw_iload_n C dX4_flush_13 rfl ?_
  obtain ⟨g7, H⟩ := hz_wn H
  obtain ⟨p5, e6, H⟩ := hz_bd H
  refine aw_V (As := [.int (v1 &&& (v3 ^^^ (-1 : Int32)))]) (rest := []) C hy_X4_areMost hv_X4_areMost wd_383 cl_4.1 g7 (c_X4_areMost _ _ _ _ _  e6) (hz_roi _) rfl rfl (Nat.le_of_ble_eq_true rfl) (by decide) (kc := 0) (ks := 0) rfl rfl ⟨(by show cs + 0 ≤ 9; omega), (by show sl + 0 ≤ 104; omega)⟩ dX4_flush_14 ?_
  refine aw_if_ne (tgt := 26) C dX4_flush_17 (by decide) (fun c50 => ?_) (fun c50 => ?_)
  · replace H := hz_if c50 H
    refine aw_aload_n C dX4_flush_26 rfl ?_
    refine aw_aload_n C dX4_flush_27 rfl ?_
    obtain ⟨g10, H⟩ := hz_wn H
    obtain ⟨p8, e9, H⟩ := hz_bd H
    refine aw_V (As := []) (rest := [va_rf a0]) C hy_X4_nextOwnNumber hv_X4_nextOwnNumber wd_492 cl_4.1 g10 (c_X4_nextOwnNumber _ _ _ _  e9) (hz_roi _) rfl rfl (Nat.le_of_ble_eq_true rfl) (by decide) (kc := 0) (ks := 0) rfl rfl ⟨(by show cs + 0 + 0 ≤ 9; omega), (by show sl + 0 + 0 ≤ 104; omega)⟩ dX4_flush_28 ?_
    obtain ⟨h11, e12, H⟩ := hz_bd H
    refine aw_pF (k := 12) C cl_4 (by decide) rfl wd_230 (hz_fiti _) e12 dX4_flush_31 ?_
    refine aw_aload_n C dX4_flush_34 rfl ?_
    refine aw_iconst C dX4_flush_35 (v := (nI 3)) (by decide) ?_
    obtain ⟨h13, e14, H⟩ := hz_bd H
    refine aw_pF (k := 9) C cl_4 (by decide) rfl wd_226 (hz_fiti _) e14 dX4_flush_36 ?_
    refine aw_aload_n C dX4_flush_39 rfl ?_
    obtain ⟨r15, e16, H⟩ := hz_bd H
    refine aw_gR (k := 3) C cl_4 (by decide) wd_217 e16 dX4_flush_40 ?_
    refine aw_dup C dX4_flush_43 ?_
    obtain ⟨v17, e18, H⟩ := hz_bd H
    refine aw_gI (k := 4) C cl_7 (by decide) wd_97 e18 dX4_flush_44 ?_
    refine aw_iconst C dX4_flush_47 (v := (nI 1)) (by decide) ?_
    refine aw_iadd C dX4_flush_48 ?_
    obtain ⟨h19, e20, H⟩ := hz_bd H
    refine aw_pF (k := 4) C cl_7 (by decide) rfl wd_97 (hz_fiti _) e20 dX4_flush_49 ?_
    refine aw_aload_n C dX4_flush_52 rfl ?_
    obtain ⟨r21, e22, H⟩ := hz_bd H
    refine aw_gR (k := 6) C cl_4 (by decide) wd_222 e22 dX4_flush_53 ?_
    refine aw_iload_n C dX4_flush_56 rfl ?_
    refine aw_aload_n C dX4_flush_57 rfl ?_
    obtain ⟨v23, e24, H⟩ := hz_bd H
    refine aw_gI (k := 0) C cl_4 (by decide) wd_214 e24 dX4_flush_58 ?_
    refine aw_aload_n C dX4_flush_61 rfl ?_
    obtain ⟨v25, e26, H⟩ := hz_bd H
    refine aw_gI (k := 13) C cl_4 (by decide) wd_231 e26 dX4_flush_62 ?_
    refine aw_aload_n C dX4_flush_65 rfl ?_
    obtain ⟨r27, e28, H⟩ := hz_bd H
    refine aw_gR (k := 4) C cl_4 (by decide) wd_218 e28 dX4_flush_66 ?_
    obtain ⟨g31, H⟩ := hz_wn H
    obtain ⟨p29, e30, H⟩ := hz_bd H
    refine aw_V (As := []) (rest := [.int v25, .int v23, .int (v1 &&& (v3 ^^^ (-1 : Int32))), va_rf r21]) C hy_X6_copy hv_X6_copy wd_499 cl_6.1 g31 (c_X6_copy _ _ _ _  e30) (hz_ror _) rfl rfl (Nat.le_of_ble_eq_true rfl) (by decide) (kc := 1) (ks := 64) rfl rfl ⟨(by show cs + 0 + 0 + 1 ≤ 9; omega), (by show sl + 0 + 0 + 64 ≤ 104; omega)⟩ dX4_flush_69 ?_
    obtain ⟨g34, H⟩ := hz_wn H
    obtain ⟨p32, e33, H⟩ := hz_bd H
    refine aw_V (As := [.int (v1 &&& (v3 ^^^ (-1 : Int32))), .int v23, .int v25, va_rf p29.1]) (rest := []) C hy_X0_start hv_X0_start wd_517 cl_0.1 g34 (c_X0_start _ _ _ _ _ _ _  e33) hz_ron rfl rfl (Nat.le_of_ble_eq_true rfl) (by decide) (kc := 0) (ks := 0) rfl rfl ⟨(by show cs + 0 + 0 + 1 + 0 ≤ 9; omega), (by show sl + 0 + 0 + 64 + 0 ≤ 104; omega)⟩ dX4_flush_72 ?_
    refine aw_aload_n C dX4_flush_75 rfl ?_
    obtain ⟨r35, e36, H⟩ := hz_bd H
    refine aw_gR (k := 2) C cl_4 (by decide) wd_216 e36 dX4_flush_76 ?_
    refine aw_aload_n C dX4_flush_79 rfl ?_
    obtain ⟨v37, e38, H⟩ := hz_bd H
    refine aw_gI (k := 0) C cl_4 (by decide) wd_214 e38 dX4_flush_80 ?_
    refine aw_aload_n C dX4_flush_83 rfl ?_
    obtain ⟨r39, e40, H⟩ := hz_bd H
    refine aw_gR (k := 6) C cl_4 (by decide) wd_222 e40 dX4_flush_84 ?_
    obtain ⟨v41, e42, H⟩ := hz_bd H
    refine aw_gI (k := 1) C cl_0 (by decide) wd_198 e42 dX4_flush_87 ?_
    refine aw_bipush C dX4_flush_90 (v := (nI 7)) (by decide) ?_
    refine aw_aload_n C dX4_flush_92 rfl ?_
    obtain ⟨v43, e44, H⟩ := hz_bd H
    refine aw_gI (k := 12) C cl_4 (by decide) wd_230 e44 dX4_flush_93 ?_
    refine aw_iload_n C dX4_flush_96 rfl ?_
    refine aw_gets C wn_431 dX4_flush_97 ?_
    obtain ⟨g47, H⟩ := hz_wn H
    obtain ⟨p45, e46, H⟩ := hz_bd H
    refine aw_V (As := [.int v37, .int v41, .int (nI 7), .int v43, .int (v1 &&& (v3 ^^^ (-1 : Int32))), va_rf (some 0)]) (rest := []) C hy_X5_send hv_X5_send wd_311 cl_5.1 g47 (c_X5_send _ _ _ _ _ _ _ _ _  e46) hz_ron rfl rfl (Nat.le_of_ble_eq_true rfl) (by decide) (kc := 8) (ks := 40) rfl rfl ⟨(by show cs + 0 + 0 + 1 + 0 + 8 ≤ 9; omega), (by show sl + 0 + 0 + 64 + 0 + 40 ≤ 104; omega)⟩ dX4_flush_100 ?_
    cases H
    exact aw_vret C (by show cs + 0 + 0 + 1 + 0 + 8 ≤ 9; omega) (by show sl + 0 + 0 + 64 + 0 + 40 ≤ 104; omega) dX4_flush_103
  · replace H := hz_it c50 H
    refine aw_aload_n C dX4_flush_20 rfl ?_
    refine aw_iconst C dX4_flush_21 (v := (nI 0)) (by decide) ?_
    obtain ⟨h48, e49, H⟩ := hz_bd H
    refine aw_pF (k := 9) C cl_4 (by decide) rfl wd_226 (hz_fiti _) e49 dX4_flush_22 ?_
    cases H
    exact aw_vret C (by show cs + 0 ≤ 9; omega) (by show sl + 0 ≤ 104; omega) dX4_flush_25
theorem hy_X4_ask : hz_Y yX4_ask cX4_ask 2 none 0 := ⟨wd_484, wd_62, by decide +kernel, by decide +kernel, by decide +kernel⟩
theorem hv_X4_ask : hz_YV yX4_ask := ⟨wd_483, wd_23⟩
def f_X4_ask_53 (h : HP) : Option HP :=
  some h
def f_X4_ask (a0 : Option Nat) (h : HP) : Option HP :=
  (hz_pF h a0 4 9 (.int (nI 1))).bind fun h1 =>
  (hz_gI h1 a0 4 11).bind fun v3 =>
  (hz_gI h1 a0 4 15).bind fun v5 =>
  (hz_gI h1 a0 4 0).bind fun v7 =>
  (f_X8_allAbove (v3 &&& (v5 ^^^ (-1 : Int32))) v7 h1).bind fun p9 =>
  if p9.1 = 0 then
    if hz_ob p9.2 a0 4 = true then
    (f_X4_flush a0 p9.2).bind fun p18 =>
    f_X4_ask_53   p18
    else none
  else
    (hz_gR p9.2 a0 4 2).bind fun r11 =>
    (hz_gI p9.2 a0 4 0).bind fun v13 =>
    if hz_ob p9.2 r11 5 = true then
    (f_X5_send r11 v13 p9.1 (nI 5) (nI 0) (nI 0) (some 0) p9.2).bind fun p15 =>
    f_X4_ask_53   p15
    else none
abbrev rm_X4_ask : Room := { frames := 4, cells := 9, slots := 104, locals := 113 }
set_option maxRecDepth 100000 in
set_option maxHeartbeats 4000000 in
theorem k_X4_ask_53 {G : GX} {h' : HP} (hn : G.2.2.2.2.2.2.2.2.2.2.2.2 = 2) (C : Cx G cX4_ask RX4 "ask" none rm_X4_ask none h') {cs sl : Nat} (h : HP) (H : f_X4_ask_53   h = some h') (hcs : cs + 0 ≤ 9) (hsl : sl + 0 ≤ 104) : aw G 53 [none, none] [] h cs sl := by
  unfold f_X4_ask_53 at H
  cases H
  exact aw_vret C (by show cs ≤ 9; omega) (by show sl ≤ 104; omega) dX4_ask_53
set_option maxRecDepth 100000 in
set_option maxHeartbeats 4000000 in
theorem c_X4_ask {l : Launch} (a0 : Option Nat) (h : HP) (h' : HP) (H : f_X4_ask a0 h = some h') : Ct l yX4_ask cX4_ask 2 none rm_X4_ask [va_rf a0] none h h' := by
  refine Ct.of (plainFor_of_name (by decide)) (hz_s1c hz_s1n (hz_cr _)) (Nat.le_of_ble_eq_true rfl) (fun G hl hn C0 => ?_)
  have C : Cx G cX4_ask RX4 "ask" none rm_X4_ask none h' := C0
  subst hl
  show aw G 0 [some (va_rf a0), none] [] h 0 0
  unfold f_X4_ask at H
  obtain ⟨cs, hcs⟩ : ∃ k : Nat, k = 0 := ⟨0, rfl⟩
  obtain ⟨sl, hsl⟩ : ∃ k : Nat, k = 0 := ⟨0, rfl⟩
  suffices hh : aw G 0 [some (va_rf a0), none] [] h cs sl by rw [hcs, hsl] at hh; exact hh
  refine aw_aload_n C dX4_ask_0 rfl ?_
  refine aw_iconst C dX4_ask_1 (v := (nI 1)) (by decide) ?_
  obtain ⟨h1, e2, H⟩ := hz_bd H
  refine aw_pF (k := 9) C cl_4 (by decide) rfl wd_226 (hz_fiti _) e2 dX4_ask_2 ?_
  refine aw_aload_n C dX4_ask_5 rfl ?_
  obtain ⟨v3, e4, H⟩ := hz_bd H
  refine aw_gI (k := 11) C cl_4 (by decide) wd_229 e4 dX4_ask_6 ?_
  refine aw_aload_n C dX4_ask_9 rfl ?_
  obtain ⟨v5, e6, H⟩ := hz_bd H
  refine aw_gI (k := 15) C cl_4 (by decide) wd_233 e6 dX4_ask_10 ?_
  refine aw_iconst C dX4_ask_13 (v := (-1)) (by decide) ?_
  refine aw_ixor C dX4_ask_14 ?_
  refine aw_iand C dX4_ask_15 ?_
  refine aw_aload_n C dX4_ask_16 rfl ?_
  obtain ⟨v7, e8, H⟩ := hz_bd H
  refine aw_gI (k := 0) C cl_4 (by decide) wd_214 e8 dX4_ask_17 ?_
  obtain ⟨p9, e10, H⟩ := hz_bd H
  refine aw_SN (As := [.int (v3 &&& (v5 ^^^ (-1 : Int32))), .int v7]) (rest := []) C hy_X8_allAbove wd_486 wn_485 (c_X8_allAbove _ _ _ _ _  e10) (hz_roi _) rfl rfl (Nat.le_of_ble_eq_true rfl) (by decide) (kc := 0) (ks := 0) rfl rfl ⟨(by show cs + 0 ≤ 9; omega), (by show sl + 0 ≤ 104; omega)⟩ dX4_ask_20 ?_
  refine aw_istore_n C dX4_ask_23 (by rw [hn]; decide) rfl ?_
  refine aw_iload_n C dX4_ask_24 rfl ?_
  refine aw_if_ne (tgt := 35) C dX4_ask_25 (by decide) (fun c21 => ?_) (fun c21 => ?_)
  · replace H := hz_if c21 H
    refine aw_aload_n C dX4_ask_35 rfl ?_
    obtain ⟨r11, e12, H⟩ := hz_bd H
    refine aw_gR (k := 2) C cl_4 (by decide) wd_216 e12 dX4_ask_36 ?_
    refine aw_aload_n C dX4_ask_39 rfl ?_
    obtain ⟨v13, e14, H⟩ := hz_bd H
    refine aw_gI (k := 0) C cl_4 (by decide) wd_214 e14 dX4_ask_40 ?_
    refine aw_iload_n C dX4_ask_43 rfl ?_
    refine aw_iconst C dX4_ask_44 (v := (nI 5)) (by decide) ?_
    refine aw_iconst C dX4_ask_45 (v := (nI 0)) (by decide) ?_
    refine aw_iconst C dX4_ask_46 (v := (nI 0)) (by decide) ?_
    refine aw_gets C wn_431 dX4_ask_47 ?_
    obtain ⟨g17, H⟩ := hz_wn H
    obtain ⟨p15, e16, H⟩ := hz_bd H
    refine aw_V (As := [.int v13, .int p9.1, .int (nI 5), .int (nI 0), .int (nI 0), va_rf (some 0)]) (rest := []) C hy_X5_send hv_X5_send wd_311 cl_5.1 g17 (c_X5_send _ _ _ _ _ _ _ _ _  e16) hz_ron rfl rfl (Nat.le_of_ble_eq_true rfl) (by decide) (kc := 8) (ks := 40) rfl rfl ⟨(by show cs + 0 + 8 ≤ 9; omega), (by show sl + 0 + 40 ≤ 104; omega)⟩ dX4_ask_50 ?_
    exact aw_loc (hz_sub_n (hz_sub_n hz_sub_0)) (k_X4_ask_53 (cs := cs + 0 + 8) (sl := sl + 0 + 40) hn C  _ H (by omega) (by omega))
  · replace H := hz_it c21 H
    refine aw_aload_n C dX4_ask_28 rfl ?_
    obtain ⟨g20, H⟩ := hz_wn H
    obtain ⟨p18, e19, H⟩ := hz_bd H
    refine aw_V (As := []) (rest := []) C hy_X4_flush hv_X4_flush wd_488 cl_4.1 g20 (c_X4_flush _ _ _  e19) hz_ron rfl rfl (Nat.le_of_ble_eq_true rfl) (by decide) (kc := 9) (ks := 104) rfl rfl ⟨(by show cs + 0 + 9 ≤ 9; omega), (by show sl + 0 + 104 ≤ 104; omega)⟩ dX4_ask_29 ?_
    refine aw_goto (tgt := 53) C dX4_ask_32 (by decide) ?_
    exact aw_loc (hz_sub_n (hz_sub_n hz_sub_0)) (k_X4_ask_53 (cs := cs + 0 + 9) (sl := sl + 0 + 104) hn C  _ H (by omega) (by omega))
theorem hy_X4_onElect : hz_Y yX4_onElect cX4_onElect 2 none 1 := ⟨wd_480, wd_62, by decide +kernel, by decide +kernel, by decide +kernel⟩
theorem hv_X4_onElect : hz_YV yX4_onElect := ⟨wd_479, wd_22⟩
def f_X4_onElect_28 (h : HP) : Option HP :=
  some h
def f_X4_onElect (a0 : Option Nat) (a1 : Int32) (h : HP) : Option HP :=
  (hz_gI h a0 4 0).bind fun v1 =>
  if v1 ≤ a1 then
    f_X4_onElect_28   h
  else
    if hz_ob h a0 4 = true then
    (f_X4_reply a0 a1 (nI 6) (nI 0) (nI 0) h).bind fun p3 =>
    (hz_gI p3 a0 4 9).bind fun v6 =>
    if v6 = 0 then
      if hz_ob p3 a0 4 = true then
      (f_X4_ask a0 p3).bind fun p8 =>
      f_X4_onElect_28   p8
      else none
    else
      f_X4_onElect_28   p3
    else none
abbrev rm_X4_onElect : Room := { frames := 5, cells := 17, slots := 144, locals := 134 }
set_option maxRecDepth 100000 in
set_option maxHeartbeats 4000000 in
theorem k_X4_onElect_28 {G : GX} {h' : HP} (hn : G.2.2.2.2.2.2.2.2.2.2.2.2 = 2) (C : Cx G cX4_onElect RX4 "onElect" none rm_X4_onElect none h') {cs sl : Nat} (h : HP) (H : f_X4_onElect_28   h = some h') (hcs : cs + 0 ≤ 17) (hsl : sl + 0 ≤ 144) : aw G 28 [none, none] [] h cs sl := by
  unfold f_X4_onElect_28 at H
  cases H
  exact aw_vret C (by show cs ≤ 17; omega) (by show sl ≤ 144; omega) dX4_onElect_28
set_option maxRecDepth 100000 in
set_option maxHeartbeats 4000000 in
theorem c_X4_onElect {l : Launch} (a0 : Option Nat) (a1 : Int32) (h : HP) (h' : HP) (H : f_X4_onElect a0 a1 h = some h') : Ct l yX4_onElect cX4_onElect 2 none rm_X4_onElect [va_rf a0, .int a1] none h h' := by
  refine Ct.of (plainFor_of_name (by decide)) (hz_s1c (hz_s1c hz_s1n rfl) (hz_cr _)) (Nat.le_of_ble_eq_true rfl) (fun G hl hn C0 => ?_)
  have C : Cx G cX4_onElect RX4 "onElect" none rm_X4_onElect none h' := C0
  subst hl
  show aw G 0 [some (va_rf a0), some (.int a1)] [] h 0 0
  unfold f_X4_onElect at H
  obtain ⟨cs, hcs⟩ : ∃ k : Nat, k = 0 := ⟨0, rfl⟩
  obtain ⟨sl, hsl⟩ : ∃ k : Nat, k = 0 := ⟨0, rfl⟩
  suffices hh : aw G 0 [some (va_rf a0), some (.int a1)] [] h cs sl by rw [hcs, hsl] at hh; exact hh
  refine aw_iload_n C dX4_onElect_0 rfl ?_
  refine aw_aload_n C dX4_onElect_1 rfl ?_
  obtain ⟨v1, e2, H⟩ := hz_bd H
  refine aw_gI (k := 0) C cl_4 (by decide) wd_214 e2 dX4_onElect_2 ?_
  refine aw_icmp_ge (tgt := 28) C dX4_onElect_5 (by decide) (fun c11 => ?_) (fun c11 => ?_)
  · replace H := hz_it c11 H
    exact aw_loc (hz_sub_n (hz_sub_n hz_sub_0)) (k_X4_onElect_28 (cs := cs) (sl := sl) hn C  _ H (by omega) (by omega))
  · replace H := hz_if c11 H
    refine aw_aload_n C dX4_onElect_8 rfl ?_
    refine aw_iload_n C dX4_onElect_9 rfl ?_
    refine aw_bipush C dX4_onElect_10 (v := (nI 6)) (by decide) ?_
    refine aw_iconst C dX4_onElect_12 (v := (nI 0)) (by decide) ?_
    refine aw_iconst C dX4_onElect_13 (v := (nI 0)) (by decide) ?_
    obtain ⟨g5, H⟩ := hz_wn H
    obtain ⟨p3, e4, H⟩ := hz_bd H
    refine aw_V (As := [.int a1, .int (nI 6), .int (nI 0), .int (nI 0)]) (rest := []) C hy_X4_reply hv_X4_reply wd_465 cl_4.1 g5 (c_X4_reply _ _ _ _ _ _ _  e4) hz_ron rfl rfl (Nat.le_of_ble_eq_true rfl) (by decide) (kc := 8) (ks := 40) rfl rfl ⟨(by show cs + 8 ≤ 17; omega), (by show sl + 40 ≤ 144; omega)⟩ dX4_onElect_14 ?_
    refine aw_aload_n C dX4_onElect_17 rfl ?_
    obtain ⟨v6, e7, H⟩ := hz_bd H
    refine aw_gI (k := 9) C cl_4 (by decide) wd_226 e7 dX4_onElect_18 ?_
    refine aw_if_ne (tgt := 28) C dX4_onElect_21 (by decide) (fun c12 => ?_) (fun c12 => ?_)
    · replace H := hz_if c12 H
      exact aw_loc (hz_sub_n (hz_sub_n hz_sub_0)) (k_X4_onElect_28 (cs := cs + 8) (sl := sl + 40) hn C  _ H (by omega) (by omega))
    · replace H := hz_it c12 H
      refine aw_aload_n C dX4_onElect_24 rfl ?_
      obtain ⟨g10, H⟩ := hz_wn H
      obtain ⟨p8, e9, H⟩ := hz_bd H
      refine aw_V (As := []) (rest := []) C hy_X4_ask hv_X4_ask wd_481 cl_4.1 g10 (c_X4_ask _ _ _  e9) hz_ron rfl rfl (Nat.le_of_ble_eq_true rfl) (by decide) (kc := 9) (ks := 104) rfl rfl ⟨(by show cs + 8 + 9 ≤ 17; omega), (by show sl + 40 + 104 ≤ 144; omega)⟩ dX4_onElect_25 ?_
      exact aw_loc (hz_sub_n (hz_sub_n hz_sub_0)) (k_X4_onElect_28 (cs := cs + 8 + 9) (sl := sl + 40 + 104) hn C  _ H (by omega) (by omega))
theorem hy_X4_onWait : hz_Y yX4_onWait cX4_onWait 1 none 0 := ⟨wd_525, wd_62, by decide +kernel, by decide +kernel, by decide +kernel⟩
theorem hv_X4_onWait : hz_YV yX4_onWait := ⟨wd_524, wd_26⟩
def f_X4_onWait_13 (h : HP) : Option HP :=
  some h
def f_X4_onWait (a0 : Option Nat) (h : HP) : Option HP :=
  (hz_gI h a0 4 9).bind fun v1 =>
  if v1 = (nI 1) then
    (hz_pF h a0 4 9 (.int (nI 2))).bind fun h3 =>
    f_X4_onWait_13   h3
  else
    f_X4_onWait_13   h
abbrev rm_X4_onWait : Room := { frames := 0, cells := 0, slots := 0, locals := 0 }
set_option maxRecDepth 100000 in
set_option maxHeartbeats 4000000 in
theorem k_X4_onWait_13 {G : GX} {h' : HP} (hn : G.2.2.2.2.2.2.2.2.2.2.2.2 = 1) (C : Cx G cX4_onWait RX4 "onWait" none rm_X4_onWait none h') (h : HP) (H : f_X4_onWait_13   h = some h') : aw G 13 [none] [] h 0 0 := by
  unfold f_X4_onWait_13 at H
  cases H
  exact aw_vret C (Nat.zero_le _) (Nat.zero_le _) dX4_onWait_13
set_option maxRecDepth 100000 in
set_option maxHeartbeats 4000000 in
theorem c_X4_onWait {l : Launch} (a0 : Option Nat) (h : HP) (h' : HP) (H : f_X4_onWait a0 h = some h') : Ct l yX4_onWait cX4_onWait 1 none rm_X4_onWait [va_rf a0] none h h' := by
  refine Ct.of (plainFor_of_name (by decide)) (hz_s1c hz_s1n (hz_cr _)) (Nat.le_of_ble_eq_true rfl) (fun G hl hn C0 => ?_)
  have C : Cx G cX4_onWait RX4 "onWait" none rm_X4_onWait none h' := C0
  subst hl
  show aw G 0 [some (va_rf a0)] [] h 0 0
  unfold f_X4_onWait at H
  refine aw_aload_n C dX4_onWait_0 rfl ?_
  obtain ⟨v1, e2, H⟩ := hz_bd H
  refine aw_gI (k := 9) C cl_4 (by decide) wd_226 e2 dX4_onWait_1 ?_
  refine aw_iconst C dX4_onWait_4 (v := (nI 1)) (by decide) ?_
  refine aw_icmp_ne (tgt := 13) C dX4_onWait_5 (by decide) (fun c5 => ?_) (fun c5 => ?_)
  · replace H := hz_if c5 H
    exact aw_loc (hz_sub_n hz_sub_0) (k_X4_onWait_13 hn C  _ H)
  · replace H := hz_it c5 H
    refine aw_aload_n C dX4_onWait_8 rfl ?_
    refine aw_iconst C dX4_onWait_9 (v := (nI 2)) (by decide) ?_
    obtain ⟨h3, e4, H⟩ := hz_bd H
    refine aw_pF (k := 9) C cl_4 (by decide) rfl wd_226 (hz_fiti _) e4 dX4_onWait_10 ?_
    exact aw_loc (hz_sub_n hz_sub_0) (k_X4_onWait_13 hn C  _ H)
theorem hy_X4_onFlush : hz_Y yX4_onFlush cX4_onFlush 3 none 2 := ⟨wd_529, wd_62, by decide +kernel, by decide +kernel, by decide +kernel⟩
theorem hv_X4_onFlush : hz_YV yX4_onFlush := ⟨wd_528, wd_27⟩
def f_X4_onFlush_60 (h : HP) : Option HP :=
  some h
def f_X4_onFlush (a0 : Option Nat) (a1 : Int32) (a2 : Option Nat) (h : HP) : Option HP :=
  (hz_gI h a2 2 1).bind fun v1 =>
  (hz_gI h a0 4 12).bind fun v3 =>
  if v1 ≤ v3 then
    f_X4_onFlush_60   h
  else
    (hz_gI h a2 2 1).bind fun v5 =>
    (hz_pF h a0 4 12 (.int v5)).bind fun h7 =>
    (hz_pF h7 a0 4 16 (.int a1)).bind fun h9 =>
    (hz_pF h9 a0 4 9 (.int (nI 0))).bind fun h11 =>
    (hz_gR h11 a0 4 2).bind fun r13 =>
    (hz_gI h11 a0 4 0).bind fun v15 =>
    (hz_gI h11 a0 4 12).bind fun v17 =>
    (hz_gI h11 a0 4 13).bind fun v19 =>
    (hz_gR h11 a0 4 4).bind fun r21 =>
    if hz_ob h11 r21 6 = true then
    (f_X6_copy r21 h11).bind fun p23 =>
    if hz_ob p23.2 r13 5 = true then
    (f_X5_send r13 v15 ((nI 1) <<< (a1 &&& 31)) (nI 8) v17 v19 p23.1 p23.2).bind fun p26 =>
    f_X4_onFlush_60   p26
    else none
    else none
abbrev rm_X4_onFlush : Room := { frames := 3, cells := 9, slots := 104, locals := 92 }
set_option maxRecDepth 100000 in
set_option maxHeartbeats 4000000 in
theorem k_X4_onFlush_60 {G : GX} {h' : HP} (hn : G.2.2.2.2.2.2.2.2.2.2.2.2 = 3) (C : Cx G cX4_onFlush RX4 "onFlush" none rm_X4_onFlush none h') {cs sl : Nat} (h : HP) (H : f_X4_onFlush_60   h = some h') (hcs : cs + 0 ≤ 9) (hsl : sl + 0 ≤ 104) : aw G 60 [none, none, none] [] h cs sl := by
  unfold f_X4_onFlush_60 at H
  cases H
  exact aw_vret C (by show cs ≤ 9; omega) (by show sl ≤ 104; omega) dX4_onFlush_60
set_option maxRecDepth 100000 in
set_option maxHeartbeats 4000000 in
theorem c_X4_onFlush {l : Launch} (a0 : Option Nat) (a1 : Int32) (a2 : Option Nat) (h : HP) (h' : HP) (H : f_X4_onFlush a0 a1 a2 h = some h') : Ct l yX4_onFlush cX4_onFlush 3 none rm_X4_onFlush [va_rf a0, .int a1, va_rf a2] none h h' := by
  refine Ct.of (plainFor_of_name (by decide)) (hz_s1c (hz_s1c (hz_s1c hz_s1n (hz_cr _)) rfl) (hz_cr _)) (Nat.le_of_ble_eq_true rfl) (fun G hl hn C0 => ?_)
  have C : Cx G cX4_onFlush RX4 "onFlush" none rm_X4_onFlush none h' := C0
  subst hl
  show aw G 0 [some (va_rf a0), some (.int a1), some (va_rf a2)] [] h 0 0
  unfold f_X4_onFlush at H
  obtain ⟨cs, hcs⟩ : ∃ k : Nat, k = 0 := ⟨0, rfl⟩
  obtain ⟨sl, hsl⟩ : ∃ k : Nat, k = 0 := ⟨0, rfl⟩
  suffices hh : aw G 0 [some (va_rf a0), some (.int a1), some (va_rf a2)] [] h cs sl by rw [hcs, hsl] at hh; exact hh
  refine aw_aload_n C dX4_onFlush_0 rfl ?_
  obtain ⟨v1, e2, H⟩ := hz_bd H
  refine aw_gI (k := 1) C cl_2 (by decide) wd_330 e2 dX4_onFlush_1 ?_
  refine aw_aload_n C dX4_onFlush_4 rfl ?_
  obtain ⟨v3, e4, H⟩ := hz_bd H
  refine aw_gI (k := 12) C cl_4 (by decide) wd_230 e4 dX4_onFlush_5 ?_
  refine aw_icmp_le (tgt := 60) C dX4_onFlush_8 (by decide) (fun c29 => ?_) (fun c29 => ?_)
  · replace H := hz_it c29 H
    exact aw_loc (hz_sub_n (hz_sub_n (hz_sub_n hz_sub_0))) (k_X4_onFlush_60 (cs := cs) (sl := sl) hn C  _ H (by omega) (by omega))
  · replace H := hz_if c29 H
    refine aw_aload_n C dX4_onFlush_11 rfl ?_
    refine aw_aload_n C dX4_onFlush_12 rfl ?_
    obtain ⟨v5, e6, H⟩ := hz_bd H
    refine aw_gI (k := 1) C cl_2 (by decide) wd_330 e6 dX4_onFlush_13 ?_
    obtain ⟨h7, e8, H⟩ := hz_bd H
    refine aw_pF (k := 12) C cl_4 (by decide) rfl wd_230 (hz_fiti _) e8 dX4_onFlush_16 ?_
    refine aw_aload_n C dX4_onFlush_19 rfl ?_
    refine aw_iload_n C dX4_onFlush_20 rfl ?_
    obtain ⟨h9, e10, H⟩ := hz_bd H
    refine aw_pF (k := 16) C cl_4 (by decide) rfl wd_235 (hz_fiti _) e10 dX4_onFlush_21 ?_
    refine aw_aload_n C dX4_onFlush_24 rfl ?_
    refine aw_iconst C dX4_onFlush_25 (v := (nI 0)) (by decide) ?_
    obtain ⟨h11, e12, H⟩ := hz_bd H
    refine aw_pF (k := 9) C cl_4 (by decide) rfl wd_226 (hz_fiti _) e12 dX4_onFlush_26 ?_
    refine aw_aload_n C dX4_onFlush_29 rfl ?_
    obtain ⟨r13, e14, H⟩ := hz_bd H
    refine aw_gR (k := 2) C cl_4 (by decide) wd_216 e14 dX4_onFlush_30 ?_
    refine aw_aload_n C dX4_onFlush_33 rfl ?_
    obtain ⟨v15, e16, H⟩ := hz_bd H
    refine aw_gI (k := 0) C cl_4 (by decide) wd_214 e16 dX4_onFlush_34 ?_
    refine aw_iconst C dX4_onFlush_37 (v := (nI 1)) (by decide) ?_
    refine aw_iload_n C dX4_onFlush_38 rfl ?_
    refine aw_ishl C dX4_onFlush_39 ?_
    refine aw_bipush C dX4_onFlush_40 (v := (nI 8)) (by decide) ?_
    refine aw_aload_n C dX4_onFlush_42 rfl ?_
    obtain ⟨v17, e18, H⟩ := hz_bd H
    refine aw_gI (k := 12) C cl_4 (by decide) wd_230 e18 dX4_onFlush_43 ?_
    refine aw_aload_n C dX4_onFlush_46 rfl ?_
    obtain ⟨v19, e20, H⟩ := hz_bd H
    refine aw_gI (k := 13) C cl_4 (by decide) wd_231 e20 dX4_onFlush_47 ?_
    refine aw_aload_n C dX4_onFlush_50 rfl ?_
    obtain ⟨r21, e22, H⟩ := hz_bd H
    refine aw_gR (k := 4) C cl_4 (by decide) wd_218 e22 dX4_onFlush_51 ?_
    obtain ⟨g25, H⟩ := hz_wn H
    obtain ⟨p23, e24, H⟩ := hz_bd H
    refine aw_V (As := []) (rest := [.int v19, .int v17, .int (nI 8), .int ((nI 1) <<< (a1 &&& 31)), .int v15, va_rf r13]) C hy_X6_copy hv_X6_copy wd_499 cl_6.1 g25 (c_X6_copy _ _ _ _  e24) (hz_ror _) rfl rfl (Nat.le_of_ble_eq_true rfl) (by decide) (kc := 1) (ks := 64) rfl rfl ⟨(by show cs + 1 ≤ 9; omega), (by show sl + 64 ≤ 104; omega)⟩ dX4_onFlush_54 ?_
    obtain ⟨g28, H⟩ := hz_wn H
    obtain ⟨p26, e27, H⟩ := hz_bd H
    refine aw_V (As := [.int v15, .int ((nI 1) <<< (a1 &&& 31)), .int (nI 8), .int v17, .int v19, va_rf p23.1]) (rest := []) C hy_X5_send hv_X5_send wd_311 cl_5.1 g28 (c_X5_send _ _ _ _ _ _ _ _ _  e27) hz_ron rfl rfl (Nat.le_of_ble_eq_true rfl) (by decide) (kc := 8) (ks := 40) rfl rfl ⟨(by show cs + 1 + 8 ≤ 9; omega), (by show sl + 64 + 40 ≤ 104; omega)⟩ dX4_onFlush_57 ?_
    exact aw_loc (hz_sub_n (hz_sub_n (hz_sub_n hz_sub_0))) (k_X4_onFlush_60 (cs := cs + 1 + 8) (sl := sl + 64 + 40) hn C  _ H (by omega) (by omega))
theorem hy_X4_onFlushed : hz_Y yX4_onFlushed cX4_onFlushed 3 none 2 := ⟨wd_533, wd_62, by decide +kernel, by decide +kernel, by decide +kernel⟩
theorem hv_X4_onFlushed : hz_YV yX4_onFlushed := ⟨wd_532, wd_28⟩
def f_X4_onFlushed_43 (h : HP) : Option HP :=
  some h
def f_X4_onFlushed (a0 : Option Nat) (a1 : Int32) (a2 : Option Nat) (h : HP) : Option HP :=
  (hz_gI h a0 4 9).bind fun v1 =>
  if v1 = (nI 3) then
    (hz_gI h a2 2 1).bind fun v3 =>
    (hz_gI h a0 4 12).bind fun v5 =>
    if v3 = v5 then
      (hz_gR h a0 4 6).bind fun r7 =>
      (hz_gI h a2 2 2).bind fun v9 =>
      (hz_gR h a2 2 3).bind fun r11 =>
      if hz_ob h r7 0 = true then
      (f_X0_weigh r7 a1 v9 r11 h).bind fun p13 =>
      (hz_gR p13 a0 4 6).bind fun r16 =>
      if hz_ob p13 r16 0 = true then
      (f_X0_answered r16 a1 p13).bind fun p18 =>
      f_X4_onFlushed_43   p18
      else none
      else none
    else
      f_X4_onFlushed_43   h
  else
    f_X4_onFlushed_43   h
abbrev rm_X4_onFlushed : Room := { frames := 2, cells := 0, slots := 0, locals := 46 }
set_option maxRecDepth 100000 in
set_option maxHeartbeats 4000000 in
theorem k_X4_onFlushed_43 {G : GX} {h' : HP} (hn : G.2.2.2.2.2.2.2.2.2.2.2.2 = 3) (C : Cx G cX4_onFlushed RX4 "onFlushed" none rm_X4_onFlushed none h') (h : HP) (H : f_X4_onFlushed_43   h = some h') : aw G 43 [none, none, none] [] h 0 0 := by
  unfold f_X4_onFlushed_43 at H
  cases H
  exact aw_vret C (Nat.zero_le _) (Nat.zero_le _) dX4_onFlushed_43
set_option maxRecDepth 100000 in
set_option maxHeartbeats 4000000 in
theorem c_X4_onFlushed {l : Launch} (a0 : Option Nat) (a1 : Int32) (a2 : Option Nat) (h : HP) (h' : HP) (H : f_X4_onFlushed a0 a1 a2 h = some h') : Ct l yX4_onFlushed cX4_onFlushed 3 none rm_X4_onFlushed [va_rf a0, .int a1, va_rf a2] none h h' := by
  refine Ct.of (plainFor_of_name (by decide)) (hz_s1c (hz_s1c (hz_s1c hz_s1n (hz_cr _)) rfl) (hz_cr _)) (Nat.le_of_ble_eq_true rfl) (fun G hl hn C0 => ?_)
  have C : Cx G cX4_onFlushed RX4 "onFlushed" none rm_X4_onFlushed none h' := C0
  subst hl
  show aw G 0 [some (va_rf a0), some (.int a1), some (va_rf a2)] [] h 0 0
  unfold f_X4_onFlushed at H
  refine aw_aload_n C dX4_onFlushed_0 rfl ?_
  obtain ⟨v1, e2, H⟩ := hz_bd H
  refine aw_gI (k := 9) C cl_4 (by decide) wd_226 e2 dX4_onFlushed_1 ?_
  refine aw_iconst C dX4_onFlushed_4 (v := (nI 3)) (by decide) ?_
  refine aw_icmp_ne (tgt := 43) C dX4_onFlushed_5 (by decide) (fun c21 => ?_) (fun c21 => ?_)
  · replace H := hz_if c21 H
    exact aw_loc (hz_sub_n (hz_sub_n (hz_sub_n hz_sub_0))) (k_X4_onFlushed_43 hn C  _ H)
  · replace H := hz_it c21 H
    refine aw_aload_n C dX4_onFlushed_8 rfl ?_
    obtain ⟨v3, e4, H⟩ := hz_bd H
    refine aw_gI (k := 1) C cl_2 (by decide) wd_330 e4 dX4_onFlushed_9 ?_
    refine aw_aload_n C dX4_onFlushed_12 rfl ?_
    obtain ⟨v5, e6, H⟩ := hz_bd H
    refine aw_gI (k := 12) C cl_4 (by decide) wd_230 e6 dX4_onFlushed_13 ?_
    refine aw_icmp_ne (tgt := 43) C dX4_onFlushed_16 (by decide) (fun c22 => ?_) (fun c22 => ?_)
    · replace H := hz_if c22 H
      exact aw_loc (hz_sub_n (hz_sub_n (hz_sub_n hz_sub_0))) (k_X4_onFlushed_43 hn C  _ H)
    · replace H := hz_it c22 H
      refine aw_aload_n C dX4_onFlushed_19 rfl ?_
      obtain ⟨r7, e8, H⟩ := hz_bd H
      refine aw_gR (k := 6) C cl_4 (by decide) wd_222 e8 dX4_onFlushed_20 ?_
      refine aw_iload_n C dX4_onFlushed_23 rfl ?_
      refine aw_aload_n C dX4_onFlushed_24 rfl ?_
      obtain ⟨v9, e10, H⟩ := hz_bd H
      refine aw_gI (k := 2) C cl_2 (by decide) wd_332 e10 dX4_onFlushed_25 ?_
      refine aw_aload_n C dX4_onFlushed_28 rfl ?_
      obtain ⟨r11, e12, H⟩ := hz_bd H
      refine aw_gR (k := 3) C cl_2 (by decide) wd_334 e12 dX4_onFlushed_29 ?_
      obtain ⟨g15, H⟩ := hz_wn H
      obtain ⟨p13, e14, H⟩ := hz_bd H
      refine aw_V (As := [.int a1, .int v9, va_rf r11]) (rest := []) C hy_X0_weigh hv_X0_weigh wd_534 cl_0.1 g15 (c_X0_weigh _ _ _ _ _ _  e14) hz_ron rfl rfl (Nat.le_of_ble_eq_true rfl) (by decide) (kc := 0) (ks := 0) rfl rfl (by decide) dX4_onFlushed_32 ?_
      refine aw_aload_n C dX4_onFlushed_35 rfl ?_
      obtain ⟨r16, e17, H⟩ := hz_bd H
      refine aw_gR (k := 6) C cl_4 (by decide) wd_222 e17 dX4_onFlushed_36 ?_
      refine aw_iload_n C dX4_onFlushed_39 rfl ?_
      obtain ⟨g20, H⟩ := hz_wn H
      obtain ⟨p18, e19, H⟩ := hz_bd H
      refine aw_V (As := [.int a1]) (rest := []) C hy_X0_answered hv_X0_answered wd_542 cl_0.1 g20 (c_X0_answered _ _ _ _  e19) hz_ron rfl rfl (Nat.le_of_ble_eq_true rfl) (by decide) (kc := 0) (ks := 0) rfl rfl (by decide) dX4_onFlushed_40 ?_
      exact aw_loc (hz_sub_n (hz_sub_n (hz_sub_n hz_sub_0))) (k_X4_onFlushed_43 hn C  _ H)
theorem hy_X4_onSync : hz_Y yX4_onSync cX4_onSync 3 none 2 := ⟨wd_549, wd_62, by decide +kernel, by decide +kernel, by decide +kernel⟩
theorem hv_X4_onSync : hz_YV yX4_onSync := ⟨wd_548, wd_30⟩
def f_X4_onSync_42 (h : HP) : Option HP :=
  some h
def f_X4_onSync (a0 : Option Nat) (a1 : Int32) (a2 : Option Nat) (h : HP) : Option HP :=
  (hz_gI h a2 2 1).bind fun v1 =>
  (hz_gI h a0 4 12).bind fun v3 =>
  if v1 = v3 then
    (hz_gR h a0 4 4).bind fun r5 =>
    (hz_gR h a2 2 3).bind fun r7 =>
    if hz_ob h r5 6 = true then
    (f_X6_become r5 r7 h).bind fun p9 =>
    (hz_gI p9 a0 4 12).bind fun v12 =>
    (hz_pF p9 a0 4 13 (.int v12)).bind fun h14 =>
    (hz_gI h14 a0 4 12).bind fun v16 =>
    if hz_ob h14 a0 4 = true then
    (f_X4_reply a0 a1 (nI 10) v16 (nI 0) h14).bind fun p18 =>
    f_X4_onSync_42   p18
    else none
    else none
  else
    f_X4_onSync_42   h
abbrev rm_X4_onSync : Room := { frames := 4, cells := 8, slots := 40, locals := 116 }
set_option maxRecDepth 100000 in
set_option maxHeartbeats 4000000 in
theorem k_X4_onSync_42 {G : GX} {h' : HP} (hn : G.2.2.2.2.2.2.2.2.2.2.2.2 = 3) (C : Cx G cX4_onSync RX4 "onSync" none rm_X4_onSync none h') {cs sl : Nat} (h : HP) (H : f_X4_onSync_42   h = some h') (hcs : cs + 0 ≤ 8) (hsl : sl + 0 ≤ 40) : aw G 42 [none, none, none] [] h cs sl := by
  unfold f_X4_onSync_42 at H
  cases H
  exact aw_vret C (by show cs ≤ 8; omega) (by show sl ≤ 40; omega) dX4_onSync_42
set_option maxRecDepth 100000 in
set_option maxHeartbeats 4000000 in
theorem c_X4_onSync {l : Launch} (a0 : Option Nat) (a1 : Int32) (a2 : Option Nat) (h : HP) (h' : HP) (H : f_X4_onSync a0 a1 a2 h = some h') : Ct l yX4_onSync cX4_onSync 3 none rm_X4_onSync [va_rf a0, .int a1, va_rf a2] none h h' := by
  refine Ct.of (plainFor_of_name (by decide)) (hz_s1c (hz_s1c (hz_s1c hz_s1n (hz_cr _)) rfl) (hz_cr _)) (Nat.le_of_ble_eq_true rfl) (fun G hl hn C0 => ?_)
  have C : Cx G cX4_onSync RX4 "onSync" none rm_X4_onSync none h' := C0
  subst hl
  show aw G 0 [some (va_rf a0), some (.int a1), some (va_rf a2)] [] h 0 0
  unfold f_X4_onSync at H
  obtain ⟨cs, hcs⟩ : ∃ k : Nat, k = 0 := ⟨0, rfl⟩
  obtain ⟨sl, hsl⟩ : ∃ k : Nat, k = 0 := ⟨0, rfl⟩
  suffices hh : aw G 0 [some (va_rf a0), some (.int a1), some (va_rf a2)] [] h cs sl by rw [hcs, hsl] at hh; exact hh
  refine aw_aload_n C dX4_onSync_0 rfl ?_
  obtain ⟨v1, e2, H⟩ := hz_bd H
  refine aw_gI (k := 1) C cl_2 (by decide) wd_330 e2 dX4_onSync_1 ?_
  refine aw_aload_n C dX4_onSync_4 rfl ?_
  obtain ⟨v3, e4, H⟩ := hz_bd H
  refine aw_gI (k := 12) C cl_4 (by decide) wd_230 e4 dX4_onSync_5 ?_
  refine aw_icmp_ne (tgt := 42) C dX4_onSync_8 (by decide) (fun c21 => ?_) (fun c21 => ?_)
  · replace H := hz_if c21 H
    exact aw_loc (hz_sub_n (hz_sub_n (hz_sub_n hz_sub_0))) (k_X4_onSync_42 (cs := cs) (sl := sl) hn C  _ H (by omega) (by omega))
  · replace H := hz_it c21 H
    refine aw_aload_n C dX4_onSync_11 rfl ?_
    obtain ⟨r5, e6, H⟩ := hz_bd H
    refine aw_gR (k := 4) C cl_4 (by decide) wd_218 e6 dX4_onSync_12 ?_
    refine aw_aload_n C dX4_onSync_15 rfl ?_
    obtain ⟨r7, e8, H⟩ := hz_bd H
    refine aw_gR (k := 3) C cl_2 (by decide) wd_334 e8 dX4_onSync_16 ?_
    obtain ⟨g11, H⟩ := hz_wn H
    obtain ⟨p9, e10, H⟩ := hz_bd H
    refine aw_V (As := [va_rf r7]) (rest := []) C hy_X6_become hv_X6_become wd_550 cl_6.1 g11 (c_X6_become _ _ _ _  e10) hz_ron rfl rfl (Nat.le_of_ble_eq_true rfl) (by decide) (kc := 0) (ks := 0) rfl rfl ⟨(by show cs + 0 ≤ 8; omega), (by show sl + 0 ≤ 40; omega)⟩ dX4_onSync_19 ?_
    refine aw_aload_n C dX4_onSync_22 rfl ?_
    refine aw_aload_n C dX4_onSync_23 rfl ?_
    obtain ⟨v12, e13, H⟩ := hz_bd H
    refine aw_gI (k := 12) C cl_4 (by decide) wd_230 e13 dX4_onSync_24 ?_
    obtain ⟨h14, e15, H⟩ := hz_bd H
    refine aw_pF (k := 13) C cl_4 (by decide) rfl wd_231 (hz_fiti _) e15 dX4_onSync_27 ?_
    refine aw_aload_n C dX4_onSync_30 rfl ?_
    refine aw_iload_n C dX4_onSync_31 rfl ?_
    refine aw_bipush C dX4_onSync_32 (v := (nI 10)) (by decide) ?_
    refine aw_aload_n C dX4_onSync_34 rfl ?_
    obtain ⟨v16, e17, H⟩ := hz_bd H
    refine aw_gI (k := 12) C cl_4 (by decide) wd_230 e17 dX4_onSync_35 ?_
    refine aw_iconst C dX4_onSync_38 (v := (nI 0)) (by decide) ?_
    obtain ⟨g20, H⟩ := hz_wn H
    obtain ⟨p18, e19, H⟩ := hz_bd H
    refine aw_V (As := [.int a1, .int (nI 10), .int v16, .int (nI 0)]) (rest := []) C hy_X4_reply hv_X4_reply wd_465 cl_4.1 g20 (c_X4_reply _ _ _ _ _ _ _  e19) hz_ron rfl rfl (Nat.le_of_ble_eq_true rfl) (by decide) (kc := 8) (ks := 40) rfl rfl ⟨(by show cs + 0 + 8 ≤ 8; omega), (by show sl + 0 + 40 ≤ 40; omega)⟩ dX4_onSync_39 ?_
    exact aw_loc (hz_sub_n (hz_sub_n (hz_sub_n hz_sub_0))) (k_X4_onSync_42 (cs := cs + 0 + 8) (sl := sl + 0 + 40) hn C  _ H (by omega) (by omega))
theorem hy_X4_onSynced : hz_Y yX4_onSynced cX4_onSynced 3 none 2 := ⟨wd_559, wd_62, by decide +kernel, by decide +kernel, by decide +kernel⟩
theorem hv_X4_onSynced : hz_YV yX4_onSynced := ⟨wd_558, wd_31⟩
def f_X4_onSynced_27 (h : HP) : Option HP :=
  some h
def f_X4_onSynced (a0 : Option Nat) (a1 : Int32) (a2 : Option Nat) (h : HP) : Option HP :=
  (hz_gI h a0 4 9).bind fun v1 =>
  if v1 = (nI 4) then
    (hz_gI h a2 2 1).bind fun v3 =>
    (hz_gI h a0 4 12).bind fun v5 =>
    if v3 = v5 then
      (hz_gR h a0 4 6).bind fun r7 =>
      if hz_ob h r7 0 = true then
      (f_X0_answered r7 a1 h).bind fun p9 =>
      f_X4_onSynced_27   p9
      else none
    else
      f_X4_onSynced_27   h
  else
    f_X4_onSynced_27   h
abbrev rm_X4_onSynced : Room := { frames := 2, cells := 0, slots := 0, locals := 42 }
set_option maxRecDepth 100000 in
set_option maxHeartbeats 4000000 in
theorem k_X4_onSynced_27 {G : GX} {h' : HP} (hn : G.2.2.2.2.2.2.2.2.2.2.2.2 = 3) (C : Cx G cX4_onSynced RX4 "onSynced" none rm_X4_onSynced none h') (h : HP) (H : f_X4_onSynced_27   h = some h') : aw G 27 [none, none, none] [] h 0 0 := by
  unfold f_X4_onSynced_27 at H
  cases H
  exact aw_vret C (Nat.zero_le _) (Nat.zero_le _) dX4_onSynced_27
set_option maxRecDepth 100000 in
set_option maxHeartbeats 4000000 in
theorem c_X4_onSynced {l : Launch} (a0 : Option Nat) (a1 : Int32) (a2 : Option Nat) (h : HP) (h' : HP) (H : f_X4_onSynced a0 a1 a2 h = some h') : Ct l yX4_onSynced cX4_onSynced 3 none rm_X4_onSynced [va_rf a0, .int a1, va_rf a2] none h h' := by
  refine Ct.of (plainFor_of_name (by decide)) (hz_s1c (hz_s1c (hz_s1c hz_s1n (hz_cr _)) rfl) (hz_cr _)) (Nat.le_of_ble_eq_true rfl) (fun G hl hn C0 => ?_)
  have C : Cx G cX4_onSynced RX4 "onSynced" none rm_X4_onSynced none h' := C0
  subst hl
  show aw G 0 [some (va_rf a0), some (.int a1), some (va_rf a2)] [] h 0 0
  unfold f_X4_onSynced at H
  refine aw_aload_n C dX4_onSynced_0 rfl ?_
  obtain ⟨v1, e2, H⟩ := hz_bd H
  refine aw_gI (k := 9) C cl_4 (by decide) wd_226 e2 dX4_onSynced_1 ?_
  refine aw_iconst C dX4_onSynced_4 (v := (nI 4)) (by decide) ?_
  refine aw_icmp_ne (tgt := 27) C dX4_onSynced_5 (by decide) (fun c12 => ?_) (fun c12 => ?_)
  · replace H := hz_if c12 H
    exact aw_loc (hz_sub_n (hz_sub_n (hz_sub_n hz_sub_0))) (k_X4_onSynced_27 hn C  _ H)
  · replace H := hz_it c12 H
    refine aw_aload_n C dX4_onSynced_8 rfl ?_
    obtain ⟨v3, e4, H⟩ := hz_bd H
    refine aw_gI (k := 1) C cl_2 (by decide) wd_330 e4 dX4_onSynced_9 ?_
    refine aw_aload_n C dX4_onSynced_12 rfl ?_
    obtain ⟨v5, e6, H⟩ := hz_bd H
    refine aw_gI (k := 12) C cl_4 (by decide) wd_230 e6 dX4_onSynced_13 ?_
    refine aw_icmp_ne (tgt := 27) C dX4_onSynced_16 (by decide) (fun c13 => ?_) (fun c13 => ?_)
    · replace H := hz_if c13 H
      exact aw_loc (hz_sub_n (hz_sub_n (hz_sub_n hz_sub_0))) (k_X4_onSynced_27 hn C  _ H)
    · replace H := hz_it c13 H
      refine aw_aload_n C dX4_onSynced_19 rfl ?_
      obtain ⟨r7, e8, H⟩ := hz_bd H
      refine aw_gR (k := 6) C cl_4 (by decide) wd_222 e8 dX4_onSynced_20 ?_
      refine aw_iload_n C dX4_onSynced_23 rfl ?_
      obtain ⟨g11, H⟩ := hz_wn H
      obtain ⟨p9, e10, H⟩ := hz_bd H
      refine aw_V (As := [.int a1]) (rest := []) C hy_X0_answered hv_X0_answered wd_542 cl_0.1 g11 (c_X0_answered _ _ _ _  e10) hz_ron rfl rfl (Nat.le_of_ble_eq_true rfl) (by decide) (kc := 0) (ks := 0) rfl rfl (by decide) dX4_onSynced_24 ?_
      exact aw_loc (hz_sub_n (hz_sub_n (hz_sub_n hz_sub_0))) (k_X4_onSynced_27 hn C  _ H)
theorem hy_X4_begin : hz_Y yX4_begin cX4_begin 2 none 1 := ⟨wd_567, wd_62, by decide +kernel, by decide +kernel, by decide +kernel⟩
theorem hv_X4_begin : hz_YV yX4_begin := ⟨wd_566, wd_33⟩
def f_X4_begin (a0 : Option Nat) (a1 : Int32) (h : HP) : Option HP :=
  (hz_gI h a0 4 12).bind fun v1 =>
  (hz_pF h a0 4 10 (.int v1)).bind fun h3 =>
  (hz_pF h3 a0 4 11 (.int a1)).bind fun h5 =>
  (hz_pF h5 a0 4 9 (.int (nI 0))).bind fun h7 =>
  (hz_gR h7 a0 4 7).bind fun r9 =>
  (hz_gR h7 a0 4 4).bind fun r11 =>
  (hz_gI h7 r11 6 1).bind fun v13 =>
  (f_J7_fill_53178 r9 v13 h7).bind fun p15 =>
  (hz_gR p15 a0 4 4).bind fun r17 =>
  (hz_gI p15 r17 6 1).bind fun v19 =>
  if hz_ob p15 a0 4 = true then
  (f_X4_carryOutUpTo a0 v19 p15).bind fun p21 =>
  (hz_gR p21 a0 4 3).bind fun r24 =>
  (hz_gI p21 r24 7 3).bind fun v26 =>
  (hz_pF p21 r24 7 3 (.int (v26 + (nI 1)))).bind fun h28 =>
  some h28
  else none
abbrev rm_X4_begin : Room := { frames := 3, cells := 0, slots := 0, locals := 65 }
set_option maxRecDepth 100000 in
set_option maxHeartbeats 4000000 in
theorem c_X4_begin {l : Launch} (a0 : Option Nat) (a1 : Int32) (h : HP) (h' : HP) (H : f_X4_begin a0 a1 h = some h') : Ct l yX4_begin cX4_begin 2 none rm_X4_begin [va_rf a0, .int a1] none h h' := by
  refine Ct.of (plainFor_of_name (by decide)) (hz_s1c (hz_s1c hz_s1n rfl) (hz_cr _)) (Nat.le_of_ble_eq_true rfl) (fun G hl hn C0 => ?_)
  have C : Cx G cX4_begin RX4 "begin" none rm_X4_begin none h' := C0
  subst hl
  show aw G 0 [some (va_rf a0), some (.int a1)] [] h 0 0
  unfold f_X4_begin at H
  refine aw_aload_n C dX4_begin_0 rfl ?_
  refine aw_aload_n C dX4_begin_1 rfl ?_
  obtain ⟨v1, e2, H⟩ := hz_bd H
  refine aw_gI (k := 12) C cl_4 (by decide) wd_230 e2 dX4_begin_2 ?_
  obtain ⟨h3, e4, H⟩ := hz_bd H
  refine aw_pF (k := 10) C cl_4 (by decide) rfl wd_228 (hz_fiti _) e4 dX4_begin_5 ?_
  refine aw_aload_n C dX4_begin_8 rfl ?_
  refine aw_iload_n C dX4_begin_9 rfl ?_
  obtain ⟨h5, e6, H⟩ := hz_bd H
  refine aw_pF (k := 11) C cl_4 (by decide) rfl wd_229 (hz_fiti _) e6 dX4_begin_10 ?_
  refine aw_aload_n C dX4_begin_13 rfl ?_
  refine aw_iconst C dX4_begin_14 (v := (nI 0)) (by decide) ?_
  obtain ⟨h7, e8, H⟩ := hz_bd H
  refine aw_pF (k := 9) C cl_4 (by decide) rfl wd_226 (hz_fiti _) e8 dX4_begin_15 ?_
  refine aw_aload_n C dX4_begin_18 rfl ?_
  obtain ⟨r9, e10, H⟩ := hz_bd H
  refine aw_gR (k := 7) C cl_4 (by decide) wd_223 e10 dX4_begin_19 ?_
  refine aw_aload_n C dX4_begin_22 rfl ?_
  obtain ⟨r11, e12, H⟩ := hz_bd H
  refine aw_gR (k := 4) C cl_4 (by decide) wd_218 e12 dX4_begin_23 ?_
  obtain ⟨v13, e14, H⟩ := hz_bd H
  refine aw_gI (k := 1) C cl_6 (by decide) wd_165 e14 dX4_begin_26 ?_
  obtain ⟨p15, e16, H⟩ := hz_bd H
  refine aw_S (As := [va_rf r9, .int v13]) (rest := []) C hy_J7_fill_53178 wd_569 wd_568 (c_J7_fill_53178 _ _ _ _  e16) hz_ron rfl rfl (Nat.le_of_ble_eq_true rfl) (by decide) (kc := 0) (ks := 0) rfl rfl (by decide) dX4_begin_29 ?_
  refine aw_aload_n C dX4_begin_32 rfl ?_
  refine aw_aload_n C dX4_begin_33 rfl ?_
  obtain ⟨r17, e18, H⟩ := hz_bd H
  refine aw_gR (k := 4) C cl_4 (by decide) wd_218 e18 dX4_begin_34 ?_
  obtain ⟨v19, e20, H⟩ := hz_bd H
  refine aw_gI (k := 1) C cl_6 (by decide) wd_165 e20 dX4_begin_37 ?_
  obtain ⟨g23, H⟩ := hz_wn H
  obtain ⟨p21, e22, H⟩ := hz_bd H
  refine aw_V (As := [.int v19]) (rest := []) C hy_X4_carryOutUpTo hv_X4_carryOutUpTo wd_393 cl_4.1 g23 (c_X4_carryOutUpTo _ _ _ _  e22) hz_ron rfl rfl (Nat.le_of_ble_eq_true rfl) (by decide) (kc := 0) (ks := 0) rfl rfl (by decide) dX4_begin_40 ?_
  refine aw_aload_n C dX4_begin_43 rfl ?_
  obtain ⟨r24, e25, H⟩ := hz_bd H
  refine aw_gR (k := 3) C cl_4 (by decide) wd_217 e25 dX4_begin_44 ?_
  refine aw_dup C dX4_begin_47 ?_
  obtain ⟨v26, e27, H⟩ := hz_bd H
  refine aw_gI (k := 3) C cl_7 (by decide) wd_95 e27 dX4_begin_48 ?_
  refine aw_iconst C dX4_begin_51 (v := (nI 1)) (by decide) ?_
  refine aw_iadd C dX4_begin_52 ?_
  obtain ⟨h28, e29, H⟩ := hz_bd H
  refine aw_pF (k := 3) C cl_7 (by decide) rfl wd_95 (hz_fiti _) e29 dX4_begin_53 ?_
  cases H
  exact aw_vret C (Nat.zero_le _) (Nat.zero_le _) dX4_begin_56
theorem hy_X4_onBegin : hz_Y yX4_onBegin cX4_onBegin 2 none 1 := ⟨wd_563, wd_62, by decide +kernel, by decide +kernel, by decide +kernel⟩
theorem hv_X4_onBegin : hz_YV yX4_onBegin := ⟨wd_562, wd_32⟩
def f_X4_onBegin_19 (h : HP) : Option HP :=
  some h
def f_X4_onBegin (a0 : Option Nat) (a1 : Option Nat) (h : HP) : Option HP :=
  (hz_gI h a1 2 1).bind fun v1 =>
  (hz_gI h a0 4 12).bind fun v3 =>
  if v1 = v3 then
    (hz_gI h a1 2 2).bind fun v5 =>
    if hz_ob h a0 4 = true then
    (f_X4_begin a0 v5 h).bind fun p7 =>
    f_X4_onBegin_19   p7
    else none
  else
    f_X4_onBegin_19   h
abbrev rm_X4_onBegin : Room := { frames := 4, cells := 0, slots := 0, locals := 86 }
set_option maxRecDepth 100000 in
set_option maxHeartbeats 4000000 in
theorem k_X4_onBegin_19 {G : GX} {h' : HP} (hn : G.2.2.2.2.2.2.2.2.2.2.2.2 = 2) (C : Cx G cX4_onBegin RX4 "onBegin" none rm_X4_onBegin none h') (h : HP) (H : f_X4_onBegin_19   h = some h') : aw G 19 [none, none] [] h 0 0 := by
  unfold f_X4_onBegin_19 at H
  cases H
  exact aw_vret C (Nat.zero_le _) (Nat.zero_le _) dX4_onBegin_19
set_option maxRecDepth 100000 in
set_option maxHeartbeats 4000000 in
theorem c_X4_onBegin {l : Launch} (a0 : Option Nat) (a1 : Option Nat) (h : HP) (h' : HP) (H : f_X4_onBegin a0 a1 h = some h') : Ct l yX4_onBegin cX4_onBegin 2 none rm_X4_onBegin [va_rf a0, va_rf a1] none h h' := by
  refine Ct.of (plainFor_of_name (by decide)) (hz_s1c (hz_s1c hz_s1n (hz_cr _)) (hz_cr _)) (Nat.le_of_ble_eq_true rfl) (fun G hl hn C0 => ?_)
  have C : Cx G cX4_onBegin RX4 "onBegin" none rm_X4_onBegin none h' := C0
  subst hl
  show aw G 0 [some (va_rf a0), some (va_rf a1)] [] h 0 0
  unfold f_X4_onBegin at H
  refine aw_aload_n C dX4_onBegin_0 rfl ?_
  obtain ⟨v1, e2, H⟩ := hz_bd H
  refine aw_gI (k := 1) C cl_2 (by decide) wd_330 e2 dX4_onBegin_1 ?_
  refine aw_aload_n C dX4_onBegin_4 rfl ?_
  obtain ⟨v3, e4, H⟩ := hz_bd H
  refine aw_gI (k := 12) C cl_4 (by decide) wd_230 e4 dX4_onBegin_5 ?_
  refine aw_icmp_ne (tgt := 19) C dX4_onBegin_8 (by decide) (fun c10 => ?_) (fun c10 => ?_)
  · replace H := hz_if c10 H
    exact aw_loc (hz_sub_n (hz_sub_n hz_sub_0)) (k_X4_onBegin_19 hn C  _ H)
  · replace H := hz_it c10 H
    refine aw_aload_n C dX4_onBegin_11 rfl ?_
    refine aw_aload_n C dX4_onBegin_12 rfl ?_
    obtain ⟨v5, e6, H⟩ := hz_bd H
    refine aw_gI (k := 2) C cl_2 (by decide) wd_332 e6 dX4_onBegin_13 ?_
    obtain ⟨g9, H⟩ := hz_wn H
    obtain ⟨p7, e8, H⟩ := hz_bd H
    refine aw_V (As := [.int v5]) (rest := []) C hy_X4_begin hv_X4_begin wd_564 cl_4.1 g9 (c_X4_begin _ _ _ _  e8) hz_ron rfl rfl (Nat.le_of_ble_eq_true rfl) (by decide) (kc := 0) (ks := 0) rfl rfl (by decide) dX4_onBegin_16 ?_
    exact aw_loc (hz_sub_n (hz_sub_n hz_sub_0)) (k_X4_onBegin_19 hn C  _ H)
theorem hy_X4_receive : hz_Y yX4_receive cX4_receive 3 none 2 := ⟨wd_448, wd_62, by decide +kernel, by decide +kernel, by decide +kernel⟩
theorem hv_X4_receive : hz_YV yX4_receive := ⟨wd_446, wd_447⟩
def f_X4_receive_169 (h : HP) : Option HP :=
  some h
def f_X4_receive (a0 : Option Nat) (a1 : Int32) (a2 : Option Nat) (h : HP) : Option HP :=
  (hz_gI h a2 2 0).bind fun v1 =>
  if v1 = nI 1 then
    if hz_ob h a0 4 = true then
    (f_X4_onPass a0 a2 h).bind fun p3 =>
    f_X4_receive_169   p3
    else none
  else
  if v1 = nI 2 then
    if hz_ob h a0 4 = true then
    (f_X4_onOrder a0 a1 a2 h).bind fun p6 =>
    f_X4_receive_169   p6
    else none
  else
  if v1 = nI 3 then
    if hz_ob h a0 4 = true then
    (f_X4_onHeld a0 a1 a2 h).bind fun p9 =>
    f_X4_receive_169   p9
    else none
  else
  if v1 = nI 4 then
    if hz_ob h a0 4 = true then
    (f_X4_onDo a0 a2 h).bind fun p12 =>
    f_X4_receive_169   p12
    else none
  else
  if v1 = nI 5 then
    if hz_ob h a0 4 = true then
    (f_X4_onElect a0 a1 h).bind fun p15 =>
    f_X4_receive_169   p15
    else none
  else
  if v1 = nI 6 then
    if hz_ob h a0 4 = true then
    (f_X4_onWait a0 h).bind fun p18 =>
    f_X4_receive_169   p18
    else none
  else
  if v1 = nI 7 then
    if hz_ob h a0 4 = true then
    (f_X4_onFlush a0 a1 a2 h).bind fun p21 =>
    f_X4_receive_169   p21
    else none
  else
  if v1 = nI 8 then
    if hz_ob h a0 4 = true then
    (f_X4_onFlushed a0 a1 a2 h).bind fun p24 =>
    f_X4_receive_169   p24
    else none
  else
  if v1 = nI 9 then
    if hz_ob h a0 4 = true then
    (f_X4_onSync a0 a1 a2 h).bind fun p27 =>
    f_X4_receive_169   p27
    else none
  else
  if v1 = nI 10 then
    if hz_ob h a0 4 = true then
    (f_X4_onSynced a0 a1 a2 h).bind fun p30 =>
    f_X4_receive_169   p30
    else none
  else
  if v1 = nI 11 then
    if hz_ob h a0 4 = true then
    (f_X4_onBegin a0 a2 h).bind fun p33 =>
    f_X4_receive_169   p33
    else none
  else
  if v1 = nI 12 then
    (hz_pF h a0 4 8 (.int (nI 2))).bind fun h36 =>
    f_X4_receive_169   h36
  else
    f_X4_receive_169   h
abbrev rm_X4_receive : Room := { frames := 6, cells := 17, slots := 144, locals := 155 }
set_option maxRecDepth 100000 in
set_option maxHeartbeats 4000000 in
theorem k_X4_receive_169 {G : GX} {h' : HP} (hn : G.2.2.2.2.2.2.2.2.2.2.2.2 = 3) (C : Cx G cX4_receive RX4 "receive" none rm_X4_receive none h') {cs sl : Nat} (h : HP) (H : f_X4_receive_169   h = some h') (hcs : cs + 0 ≤ 17) (hsl : sl + 0 ≤ 144) : aw G 169 [none, none, none] [] h cs sl := by
  unfold f_X4_receive_169 at H
  cases H
  exact aw_vret C (by show cs ≤ 17; omega) (by show sl ≤ 144; omega) dX4_receive_169
set_option maxRecDepth 100000 in
set_option maxHeartbeats 4000000 in
theorem c_X4_receive {l : Launch} (a0 : Option Nat) (a1 : Int32) (a2 : Option Nat) (h : HP) (h' : HP) (H : f_X4_receive a0 a1 a2 h = some h') : Ct l yX4_receive cX4_receive 3 none rm_X4_receive [va_rf a0, .int a1, va_rf a2] none h h' := by
  refine Ct.of (plainFor_of_name (by decide)) (hz_s1c (hz_s1c (hz_s1c hz_s1n (hz_cr _)) rfl) (hz_cr _)) (Nat.le_of_ble_eq_true rfl) (fun G hl hn C0 => ?_)
  have C : Cx G cX4_receive RX4 "receive" none rm_X4_receive none h' := C0
  subst hl
  show aw G 0 [some (va_rf a0), some (.int a1), some (va_rf a2)] [] h 0 0
  unfold f_X4_receive at H
  obtain ⟨cs, hcs⟩ : ∃ k : Nat, k = 0 := ⟨0, rfl⟩
  obtain ⟨sl, hsl⟩ : ∃ k : Nat, k = 0 := ⟨0, rfl⟩
  suffices hh : aw G 0 [some (va_rf a0), some (.int a1), some (va_rf a2)] [] h cs sl by rw [hcs, hsl] at hh; exact hh
  refine aw_aload_n C dX4_receive_0 rfl ?_
  obtain ⟨v1, e2, H⟩ := hz_bd H
  refine aw_gI (k := 0) C cl_2 (by decide) wd_328 e2 dX4_receive_1 ?_
  by_cases c38 : v1 = nI 1
  · replace H := hz_it c38 H
    refine aw_tabI (a := 1) (off := 64) (tgt := 68) C dX4_receive_4 (by rw [c38]; decide) (by decide) (by decide) rfl (by decide) ?_
    refine aw_aload_n C dX4_receive_68 rfl ?_
    refine aw_aload_n C dX4_receive_69 rfl ?_
    obtain ⟨g5, H⟩ := hz_wn H
    obtain ⟨p3, e4, H⟩ := hz_bd H
    refine aw_V (As := [va_rf a2]) (rest := []) C hy_X4_onPass hv_X4_onPass wd_449 cl_4.1 g5 (c_X4_onPass _ _ _ _  e4) hz_ron rfl rfl (Nat.le_of_ble_eq_true rfl) (by decide) (kc := 17) (ks := 81) rfl rfl ⟨(by show cs + 17 ≤ 17; omega), (by show sl + 81 ≤ 144; omega)⟩ dX4_receive_70 ?_
    refine aw_goto (tgt := 169) C dX4_receive_73 (by decide) ?_
    exact aw_loc (hz_sub_n (hz_sub_n (hz_sub_n hz_sub_0))) (k_X4_receive_169 (cs := cs + 17) (sl := sl + 81) hn C  _ H (by omega) (by omega))
  replace H := hz_if c38 H
  by_cases c39 : v1 = nI 2
  · replace H := hz_it c39 H
    refine aw_tabI (a := 2) (off := 72) (tgt := 76) C dX4_receive_4 (by rw [c39]; decide) (by decide) (by decide) rfl (by decide) ?_
    refine aw_aload_n C dX4_receive_76 rfl ?_
    refine aw_iload_n C dX4_receive_77 rfl ?_
    refine aw_aload_n C dX4_receive_78 rfl ?_
    obtain ⟨g8, H⟩ := hz_wn H
    obtain ⟨p6, e7, H⟩ := hz_bd H
    refine aw_V (As := [.int a1, va_rf a2]) (rest := []) C hy_X4_onOrder hv_X4_onOrder wd_461 cl_4.1 g8 (c_X4_onOrder _ _ _ _ _  e7) hz_ron rfl rfl (Nat.le_of_ble_eq_true rfl) (by decide) (kc := 8) (ks := 40) rfl rfl ⟨(by show cs + 8 ≤ 17; omega), (by show sl + 40 ≤ 144; omega)⟩ dX4_receive_79 ?_
    refine aw_goto (tgt := 169) C dX4_receive_82 (by decide) ?_
    exact aw_loc (hz_sub_n (hz_sub_n (hz_sub_n hz_sub_0))) (k_X4_receive_169 (cs := cs + 8) (sl := sl + 40) hn C  _ H (by omega) (by omega))
  replace H := hz_if c39 H
  by_cases c40 : v1 = nI 3
  · replace H := hz_it c40 H
    refine aw_tabI (a := 3) (off := 81) (tgt := 85) C dX4_receive_4 (by rw [c40]; decide) (by decide) (by decide) rfl (by decide) ?_
    refine aw_aload_n C dX4_receive_85 rfl ?_
    refine aw_iload_n C dX4_receive_86 rfl ?_
    refine aw_aload_n C dX4_receive_87 rfl ?_
    obtain ⟨g11, H⟩ := hz_wn H
    obtain ⟨p9, e10, H⟩ := hz_bd H
    refine aw_V (As := [.int a1, va_rf a2]) (rest := []) C hy_X4_onHeld hv_X4_onHeld wd_469 cl_4.1 g11 (c_X4_onHeld _ _ _ _ _  e10) hz_ron rfl rfl (Nat.le_of_ble_eq_true rfl) (by decide) (kc := 8) (ks := 40) rfl rfl ⟨(by show cs + 8 ≤ 17; omega), (by show sl + 40 ≤ 144; omega)⟩ dX4_receive_88 ?_
    refine aw_goto (tgt := 169) C dX4_receive_91 (by decide) ?_
    exact aw_loc (hz_sub_n (hz_sub_n (hz_sub_n hz_sub_0))) (k_X4_receive_169 (cs := cs + 8) (sl := sl + 40) hn C  _ H (by omega) (by omega))
  replace H := hz_if c40 H
  by_cases c41 : v1 = nI 4
  · replace H := hz_it c41 H
    refine aw_tabI (a := 4) (off := 90) (tgt := 94) C dX4_receive_4 (by rw [c41]; decide) (by decide) (by decide) rfl (by decide) ?_
    refine aw_aload_n C dX4_receive_94 rfl ?_
    refine aw_aload_n C dX4_receive_95 rfl ?_
    obtain ⟨g14, H⟩ := hz_wn H
    obtain ⟨p12, e13, H⟩ := hz_bd H
    refine aw_V (As := [va_rf a2]) (rest := []) C hy_X4_onDo hv_X4_onDo wd_473 cl_4.1 g14 (c_X4_onDo _ _ _ _  e13) hz_ron rfl rfl (Nat.le_of_ble_eq_true rfl) (by decide) (kc := 0) (ks := 0) rfl rfl ⟨(by show cs + 0 ≤ 17; omega), (by show sl + 0 ≤ 144; omega)⟩ dX4_receive_96 ?_
    refine aw_goto (tgt := 169) C dX4_receive_99 (by decide) ?_
    exact aw_loc (hz_sub_n (hz_sub_n (hz_sub_n hz_sub_0))) (k_X4_receive_169 (cs := cs + 0) (sl := sl + 0) hn C  _ H (by omega) (by omega))
  replace H := hz_if c41 H
  by_cases c42 : v1 = nI 5
  · replace H := hz_it c42 H
    refine aw_tabI (a := 5) (off := 98) (tgt := 102) C dX4_receive_4 (by rw [c42]; decide) (by decide) (by decide) rfl (by decide) ?_
    refine aw_aload_n C dX4_receive_102 rfl ?_
    refine aw_iload_n C dX4_receive_103 rfl ?_
    obtain ⟨g17, H⟩ := hz_wn H
    obtain ⟨p15, e16, H⟩ := hz_bd H
    refine aw_V (As := [.int a1]) (rest := []) C hy_X4_onElect hv_X4_onElect wd_477 cl_4.1 g17 (c_X4_onElect _ _ _ _  e16) hz_ron rfl rfl (Nat.le_of_ble_eq_true rfl) (by decide) (kc := 17) (ks := 144) rfl rfl ⟨(by show cs + 17 ≤ 17; omega), (by show sl + 144 ≤ 144; omega)⟩ dX4_receive_104 ?_
    refine aw_goto (tgt := 169) C dX4_receive_107 (by decide) ?_
    exact aw_loc (hz_sub_n (hz_sub_n (hz_sub_n hz_sub_0))) (k_X4_receive_169 (cs := cs + 17) (sl := sl + 144) hn C  _ H (by omega) (by omega))
  replace H := hz_if c42 H
  by_cases c43 : v1 = nI 6
  · replace H := hz_it c43 H
    refine aw_tabI (a := 6) (off := 106) (tgt := 110) C dX4_receive_4 (by rw [c43]; decide) (by decide) (by decide) rfl (by decide) ?_
    refine aw_aload_n C dX4_receive_110 rfl ?_
    obtain ⟨g20, H⟩ := hz_wn H
    obtain ⟨p18, e19, H⟩ := hz_bd H
    refine aw_V (As := []) (rest := []) C hy_X4_onWait hv_X4_onWait wd_522 cl_4.1 g20 (c_X4_onWait _ _ _  e19) hz_ron rfl rfl (Nat.le_of_ble_eq_true rfl) (by decide) (kc := 0) (ks := 0) rfl rfl ⟨(by show cs + 0 ≤ 17; omega), (by show sl + 0 ≤ 144; omega)⟩ dX4_receive_111 ?_
    refine aw_goto (tgt := 169) C dX4_receive_114 (by decide) ?_
    exact aw_loc (hz_sub_n (hz_sub_n (hz_sub_n hz_sub_0))) (k_X4_receive_169 (cs := cs + 0) (sl := sl + 0) hn C  _ H (by omega) (by omega))
  replace H := hz_if c43 H
  by_cases c44 : v1 = nI 7
  · replace H := hz_it c44 H
    refine aw_tabI (a := 7) (off := 113) (tgt := 117) C dX4_receive_4 (by rw [c44]; decide) (by decide) (by decide) rfl (by decide) ?_
    refine aw_aload_n C dX4_receive_117 rfl ?_
    refine aw_iload_n C dX4_receive_118 rfl ?_
    refine aw_aload_n C dX4_receive_119 rfl ?_
    obtain ⟨g23, H⟩ := hz_wn H
    obtain ⟨p21, e22, H⟩ := hz_bd H
    refine aw_V (As := [.int a1, va_rf a2]) (rest := []) C hy_X4_onFlush hv_X4_onFlush wd_526 cl_4.1 g23 (c_X4_onFlush _ _ _ _ _  e22) hz_ron rfl rfl (Nat.le_of_ble_eq_true rfl) (by decide) (kc := 9) (ks := 104) rfl rfl ⟨(by show cs + 9 ≤ 17; omega), (by show sl + 104 ≤ 144; omega)⟩ dX4_receive_120 ?_
    refine aw_goto (tgt := 169) C dX4_receive_123 (by decide) ?_
    exact aw_loc (hz_sub_n (hz_sub_n (hz_sub_n hz_sub_0))) (k_X4_receive_169 (cs := cs + 9) (sl := sl + 104) hn C  _ H (by omega) (by omega))
  replace H := hz_if c44 H
  by_cases c45 : v1 = nI 8
  · replace H := hz_it c45 H
    refine aw_tabI (a := 8) (off := 122) (tgt := 126) C dX4_receive_4 (by rw [c45]; decide) (by decide) (by decide) rfl (by decide) ?_
    refine aw_aload_n C dX4_receive_126 rfl ?_
    refine aw_iload_n C dX4_receive_127 rfl ?_
    refine aw_aload_n C dX4_receive_128 rfl ?_
    obtain ⟨g26, H⟩ := hz_wn H
    obtain ⟨p24, e25, H⟩ := hz_bd H
    refine aw_V (As := [.int a1, va_rf a2]) (rest := []) C hy_X4_onFlushed hv_X4_onFlushed wd_530 cl_4.1 g26 (c_X4_onFlushed _ _ _ _ _  e25) hz_ron rfl rfl (Nat.le_of_ble_eq_true rfl) (by decide) (kc := 0) (ks := 0) rfl rfl ⟨(by show cs + 0 ≤ 17; omega), (by show sl + 0 ≤ 144; omega)⟩ dX4_receive_129 ?_
    refine aw_goto (tgt := 169) C dX4_receive_132 (by decide) ?_
    exact aw_loc (hz_sub_n (hz_sub_n (hz_sub_n hz_sub_0))) (k_X4_receive_169 (cs := cs + 0) (sl := sl + 0) hn C  _ H (by omega) (by omega))
  replace H := hz_if c45 H
  by_cases c46 : v1 = nI 9
  · replace H := hz_it c46 H
    refine aw_tabI (a := 9) (off := 131) (tgt := 135) C dX4_receive_4 (by rw [c46]; decide) (by decide) (by decide) rfl (by decide) ?_
    refine aw_aload_n C dX4_receive_135 rfl ?_
    refine aw_iload_n C dX4_receive_136 rfl ?_
    refine aw_aload_n C dX4_receive_137 rfl ?_
    obtain ⟨g29, H⟩ := hz_wn H
    obtain ⟨p27, e28, H⟩ := hz_bd H
    refine aw_V (As := [.int a1, va_rf a2]) (rest := []) C hy_X4_onSync hv_X4_onSync wd_546 cl_4.1 g29 (c_X4_onSync _ _ _ _ _  e28) hz_ron rfl rfl (Nat.le_of_ble_eq_true rfl) (by decide) (kc := 8) (ks := 40) rfl rfl ⟨(by show cs + 8 ≤ 17; omega), (by show sl + 40 ≤ 144; omega)⟩ dX4_receive_138 ?_
    refine aw_goto (tgt := 169) C dX4_receive_141 (by decide) ?_
    exact aw_loc (hz_sub_n (hz_sub_n (hz_sub_n hz_sub_0))) (k_X4_receive_169 (cs := cs + 8) (sl := sl + 40) hn C  _ H (by omega) (by omega))
  replace H := hz_if c46 H
  by_cases c47 : v1 = nI 10
  · replace H := hz_it c47 H
    refine aw_tabI (a := 10) (off := 140) (tgt := 144) C dX4_receive_4 (by rw [c47]; decide) (by decide) (by decide) rfl (by decide) ?_
    refine aw_aload_n C dX4_receive_144 rfl ?_
    refine aw_iload_n C dX4_receive_145 rfl ?_
    refine aw_aload_n C dX4_receive_146 rfl ?_
    obtain ⟨g32, H⟩ := hz_wn H
    obtain ⟨p30, e31, H⟩ := hz_bd H
    refine aw_V (As := [.int a1, va_rf a2]) (rest := []) C hy_X4_onSynced hv_X4_onSynced wd_556 cl_4.1 g32 (c_X4_onSynced _ _ _ _ _  e31) hz_ron rfl rfl (Nat.le_of_ble_eq_true rfl) (by decide) (kc := 0) (ks := 0) rfl rfl ⟨(by show cs + 0 ≤ 17; omega), (by show sl + 0 ≤ 144; omega)⟩ dX4_receive_147 ?_
    refine aw_goto (tgt := 169) C dX4_receive_150 (by decide) ?_
    exact aw_loc (hz_sub_n (hz_sub_n (hz_sub_n hz_sub_0))) (k_X4_receive_169 (cs := cs + 0) (sl := sl + 0) hn C  _ H (by omega) (by omega))
  replace H := hz_if c47 H
  by_cases c48 : v1 = nI 11
  · replace H := hz_it c48 H
    refine aw_tabI (a := 11) (off := 149) (tgt := 153) C dX4_receive_4 (by rw [c48]; decide) (by decide) (by decide) rfl (by decide) ?_
    refine aw_aload_n C dX4_receive_153 rfl ?_
    refine aw_aload_n C dX4_receive_154 rfl ?_
    obtain ⟨g35, H⟩ := hz_wn H
    obtain ⟨p33, e34, H⟩ := hz_bd H
    refine aw_V (As := [va_rf a2]) (rest := []) C hy_X4_onBegin hv_X4_onBegin wd_560 cl_4.1 g35 (c_X4_onBegin _ _ _ _  e34) hz_ron rfl rfl (Nat.le_of_ble_eq_true rfl) (by decide) (kc := 0) (ks := 0) rfl rfl ⟨(by show cs + 0 ≤ 17; omega), (by show sl + 0 ≤ 144; omega)⟩ dX4_receive_155 ?_
    refine aw_goto (tgt := 169) C dX4_receive_158 (by decide) ?_
    exact aw_loc (hz_sub_n (hz_sub_n (hz_sub_n hz_sub_0))) (k_X4_receive_169 (cs := cs + 0) (sl := sl + 0) hn C  _ H (by omega) (by omega))
  replace H := hz_if c48 H
  by_cases c49 : v1 = nI 12
  · replace H := hz_it c49 H
    refine aw_tabI (a := 12) (off := 157) (tgt := 161) C dX4_receive_4 (by rw [c49]; decide) (by decide) (by decide) rfl (by decide) ?_
    refine aw_aload_n C dX4_receive_161 rfl ?_
    refine aw_iconst C dX4_receive_162 (v := (nI 2)) (by decide) ?_
    obtain ⟨h36, e37, H⟩ := hz_bd H
    refine aw_pF (k := 8) C cl_4 (by decide) rfl wd_224 (hz_fiti _) e37 dX4_receive_163 ?_
    refine aw_goto (tgt := 169) C dX4_receive_166 (by decide) ?_
    exact aw_loc (hz_sub_n (hz_sub_n (hz_sub_n hz_sub_0))) (k_X4_receive_169 (cs := cs) (sl := sl) hn C  _ H (by omega) (by omega))
  replace H := hz_if c49 H
  refine aw_tabO (tgt := 169) C dX4_receive_4 (by have z0 := lv_neT (a := 1) c38 rfl; have z1 := lv_neT (a := 2) c39 rfl; have z2 := lv_neT (a := 3) c40 rfl; have z3 := lv_neT (a := 4) c41 rfl; have z4 := lv_neT (a := 5) c42 rfl; have z5 := lv_neT (a := 6) c43 rfl; have z6 := lv_neT (a := 7) c44 rfl; have z7 := lv_neT (a := 8) c45 rfl; have z8 := lv_neT (a := 9) c46 rfl; have z9 := lv_neT (a := 10) c47 rfl; have z10 := lv_neT (a := 11) c48 rfl; have z11 := lv_neT (a := 12) c49 rfl; omega) (by decide) ?_
  exact aw_loc (hz_sub_n (hz_sub_n (hz_sub_n hz_sub_0))) (k_X4_receive_169 (cs := cs) (sl := sl) hn C  _ H (by omega) (by omega))
theorem hy_X4_giveBest : hz_Y yX4_giveBest cX4_giveBest 1 none 0 := ⟨wd_578, wd_62, by decide +kernel, by decide +kernel, by decide +kernel⟩
theorem hv_X4_giveBest : hz_YV yX4_giveBest := ⟨wd_577, wd_34⟩
def f_X4_giveBest (a0 : Option Nat) (h : HP) : Option HP :=
  (hz_gR h a0 4 4).bind fun r1 =>
  (hz_gR h a0 4 6).bind fun r3 =>
  (hz_gR h r3 0 2).bind fun r5 =>
  if hz_ob h r1 6 = true then
  (f_X6_become r1 r5 h).bind fun p7 =>
  (hz_gI p7 a0 4 12).bind fun v10 =>
  (hz_pF p7 a0 4 13 (.int v10)).bind fun h12 =>
  (hz_pF h12 a0 4 9 (.int (nI 4))).bind fun h14 =>
  (hz_gR h14 a0 4 6).bind fun r16 =>
  (hz_gR h14 a0 4 6).bind fun r18 =>
  (hz_gI h14 r18 0 0).bind fun v20 =>
  (hz_gI h14 a0 4 0).bind fun v22 =>
  (f_X8_without v20 v22 h14).bind fun p24 =>
  (hz_pF p24.2 r16 0 1 (.int p24.1)).bind fun h26 =>
  (hz_gR h26 a0 4 2).bind fun r28 =>
  (hz_gI h26 a0 4 0).bind fun v30 =>
  (hz_gR h26 a0 4 6).bind fun r32 =>
  (hz_gI h26 r32 0 1).bind fun v34 =>
  (hz_gI h26 a0 4 12).bind fun v36 =>
  (hz_gR h26 a0 4 6).bind fun r38 =>
  (hz_gR h26 r38 0 2).bind fun r40 =>
  if hz_ob h26 r28 5 = true then
  (f_X5_send r28 v30 v34 (nI 9) v36 (nI 0) r40 h26).bind fun p42 =>
  some p42
  else none
  else none
abbrev rm_X4_giveBest : Room := { frames := 3, cells := 8, slots := 40, locals := 92 }
set_option maxRecDepth 100000 in
set_option maxHeartbeats 4000000 in
theorem c_X4_giveBest {l : Launch} (a0 : Option Nat) (h : HP) (h' : HP) (H : f_X4_giveBest a0 h = some h') : Ct l yX4_giveBest cX4_giveBest 1 none rm_X4_giveBest [va_rf a0] none h h' := by
  refine Ct.of (plainFor_of_name (by decide)) (hz_s1c hz_s1n (hz_cr _)) (Nat.le_of_ble_eq_true rfl) (fun G hl hn C0 => ?_)
  have C : Cx G cX4_giveBest RX4 "giveBest" none rm_X4_giveBest none h' := C0
  subst hl
  show aw G 0 [some (va_rf a0)] [] h 0 0
  unfold f_X4_giveBest at H
  obtain ⟨cs, hcs⟩ : ∃ k : Nat, k = 0 := ⟨0, rfl⟩
  obtain ⟨sl, hsl⟩ : ∃ k : Nat, k = 0 := ⟨0, rfl⟩
  suffices hh : aw G 0 [some (va_rf a0)] [] h cs sl by rw [hcs, hsl] at hh; exact hh
  refine aw_aload_n C dX4_giveBest_0 rfl ?_
  obtain ⟨r1, e2, H⟩ := hz_bd H
  refine aw_gR (k := 4) C cl_4 (by decide) wd_218 e2 dX4_giveBest_1 ?_
  refine aw_aload_n C dX4_giveBest_4 rfl ?_
  obtain ⟨r3, e4, H⟩ := hz_bd H
  refine aw_gR (k := 6) C cl_4 (by decide) wd_222 e4 dX4_giveBest_5 ?_
  obtain ⟨r5, e6, H⟩ := hz_bd H
  refine aw_gR (k := 2) C cl_0 (by decide) wd_200 e6 dX4_giveBest_8 ?_
  obtain ⟨g9, H⟩ := hz_wn H
  obtain ⟨p7, e8, H⟩ := hz_bd H
  refine aw_V (As := [va_rf r5]) (rest := []) C hy_X6_become hv_X6_become wd_550 cl_6.1 g9 (c_X6_become _ _ _ _  e8) hz_ron rfl rfl (Nat.le_of_ble_eq_true rfl) (by decide) (kc := 0) (ks := 0) rfl rfl ⟨(by show cs + 0 ≤ 8; omega), (by show sl + 0 ≤ 40; omega)⟩ dX4_giveBest_11 ?_
  refine aw_aload_n C dX4_giveBest_14 rfl ?_
  refine aw_aload_n C dX4_giveBest_15 rfl ?_
  obtain ⟨v10, e11, H⟩ := hz_bd H
  refine aw_gI (k := 12) C cl_4 (by decide) wd_230 e11 dX4_giveBest_16 ?_
  obtain ⟨h12, e13, H⟩ := hz_bd H
  refine aw_pF (k := 13) C cl_4 (by decide) rfl wd_231 (hz_fiti _) e13 dX4_giveBest_19 ?_
  refine aw_aload_n C dX4_giveBest_22 rfl ?_
  refine aw_iconst C dX4_giveBest_23 (v := (nI 4)) (by decide) ?_
  obtain ⟨h14, e15, H⟩ := hz_bd H
  refine aw_pF (k := 9) C cl_4 (by decide) rfl wd_226 (hz_fiti _) e15 dX4_giveBest_24 ?_
  refine aw_aload_n C dX4_giveBest_27 rfl ?_
  obtain ⟨r16, e17, H⟩ := hz_bd H
  refine aw_gR (k := 6) C cl_4 (by decide) wd_222 e17 dX4_giveBest_28 ?_
  refine aw_aload_n C dX4_giveBest_31 rfl ?_
  obtain ⟨r18, e19, H⟩ := hz_bd H
  refine aw_gR (k := 6) C cl_4 (by decide) wd_222 e19 dX4_giveBest_32 ?_
  obtain ⟨v20, e21, H⟩ := hz_bd H
  refine aw_gI (k := 0) C cl_0 (by decide) wd_196 e21 dX4_giveBest_35 ?_
  refine aw_aload_n C dX4_giveBest_38 rfl ?_
  obtain ⟨v22, e23, H⟩ := hz_bd H
  refine aw_gI (k := 0) C cl_4 (by decide) wd_214 e23 dX4_giveBest_39 ?_
  obtain ⟨p24, e25, H⟩ := hz_bd H
  refine aw_SN (As := [.int v20, .int v22]) (rest := [va_rf r16]) C hy_X8_without wd_369 wn_368 (c_X8_without _ _ _ _ _  e25) (hz_roi _) rfl rfl (Nat.le_of_ble_eq_true rfl) (by decide) (kc := 0) (ks := 0) rfl rfl ⟨(by show cs + 0 + 0 ≤ 8; omega), (by show sl + 0 + 0 ≤ 40; omega)⟩ dX4_giveBest_42 ?_
  obtain ⟨h26, e27, H⟩ := hz_bd H
  refine aw_pF (k := 1) C cl_0 (by decide) rfl wd_198 (hz_fiti _) e27 dX4_giveBest_45 ?_
  refine aw_aload_n C dX4_giveBest_48 rfl ?_
  obtain ⟨r28, e29, H⟩ := hz_bd H
  refine aw_gR (k := 2) C cl_4 (by decide) wd_216 e29 dX4_giveBest_49 ?_
  refine aw_aload_n C dX4_giveBest_52 rfl ?_
  obtain ⟨v30, e31, H⟩ := hz_bd H
  refine aw_gI (k := 0) C cl_4 (by decide) wd_214 e31 dX4_giveBest_53 ?_
  refine aw_aload_n C dX4_giveBest_56 rfl ?_
  obtain ⟨r32, e33, H⟩ := hz_bd H
  refine aw_gR (k := 6) C cl_4 (by decide) wd_222 e33 dX4_giveBest_57 ?_
  obtain ⟨v34, e35, H⟩ := hz_bd H
  refine aw_gI (k := 1) C cl_0 (by decide) wd_198 e35 dX4_giveBest_60 ?_
  refine aw_bipush C dX4_giveBest_63 (v := (nI 9)) (by decide) ?_
  refine aw_aload_n C dX4_giveBest_65 rfl ?_
  obtain ⟨v36, e37, H⟩ := hz_bd H
  refine aw_gI (k := 12) C cl_4 (by decide) wd_230 e37 dX4_giveBest_66 ?_
  refine aw_iconst C dX4_giveBest_69 (v := (nI 0)) (by decide) ?_
  refine aw_aload_n C dX4_giveBest_70 rfl ?_
  obtain ⟨r38, e39, H⟩ := hz_bd H
  refine aw_gR (k := 6) C cl_4 (by decide) wd_222 e39 dX4_giveBest_71 ?_
  obtain ⟨r40, e41, H⟩ := hz_bd H
  refine aw_gR (k := 2) C cl_0 (by decide) wd_200 e41 dX4_giveBest_74 ?_
  obtain ⟨g44, H⟩ := hz_wn H
  obtain ⟨p42, e43, H⟩ := hz_bd H
  refine aw_V (As := [.int v30, .int v34, .int (nI 9), .int v36, .int (nI 0), va_rf r40]) (rest := []) C hy_X5_send hv_X5_send wd_311 cl_5.1 g44 (c_X5_send _ _ _ _ _ _ _ _ _  e43) hz_ron rfl rfl (Nat.le_of_ble_eq_true rfl) (by decide) (kc := 8) (ks := 40) rfl rfl ⟨(by show cs + 0 + 0 + 8 ≤ 8; omega), (by show sl + 0 + 0 + 40 ≤ 40; omega)⟩ dX4_giveBest_77 ?_
  cases H
  exact aw_vret C (by show cs + 0 + 0 + 8 ≤ 8; omega) (by show sl + 0 + 0 + 40 ≤ 40; omega) dX4_giveBest_80
theorem hy_X4_beginAnew : hz_Y yX4_beginAnew cX4_beginAnew 1 none 0 := ⟨wd_582, wd_62, by decide +kernel, by decide +kernel, by decide +kernel⟩
theorem hv_X4_beginAnew : hz_YV yX4_beginAnew := ⟨wd_581, wd_35⟩
def f_X4_beginAnew (a0 : Option Nat) (h : HP) : Option HP :=
  (hz_gR h a0 4 2).bind fun r1 =>
  (hz_gI h a0 4 0).bind fun v3 =>
  (hz_gR h a0 4 6).bind fun r5 =>
  (hz_gI h r5 0 0).bind fun v7 =>
  (hz_gI h a0 4 0).bind fun v9 =>
  (f_X8_without v7 v9 h).bind fun p11 =>
  (hz_gI p11.2 a0 4 12).bind fun v13 =>
  (hz_gR p11.2 a0 4 6).bind fun r15 =>
  (hz_gI p11.2 r15 0 0).bind fun v17 =>
  if hz_ob p11.2 r1 5 = true then
  (f_X5_send r1 v3 p11.1 (nI 11) v13 v17 (some 0) p11.2).bind fun p19 =>
  (hz_gR p19 a0 4 2).bind fun r22 =>
  (hz_gI p19 a0 4 0).bind fun v24 =>
  (hz_gI p19 a0 4 11).bind fun v26 =>
  (hz_gR p19 a0 4 6).bind fun r28 =>
  (hz_gI p19 r28 0 0).bind fun v30 =>
  if hz_ob p19 r22 5 = true then
  (f_X5_send r22 v24 (v26 &&& (v30 ^^^ (-1 : Int32))) (nI 12) (nI 0) (nI 0) (some 0) p19).bind fun p32 =>
  (hz_gR p32 a0 4 6).bind fun r35 =>
  (hz_gI p32 r35 0 0).bind fun v37 =>
  if hz_ob p32 a0 4 = true then
  (f_X4_begin a0 v37 p32).bind fun p39 =>
  some p39
  else none
  else none
  else none
abbrev rm_X4_beginAnew : Room := { frames := 4, cells := 16, slots := 80, locals := 92 }
set_option maxRecDepth 100000 in
set_option maxHeartbeats 4000000 in
theorem c_X4_beginAnew {l : Launch} (a0 : Option Nat) (h : HP) (h' : HP) (H : f_X4_beginAnew a0 h = some h') : Ct l yX4_beginAnew cX4_beginAnew 1 none rm_X4_beginAnew [va_rf a0] none h h' := by
  refine Ct.of (plainFor_of_name (by decide)) (hz_s1c hz_s1n (hz_cr _)) (Nat.le_of_ble_eq_true rfl) (fun G hl hn C0 => ?_)
  have C : Cx G cX4_beginAnew RX4 "beginAnew" none rm_X4_beginAnew none h' := C0
  subst hl
  show aw G 0 [some (va_rf a0)] [] h 0 0
  unfold f_X4_beginAnew at H
  obtain ⟨cs, hcs⟩ : ∃ k : Nat, k = 0 := ⟨0, rfl⟩
  obtain ⟨sl, hsl⟩ : ∃ k : Nat, k = 0 := ⟨0, rfl⟩
  suffices hh : aw G 0 [some (va_rf a0)] [] h cs sl by rw [hcs, hsl] at hh; exact hh
  refine aw_aload_n C dX4_beginAnew_0 rfl ?_
  obtain ⟨r1, e2, H⟩ := hz_bd H
  refine aw_gR (k := 2) C cl_4 (by decide) wd_216 e2 dX4_beginAnew_1 ?_
  refine aw_aload_n C dX4_beginAnew_4 rfl ?_
  obtain ⟨v3, e4, H⟩ := hz_bd H
  refine aw_gI (k := 0) C cl_4 (by decide) wd_214 e4 dX4_beginAnew_5 ?_
  refine aw_aload_n C dX4_beginAnew_8 rfl ?_
  obtain ⟨r5, e6, H⟩ := hz_bd H
  refine aw_gR (k := 6) C cl_4 (by decide) wd_222 e6 dX4_beginAnew_9 ?_
  obtain ⟨v7, e8, H⟩ := hz_bd H
  refine aw_gI (k := 0) C cl_0 (by decide) wd_196 e8 dX4_beginAnew_12 ?_
  refine aw_aload_n C dX4_beginAnew_15 rfl ?_
  obtain ⟨v9, e10, H⟩ := hz_bd H
  refine aw_gI (k := 0) C cl_4 (by decide) wd_214 e10 dX4_beginAnew_16 ?_
  obtain ⟨p11, e12, H⟩ := hz_bd H
  refine aw_SN (As := [.int v7, .int v9]) (rest := [.int v3, va_rf r1]) C hy_X8_without wd_369 wn_368 (c_X8_without _ _ _ _ _  e12) (hz_roi _) rfl rfl (Nat.le_of_ble_eq_true rfl) (by decide) (kc := 0) (ks := 0) rfl rfl ⟨(by show cs + 0 ≤ 16; omega), (by show sl + 0 ≤ 80; omega)⟩ dX4_beginAnew_19 ?_
  refine aw_bipush C dX4_beginAnew_22 (v := (nI 11)) (by decide) ?_
  refine aw_aload_n C dX4_beginAnew_24 rfl ?_
  obtain ⟨v13, e14, H⟩ := hz_bd H
  refine aw_gI (k := 12) C cl_4 (by decide) wd_230 e14 dX4_beginAnew_25 ?_
  refine aw_aload_n C dX4_beginAnew_28 rfl ?_
  obtain ⟨r15, e16, H⟩ := hz_bd H
  refine aw_gR (k := 6) C cl_4 (by decide) wd_222 e16 dX4_beginAnew_29 ?_
  obtain ⟨v17, e18, H⟩ := hz_bd H
  refine aw_gI (k := 0) C cl_0 (by decide) wd_196 e18 dX4_beginAnew_32 ?_
  refine aw_gets C wn_431 dX4_beginAnew_35 ?_
  obtain ⟨g21, H⟩ := hz_wn H
  obtain ⟨p19, e20, H⟩ := hz_bd H
  refine aw_V (As := [.int v3, .int p11.1, .int (nI 11), .int v13, .int v17, va_rf (some 0)]) (rest := []) C hy_X5_send hv_X5_send wd_311 cl_5.1 g21 (c_X5_send _ _ _ _ _ _ _ _ _  e20) hz_ron rfl rfl (Nat.le_of_ble_eq_true rfl) (by decide) (kc := 8) (ks := 40) rfl rfl ⟨(by show cs + 0 + 8 ≤ 16; omega), (by show sl + 0 + 40 ≤ 80; omega)⟩ dX4_beginAnew_38 ?_
  refine aw_aload_n C dX4_beginAnew_41 rfl ?_
  obtain ⟨r22, e23, H⟩ := hz_bd H
  refine aw_gR (k := 2) C cl_4 (by decide) wd_216 e23 dX4_beginAnew_42 ?_
  refine aw_aload_n C dX4_beginAnew_45 rfl ?_
  obtain ⟨v24, e25, H⟩ := hz_bd H
  refine aw_gI (k := 0) C cl_4 (by decide) wd_214 e25 dX4_beginAnew_46 ?_
  refine aw_aload_n C dX4_beginAnew_49 rfl ?_
  obtain ⟨v26, e27, H⟩ := hz_bd H
  refine aw_gI (k := 11) C cl_4 (by decide) wd_229 e27 dX4_beginAnew_50 ?_
  refine aw_aload_n C dX4_beginAnew_53 rfl ?_
  obtain ⟨r28, e29, H⟩ := hz_bd H
  refine aw_gR (k := 6) C cl_4 (by decide) wd_222 e29 dX4_beginAnew_54 ?_
  obtain ⟨v30, e31, H⟩ := hz_bd H
  refine aw_gI (k := 0) C cl_0 (by decide) wd_196 e31 dX4_beginAnew_57 ?_
  refine aw_iconst C dX4_beginAnew_60 (v := (-1)) (by decide) ?_
  refine aw_ixor C dX4_beginAnew_61 ?_
  refine aw_iand C dX4_beginAnew_62 ?_
  refine aw_bipush C dX4_beginAnew_63 (v := (nI 12)) (by decide) ?_
  refine aw_iconst C dX4_beginAnew_65 (v := (nI 0)) (by decide) ?_
  refine aw_iconst C dX4_beginAnew_66 (v := (nI 0)) (by decide) ?_
  refine aw_gets C wn_431 dX4_beginAnew_67 ?_
  obtain ⟨g34, H⟩ := hz_wn H
  obtain ⟨p32, e33, H⟩ := hz_bd H
  refine aw_V (As := [.int v24, .int (v26 &&& (v30 ^^^ (-1 : Int32))), .int (nI 12), .int (nI 0), .int (nI 0), va_rf (some 0)]) (rest := []) C hy_X5_send hv_X5_send wd_311 cl_5.1 g34 (c_X5_send _ _ _ _ _ _ _ _ _  e33) hz_ron rfl rfl (Nat.le_of_ble_eq_true rfl) (by decide) (kc := 8) (ks := 40) rfl rfl ⟨(by show cs + 0 + 8 + 8 ≤ 16; omega), (by show sl + 0 + 40 + 40 ≤ 80; omega)⟩ dX4_beginAnew_70 ?_
  refine aw_aload_n C dX4_beginAnew_73 rfl ?_
  refine aw_aload_n C dX4_beginAnew_74 rfl ?_
  obtain ⟨r35, e36, H⟩ := hz_bd H
  refine aw_gR (k := 6) C cl_4 (by decide) wd_222 e36 dX4_beginAnew_75 ?_
  obtain ⟨v37, e38, H⟩ := hz_bd H
  refine aw_gI (k := 0) C cl_0 (by decide) wd_196 e38 dX4_beginAnew_78 ?_
  obtain ⟨g41, H⟩ := hz_wn H
  obtain ⟨p39, e40, H⟩ := hz_bd H
  refine aw_V (As := [.int v37]) (rest := []) C hy_X4_begin hv_X4_begin wd_564 cl_4.1 g41 (c_X4_begin _ _ _ _  e40) hz_ron rfl rfl (Nat.le_of_ble_eq_true rfl) (by decide) (kc := 0) (ks := 0) rfl rfl ⟨(by show cs + 0 + 8 + 8 + 0 ≤ 16; omega), (by show sl + 0 + 40 + 40 + 0 ≤ 80; omega)⟩ dX4_beginAnew_81 ?_
  cases H
  exact aw_vret C (by show cs + 0 + 8 + 8 + 0 ≤ 16; omega) (by show sl + 0 + 40 + 40 + 0 ≤ 80; omega) dX4_beginAnew_84
theorem hy_X4_goOn : hz_Y yX4_goOn cX4_goOn 1 none 0 := ⟨wd_574, wd_62, by decide +kernel, by decide +kernel, by decide +kernel⟩
theorem hv_X4_goOn : hz_YV yX4_goOn := ⟨wd_572, wd_573⟩
def f_X4_goOn_44 (h : HP) : Option HP :=
  some h
def f_X4_goOn_22 (l0 : Option Nat) (h : HP) : Option HP :=
  (hz_gI h l0 4 9).bind fun v10 =>
  if v10 = (nI 4) then
    (hz_gR h l0 4 6).bind fun r12 =>
    (hz_gI h r12 0 1).bind fun v14 =>
    if v14 = 0 then
      if hz_ob h l0 4 = true then
      (f_X4_beginAnew l0 h).bind fun p16 =>
      f_X4_goOn_44   p16
      else none
    else
      f_X4_goOn_44   h
  else
    f_X4_goOn_44   h
def f_X4_goOn (a0 : Option Nat) (h : HP) : Option HP :=
  (hz_gI h a0 4 9).bind fun v1 =>
  if v1 = (nI 3) then
    (hz_gR h a0 4 6).bind fun r3 =>
    (hz_gI h r3 0 1).bind fun v5 =>
    if v5 = 0 then
      if hz_ob h a0 4 = true then
      (f_X4_giveBest a0 h).bind fun p7 =>
      f_X4_goOn_22  a0 p7
      else none
    else
      f_X4_goOn_22  a0 h
  else
    f_X4_goOn_22  a0 h
abbrev rm_X4_goOn : Room := { frames := 5, cells := 24, slots := 120, locals := 112 }
set_option maxRecDepth 100000 in
set_option maxHeartbeats 4000000 in
theorem k_X4_goOn_44 {G : GX} {h' : HP} (hn : G.2.2.2.2.2.2.2.2.2.2.2.2 = 1) (C : Cx G cX4_goOn RX4 "goOn" none rm_X4_goOn none h') {cs sl : Nat} (h : HP) (H : f_X4_goOn_44   h = some h') (hcs : cs + 0 ≤ 24) (hsl : sl + 0 ≤ 120) : aw G 44 [none] [] h cs sl := by
  unfold f_X4_goOn_44 at H
  cases H
  exact aw_vret C (by show cs ≤ 24; omega) (by show sl ≤ 120; omega) dX4_goOn_44
set_option maxRecDepth 100000 in
set_option maxHeartbeats 4000000 in
theorem k_X4_goOn_22 {G : GX} {h' : HP} (hn : G.2.2.2.2.2.2.2.2.2.2.2.2 = 1) (C : Cx G cX4_goOn RX4 "goOn" none rm_X4_goOn none h') {cs sl : Nat} (l0 : Option Nat) (h : HP) (H : f_X4_goOn_22  l0 h = some h') (hcs : cs + 16 ≤ 24) (hsl : sl + 80 ≤ 120) : aw G 22 [some (va_rf l0)] [] h cs sl := by
  unfold f_X4_goOn_22 at H
  refine aw_aload_n C dX4_goOn_22 rfl ?_
  obtain ⟨v10, e11, H⟩ := hz_bd H
  refine aw_gI (k := 9) C cl_4 (by decide) wd_226 e11 dX4_goOn_23 ?_
  refine aw_iconst C dX4_goOn_26 (v := (nI 4)) (by decide) ?_
  refine aw_icmp_ne (tgt := 44) C dX4_goOn_27 (by decide) (fun c19 => ?_) (fun c19 => ?_)
  · replace H := hz_if c19 H
    exact aw_loc (hz_sub_n hz_sub_0) (k_X4_goOn_44 (cs := cs) (sl := sl) hn C  _ H (by omega) (by omega))
  · replace H := hz_it c19 H
    refine aw_aload_n C dX4_goOn_30 rfl ?_
    obtain ⟨r12, e13, H⟩ := hz_bd H
    refine aw_gR (k := 6) C cl_4 (by decide) wd_222 e13 dX4_goOn_31 ?_
    obtain ⟨v14, e15, H⟩ := hz_bd H
    refine aw_gI (k := 1) C cl_0 (by decide) wd_198 e15 dX4_goOn_34 ?_
    refine aw_if_ne (tgt := 44) C dX4_goOn_37 (by decide) (fun c20 => ?_) (fun c20 => ?_)
    · replace H := hz_if c20 H
      exact aw_loc (hz_sub_n hz_sub_0) (k_X4_goOn_44 (cs := cs) (sl := sl) hn C  _ H (by omega) (by omega))
    · replace H := hz_it c20 H
      refine aw_aload_n C dX4_goOn_40 rfl ?_
      obtain ⟨g18, H⟩ := hz_wn H
      obtain ⟨p16, e17, H⟩ := hz_bd H
      refine aw_V (As := []) (rest := []) C hy_X4_beginAnew hv_X4_beginAnew wd_579 cl_4.1 g18 (c_X4_beginAnew _ _ _  e17) hz_ron rfl rfl (Nat.le_of_ble_eq_true rfl) (by decide) (kc := 16) (ks := 80) rfl rfl ⟨(by show cs + 16 ≤ 24; omega), (by show sl + 80 ≤ 120; omega)⟩ dX4_goOn_41 ?_
      exact aw_loc (hz_sub_n hz_sub_0) (k_X4_goOn_44 (cs := cs + 16) (sl := sl + 80) hn C  _ H (by omega) (by omega))
set_option maxRecDepth 100000 in
set_option maxHeartbeats 4000000 in
theorem c_X4_goOn {l : Launch} (a0 : Option Nat) (h : HP) (h' : HP) (H : f_X4_goOn a0 h = some h') : Ct l yX4_goOn cX4_goOn 1 none rm_X4_goOn [va_rf a0] none h h' := by
  refine Ct.of (plainFor_of_name (by decide)) (hz_s1c hz_s1n (hz_cr _)) (Nat.le_of_ble_eq_true rfl) (fun G hl hn C0 => ?_)
  have C : Cx G cX4_goOn RX4 "goOn" none rm_X4_goOn none h' := C0
  subst hl
  show aw G 0 [some (va_rf a0)] [] h 0 0
  unfold f_X4_goOn at H
  obtain ⟨cs, hcs⟩ : ∃ k : Nat, k = 0 := ⟨0, rfl⟩
  obtain ⟨sl, hsl⟩ : ∃ k : Nat, k = 0 := ⟨0, rfl⟩
  suffices hh : aw G 0 [some (va_rf a0)] [] h cs sl by rw [hcs, hsl] at hh; exact hh
  refine aw_aload_n C dX4_goOn_0 rfl ?_
  obtain ⟨v1, e2, H⟩ := hz_bd H
  refine aw_gI (k := 9) C cl_4 (by decide) wd_226 e2 dX4_goOn_1 ?_
  refine aw_iconst C dX4_goOn_4 (v := (nI 3)) (by decide) ?_
  refine aw_icmp_ne (tgt := 22) C dX4_goOn_5 (by decide) (fun c21 => ?_) (fun c21 => ?_)
  · replace H := hz_if c21 H
    exact k_X4_goOn_22 (cs := cs) (sl := sl) hn C  _ _ H (by omega) (by omega)
  · replace H := hz_it c21 H
    refine aw_aload_n C dX4_goOn_8 rfl ?_
    obtain ⟨r3, e4, H⟩ := hz_bd H
    refine aw_gR (k := 6) C cl_4 (by decide) wd_222 e4 dX4_goOn_9 ?_
    obtain ⟨v5, e6, H⟩ := hz_bd H
    refine aw_gI (k := 1) C cl_0 (by decide) wd_198 e6 dX4_goOn_12 ?_
    refine aw_if_ne (tgt := 22) C dX4_goOn_15 (by decide) (fun c22 => ?_) (fun c22 => ?_)
    · replace H := hz_if c22 H
      exact k_X4_goOn_22 (cs := cs) (sl := sl) hn C  _ _ H (by omega) (by omega)
    · replace H := hz_it c22 H
      refine aw_aload_n C dX4_goOn_18 rfl ?_
      obtain ⟨g9, H⟩ := hz_wn H
      obtain ⟨p7, e8, H⟩ := hz_bd H
      refine aw_V (As := []) (rest := []) C hy_X4_giveBest hv_X4_giveBest wd_575 cl_4.1 g9 (c_X4_giveBest _ _ _  e8) hz_ron rfl rfl (Nat.le_of_ble_eq_true rfl) (by decide) (kc := 8) (ks := 40) rfl rfl ⟨(by show cs + 8 ≤ 24; omega), (by show sl + 40 ≤ 120; omega)⟩ dX4_goOn_19 ?_
      exact k_X4_goOn_22 (cs := cs + 8) (sl := sl + 40) hn C  _ _ H (by omega) (by omega)
theorem hy_X4_turnAgainst : hz_Y yX4_turnAgainst cX4_turnAgainst 3 none 1 := ⟨wd_591, wd_62, by decide +kernel, by decide +kernel, by decide +kernel⟩
theorem hv_X4_turnAgainst : hz_YV yX4_turnAgainst := ⟨wd_589, wd_590⟩
def f_X4_turnAgainst_95 (h : HP) : Option HP :=
  some h
def f_X4_turnAgainst_61 (l0 : Option Nat) (h : HP) : Option HP :=
  if hz_ob h l0 4 = true then
  (f_X4_flush l0 h).bind fun p21 =>
  f_X4_turnAgainst_95   p21
  else none
def f_X4_turnAgainst_91 (l0 : Option Nat) (h : HP) : Option HP :=
  if hz_ob h l0 4 = true then
  (f_X4_ask l0 h).bind fun p31 =>
  f_X4_turnAgainst_95   p31
  else none
def f_X4_turnAgainst_68 (l0 : Option Nat) (l1 : Int32) (h : HP) : Option HP :=
  (hz_gI h l0 4 9).bind fun v24 =>
  if v24 = 0 then
    if hz_ob h l0 4 = true then
    (f_X4_leader l0 h).bind fun p26 =>
    if l1 = p26.1 then
      f_X4_turnAgainst_91  l0 p26.2
    else
      (hz_gI p26.2 l0 4 16).bind fun v29 =>
      if l1 = v29 then
        f_X4_turnAgainst_91  l0 p26.2
      else
        f_X4_turnAgainst_95   p26.2
    else none
  else
    f_X4_turnAgainst_95   h
def f_X4_turnAgainst_38 (l0 : Option Nat) (l1 : Int32) (s0 : Int32) (h : HP) : Option HP :=
  if s0 = 0 then
    if hz_ob h l0 4 = true then
    (f_X4_leadsUnblocked l0 h).bind fun p14 =>
    if p14.1 = 0 then
      f_X4_turnAgainst_68  l0 l1 p14.2
    else
      (hz_gI p14.2 l0 4 11).bind fun v17 =>
      (f_X8_has v17 l1 p14.2).bind fun p19 =>
      if p19.1 = 0 then
        f_X4_turnAgainst_68  l0 l1 p19.2
      else
        f_X4_turnAgainst_61  l0 p19.2
    else none
  else
    f_X4_turnAgainst_61  l0 h
def f_X4_turnAgainst_37 (l0 : Option Nat) (l1 : Int32) (h : HP) : Option HP :=
  f_X4_turnAgainst_38  l0 l1 (nI 0) h
def f_X4_turnAgainst (a0 : Option Nat) (a1 : Int32) (h : HP) : Option HP :=
  (hz_gI h a0 4 15).bind fun v1 =>
  (hz_pF h a0 4 15 (.int (v1 ||| ((nI 1) <<< (a1 &&& 31))))).bind fun h3 =>
  if hz_ob h3 a0 4 = true then
  (f_X4_isChanging a0 h3).bind fun p5 =>
  if p5.1 = 0 then
    f_X4_turnAgainst_37  a0 a1 p5.2
  else
    (hz_gR p5.2 a0 4 6).bind fun r8 =>
    (hz_gI p5.2 r8 0 0).bind fun v10 =>
    (f_X8_has v10 a1 p5.2).bind fun p12 =>
    if p12.1 = 0 then
      f_X4_turnAgainst_37  a0 a1 p12.2
    else
      f_X4_turnAgainst_38  a0 a1 (nI 1) p12.2
  else none
abbrev rm_X4_turnAgainst : Room := { frames := 5, cells := 9, slots := 104, locals := 134 }
set_option maxRecDepth 100000 in
set_option maxHeartbeats 4000000 in
theorem k_X4_turnAgainst_95 {G : GX} {h' : HP} (hn : G.2.2.2.2.2.2.2.2.2.2.2.2 = 3) (C : Cx G cX4_turnAgainst RX4 "turnAgainst" none rm_X4_turnAgainst none h') {cs sl : Nat} (h : HP) (H : f_X4_turnAgainst_95   h = some h') (hcs : cs + 0 ≤ 9) (hsl : sl + 0 ≤ 104) : aw G 95 [none, none, none] [] h cs sl := by
  unfold f_X4_turnAgainst_95 at H
  cases H
  exact aw_vret C (by show cs ≤ 9; omega) (by show sl ≤ 104; omega) dX4_turnAgainst_95
set_option maxRecDepth 100000 in
set_option maxHeartbeats 4000000 in
theorem k_X4_turnAgainst_61 {G : GX} {h' : HP} (hn : G.2.2.2.2.2.2.2.2.2.2.2.2 = 3) (C : Cx G cX4_turnAgainst RX4 "turnAgainst" none rm_X4_turnAgainst none h') {cs sl : Nat} (l0 : Option Nat) (h : HP) (H : f_X4_turnAgainst_61  l0 h = some h') (hcs : cs + 9 ≤ 9) (hsl : sl + 104 ≤ 104) : aw G 61 [some (va_rf l0), none, none] [] h cs sl := by
  unfold f_X4_turnAgainst_61 at H
  refine aw_aload_n C dX4_turnAgainst_61 rfl ?_
  obtain ⟨g23, H⟩ := hz_wn H
  obtain ⟨p21, e22, H⟩ := hz_bd H
  refine aw_V (As := []) (rest := []) C hy_X4_flush hv_X4_flush wd_488 cl_4.1 g23 (c_X4_flush _ _ _  e22) hz_ron rfl rfl (Nat.le_of_ble_eq_true rfl) (by decide) (kc := 9) (ks := 104) rfl rfl ⟨(by show cs + 9 ≤ 9; omega), (by show sl + 104 ≤ 104; omega)⟩ dX4_turnAgainst_62 ?_
  refine aw_goto (tgt := 95) C dX4_turnAgainst_65 (by decide) ?_
  exact aw_loc (hz_sub_n (hz_sub_n (hz_sub_n hz_sub_0))) (k_X4_turnAgainst_95 (cs := cs + 9) (sl := sl + 104) hn C  _ H (by omega) (by omega))
set_option maxRecDepth 100000 in
set_option maxHeartbeats 4000000 in
theorem k_X4_turnAgainst_91 {G : GX} {h' : HP} (hn : G.2.2.2.2.2.2.2.2.2.2.2.2 = 3) (C : Cx G cX4_turnAgainst RX4 "turnAgainst" none rm_X4_turnAgainst none h') {cs sl : Nat} (l0 : Option Nat) (h : HP) (H : f_X4_turnAgainst_91  l0 h = some h') (hcs : cs + 9 ≤ 9) (hsl : sl + 104 ≤ 104) : aw G 91 [some (va_rf l0), none, none] [] h cs sl := by
  unfold f_X4_turnAgainst_91 at H
  refine aw_aload_n C dX4_turnAgainst_91 rfl ?_
  obtain ⟨g33, H⟩ := hz_wn H
  obtain ⟨p31, e32, H⟩ := hz_bd H
  refine aw_V (As := []) (rest := []) C hy_X4_ask hv_X4_ask wd_481 cl_4.1 g33 (c_X4_ask _ _ _  e32) hz_ron rfl rfl (Nat.le_of_ble_eq_true rfl) (by decide) (kc := 9) (ks := 104) rfl rfl ⟨(by show cs + 9 ≤ 9; omega), (by show sl + 104 ≤ 104; omega)⟩ dX4_turnAgainst_92 ?_
  exact aw_loc (hz_sub_n (hz_sub_n (hz_sub_n hz_sub_0))) (k_X4_turnAgainst_95 (cs := cs + 9) (sl := sl + 104) hn C  _ H (by omega) (by omega))
set_option maxRecDepth 100000 in
set_option maxHeartbeats 4000000 in
theorem k_X4_turnAgainst_68 {G : GX} {h' : HP} (hn : G.2.2.2.2.2.2.2.2.2.2.2.2 = 3) (C : Cx G cX4_turnAgainst RX4 "turnAgainst" none rm_X4_turnAgainst none h') {cs sl : Nat} (l0 : Option Nat) (l1 : Int32) (h : HP) (H : f_X4_turnAgainst_68  l0 l1 h = some h') (hcs : cs + 9 ≤ 9) (hsl : sl + 104 ≤ 104) : aw G 68 [some (va_rf l0), some (.int l1), none] [] h cs sl := by
  unfold f_X4_turnAgainst_68 at H
  refine aw_aload_n C dX4_turnAgainst_68 rfl ?_
  obtain ⟨v24, e25, H⟩ := hz_bd H
  refine aw_gI (k := 9) C cl_4 (by decide) wd_226 e25 dX4_turnAgainst_69 ?_
  refine aw_if_ne (tgt := 95) C dX4_turnAgainst_72 (by decide) (fun c34 => ?_) (fun c34 => ?_)
  · replace H := hz_if c34 H
    exact aw_loc (hz_sub_n (hz_sub_n (hz_sub_n hz_sub_0))) (k_X4_turnAgainst_95 (cs := cs) (sl := sl) hn C  _ H (by omega) (by omega))
  · replace H := hz_it c34 H
    refine aw_iload_n C dX4_turnAgainst_75 rfl ?_
    refine aw_aload_n C dX4_turnAgainst_76 rfl ?_
    obtain ⟨g28, H⟩ := hz_wn H
    obtain ⟨p26, e27, H⟩ := hz_bd H
    refine aw_V (As := []) (rest := [.int l1]) C hy_X4_leader hv_X4_leader wd_304 cl_4.1 g28 (c_X4_leader _ _ _ _  e27) (hz_roi _) rfl rfl (Nat.le_of_ble_eq_true rfl) (by decide) (kc := 0) (ks := 0) rfl rfl ⟨(by show cs + 0 ≤ 9; omega), (by show sl + 0 ≤ 104; omega)⟩ dX4_turnAgainst_77 ?_
    refine aw_icmp_eq (tgt := 91) C dX4_turnAgainst_80 (by decide) (fun c35 => ?_) (fun c35 => ?_)
    · replace H := hz_it c35 H
      exact aw_loc (hz_sub_s (hz_sub_n (hz_sub_n hz_sub_0))) (k_X4_turnAgainst_91 (cs := cs + 0) (sl := sl + 0) hn C  _ _ H (by omega) (by omega))
    · replace H := hz_if c35 H
      refine aw_iload_n C dX4_turnAgainst_83 rfl ?_
      refine aw_aload_n C dX4_turnAgainst_84 rfl ?_
      obtain ⟨v29, e30, H⟩ := hz_bd H
      refine aw_gI (k := 16) C cl_4 (by decide) wd_235 e30 dX4_turnAgainst_85 ?_
      refine aw_icmp_ne (tgt := 95) C dX4_turnAgainst_88 (by decide) (fun c36 => ?_) (fun c36 => ?_)
      · replace H := hz_if c36 H
        exact aw_loc (hz_sub_n (hz_sub_n (hz_sub_n hz_sub_0))) (k_X4_turnAgainst_95 (cs := cs + 0) (sl := sl + 0) hn C  _ H (by omega) (by omega))
      · replace H := hz_it c36 H
        exact aw_loc (hz_sub_s (hz_sub_n (hz_sub_n hz_sub_0))) (k_X4_turnAgainst_91 (cs := cs + 0) (sl := sl + 0) hn C  _ _ H (by omega) (by omega))
set_option maxRecDepth 100000 in
set_option maxHeartbeats 4000000 in
theorem k_X4_turnAgainst_38 {G : GX} {h' : HP} (hn : G.2.2.2.2.2.2.2.2.2.2.2.2 = 3) (C : Cx G cX4_turnAgainst RX4 "turnAgainst" none rm_X4_turnAgainst none h') {cs sl : Nat} (l0 : Option Nat) (l1 : Int32) (s0 : Int32) (h : HP) (H : f_X4_turnAgainst_38  l0 l1 s0 h = some h') (hcs : cs + 9 ≤ 9) (hsl : sl + 104 ≤ 104) : aw G 38 [some (va_rf l0), some (.int l1), none] [.int s0] h cs sl := by
  unfold f_X4_turnAgainst_38 at H
  refine aw_istore_n C dX4_turnAgainst_38 (by rw [hn]; decide) rfl ?_
  refine aw_iload_n C dX4_turnAgainst_39 rfl ?_
  refine aw_if_ne (tgt := 61) C dX4_turnAgainst_40 (by decide) (fun c37 => ?_) (fun c37 => ?_)
  · replace H := hz_if c37 H
    exact aw_loc (hz_sub_s (hz_sub_n (hz_sub_n hz_sub_0))) (k_X4_turnAgainst_61 (cs := cs) (sl := sl) hn C  _ _ H (by omega) (by omega))
  · replace H := hz_it c37 H
    refine aw_aload_n C dX4_turnAgainst_43 rfl ?_
    obtain ⟨g16, H⟩ := hz_wn H
    obtain ⟨p14, e15, H⟩ := hz_bd H
    refine aw_V (As := []) (rest := []) C hy_X4_leadsUnblocked hv_X4_leadsUnblocked wd_453 cl_4.1 g16 (c_X4_leadsUnblocked _ _ _ _  e15) (hz_roi _) rfl rfl (Nat.le_of_ble_eq_true rfl) (by decide) (kc := 0) (ks := 0) rfl rfl ⟨(by show cs + 0 ≤ 9; omega), (by show sl + 0 ≤ 104; omega)⟩ dX4_turnAgainst_44 ?_
    refine aw_if_eq (tgt := 68) C dX4_turnAgainst_47 (by decide) (fun c38 => ?_) (fun c38 => ?_)
    · replace H := hz_it c38 H
      exact aw_loc (hz_sub_s (hz_sub_s (hz_sub_n hz_sub_0))) (k_X4_turnAgainst_68 (cs := cs + 0) (sl := sl + 0) hn C  _ _ _ H (by omega) (by omega))
    · replace H := hz_if c38 H
      refine aw_aload_n C dX4_turnAgainst_50 rfl ?_
      obtain ⟨v17, e18, H⟩ := hz_bd H
      refine aw_gI (k := 11) C cl_4 (by decide) wd_229 e18 dX4_turnAgainst_51 ?_
      refine aw_iload_n C dX4_turnAgainst_54 rfl ?_
      obtain ⟨p19, e20, H⟩ := hz_bd H
      refine aw_SN (As := [.int v17, .int l1]) (rest := []) C hy_X8_has wd_309 wn_308 (c_X8_has _ _ _ _ _  e20) (hz_roi _) rfl rfl (Nat.le_of_ble_eq_true rfl) (by decide) (kc := 0) (ks := 0) rfl rfl ⟨(by show cs + 0 + 0 ≤ 9; omega), (by show sl + 0 + 0 ≤ 104; omega)⟩ dX4_turnAgainst_55 ?_
      refine aw_if_eq (tgt := 68) C dX4_turnAgainst_58 (by decide) (fun c39 => ?_) (fun c39 => ?_)
      · replace H := hz_it c39 H
        exact aw_loc (hz_sub_s (hz_sub_s (hz_sub_n hz_sub_0))) (k_X4_turnAgainst_68 (cs := cs + 0 + 0) (sl := sl + 0 + 0) hn C  _ _ _ H (by omega) (by omega))
      · replace H := hz_if c39 H
        exact aw_loc (hz_sub_s (hz_sub_n (hz_sub_n hz_sub_0))) (k_X4_turnAgainst_61 (cs := cs + 0 + 0) (sl := sl + 0 + 0) hn C  _ _ H (by omega) (by omega))
set_option maxRecDepth 100000 in
set_option maxHeartbeats 4000000 in
theorem k_X4_turnAgainst_37 {G : GX} {h' : HP} (hn : G.2.2.2.2.2.2.2.2.2.2.2.2 = 3) (C : Cx G cX4_turnAgainst RX4 "turnAgainst" none rm_X4_turnAgainst none h') {cs sl : Nat} (l0 : Option Nat) (l1 : Int32) (h : HP) (H : f_X4_turnAgainst_37  l0 l1 h = some h') (hcs : cs + 9 ≤ 9) (hsl : sl + 104 ≤ 104) : aw G 37 [some (va_rf l0), some (.int l1), none] [] h cs sl := by
  unfold f_X4_turnAgainst_37 at H
  refine aw_iconst C dX4_turnAgainst_37 (v := (nI 0)) (by decide) ?_
  exact k_X4_turnAgainst_38 (cs := cs) (sl := sl) hn C  _ _ _ _ H (by omega) (by omega)
set_option maxRecDepth 100000 in
set_option maxHeartbeats 4000000 in
theorem c_X4_turnAgainst {l : Launch} (a0 : Option Nat) (a1 : Int32) (h : HP) (h' : HP) (H : f_X4_turnAgainst a0 a1 h = some h') : Ct l yX4_turnAgainst cX4_turnAgainst 3 none rm_X4_turnAgainst [va_rf a0, .int a1] none h h' := by
  refine Ct.of (plainFor_of_name (by decide)) (hz_s1c (hz_s1c hz_s1n rfl) (hz_cr _)) (Nat.le_of_ble_eq_true rfl) (fun G hl hn C0 => ?_)
  have C : Cx G cX4_turnAgainst RX4 "turnAgainst" none rm_X4_turnAgainst none h' := C0
  subst hl
  show aw G 0 [some (va_rf a0), some (.int a1), none] [] h 0 0
  unfold f_X4_turnAgainst at H
  obtain ⟨cs, hcs⟩ : ∃ k : Nat, k = 0 := ⟨0, rfl⟩
  obtain ⟨sl, hsl⟩ : ∃ k : Nat, k = 0 := ⟨0, rfl⟩
  suffices hh : aw G 0 [some (va_rf a0), some (.int a1), none] [] h cs sl by rw [hcs, hsl] at hh; exact hh
  refine aw_aload_n C dX4_turnAgainst_0 rfl ?_
  refine aw_dup C dX4_turnAgainst_1 ?_
  obtain ⟨v1, e2, H⟩ := hz_bd H
  refine aw_gI (k := 15) C cl_4 (by decide) wd_233 e2 dX4_turnAgainst_2 ?_
  refine aw_iconst C dX4_turnAgainst_5 (v := (nI 1)) (by decide) ?_
  refine aw_iload_n C dX4_turnAgainst_6 rfl ?_
  refine aw_ishl C dX4_turnAgainst_7 ?_
  refine aw_ior C dX4_turnAgainst_8 ?_
  obtain ⟨h3, e4, H⟩ := hz_bd H
  refine aw_pF (k := 15) C cl_4 (by decide) rfl wd_233 (hz_fiti _) e4 dX4_turnAgainst_9 ?_
  refine aw_aload_n C dX4_turnAgainst_12 rfl ?_
  obtain ⟨g7, H⟩ := hz_wn H
  obtain ⟨p5, e6, H⟩ := hz_bd H
  refine aw_V (As := []) (rest := []) C hy_X4_isChanging hv_X4_isChanging wd_592 cl_4.1 g7 (c_X4_isChanging _ _ _ _  e6) (hz_roi _) rfl rfl (Nat.le_of_ble_eq_true rfl) (by decide) (kc := 0) (ks := 0) rfl rfl ⟨(by show cs + 0 ≤ 9; omega), (by show sl + 0 ≤ 104; omega)⟩ dX4_turnAgainst_13 ?_
  refine aw_if_eq (tgt := 37) C dX4_turnAgainst_16 (by decide) (fun c40 => ?_) (fun c40 => ?_)
  · replace H := hz_it c40 H
    exact k_X4_turnAgainst_37 (cs := cs + 0) (sl := sl + 0) hn C  _ _ _ H (by omega) (by omega)
  · replace H := hz_if c40 H
    refine aw_aload_n C dX4_turnAgainst_19 rfl ?_
    obtain ⟨r8, e9, H⟩ := hz_bd H
    refine aw_gR (k := 6) C cl_4 (by decide) wd_222 e9 dX4_turnAgainst_20 ?_
    obtain ⟨v10, e11, H⟩ := hz_bd H
    refine aw_gI (k := 0) C cl_0 (by decide) wd_196 e11 dX4_turnAgainst_23 ?_
    refine aw_iload_n C dX4_turnAgainst_26 rfl ?_
    obtain ⟨p12, e13, H⟩ := hz_bd H
    refine aw_SN (As := [.int v10, .int a1]) (rest := []) C hy_X8_has wd_309 wn_308 (c_X8_has _ _ _ _ _  e13) (hz_roi _) rfl rfl (Nat.le_of_ble_eq_true rfl) (by decide) (kc := 0) (ks := 0) rfl rfl ⟨(by show cs + 0 + 0 ≤ 9; omega), (by show sl + 0 + 0 ≤ 104; omega)⟩ dX4_turnAgainst_27 ?_
    refine aw_if_eq (tgt := 37) C dX4_turnAgainst_30 (by decide) (fun c41 => ?_) (fun c41 => ?_)
    · replace H := hz_it c41 H
      exact k_X4_turnAgainst_37 (cs := cs + 0 + 0) (sl := sl + 0 + 0) hn C  _ _ _ H (by omega) (by omega)
    · replace H := hz_if c41 H
      refine aw_iconst C dX4_turnAgainst_33 (v := (nI 1)) (by decide) ?_
      refine aw_goto (tgt := 38) C dX4_turnAgainst_34 (by decide) ?_
      exact k_X4_turnAgainst_38 (cs := cs + 0 + 0) (sl := sl + 0 + 0) hn C  _ _ _ _ H (by omega) (by omega)
theorem hy_X4_losePatience : hz_Y yX4_losePatience cX4_losePatience 1 none 0 := ⟨wd_607, wd_62, by decide +kernel, by decide +kernel, by decide +kernel⟩
theorem hv_X4_losePatience : hz_YV yX4_losePatience := ⟨wd_605, wd_606⟩
def f_X4_losePatience_26 (h : HP) : Option HP :=
  some h
def f_X4_losePatience (a0 : Option Nat) (h : HP) : Option HP :=
  (hz_gI h a0 4 9).bind fun v1 =>
  if v1 = (nI 2) then
    if hz_ob h a0 4 = true then
    (f_X4_ask a0 h).bind fun p8 =>
    f_X4_losePatience_26   p8
    else none
  else
    (hz_gI h a0 4 9).bind fun v3 =>
    if v3 = 0 then
      f_X4_losePatience_26   h
    else
      if hz_ob h a0 4 = true then
      (f_X4_flush a0 h).bind fun p5 =>
      f_X4_losePatience_26   p5
      else none
abbrev rm_X4_losePatience : Room := { frames := 5, cells := 9, slots := 104, locals := 134 }
set_option maxRecDepth 100000 in
set_option maxHeartbeats 4000000 in
theorem k_X4_losePatience_26 {G : GX} {h' : HP} (hn : G.2.2.2.2.2.2.2.2.2.2.2.2 = 1) (C : Cx G cX4_losePatience RX4 "losePatience" none rm_X4_losePatience none h') {cs sl : Nat} (h : HP) (H : f_X4_losePatience_26   h = some h') (hcs : cs + 0 ≤ 9) (hsl : sl + 0 ≤ 104) : aw G 26 [none] [] h cs sl := by
  unfold f_X4_losePatience_26 at H
  cases H
  exact aw_vret C (by show cs ≤ 9; omega) (by show sl ≤ 104; omega) dX4_losePatience_26
set_option maxRecDepth 100000 in
set_option maxHeartbeats 4000000 in
theorem c_X4_losePatience {l : Launch} (a0 : Option Nat) (h : HP) (h' : HP) (H : f_X4_losePatience a0 h = some h') : Ct l yX4_losePatience cX4_losePatience 1 none rm_X4_losePatience [va_rf a0] none h h' := by
  refine Ct.of (plainFor_of_name (by decide)) (hz_s1c hz_s1n (hz_cr _)) (Nat.le_of_ble_eq_true rfl) (fun G hl hn C0 => ?_)
  have C : Cx G cX4_losePatience RX4 "losePatience" none rm_X4_losePatience none h' := C0
  subst hl
  show aw G 0 [some (va_rf a0)] [] h 0 0
  unfold f_X4_losePatience at H
  obtain ⟨cs, hcs⟩ : ∃ k : Nat, k = 0 := ⟨0, rfl⟩
  obtain ⟨sl, hsl⟩ : ∃ k : Nat, k = 0 := ⟨0, rfl⟩
  suffices hh : aw G 0 [some (va_rf a0)] [] h cs sl by rw [hcs, hsl] at hh; exact hh
  refine aw_aload_n C dX4_losePatience_0 rfl ?_
  obtain ⟨v1, e2, H⟩ := hz_bd H
  refine aw_gI (k := 9) C cl_4 (by decide) wd_226 e2 dX4_losePatience_1 ?_
  refine aw_iconst C dX4_losePatience_4 (v := (nI 2)) (by decide) ?_
  refine aw_icmp_ne (tgt := 15) C dX4_losePatience_5 (by decide) (fun c11 => ?_) (fun c11 => ?_)
  · replace H := hz_if c11 H
    refine aw_aload_n C dX4_losePatience_15 rfl ?_
    obtain ⟨v3, e4, H⟩ := hz_bd H
    refine aw_gI (k := 9) C cl_4 (by decide) wd_226 e4 dX4_losePatience_16 ?_
    refine aw_if_eq (tgt := 26) C dX4_losePatience_19 (by decide) (fun c12 => ?_) (fun c12 => ?_)
    · replace H := hz_it c12 H
      exact aw_loc (hz_sub_n hz_sub_0) (k_X4_losePatience_26 (cs := cs) (sl := sl) hn C  _ H (by omega) (by omega))
    · replace H := hz_if c12 H
      refine aw_aload_n C dX4_losePatience_22 rfl ?_
      obtain ⟨g7, H⟩ := hz_wn H
      obtain ⟨p5, e6, H⟩ := hz_bd H
      refine aw_V (As := []) (rest := []) C hy_X4_flush hv_X4_flush wd_488 cl_4.1 g7 (c_X4_flush _ _ _  e6) hz_ron rfl rfl (Nat.le_of_ble_eq_true rfl) (by decide) (kc := 9) (ks := 104) rfl rfl ⟨(by show cs + 9 ≤ 9; omega), (by show sl + 104 ≤ 104; omega)⟩ dX4_losePatience_23 ?_
      exact aw_loc (hz_sub_n hz_sub_0) (k_X4_losePatience_26 (cs := cs + 9) (sl := sl + 104) hn C  _ H (by omega) (by omega))
  · replace H := hz_it c11 H
    refine aw_aload_n C dX4_losePatience_8 rfl ?_
    obtain ⟨g10, H⟩ := hz_wn H
    obtain ⟨p8, e9, H⟩ := hz_bd H
    refine aw_V (As := []) (rest := []) C hy_X4_ask hv_X4_ask wd_481 cl_4.1 g10 (c_X4_ask _ _ _  e9) hz_ron rfl rfl (Nat.le_of_ble_eq_true rfl) (by decide) (kc := 9) (ks := 104) rfl rfl ⟨(by show cs + 9 ≤ 9; omega), (by show sl + 104 ≤ 104; omega)⟩ dX4_losePatience_9 ?_
    refine aw_goto (tgt := 26) C dX4_losePatience_12 (by decide) ?_
    exact aw_loc (hz_sub_n hz_sub_0) (k_X4_losePatience_26 (cs := cs + 9) (sl := sl + 104) hn C  _ H (by omega) (by omega))
