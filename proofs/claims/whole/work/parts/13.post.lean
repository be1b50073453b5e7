theorem hy_X5_between : hz_Y yX5_between cX5_between 4 (some (.object "GroupCast$Channel")) 2 := ⟨wd_319, wd_60, by decide +kernel, by decide +kernel, by decide +kernel⟩
theorem hv_X5_between : hz_YV yX5_between := ⟨wd_317, wd_318⟩
def f_X5_between_51 (s0 : Option Nat) (h : HP) : Option (Option Nat × HP) :=
  some (s0, h)
def f_X5_between_29 (l0 : Option Nat) (l1 : Int32) (l2 : Int32) (s0 : Int32) (h : HP) : Option (Option Nat × HP) :=
  if s0 = 0 then
    f_X5_between_51  none h
  else
    (hz_gR h l0 5 2).bind fun r5 =>
    (hz_gI h l0 5 0).bind fun v7 =>
    (hz_aR h r5 2 ((l1 * v7) + l2)).bind fun r9 =>
    f_X5_between_51  r9 h
def f_X5_between_28 (l0 : Option Nat) (l1 : Int32) (l2 : Int32) (h : HP) : Option (Option Nat × HP) :=
  f_X5_between_29  l0 l1 l2 (nI 0) h
def f_X5_between (a0 : Option Nat) (a1 : Int32) (a2 : Int32) (h : HP) : Option (Option Nat × HP) :=
  if a1 < 0 then
    f_X5_between_28  a0 a1 a2 h
  else
    (hz_gI h a0 5 0).bind fun v1 =>
    if v1 ≤ a1 then
      f_X5_between_28  a0 a1 a2 h
    else
      if a2 < 0 then
        f_X5_between_28  a0 a1 a2 h
      else
        (hz_gI h a0 5 0).bind fun v3 =>
        if v3 ≤ a2 then
          f_X5_between_28  a0 a1 a2 h
        else
          f_X5_between_29  a0 a1 a2 (nI 1) h
abbrev rm_X5_between : Room := { frames := 0, cells := 0, slots := 0, locals := 0 }
set_option maxRecDepth 100000 in
set_option maxHeartbeats 4000000 in
theorem k_X5_between_51 {G : GX} {v' : Option Nat} {h' : HP} (hn : G.2.2.2.2.2.2.2.2.2.2.2.2 = 4) (C : Cx G cX5_between RX5 "between" (some (.object "GroupCast$Channel")) rm_X5_between (some (va_rf v')) h') (s0 : Option Nat) (h : HP) (H : f_X5_between_51  s0 h = some (v', h')) : aw G 51 [none, none, none, none] [va_rf s0] h 0 0 := by
  unfold f_X5_between_51 at H
  cases H
  exact aw_aret C (Or.inl ⟨_, rfl⟩) (Nat.zero_le _) (Nat.zero_le _) dX5_between_51
set_option maxRecDepth 100000 in
set_option maxHeartbeats 4000000 in
theorem k_X5_between_29 {G : GX} {v' : Option Nat} {h' : HP} (hn : G.2.2.2.2.2.2.2.2.2.2.2.2 = 4) (C : Cx G cX5_between RX5 "between" (some (.object "GroupCast$Channel")) rm_X5_between (some (va_rf v')) h') (l0 : Option Nat) (l1 : Int32) (l2 : Int32) (s0 : Int32) (h : HP) (H : f_X5_between_29  l0 l1 l2 s0 h = some (v', h')) : aw G 29 [some (va_rf l0), some (.int l1), some (.int l2), none] [.int s0] h 0 0 := by
  unfold f_X5_between_29 at H
  refine aw_istore_n C dX5_between_29 (by rw [hn]; decide) rfl ?_
  refine aw_iload_n C dX5_between_30 rfl ?_
  refine aw_if_eq (tgt := 50) C dX5_between_31 (by decide) (fun c11 => ?_) (fun c11 => ?_)
  · replace H := hz_it c11 H
    refine aw_null C dX5_between_50 ?_
    exact aw_loc (hz_sub_n (hz_sub_n (hz_sub_n (hz_sub_n hz_sub_0)))) (k_X5_between_51 hn C  _ _ H)
  · replace H := hz_if c11 H
    refine aw_aload_n C dX5_between_34 rfl ?_
    obtain ⟨r5, e6, H⟩ := hz_bd H
    refine aw_gR (k := 2) C cl_5 (by decide) wd_136 e6 dX5_between_35 ?_
    refine aw_iload_n C dX5_between_38 rfl ?_
    refine aw_aload_n C dX5_between_39 rfl ?_
    obtain ⟨v7, e8, H⟩ := hz_bd H
    refine aw_gI (k := 0) C cl_5 (by decide) wd_134 e8 dX5_between_40 ?_
    refine aw_imul C dX5_between_43 ?_
    refine aw_iload_n C dX5_between_44 rfl ?_
    refine aw_iadd C dX5_between_45 ?_
    obtain ⟨r9, e10, H⟩ := hz_bd H
    refine aw_aald (t := 2) C (by decide) rfl e10 dX5_between_46 ?_
    refine aw_goto (tgt := 51) C dX5_between_47 (by decide) ?_
    exact aw_loc (hz_sub_n (hz_sub_n (hz_sub_n (hz_sub_n hz_sub_0)))) (k_X5_between_51 hn C  _ _ H)
set_option maxRecDepth 100000 in
set_option maxHeartbeats 4000000 in
theorem k_X5_between_28 {G : GX} {v' : Option Nat} {h' : HP} (hn : G.2.2.2.2.2.2.2.2.2.2.2.2 = 4) (C : Cx G cX5_between RX5 "between" (some (.object "GroupCast$Channel")) rm_X5_between (some (va_rf v')) h') (l0 : Option Nat) (l1 : Int32) (l2 : Int32) (h : HP) (H : f_X5_between_28  l0 l1 l2 h = some (v', h')) : aw G 28 [some (va_rf l0), some (.int l1), some (.int l2), none] [] h 0 0 := by
  unfold f_X5_between_28 at H
  refine aw_iconst C dX5_between_28 (v := (nI 0)) (by decide) ?_
  exact k_X5_between_29 hn C  _ _ _ _ _ H
set_option maxRecDepth 100000 in
set_option maxHeartbeats 4000000 in
theorem c_X5_between {l : Launch} (a0 : Option Nat) (a1 : Int32) (a2 : Int32) (h : HP) (v' : Option Nat) (h' : HP) (H : f_X5_between a0 a1 a2 h = some (v', h')) : Ct l yX5_between cX5_between 4 (some (.object "GroupCast$Channel")) rm_X5_between [va_rf a0, .int a1, .int a2] (some (va_rf v')) h h' := by
  refine Ct.of (plainFor_of_name (by decide)) (hz_s1c (hz_s1c (hz_s1c hz_s1n rfl) rfl) (hz_cr _)) (Nat.le_of_ble_eq_true rfl) (fun G hl hn C0 => ?_)
  have C : Cx G cX5_between RX5 "between" (some (.object "GroupCast$Channel")) rm_X5_between (some (va_rf v')) h' := C0
  subst hl
  show aw G 0 [some (va_rf a0), some (.int a1), some (.int a2), none] [] h 0 0
  unfold f_X5_between at H
  refine aw_iload_n C dX5_between_0 rfl ?_
  refine aw_if_lt (tgt := 28) C dX5_between_1 (by decide) (fun c12 => ?_) (fun c12 => ?_)
  · replace H := hz_it c12 H
    exact k_X5_between_28 hn C  _ _ _ _ H
  · replace H := hz_if c12 H
    refine aw_iload_n C dX5_between_4 rfl ?_
    refine aw_aload_n C dX5_between_5 rfl ?_
    obtain ⟨v1, e2, H⟩ := hz_bd H
    refine aw_gI (k := 0) C cl_5 (by decide) wd_134 e2 dX5_between_6 ?_
    refine aw_icmp_ge (tgt := 28) C dX5_between_9 (by decide) (fun c13 => ?_) (fun c13 => ?_)
    · replace H := hz_it c13 H
      exact k_X5_between_28 hn C  _ _ _ _ H
    · replace H := hz_if c13 H
      refine aw_iload_n C dX5_between_12 rfl ?_
      refine aw_if_lt (tgt := 28) C dX5_between_13 (by decide) (fun c14 => ?_) (fun c14 => ?_)
      · replace H := hz_it c14 H
        exact k_X5_between_28 hn C  _ _ _ _ H
      · replace H := hz_if c14 H
        refine aw_iload_n C dX5_between_16 rfl ?_
        refine aw_aload_n C dX5_between_17 rfl ?_
        obtain ⟨v3, e4, H⟩ := hz_bd H
        refine aw_gI (k := 0) C cl_5 (by decide) wd_134 e4 dX5_between_18 ?_
        refine aw_icmp_ge (tgt := 28) C dX5_between_21 (by decide) (fun c15 => ?_) (fun c15 => ?_)
        · replace H := hz_it c15 H
          exact k_X5_between_28 hn C  _ _ _ _ H
        · replace H := hz_if c15 H
          refine aw_iconst C dX5_between_24 (v := (nI 1)) (by decide) ?_
          refine aw_goto (tgt := 29) C dX5_between_25 (by decide) ?_
          exact k_X5_between_29 hn C  _ _ _ _ _ H
theorem hy_X5_send : hz_Y yX5_send cX5_send 9 none 6 := ⟨wd_314, wd_60, by decide +kernel, by decide +kernel, by decide +kernel⟩
theorem hv_X5_send : hz_YV yX5_send := ⟨wd_312, wd_313⟩
def f_X5_send_106 (K3 : Option Nat → Int32 → Int32 → Int32 → Int32 → Int32 → Option Nat → Int32 → HP → Option HP) (l0 : Option Nat) (l1 : Int32) (l2 : Int32) (l3 : Int32) (l4 : Int32) (l5 : Int32) (l6 : Option Nat) (l7 : Int32) (h : HP) : Option HP :=
  K3 l0 l1 l2 l3 l4 l5 l6 (l7 + (nI 1)) h
def f_X5_send_61 (K3 : Option Nat → Int32 → Int32 → Int32 → Int32 → Int32 → Option Nat → Int32 → HP → Option HP) (l0 : Option Nat) (l1 : Int32) (l2 : Int32) (l3 : Int32) (l4 : Int32) (l5 : Int32) (l6 : Option Nat) (l7 : Int32) (h : HP) : Option HP :=
  (hz_gR h l0 5 1).bind fun r26 =>
  (hz_gI h r26 7 1).bind fun v28 =>
  (hz_pF h r26 7 1 (.int (v28 + (nI 1)))).bind fun h30 =>
  f_X5_send_106 K3 l0 l1 l2 l3 l4 l5 l6 l7 h30
def f_X5_send_3 : Nat → Option Nat → Int32 → Int32 → Int32 → Int32 → Int32 → Option Nat → Int32 → HP → Option HP
  | 0, _, _, _, _, _, _, _, _, _ => none
  | n + 1, l0, l1, l2, l3, l4, l5, l6, l7, h =>
    (hz_gI h l0 5 0).bind fun v1 =>
    if v1 ≤ l7 then
      some h
    else
      (f_X8_has l2 l7 h).bind fun p3 =>
      if p3.1 = 0 then
        f_X5_send_106 (f_X5_send_3  n) l0 l1 l2 l3 l4 l5 l6 l7 p3.2
      else
        (hz_gR p3.2 l0 5 1).bind fun r5 =>
        (hz_gI p3.2 r5 7 0).bind fun v7 =>
        (hz_pF p3.2 r5 7 0 (.int (v7 + (nI 1)))).bind fun h9 =>
        if hz_ob h9 l0 5 = true then
        (f_X5_between l0 l1 l7 h9).bind fun p11 =>
        if p11.1 = none then
          f_X5_send_61 (f_X5_send_3  n) l0 l1 l2 l3 l4 l5 l6 l7 p11.2
        else
          (hz_gI p11.2 l0 5 3).bind fun v14 =>
          if v14 < (nI 500) then
            (some (hz_nO p11.2 2 [.int 0, .int 0, .int 0, .null, .null])).bind fun h16 =>
            (f_X2_init (some (p11.2.1 + 1)) l3 l4 l5 l6 h16).bind fun p17 =>
            if hz_ob p17 p11.1 1 = true then
            (f_X1_put p11.1 (some (p11.2.1 + 1)) p17).bind fun p19 =>
            (hz_gI p19 l0 5 3).bind fun v22 =>
            (hz_pF p19 l0 5 3 (.int (v22 + (nI 1)))).bind fun h24 =>
            f_X5_send_106 (f_X5_send_3  n) l0 l1 l2 l3 l4 l5 l6 l7 h24
            else none
          else
            f_X5_send_61 (f_X5_send_3  n) l0 l1 l2 l3 l4 l5 l6 l7 p11.2
        else none
def f_X5_send (a0 : Option Nat) (a1 : Int32) (a2 : Int32) (a3 : Int32) (a4 : Int32) (a5 : Int32) (a6 : Option Nat) (h : HP) : Option HP :=
  f_X5_send_3  8 a0 a1 a2 a3 a4 a5 a6 (nI 0) h
abbrev rm_X5_send : Room := { frames := 2, cells := 8, slots := 40, locals := 64 }
set_option maxRecDepth 100000 in
set_option maxHeartbeats 4000000 in
theorem k_X5_send_106 {bc bs : Nat} {G : GX} {h' : HP} (hn : G.2.2.2.2.2.2.2.2.2.2.2.2 = 9) (C : Cx G cX5_send RX5 "send" none rm_X5_send none h') {K3 : Option Nat → Int32 → Int32 → Int32 → Int32 → Int32 → Option Nat → Int32 → HP → Option HP} (hK3 : ∀ (cs sl : Nat) (l0 : Option Nat) (l1 : Int32) (l2 : Int32) (l3 : Int32) (l4 : Int32) (l5 : Int32) (l6 : Option Nat) (l7 : Int32) (h : HP), K3 l0 l1 l2 l3 l4 l5 l6 l7 h = some h' → cs + bc ≤ 8 → sl + bs ≤ 40 → aw G 3 [some (va_rf l0), some (.int l1), some (.int l2), some (.int l3), some (.int l4), some (.int l5), some (va_rf l6), some (.int l7), none] [] h cs sl) {cs sl : Nat} (l0 : Option Nat) (l1 : Int32) (l2 : Int32) (l3 : Int32) (l4 : Int32) (l5 : Int32) (l6 : Option Nat) (l7 : Int32) (h : HP) (H : f_X5_send_106 K3 l0 l1 l2 l3 l4 l5 l6 l7 h = some h') (hcs : cs + (0 + bc) ≤ 8) (hsl : sl + (0 + bs) ≤ 40) (hec : 0 ≤ bc) (hes : 0 ≤ bs) : aw G 106 [some (va_rf l0), some (.int l1), some (.int l2), some (.int l3), some (.int l4), some (.int l5), some (va_rf l6), some (.int l7), none] [] h cs sl := by
  unfold f_X5_send_106 at H
  refine aw_iinc (d := (nI 1)) C dX5_send_106 (by rw [hn]; decide) rfl (by decide) rfl ?_
  refine aw_goto (tgt := 3) C dX5_send_109 (by decide) ?_
  exact hK3 (cs) (sl) _ _ _ _ _ _ _ _ _ H (by omega) (by omega)
set_option maxRecDepth 100000 in
set_option maxHeartbeats 4000000 in
theorem k_X5_send_61 {bc bs : Nat} {G : GX} {h' : HP} (hn : G.2.2.2.2.2.2.2.2.2.2.2.2 = 9) (C : Cx G cX5_send RX5 "send" none rm_X5_send none h') {K3 : Option Nat → Int32 → Int32 → Int32 → Int32 → Int32 → Option Nat → Int32 → HP → Option HP} (hK3 : ∀ (cs sl : Nat) (l0 : Option Nat) (l1 : Int32) (l2 : Int32) (l3 : Int32) (l4 : Int32) (l5 : Int32) (l6 : Option Nat) (l7 : Int32) (h : HP), K3 l0 l1 l2 l3 l4 l5 l6 l7 h = some h' → cs + bc ≤ 8 → sl + bs ≤ 40 → aw G 3 [some (va_rf l0), some (.int l1), some (.int l2), some (.int l3), some (.int l4), some (.int l5), some (va_rf l6), some (.int l7), none] [] h cs sl) {cs sl : Nat} (l0 : Option Nat) (l1 : Int32) (l2 : Int32) (l3 : Int32) (l4 : Int32) (l5 : Int32) (l6 : Option Nat) (l7 : Int32) (h : HP) (H : f_X5_send_61 K3 l0 l1 l2 l3 l4 l5 l6 l7 h = some h') (hcs : cs + (0 + bc) ≤ 8) (hsl : sl + (0 + bs) ≤ 40) (hec : 0 ≤ bc) (hes : 0 ≤ bs) : aw G 61 [some (va_rf l0), some (.int l1), some (.int l2), some (.int l3), some (.int l4), some (.int l5), some (va_rf l6), some (.int l7), none] [] h cs sl := by
  unfold f_X5_send_61 at H
  refine aw_aload_n C dX5_send_61 rfl ?_
  obtain ⟨r26, e27, H⟩ := hz_bd H
  refine aw_gR (k := 1) C cl_5 (by decide) wd_135 e27 dX5_send_62 ?_
  refine aw_dup C dX5_send_65 ?_
  obtain ⟨v28, e29, H⟩ := hz_bd H
  refine aw_gI (k := 1) C cl_7 (by decide) wd_90 e29 dX5_send_66 ?_
  refine aw_iconst C dX5_send_69 (v := (nI 1)) (by decide) ?_
  refine aw_iadd C dX5_send_70 ?_
  obtain ⟨h30, e31, H⟩ := hz_bd H
  refine aw_pF (k := 1) C cl_7 (by decide) rfl wd_90 (hz_fiti _) e31 dX5_send_71 ?_
  refine aw_goto (tgt := 106) C dX5_send_74 (by decide) ?_
  exact k_X5_send_106 (cs := cs) (sl := sl) hn C hK3 _ _ _ _ _ _ _ _ _ H (by omega) (by omega) (by omega) (by omega)
set_option maxRecDepth 100000 in
set_option maxHeartbeats 4000000 in
theorem k_X5_send_3 {G : GX} {h' : HP} (hn : G.2.2.2.2.2.2.2.2.2.2.2.2 = 9) (C : Cx G cX5_send RX5 "send" none rm_X5_send none h') : ∀ (n : Nat) {cs sl : Nat} (l0 : Option Nat) (l1 : Int32) (l2 : Int32) (l3 : Int32) (l4 : Int32) (l5 : Int32) (l6 : Option Nat) (l7 : Int32) (h : HP), f_X5_send_3  n l0 l1 l2 l3 l4 l5 l6 l7 h = some h' → cs + (n * 1 + 0) ≤ 8 → sl + (n * 5 + 0) ≤ 40 → aw G 3 [some (va_rf l0), some (.int l1), some (.int l2), some (.int l3), some (.int l4), some (.int l5), some (va_rf l6), some (.int l7), none] [] h cs sl := by
  intro n
  induction n with
  | zero => intro cs sl l0 l1 l2 l3 l4 l5 l6 l7 h H hcs hsl; cases H
  | succ n ih =>
    intro cs sl l0 l1 l2 l3 l4 l5 l6 l7 h H hcs hsl
    rw [f_X5_send_3] at H
    refine aw_iload C dX5_send_3 rfl ?_
    refine aw_aload_n C dX5_send_5 rfl ?_
    obtain ⟨v1, e2, H⟩ := hz_bd H
    refine aw_gI (k := 0) C cl_5 (by decide) wd_134 e2 dX5_send_6 ?_
    refine aw_icmp_ge (tgt := 112) C dX5_send_9 (by decide) (fun c32 => ?_) (fun c32 => ?_)
    · replace H := hz_it c32 H
      cases H
      exact aw_vret C (by show cs ≤ 8; omega) (by show sl ≤ 40; omega) dX5_send_112
    · replace H := hz_if c32 H
      refine aw_iload_n C dX5_send_12 rfl ?_
      refine aw_iload C dX5_send_13 rfl ?_
      obtain ⟨p3, e4, H⟩ := hz_bd H
      refine aw_SN (As := [.int l2, .int l7]) (rest := []) C hy_X8_has wd_309 wn_315 (c_X8_has _ _ _ _ _  e4) (hz_roi _) rfl rfl (Nat.le_of_ble_eq_true rfl) (by decide) (kc := 0) (ks := 0) rfl rfl ⟨(by show cs + 0 ≤ 8; omega), (by show sl + 0 ≤ 40; omega)⟩ dX5_send_15 ?_
      refine aw_if_ne (tgt := 24) C dX5_send_18 (by decide) (fun c33 => ?_) (fun c33 => ?_)
      · replace H := hz_if c33 H
        refine aw_aload_n C dX5_send_24 rfl ?_
        obtain ⟨r5, e6, H⟩ := hz_bd H
        refine aw_gR (k := 1) C cl_5 (by decide) wd_135 e6 dX5_send_25 ?_
        refine aw_dup C dX5_send_28 ?_
        obtain ⟨v7, e8, H⟩ := hz_bd H
        refine aw_gI (k := 0) C cl_7 (by decide) wd_87 e8 dX5_send_29 ?_
        refine aw_iconst C dX5_send_32 (v := (nI 1)) (by decide) ?_
        refine aw_iadd C dX5_send_33 ?_
        obtain ⟨h9, e10, H⟩ := hz_bd H
        refine aw_pF (k := 0) C cl_7 (by decide) rfl wd_87 (hz_fiti _) e10 dX5_send_34 ?_
        refine aw_aload_n C dX5_send_37 rfl ?_
        refine aw_iload_n C dX5_send_38 rfl ?_
        refine aw_iload C dX5_send_39 rfl ?_
        obtain ⟨g13, H⟩ := hz_wn H
        obtain ⟨p11, e12, H⟩ := hz_bd H
        refine aw_V (As := [.int l1, .int l7]) (rest := []) C hy_X5_between hv_X5_between wd_316 cl_5.1 g13 (c_X5_between _ _ _ _ _ _  e12) (hz_ror _) rfl rfl (Nat.le_of_ble_eq_true rfl) (by decide) (kc := 0) (ks := 0) rfl rfl ⟨(by show cs + 0 + 0 ≤ 8; omega), (by show sl + 0 + 0 ≤ 40; omega)⟩ dX5_send_41 ?_
        refine aw_astore C dX5_send_44 (by rw [hn]; decide) rfl ?_
        refine aw_aload C dX5_send_46 rfl ?_
        refine aw_ifnull (tgt := 61) C dX5_send_48 (by decide) (fun c34 => ?_) (fun c34 => ?_)
        · replace H := hz_it c34 H
          exact aw_loc (hz_sub_s (hz_sub_s (hz_sub_s (hz_sub_s (hz_sub_s (hz_sub_s (hz_sub_s (hz_sub_s (hz_sub_n hz_sub_0))))))))) (k_X5_send_61 (cs := cs + 0 + 0) (sl := sl + 0 + 0) hn C (fun _ _ _ _ _ _ _ _ _ _ _ H => ih _ _ _ _ _ _ _ _ _ H) _ _ _ _ _ _ _ _ _ H (by omega) (by omega) (by omega) (by omega))
        · replace H := hz_if c34 H
          refine aw_aload_n C dX5_send_51 rfl ?_
          obtain ⟨v14, e15, H⟩ := hz_bd H
          refine aw_gI (k := 3) C cl_5 (by decide) wd_137 e15 dX5_send_52 ?_
          refine aw_sipush C dX5_send_55 (v := (nI 500)) (by decide) ?_
          refine aw_icmp_lt (tgt := 77) C dX5_send_58 (by decide) (fun c35 => ?_) (fun c35 => ?_)
          · replace H := hz_it c35 H
            refine aw_aload C dX5_send_77 rfl ?_
            replace H := hz_lt H
            refine aw_new C cl_2 wd_320 wd_321 wd_67 df_2 (by show cs + 0 + 0 + 1 ≤ 8; omega) (by show sl + 0 + 0 + 5 ≤ 40; omega) dX5_send_79 ?_
            refine aw_dup C dX5_send_82 ?_
            refine aw_iload_n C dX5_send_83 rfl ?_
            refine aw_iload C dX5_send_84 rfl ?_
            refine aw_iload C dX5_send_86 rfl ?_
            refine aw_aload C dX5_send_88 rfl ?_
            obtain ⟨p17, e18, H⟩ := hz_bd H
            refine aw_I (As := [.int l3, .int l4, .int l5, va_rf l6]) (rest := [va_rf (some (p11.2.1 + 1)), va_rf p11.1]) C hy_X2_init rfl wd_323 wd_322 (c_X2_init _ _ _ _ _ _ _  e18) rfl rfl (Nat.le_of_ble_eq_true rfl) (by decide) (kc := 0) (ks := 0) rfl rfl ⟨(by show cs + 0 + 0 + 1 + 0 ≤ 8; omega), (by show sl + 0 + 0 + 5 + 0 ≤ 40; omega)⟩ dX5_send_90 ?_
            obtain ⟨g21, H⟩ := hz_wn H
            obtain ⟨p19, e20, H⟩ := hz_bd H
            refine aw_V (As := [va_rf (some (p11.2.1 + 1))]) (rest := []) C hy_X1_put hv_X1_put wd_347 cl_1.1 g21 (c_X1_put _ _ _ _  e20) hz_ron rfl rfl (Nat.le_of_ble_eq_true rfl) (by decide) (kc := 0) (ks := 0) rfl rfl ⟨(by show cs + 0 + 0 + 1 + 0 + 0 ≤ 8; omega), (by show sl + 0 + 0 + 5 + 0 + 0 ≤ 40; omega)⟩ dX5_send_93 ?_
            refine aw_aload_n C dX5_send_96 rfl ?_
            refine aw_dup C dX5_send_97 ?_
            obtain ⟨v22, e23, H⟩ := hz_bd H
            refine aw_gI (k := 3) C cl_5 (by decide) wd_137 e23 dX5_send_98 ?_
            refine aw_iconst C dX5_send_101 (v := (nI 1)) (by decide) ?_
            refine aw_iadd C dX5_send_102 ?_
            obtain ⟨h24, e25, H⟩ := hz_bd H
            refine aw_pF (k := 3) C cl_5 (by decide) rfl wd_137 (hz_fiti _) e25 dX5_send_103 ?_
            exact aw_loc (hz_sub_s (hz_sub_s (hz_sub_s (hz_sub_s (hz_sub_s (hz_sub_s (hz_sub_s (hz_sub_s (hz_sub_n hz_sub_0))))))))) (k_X5_send_106 (cs := cs + 0 + 0 + 1 + 0 + 0) (sl := sl + 0 + 0 + 5 + 0 + 0) hn C (fun _ _ _ _ _ _ _ _ _ _ _ H => ih _ _ _ _ _ _ _ _ _ H) _ _ _ _ _ _ _ _ _ H (by omega) (by omega) (by omega) (by omega))
          · replace H := hz_if c35 H
            exact aw_loc (hz_sub_s (hz_sub_s (hz_sub_s (hz_sub_s (hz_sub_s (hz_sub_s (hz_sub_s (hz_sub_s (hz_sub_n hz_sub_0))))))))) (k_X5_send_61 (cs := cs + 0 + 0) (sl := sl + 0 + 0) hn C (fun _ _ _ _ _ _ _ _ _ _ _ H => ih _ _ _ _ _ _ _ _ _ H) _ _ _ _ _ _ _ _ _ H (by omega) (by omega) (by omega) (by omega))
      · replace H := hz_it c33 H
        refine aw_goto (tgt := 106) C dX5_send_21 (by decide) ?_
        exact k_X5_send_106 (cs := cs + 0) (sl := sl + 0) hn C (fun _ _ _ _ _ _ _ _ _ _ _ H => ih _ _ _ _ _ _ _ _ _ H) _ _ _ _ _ _ _ _ _ H (by omega) (by omega) (by omega) (by omega)
set_option maxRecDepth 100000 in
set_option maxHeartbeats 4000000 in
theorem c_X5_send {l : Launch} (a0 : Option Nat) (a1 : Int32) (a2 : Int32) (a3 : Int32) (a4 : Int32) (a5 : Int32) (a6 : Option Nat) (h : HP) (h' : HP) (H : f_X5_send a0 a1 a2 a3 a4 a5 a6 h = some h') : Ct l yX5_send cX5_send 9 none rm_X5_send [va_rf a0, .int a1, .int a2, .int a3, .int a4, .int a5, va_rf a6] none h h' := by
  refine Ct.of (plainFor_of_name (by decide)) (hz_s1c (hz_s1c (hz_s1c (hz_s1c (hz_s1c (hz_s1c (hz_s1c hz_s1n (hz_cr _)) rfl) rfl) rfl) rfl) rfl) (hz_cr _)) (Nat.le_of_ble_eq_true rfl) (fun G hl hn C0 => ?_)
  have C : Cx G cX5_send RX5 "send" none rm_X5_send none h' := C0
  subst hl
  show aw G 0 [some (va_rf a0), some (.int a1), some (.int a2), some (.int a3), some (.int a4), some (.int a5), some (va_rf a6), none, none] [] h 0 0
  unfold f_X5_send at H
  obtain ⟨cs, hcs⟩ : ∃ k : Nat, k = 0 := ⟨0, rfl⟩
  obtain ⟨sl, hsl⟩ : ∃ k : Nat, k = 0 := ⟨0, rfl⟩
  suffices hh : aw G 0 [some (va_rf a0), some (.int a1), some (.int a2), some (.int a3), some (.int a4), some (.int a5), some (va_rf a6), none, none] [] h cs sl by rw [hcs, hsl] at hh; exact hh
  refine aw_iconst C dX5_send_0 (v := (nI 0)) (by decide) ?_
  refine aw_istore C dX5_send_1 (by rw [hn]; decide) rfl ?_
  exact k_X5_send_3 hn C  8 (cs := cs) (sl := sl) _ _ _ _ _ _ _ _ _ H (by omega) (by omega)
theorem hy_X5_init : hz_Y yX5_init cX5_init 4 none 2 := ⟨wd_113, wd_60, by decide +kernel, by decide +kernel, by decide +kernel⟩
def f_X5_init_26 : Nat → Option Nat → Int32 → HP → Option HP
  | 0, _, _, _ => none
  | n + 1, l0, l3, h =>
    (hz_gR h l0 5 2).bind fun r10 =>
    (hz_aL h r10).bind fun v12 =>
    if v12 ≤ l3 then
      some h
    else
      (hz_gR h l0 5 2).bind fun r14 =>
      (some (hz_nO h 1 [.null, .null, .int 0])).bind fun h16 =>
      (f_X1_init (some (h.1 + 1)) h16).bind fun p17 =>
      (hz_aT p17 r14 2 1 l3 (some (h.1 + 1))).bind fun h19 =>
      f_X5_init_26  n l0 (l3 + (nI 1)) h19
def f_X5_init (a0 : Option Nat) (a1 : Int32) (a2 : Option Nat) (h : HP) : Option HP :=
  if a0 = none then none else
  (hz_pF h a0 5 0 (.int a1)).bind fun h2 =>
  (hz_pF h2 a0 5 1 (va_rf a2)).bind fun h4 =>
  (hz_nQ h4 2 64 (a1 * a1)).bind fun h6 =>
  (hz_pF h6 a0 5 2 (va_rf (some (h4.1 + 1)))).bind fun h8 =>
  f_X5_init_26  64 a0 (nI 0) h8
abbrev rm_X5_init : Room := { frames := 2, cells := 65, slots := 256, locals := 60 }
set_option maxRecDepth 100000 in
set_option maxHeartbeats 4000000 in
theorem k_X5_init_26 {G : GX} {h' : HP} (hn : G.2.2.2.2.2.2.2.2.2.2.2.2 = 4) (C : Cx G cX5_init RX5 "<init>" none rm_X5_init none h') : ∀ (n : Nat) {cs sl : Nat} (l0 : Option Nat) (l3 : Int32) (h : HP), f_X5_init_26  n l0 l3 h = some h' → cs + (n * 1 + 0) ≤ 65 → sl + (n * 3 + 0) ≤ 256 → aw G 26 [some (va_rf l0), none, none, some (.int l3)] [] h cs sl := by
  intro n
  induction n with
  | zero => intro cs sl l0 l3 h H hcs hsl; cases H
  | succ n ih =>
    intro cs sl l0 l3 h H hcs hsl
    rw [f_X5_init_26] at H
    refine aw_iload_n C dX5_init_26 rfl ?_
    refine aw_aload_n C dX5_init_27 rfl ?_
    obtain ⟨r10, e11, H⟩ := hz_bd H
    refine aw_gR (k := 2) C cl_5 (by decide) wd_136 e11 dX5_init_28 ?_
    obtain ⟨v12, e13, H⟩ := hz_bd H
    refine aw_alen C e13 dX5_init_31 ?_
    refine aw_icmp_ge (tgt := 54) C dX5_init_32 (by decide) (fun c21 => ?_) (fun c21 => ?_)
    · replace H := hz_it c21 H
      cases H
      exact aw_vret C (by show cs ≤ 65; omega) (by show sl ≤ 256; omega) dX5_init_54
    · replace H := hz_if c21 H
      refine aw_aload_n C dX5_init_35 rfl ?_
      obtain ⟨r14, e15, H⟩ := hz_bd H
      refine aw_gR (k := 2) C cl_5 (by decide) wd_136 e15 dX5_init_36 ?_
      refine aw_iload_n C dX5_init_39 rfl ?_
      replace H := hz_lt H
      refine aw_new C cl_1 wd_115 wd_117 wd_61 df_1 (by show cs + 1 ≤ 65; omega) (by show sl + 3 ≤ 256; omega) dX5_init_40 ?_
      refine aw_dup C dX5_init_43 ?_
      obtain ⟨p17, e18, H⟩ := hz_bd H
      refine aw_IN (As := []) (rest := [va_rf (some (h.1 + 1)), .int l3, va_rf r14]) C hy_X1_init rfl wd_119 wn_118 (c_X1_init _ _ _  e18) rfl rfl (Nat.le_of_ble_eq_true rfl) (by decide) (kc := 0) (ks := 0) rfl rfl ⟨(by show cs + 1 + 0 ≤ 65; omega), (by show sl + 3 + 0 ≤ 256; omega)⟩ dX5_init_44 ?_
      obtain ⟨h19, e20, H⟩ := hz_bd H
      refine aw_aast (t := 2) C (by decide) rfl cl_1.1 e20 dX5_init_47 ?_
      refine aw_iinc (d := (nI 1)) C dX5_init_48 (by rw [hn]; decide) rfl (by decide) rfl ?_
      refine aw_goto (tgt := 26) C dX5_init_51 (by decide) ?_
      exact ih (cs := cs + 1 + 0) (sl := sl + 3 + 0) _ _ _ H (by omega) (by omega)
set_option maxRecDepth 100000 in
set_option maxHeartbeats 4000000 in
theorem c_X5_init {l : Launch} (a0 : Option Nat) (a1 : Int32) (a2 : Option Nat) (h : HP) (h' : HP) (H : f_X5_init a0 a1 a2 h = some h') : Ct l yX5_init cX5_init 4 none rm_X5_init [va_rf a0, .int a1, va_rf a2] none h h' := by
  refine Ct.of (plainFor_of_name (by decide)) (hz_s1c (hz_s1c (hz_s1c hz_s1n (hz_cr _)) rfl) (hz_cr _)) (Nat.le_of_ble_eq_true rfl) (fun G hl hn C0 => ?_)
  have C : Cx G cX5_init RX5 "<init>" none rm_X5_init none h' := C0
  subst hl
  show aw G 0 [some (va_rf a0), some (.int a1), some (va_rf a2), none] [] h 0 0
  unfold f_X5_init at H
  obtain ⟨cs, hcs⟩ : ∃ k : Nat, k = 0 := ⟨0, rfl⟩
  obtain ⟨sl, hsl⟩ : ∃ k : Nat, k = 0 := ⟨0, rfl⟩
  suffices hh : aw G 0 [some (va_rf a0), some (.int a1), some (va_rf a2), none] [] h cs sl by rw [hcs, hsl] at hh; exact hh
  refine aw_aload_n C dX5_init_0 rfl ?_
  obtain ⟨g1, H⟩ := hz_un H
  refine aw_objI C g1 wd_114 wd_78 wd_79 (Nat.le_of_ble_eq_true rfl) (by decide) dX5_init_1 ?_
  refine aw_aload_n C dX5_init_4 rfl ?_
  refine aw_iload_n C dX5_init_5 rfl ?_
  obtain ⟨h2, e3, H⟩ := hz_bd H
  refine aw_pFF (k := 0) C cl_5 (by decide) rfl wd_134 (hz_fiti _) e3 dX5_init_6 ?_
  refine aw_aload_n C dX5_init_9 rfl ?_
  refine aw_aload_n C dX5_init_10 rfl ?_
  obtain ⟨h4, e5, H⟩ := hz_bd H
  refine aw_pFF (k := 1) C cl_5 (by decide) rfl wd_135 (hz_fito _ _) e5 dX5_init_11 ?_
  refine aw_aload_n C dX5_init_14 rfl ?_
  refine aw_iload_n C dX5_init_15 rfl ?_
  refine aw_iload_n C dX5_init_16 rfl ?_
  refine aw_imul C dX5_init_17 ?_
  obtain ⟨h6, e7, H⟩ := hz_bd H
  refine aw_newq (t := 2) (cap := 64) C (by decide) rfl hz_ao2 wd_115 e7 (by decide) (by show cs + 1 ≤ 65; omega) (by show sl + 64 ≤ 256; omega) dX5_init_18 ?_
  obtain ⟨h8, e9, H⟩ := hz_bd H
  refine aw_pFF (k := 2) C cl_5 (by decide) rfl wd_136 (hz_fita _ _) e9 dX5_init_21 ?_
  refine aw_iconst C dX5_init_24 (v := (nI 0)) (by decide) ?_
  refine aw_istore_n C dX5_init_25 (by rw [hn]; decide) rfl ?_
  exact aw_loc (hz_sub_s (hz_sub_n (hz_sub_n (hz_sub_s hz_sub_0)))) (k_X5_init_26 hn C  64 (cs := cs + 1) (sl := sl + 64) _ _ _ H (by omega) (by omega))
theorem hy_X5_takeOldest : hz_Y yX5_takeOldest cX5_takeOldest 3 (some (.object "GroupCast$Letter")) 1 := ⟨wd_440, wd_60, by decide +kernel, by decide +kernel, by decide +kernel⟩
theorem hv_X5_takeOldest : hz_YV yX5_takeOldest := ⟨wd_438, wd_439⟩
def f_X5_takeOldest_19 (l2 : Option Nat) (h : HP) : Option (Option Nat × HP) :=
  some (l2, h)
def f_X5_takeOldest (a0 : Option Nat) (a1 : Option Nat) (h : HP) : Option (Option Nat × HP) :=
  if hz_ob h a1 1 = true then
  (f_X1_take a1 h).bind fun p1 =>
  if p1.1 = none then
    f_X5_takeOldest_19  p1.1 p1.2
  else
    (hz_gI p1.2 a0 5 3).bind fun v4 =>
    (hz_pF p1.2 a0 5 3 (.int (v4 - (nI 1)))).bind fun h6 =>
    f_X5_takeOldest_19  p1.1 h6
  else none
abbrev rm_X5_takeOldest : Room := { frames := 1, cells := 0, slots := 0, locals := 21 }
set_option maxRecDepth 100000 in
set_option maxHeartbeats 4000000 in
theorem k_X5_takeOldest_19 {G : GX} {v' : Option Nat} {h' : HP} (hn : G.2.2.2.2.2.2.2.2.2.2.2.2 = 3) (C : Cx G cX5_takeOldest RX5 "takeOldest" (some (.object "GroupCast$Letter")) rm_X5_takeOldest (some (va_rf v')) h') (l2 : Option Nat) (h : HP) (H : f_X5_takeOldest_19  l2 h = some (v', h')) : aw G 19 [none, none, some (va_rf l2)] [] h 0 0 := by
  unfold f_X5_takeOldest_19 at H
  refine aw_aload_n C dX5_takeOldest_19 rfl ?_
  cases H
  exact aw_aret C (Or.inl ⟨_, rfl⟩) (Nat.zero_le _) (Nat.zero_le _) dX5_takeOldest_20
set_option maxRecDepth 100000 in
set_option maxHeartbeats 4000000 in
theorem c_X5_takeOldest {l : Launch} (a0 : Option Nat) (a1 : Option Nat) (h : HP) (v' : Option Nat) (h' : HP) (H : f_X5_takeOldest a0 a1 h = some (v', h')) : Ct l yX5_takeOldest cX5_takeOldest 3 (some (.object "GroupCast$Letter")) rm_X5_takeOldest [va_rf a0, va_rf a1] (some (va_rf v')) h h' := by
  refine Ct.of (plainFor_of_name (by decide)) (hz_s1c (hz_s1c hz_s1n (hz_cr _)) (hz_cr _)) (Nat.le_of_ble_eq_true rfl) (fun G hl hn C0 => ?_)
  have C : Cx G cX5_takeOldest RX5 "takeOldest" (some (.object "GroupCast$Letter")) rm_X5_takeOldest (some (va_rf v')) h' := C0
  subst hl
  show aw G 0 [some (va_rf a0), some (va_rf a1), none] [] h 0 0
  unfold f_X5_takeOldest at H
  refine aw_aload_n C dX5_takeOldest_0 rfl ?_
  obtain ⟨g3, H⟩ := hz_wn H
  obtain ⟨p1, e2, H⟩ := hz_bd H
  refine aw_V (As := []) (rest := []) C hy_X1_take hv_X1_take wd_441 cl_1.1 g3 (c_X1_take _ _ _ _  e2) (hz_ror _) rfl rfl (Nat.le_of_ble_eq_true rfl) (by decide) (kc := 0) (ks := 0) rfl rfl (by decide) dX5_takeOldest_1 ?_
  refine aw_astore_n C dX5_takeOldest_4 (by rw [hn]; decide) rfl ?_
  refine aw_aload_n C dX5_takeOldest_5 rfl ?_
  refine aw_ifnull (tgt := 19) C dX5_takeOldest_6 (by decide) (fun c8 => ?_) (fun c8 => ?_)
  · replace H := hz_it c8 H
    exact aw_loc (hz_sub_n (hz_sub_n (hz_sub_s hz_sub_0))) (k_X5_takeOldest_19 hn C  _ _ H)
  · replace H := hz_if c8 H
    refine aw_aload_n C dX5_takeOldest_9 rfl ?_
    refine aw_dup C dX5_takeOldest_10 ?_
    obtain ⟨v4, e5, H⟩ := hz_bd H
    refine aw_gI (k := 3) C cl_5 (by decide) wd_137 e5 dX5_takeOldest_11 ?_
    refine aw_iconst C dX5_takeOldest_14 (v := (nI 1)) (by decide) ?_
    refine aw_isub C dX5_takeOldest_15 ?_
    obtain ⟨h6, e7, H⟩ := hz_bd H
    refine aw_pF (k := 3) C cl_5 (by decide) rfl wd_137 (hz_fiti _) e7 dX5_takeOldest_16 ?_
    exact aw_loc (hz_sub_n (hz_sub_n (hz_sub_s hz_sub_0))) (k_X5_takeOldest_19 hn C  _ _ H)
