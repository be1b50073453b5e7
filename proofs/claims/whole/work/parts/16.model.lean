theorem hy_X9_init : hz_Y yX9_init cX9_init 3 none 1 := ⟨wd_660, wd_66, by decide +kernel, by decide +kernel, by decide +kernel⟩
def f_X9_init_262 : Nat → Option Nat → Int32 → HP → Option HP
  | 0, _, _, _ => none
  | n + 1, l0, l2, h =>
    (hz_gI h l0 9 0).bind fun v116 =>
    if v116 ≤ l2 then
      some h
    else
      (hz_gR h l0 9 3).bind fun r118 =>
      (hz_gI h l0 9 0).bind fun v120 =>
      (hz_aS h r118 0 l2 (((nI 1) <<< (v120 &&& 31)) - (nI 1))).bind fun h122 =>
      (hz_gR h122 l0 9 12).bind fun r124 =>
      (hz_aS h122 r124 0 l2 (-1 : Int32)).bind fun h126 =>
      f_X9_init_262  n l0 (l2 + (nI 1)) h126
def f_X9_init_257 (l0 : Option Nat) (s0 : Option Nat) (s1 : Int32) (h : HP) : Option HP :=
  (hz_pF h s0 9 0 (.int s1)).bind fun h114 =>
  f_X9_init_262  600 l0 (nI 0) h114
def f_X9_init_256 (l0 : Option Nat) (s0 : Option Nat) (h : HP) : Option HP :=
  f_X9_init_257  l0 s0 (nI 3) h
def f_X9_init (a0 : Option Nat) (a1 : Int32) (h : HP) : Option HP :=
  if a0 = none then none else
  (hz_nA h 0 7 (nI 7)).bind fun h2 =>
  (hz_pF h2 a0 9 1 (va_rf (some (h.1 + 1)))).bind fun h4 =>
  (hz_nA h4 0 7 (nI 7)).bind fun h6 =>
  (hz_pF h6 a0 9 2 (va_rf (some (h4.1 + 1)))).bind fun h8 =>
  (hz_nA h8 0 7 (nI 7)).bind fun h10 =>
  (hz_pF h10 a0 9 3 (va_rf (some (h8.1 + 1)))).bind fun h12 =>
  (hz_nA h12 0 420 (nI 420)).bind fun h14 =>
  (hz_pF h14 a0 9 4 (va_rf (some (h12.1 + 1)))).bind fun h16 =>
  (hz_nA h16 0 7 (nI 7)).bind fun h18 =>
  (hz_pF h18 a0 9 5 (va_rf (some (h16.1 + 1)))).bind fun h20 =>
  (hz_nA h20 0 7 (nI 7)).bind fun h22 =>
  (hz_pF h22 a0 9 6 (va_rf (some (h20.1 + 1)))).bind fun h24 =>
  (hz_nA h24 0 7 (nI 7)).bind fun h26 =>
  (hz_pF h26 a0 9 7 (va_rf (some (h24.1 + 1)))).bind fun h28 =>
  (hz_nA h28 0 7 (nI 7)).bind fun h30 =>
  (hz_pF h30 a0 9 8 (va_rf (some (h28.1 + 1)))).bind fun h32 =>
  (hz_nA h32 0 7 (nI 7)).bind fun h34 =>
  (hz_pF h34 a0 9 9 (va_rf (some (h32.1 + 1)))).bind fun h36 =>
  (hz_nA h36 0 7 (nI 7)).bind fun h38 =>
  (hz_pF h38 a0 9 10 (va_rf (some (h36.1 + 1)))).bind fun h40 =>
  (hz_nA h40 0 7 (nI 7)).bind fun h42 =>
  (hz_pF h42 a0 9 11 (va_rf (some (h40.1 + 1)))).bind fun h44 =>
  (hz_nA h44 0 7 (nI 7)).bind fun h46 =>
  (hz_pF h46 a0 9 12 (va_rf (some (h44.1 + 1)))).bind fun h48 =>
  (hz_nA h48 0 49 (nI 49)).bind fun h50 =>
  (hz_pF h50 a0 9 13 (va_rf (some (h48.1 + 1)))).bind fun h52 =>
  (hz_nA h52 0 7 (nI 7)).bind fun h54 =>
  (hz_pF h54 a0 9 14 (va_rf (some (h52.1 + 1)))).bind fun h56 =>
  (hz_nA h56 0 49 (nI 49)).bind fun h58 =>
  (hz_pF h58 a0 9 15 (va_rf (some (h56.1 + 1)))).bind fun h60 =>
  (hz_nA h60 0 49 (nI 49)).bind fun h62 =>
  (hz_pF h62 a0 9 16 (va_rf (some (h60.1 + 1)))).bind fun h64 =>
  (hz_nA h64 0 2940 (nI 2940)).bind fun h66 =>
  (hz_pF h66 a0 9 17 (va_rf (some (h64.1 + 1)))).bind fun h68 =>
  (hz_nA h68 0 140 (nI 140)).bind fun h70 =>
  (hz_pF h70 a0 9 18 (va_rf (some (h68.1 + 1)))).bind fun h72 =>
  (hz_nA h72 0 7 (nI 7)).bind fun h74 =>
  (hz_pF h74 a0 9 19 (va_rf (some (h72.1 + 1)))).bind fun h76 =>
  (hz_nA h76 1 500 (nI 500)).bind fun h78 =>
  (hz_pF h78 a0 9 20 (va_rf (some (h76.1 + 1)))).bind fun h80 =>
  (hz_nA h80 0 501 (nI 501)).bind fun h82 =>
  (hz_pF h82 a0 9 21 (va_rf (some (h80.1 + 1)))).bind fun h84 =>
  (hz_nA h84 0 501 (nI 501)).bind fun h86 =>
  (hz_pF h86 a0 9 22 (va_rf (some (h84.1 + 1)))).bind fun h88 =>
  (hz_nA h88 0 501 (nI 501)).bind fun h90 =>
  (hz_pF h90 a0 9 23 (va_rf (some (h88.1 + 1)))).bind fun h92 =>
  (hz_nA h92 0 501 (nI 501)).bind fun h94 =>
  (hz_pF h94 a0 9 24 (va_rf (some (h92.1 + 1)))).bind fun h96 =>
  (hz_nA h96 0 501 (nI 501)).bind fun h98 =>
  (hz_pF h98 a0 9 25 (va_rf (some (h96.1 + 1)))).bind fun h100 =>
  (hz_nA h100 0 501 (nI 501)).bind fun h102 =>
  (hz_pF h102 a0 9 26 (va_rf (some (h100.1 + 1)))).bind fun h104 =>
  (hz_nA h104 0 30060 (nI 30060)).bind fun h106 =>
  (hz_pF h106 a0 9 27 (va_rf (some (h104.1 + 1)))).bind fun h108 =>
  (hz_nA h108 0 501 (nI 501)).bind fun h110 =>
  (hz_pF h110 a0 9 28 (va_rf (some (h108.1 + 1)))).bind fun h112 =>
  if a1 < (nI 2) then
    f_X9_init_256  a0 a0 h112
  else
    if (nI 7) < a1 then
      f_X9_init_256  a0 a0 h112
    else
      f_X9_init_257  a0 a0 a1 h112
abbrev rm_X9_init : Room := { frames := 1, cells := 28, slots := 37805, locals := 40 }
set_option maxRecDepth 100000 in
set_option maxHeartbeats 4000000 in
theorem k_X9_init_262 {G : GX} {h' : HP} (hn : G.2.2.2.2.2.2.2.2.2.2.2.2 = 3) (C : Cx G cX9_init RX9 "<init>" none rm_X9_init none h') : ∀ (n : Nat) {cs sl : Nat} (l0 : Option Nat) (l2 : Int32) (h : HP), f_X9_init_262  n l0 l2 h = some h' → cs + (n * 0 + 0) ≤ 28 → sl + (n * 0 + 0) ≤ 37805 → aw G 262 [some (va_rf l0), none, some (.int l2)] [] h cs sl := by
  intro n
  induction n with
  | zero => intro cs sl l0 l2 h H hcs hsl; cases H
  | succ n ih =>
    intro cs sl l0 l2 h H hcs hsl
    rw [f_X9_init_262] at H
    refine aw_iload_n C dX9_init_262 rfl ?_
    refine aw_aload_n C dX9_init_263 rfl ?_
    obtain ⟨v116, e117, H⟩ := hz_bd H
    refine aw_gI (k := 0) C cl_9 (by decide) wd_662 e117 dX9_init_264 ?_
    refine aw_icmp_ge (tgt := 297) C dX9_init_267 (by decide) (fun c128 => ?_) (fun c128 => ?_)
    · replace H := hz_it c128 H
      cases H
      exact aw_vret C (by show cs ≤ 28; omega) (by show sl ≤ 37805; omega) dX9_init_297
    · replace H := hz_if c128 H
      refine aw_aload_n C dX9_init_270 rfl ?_
      obtain ⟨r118, e119, H⟩ := hz_bd H
      refine aw_gR (k := 3) C cl_9 (by decide) wd_665 e119 dX9_init_271 ?_
      refine aw_iload_n C dX9_init_274 rfl ?_
      refine aw_iconst C dX9_init_275 (v := (nI 1)) (by decide) ?_
      refine aw_aload_n C dX9_init_276 rfl ?_
      obtain ⟨v120, e121, H⟩ := hz_bd H
      refine aw_gI (k := 0) C cl_9 (by decide) wd_662 e121 dX9_init_277 ?_
      refine aw_ishl C dX9_init_280 ?_
      refine aw_iconst C dX9_init_281 (v := (nI 1)) (by decide) ?_
      refine aw_isub C dX9_init_282 ?_
      obtain ⟨h122, e123, H⟩ := hz_bd H
      refine aw_iast C e123 dX9_init_283 ?_
      refine aw_aload_n C dX9_init_284 rfl ?_
      obtain ⟨r124, e125, H⟩ := hz_bd H
      refine aw_gR (k := 12) C cl_9 (by decide) wd_674 e125 dX9_init_285 ?_
      refine aw_iload_n C dX9_init_288 rfl ?_
      refine aw_iconst C dX9_init_289 (v := (-1)) (by decide) ?_
      obtain ⟨h126, e127, H⟩ := hz_bd H
      refine aw_iast C e127 dX9_init_290 ?_
      refine aw_iinc (d := (nI 1)) C dX9_init_291 (by rw [hn]; decide) rfl (by decide) rfl ?_
      refine aw_goto (tgt := 262) C dX9_init_294 (by decide) ?_
      exact ih (cs := cs) (sl := sl) _ _ _ H (by omega) (by omega)
set_option maxRecDepth 100000 in
set_option maxHeartbeats 4000000 in
theorem k_X9_init_257 {G : GX} {h' : HP} (hn : G.2.2.2.2.2.2.2.2.2.2.2.2 = 3) (C : Cx G cX9_init RX9 "<init>" none rm_X9_init none h') {cs sl : Nat} (l0 : Option Nat) (s0 : Option Nat) (s1 : Int32) (h : HP) (H : f_X9_init_257  l0 s0 s1 h = some h') (hcs : cs + 0 ≤ 28) (hsl : sl + 0 ≤ 37805) : aw G 257 [some (va_rf l0), none, none] [.int s1, va_rf s0] h cs sl := by
  unfold f_X9_init_257 at H
  obtain ⟨h114, e115, H⟩ := hz_bd H
  refine aw_pFF (k := 0) C cl_9 (by decide) rfl wd_662 (hz_fiti _) e115 dX9_init_257 ?_
  refine aw_iconst C dX9_init_260 (v := (nI 0)) (by decide) ?_
  refine aw_istore_n C dX9_init_261 (by rw [hn]; decide) rfl ?_
  exact k_X9_init_262 hn C  600 (cs := cs) (sl := sl) _ _ _ H (by omega) (by omega)
set_option maxRecDepth 100000 in
set_option maxHeartbeats 4000000 in
theorem k_X9_init_256 {G : GX} {h' : HP} (hn : G.2.2.2.2.2.2.2.2.2.2.2.2 = 3) (C : Cx G cX9_init RX9 "<init>" none rm_X9_init none h') {cs sl : Nat} (l0 : Option Nat) (s0 : Option Nat) (h : HP) (H : f_X9_init_256  l0 s0 h = some h') (hcs : cs + 0 ≤ 28) (hsl : sl + 0 ≤ 37805) : aw G 256 [some (va_rf l0), none, none] [va_rf s0] h cs sl := by
  unfold f_X9_init_256 at H
  refine aw_iconst C dX9_init_256 (v := (nI 3)) (by decide) ?_
  exact k_X9_init_257 (cs := cs) (sl := sl) hn C  _ _ _ _ H (by omega) (by omega)
set_option maxRecDepth 100000 in
set_option maxHeartbeats 4000000 in
theorem c_X9_init {l : Launch} (a0 : Option Nat) (a1 : Int32) (h : HP) (h' : HP) (H : f_X9_init a0 a1 h = some h') : Ct l yX9_init cX9_init 3 none rm_X9_init [va_rf a0, .int a1] none h h' := by
  refine Ct.of (plainFor_of_name (by decide)) (hz_s1c (hz_s1c hz_s1n rfl) (hz_cr _)) (Nat.le_of_ble_eq_true rfl) (fun G hl hn C0 => ?_)
  have C : Cx G cX9_init RX9 "<init>" none rm_X9_init none h' := C0
  subst hl
  show aw G 0 [some (va_rf a0), some (.int a1), none] [] h 0 0
  unfold f_X9_init at H
  obtain ⟨cs, hcs⟩ : ∃ k : Nat, k = 0 := ⟨0, rfl⟩
  obtain ⟨sl, hsl⟩ : ∃ k : Nat, k = 0 := ⟨0, rfl⟩
  suffices hh : aw G 0 [some (va_rf a0), some (.int a1), none] [] h cs sl by rw [hcs, hsl] at hh; exact hh
  refine aw_aload_n C dX9_init_0 rfl ?_
  obtain ⟨g1, H⟩ := hz_un H
  refine aw_objI C g1 wd_661 wd_78 wd_79 (Nat.le_of_ble_eq_true rfl) (by decide) dX9_init_1 ?_
  refine aw_aload_n C dX9_init_4 rfl ?_
  refine aw_bipush C dX9_init_5 (v := (nI 7)) (by decide) ?_
  obtain ⟨h2, e3, H⟩ := hz_bd H
  refine aw_newa (t := 0) (cap := 7) C (by decide) rfl wd_172 e3 (by decide) (by show cs + 1 ≤ 28; omega) (by show sl + 7 ≤ 37805; omega) dX9_init_7 ?_
  obtain ⟨h4, e5, H⟩ := hz_bd H
  refine aw_pFF (k := 1) C cl_9 (by decide) rfl wd_663 (hz_fita _ _) e5 dX9_init_9 ?_
  refine aw_aload_n C dX9_init_12 rfl ?_
  refine aw_bipush C dX9_init_13 (v := (nI 7)) (by decide) ?_
  obtain ⟨h6, e7, H⟩ := hz_bd H
  refine aw_newa (t := 0) (cap := 7) C (by decide) rfl wd_172 e7 (by decide) (by show cs + 1 + 1 ≤ 28; omega) (by show sl + 7 + 7 ≤ 37805; omega) dX9_init_15 ?_
  obtain ⟨h8, e9, H⟩ := hz_bd H
  refine aw_pFF (k := 2) C cl_9 (by decide) rfl wd_664 (hz_fita _ _) e9 dX9_init_17 ?_
  refine aw_aload_n C dX9_init_20 rfl ?_
  refine aw_bipush C dX9_init_21 (v := (nI 7)) (by decide) ?_
  obtain ⟨h10, e11, H⟩ := hz_bd H
  refine aw_newa (t := 0) (cap := 7) C (by decide) rfl wd_172 e11 (by decide) (by show cs + 1 + 1 + 1 ≤ 28; omega) (by show sl + 7 + 7 + 7 ≤ 37805; omega) dX9_init_23 ?_
  obtain ⟨h12, e13, H⟩ := hz_bd H
  refine aw_pFF (k := 3) C cl_9 (by decide) rfl wd_665 (hz_fita _ _) e13 dX9_init_25 ?_
  refine aw_aload_n C dX9_init_28 rfl ?_
  refine aw_sipush C dX9_init_29 (v := (nI 420)) (by decide) ?_
  obtain ⟨h14, e15, H⟩ := hz_bd H
  refine aw_newa (t := 0) (cap := 420) C (by decide) rfl wd_172 e15 (by decide) (by show cs + 1 + 1 + 1 + 1 ≤ 28; omega) (by show sl + 7 + 7 + 7 + 420 ≤ 37805; omega) dX9_init_32 ?_
  obtain ⟨h16, e17, H⟩ := hz_bd H
  refine aw_pFF (k := 4) C cl_9 (by decide) rfl wd_666 (hz_fita _ _) e17 dX9_init_34 ?_
  refine aw_aload_n C dX9_init_37 rfl ?_
  refine aw_bipush C dX9_init_38 (v := (nI 7)) (by decide) ?_
  obtain ⟨h18, e19, H⟩ := hz_bd H
  refine aw_newa (t := 0) (cap := 7) C (by decide) rfl wd_172 e19 (by decide) (by show cs + 1 + 1 + 1 + 1 + 1 ≤ 28; omega) (by show sl + 7 + 7 + 7 + 420 + 7 ≤ 37805; omega) dX9_init_40 ?_
  obtain ⟨h20, e21, H⟩ := hz_bd H
  refine aw_pFF (k := 5) C cl_9 (by decide) rfl wd_667 (hz_fita _ _) e21 dX9_init_42 ?_
  refine aw_aload_n C dX9_init_45 rfl ?_
  refine aw_bipush C dX9_init_46 (v := (nI 7)) (by decide) ?_
  obtain ⟨h22, e23, H⟩ := hz_bd H
  refine aw_newa (t := 0) (cap := 7) C (by decide) rfl wd_172 e23 (by decide) (by show cs + 1 + 1 + 1 + 1 + 1 + 1 ≤ 28; omega) (by show sl + 7 + 7 + 7 + 420 + 7 + 7 ≤ 37805; omega) dX9_init_48 ?_
  obtain ⟨h24, e25, H⟩ := hz_bd H
  refine aw_pFF (k := 6) C cl_9 (by decide) rfl wd_668 (hz_fita _ _) e25 dX9_init_50 ?_
  refine aw_aload_n C dX9_init_53 rfl ?_
  refine aw_bipush C dX9_init_54 (v := (nI 7)) (by decide) ?_
  obtain ⟨h26, e27, H⟩ := hz_bd H
  refine aw_newa (t := 0) (cap := 7) C (by decide) rfl wd_172 e27 (by decide) (by show cs + 1 + 1 + 1 + 1 + 1 + 1 + 1 ≤ 28; omega) (by show sl + 7 + 7 + 7 + 420 + 7 + 7 + 7 ≤ 37805; omega) dX9_init_56 ?_
  obtain ⟨h28, e29, H⟩ := hz_bd H
  refine aw_pFF (k := 7) C cl_9 (by decide) rfl wd_669 (hz_fita _ _) e29 dX9_init_58 ?_
  refine aw_aload_n C dX9_init_61 rfl ?_
  refine aw_bipush C dX9_init_62 (v := (nI 7)) (by decide) ?_
  obtain ⟨h30, e31, H⟩ := hz_bd H
  refine aw_newa (t := 0) (cap := 7) C (by decide) rfl wd_172 e31 (by decide) (by show cs + 1 + 1 + 1 + 1 + 1 + 1 + 1 + 1 ≤ 28; omega) (by show sl + 7 + 7 + 7 + 420 + 7 + 7 + 7 + 7 ≤ 37805; omega) dX9_init_64 ?_
  obtain ⟨h32, e33, H⟩ := hz_bd H
  refine aw_pFF (k := 8) C cl_9 (by decide) rfl wd_670 (hz_fita _ _) e33 dX9_init_66 ?_
  refine aw_aload_n C dX9_init_69 rfl ?_
  refine aw_bipush C dX9_init_70 (v := (nI 7)) (by decide) ?_
  obtain ⟨h34, e35, H⟩ := hz_bd H
  refine aw_newa (t := 0) (cap := 7) C (by decide) rfl wd_172 e35 (by decide) (by show cs + 1 + 1 + 1 + 1 + 1 + 1 + 1 + 1 + 1 ≤ 28; omega) (by show sl + 7 + 7 + 7 + 420 + 7 + 7 + 7 + 7 + 7 ≤ 37805; omega) dX9_init_72 ?_
  obtain ⟨h36, e37, H⟩ := hz_bd H
  refine aw_pFF (k := 9) C cl_9 (by decide) rfl wd_671 (hz_fita _ _) e37 dX9_init_74 ?_
  refine aw_aload_n C dX9_init_77 rfl ?_
  refine aw_bipush C dX9_init_78 (v := (nI 7)) (by decide) ?_
  obtain ⟨h38, e39, H⟩ := hz_bd H
  refine aw_newa (t := 0) (cap := 7) C (by decide) rfl wd_172 e39 (by decide) (by show cs + 1 + 1 + 1 + 1 + 1 + 1 + 1 + 1 + 1 + 1 ≤ 28; omega) (by show sl + 7 + 7 + 7 + 420 + 7 + 7 + 7 + 7 + 7 + 7 ≤ 37805; omega) dX9_init_80 ?_
  obtain ⟨h40, e41, H⟩ := hz_bd H
  refine aw_pFF (k := 10) C cl_9 (by decide) rfl wd_672 (hz_fita _ _) e41 dX9_init_82 ?_
  refine aw_aload_n C dX9_init_85 rfl ?_
  refine aw_bipush C dX9_init_86 (v := (nI 7)) (by decide) ?_
  obtain ⟨h42, e43, H⟩ := hz_bd H
  refine aw_newa (t := 0) (cap := 7) C (by decide) rfl wd_172 e43 (by decide) (by show cs + 1 + 1 + 1 + 1 + 1 + 1 + 1 + 1 + 1 + 1 + 1 ≤ 28; omega) (by show sl + 7 + 7 + 7 + 420 + 7 + 7 + 7 + 7 + 7 + 7 + 7 ≤ 37805; omega) dX9_init_88 ?_
  obtain ⟨h44, e45, H⟩ := hz_bd H
  refine aw_pFF (k := 11) C cl_9 (by decide) rfl wd_673 (hz_fita _ _) e45 dX9_init_90 ?_
  refine aw_aload_n C dX9_init_93 rfl ?_
  refine aw_bipush C dX9_init_94 (v := (nI 7)) (by decide) ?_
  obtain ⟨h46, e47, H⟩ := hz_bd H
  refine aw_newa (t := 0) (cap := 7) C (by decide) rfl wd_172 e47 (by decide) (by show cs + 1 + 1 + 1 + 1 + 1 + 1 + 1 + 1 + 1 + 1 + 1 + 1 ≤ 28; omega) (by show sl + 7 + 7 + 7 + 420 + 7 + 7 + 7 + 7 + 7 + 7 + 7 + 7 ≤ 37805; omega) dX9_init_96 ?_
  obtain ⟨h48, e49, H⟩ := hz_bd H
  refine aw_pFF (k := 12) C cl_9 (by decide) rfl wd_674 (hz_fita _ _) e49 dX9_init_98 ?_
  refine aw_aload_n C dX9_init_101 rfl ?_
  refine aw_bipush C dX9_init_102 (v := (nI 49)) (by decide) ?_
  obtain ⟨h50, e51, H⟩ := hz_bd H
  refine aw_newa (t := 0) (cap := 49) C (by decide) rfl wd_172 e51 (by decide) (by show cs + 1 + 1 + 1 + 1 + 1 + 1 + 1 + 1 + 1 + 1 + 1 + 1 + 1 ≤ 28; omega) (by show sl + 7 + 7 + 7 + 420 + 7 + 7 + 7 + 7 + 7 + 7 + 7 + 7 + 49 ≤ 37805; omega) dX9_init_104 ?_
  obtain ⟨h52, e53, H⟩ := hz_bd H
  refine aw_pFF (k := 13) C cl_9 (by decide) rfl wd_675 (hz_fita _ _) e53 dX9_init_106 ?_
  refine aw_aload_n C dX9_init_109 rfl ?_
  refine aw_bipush C dX9_init_110 (v := (nI 7)) (by decide) ?_
  obtain ⟨h54, e55, H⟩ := hz_bd H
  refine aw_newa (t := 0) (cap := 7) C (by decide) rfl wd_172 e55 (by decide) (by show cs + 1 + 1 + 1 + 1 + 1 + 1 + 1 + 1 + 1 + 1 + 1 + 1 + 1 + 1 ≤ 28; omega) (by show sl + 7 + 7 + 7 + 420 + 7 + 7 + 7 + 7 + 7 + 7 + 7 + 7 + 49 + 7 ≤ 37805; omega) dX9_init_112 ?_
  obtain ⟨h56, e57, H⟩ := hz_bd H
  refine aw_pFF (k := 14) C cl_9 (by decide) rfl wd_676 (hz_fita _ _) e57 dX9_init_114 ?_
  refine aw_aload_n C dX9_init_117 rfl ?_
  refine aw_bipush C dX9_init_118 (v := (nI 49)) (by decide) ?_
  obtain ⟨h58, e59, H⟩ := hz_bd H
  refine aw_newa (t := 0) (cap := 49) C (by decide) rfl wd_172 e59 (by decide) (by show cs + 1 + 1 + 1 + 1 + 1 + 1 + 1 + 1 + 1 + 1 + 1 + 1 + 1 + 1 + 1 ≤ 28; omega) (by show sl + 7 + 7 + 7 + 420 + 7 + 7 + 7 + 7 + 7 + 7 + 7 + 7 + 49 + 7 + 49 ≤ 37805; omega) dX9_init_120 ?_
  obtain ⟨h60, e61, H⟩ := hz_bd H
  refine aw_pFF (k := 15) C cl_9 (by decide) rfl wd_677 (hz_fita _ _) e61 dX9_init_122 ?_
  refine aw_aload_n C dX9_init_125 rfl ?_
  refine aw_bipush C dX9_init_126 (v := (nI 49)) (by decide) ?_
  obtain ⟨h62, e63, H⟩ := hz_bd H
  refine aw_newa (t := 0) (cap := 49) C (by decide) rfl wd_172 e63 (by decide) (by show cs + 1 + 1 + 1 + 1 + 1 + 1 + 1 + 1 + 1 + 1 + 1 + 1 + 1 + 1 + 1 + 1 ≤ 28; omega) (by show sl + 7 + 7 + 7 + 420 + 7 + 7 + 7 + 7 + 7 + 7 + 7 + 7 + 49 + 7 + 49 + 49 ≤ 37805; omega) dX9_init_128 ?_
  obtain ⟨h64, e65, H⟩ := hz_bd H
  refine aw_pFF (k := 16) C cl_9 (by decide) rfl wd_678 (hz_fita _ _) e65 dX9_init_130 ?_
  refine aw_aload_n C dX9_init_133 rfl ?_
  refine aw_sipush C dX9_init_134 (v := (nI 2940)) (by decide) ?_
  obtain ⟨h66, e67, H⟩ := hz_bd H
  refine aw_newa (t := 0) (cap := 2940) C (by decide) rfl wd_172 e67 (by decide) (by show cs + 1 + 1 + 1 + 1 + 1 + 1 + 1 + 1 + 1 + 1 + 1 + 1 + 1 + 1 + 1 + 1 + 1 ≤ 28; omega) (by show sl + 7 + 7 + 7 + 420 + 7 + 7 + 7 + 7 + 7 + 7 + 7 + 7 + 49 + 7 + 49 + 49 + 2940 ≤ 37805; omega) dX9_init_137 ?_
  obtain ⟨h68, e69, H⟩ := hz_bd H
  refine aw_pFF (k := 17) C cl_9 (by decide) rfl wd_679 (hz_fita _ _) e69 dX9_init_139 ?_
  refine aw_aload_n C dX9_init_142 rfl ?_
  refine aw_sipush C dX9_init_143 (v := (nI 140)) (by decide) ?_
  obtain ⟨h70, e71, H⟩ := hz_bd H
  refine aw_newa (t := 0) (cap := 140) C (by decide) rfl wd_172 e71 (by decide) (by show cs + 1 + 1 + 1 + 1 + 1 + 1 + 1 + 1 + 1 + 1 + 1 + 1 + 1 + 1 + 1 + 1 + 1 + 1 ≤ 28; omega) (by show sl + 7 + 7 + 7 + 420 + 7 + 7 + 7 + 7 + 7 + 7 + 7 + 7 + 49 + 7 + 49 + 49 + 2940 + 140 ≤ 37805; omega) dX9_init_146 ?_
  obtain ⟨h72, e73, H⟩ := hz_bd H
  refine aw_pFF (k := 18) C cl_9 (by decide) rfl wd_680 (hz_fita _ _) e73 dX9_init_148 ?_
  refine aw_aload_n C dX9_init_151 rfl ?_
  refine aw_bipush C dX9_init_152 (v := (nI 7)) (by decide) ?_
  obtain ⟨h74, e75, H⟩ := hz_bd H
  refine aw_newa (t := 0) (cap := 7) C (by decide) rfl wd_172 e75 (by decide) (by show cs + 1 + 1 + 1 + 1 + 1 + 1 + 1 + 1 + 1 + 1 + 1 + 1 + 1 + 1 + 1 + 1 + 1 + 1 + 1 ≤ 28; omega) (by show sl + 7 + 7 + 7 + 420 + 7 + 7 + 7 + 7 + 7 + 7 + 7 + 7 + 49 + 7 + 49 + 49 + 2940 + 140 + 7 ≤ 37805; omega) dX9_init_154 ?_
  obtain ⟨h76, e77, H⟩ := hz_bd H
  refine aw_pFF (k := 19) C cl_9 (by decide) rfl wd_681 (hz_fita _ _) e77 dX9_init_156 ?_
  refine aw_aload_n C dX9_init_159 rfl ?_
  refine aw_sipush C dX9_init_160 (v := (nI 500)) (by decide) ?_
  obtain ⟨h78, e79, H⟩ := hz_bd H
  refine aw_newa (t := 1) (cap := 500) C (by decide) rfl wd_az e79 (by decide) (by show cs + 1 + 1 + 1 + 1 + 1 + 1 + 1 + 1 + 1 + 1 + 1 + 1 + 1 + 1 + 1 + 1 + 1 + 1 + 1 + 1 ≤ 28; omega) (by show sl + 7 + 7 + 7 + 420 + 7 + 7 + 7 + 7 + 7 + 7 + 7 + 7 + 49 + 7 + 49 + 49 + 2940 + 140 + 7 + 500 ≤ 37805; omega) dX9_init_163 ?_
  obtain ⟨h80, e81, H⟩ := hz_bd H
  refine aw_pFF (k := 20) C cl_9 (by decide) rfl wd_682 (hz_fita _ _) e81 dX9_init_165 ?_
  refine aw_aload_n C dX9_init_168 rfl ?_
  refine aw_sipush C dX9_init_169 (v := (nI 501)) (by decide) ?_
  obtain ⟨h82, e83, H⟩ := hz_bd H
  refine aw_newa (t := 0) (cap := 501) C (by decide) rfl wd_172 e83 (by decide) (by show cs + 1 + 1 + 1 + 1 + 1 + 1 + 1 + 1 + 1 + 1 + 1 + 1 + 1 + 1 + 1 + 1 + 1 + 1 + 1 + 1 + 1 ≤ 28; omega) (by show sl + 7 + 7 + 7 + 420 + 7 + 7 + 7 + 7 + 7 + 7 + 7 + 7 + 49 + 7 + 49 + 49 + 2940 + 140 + 7 + 500 + 501 ≤ 37805; omega) dX9_init_172 ?_
  obtain ⟨h84, e85, H⟩ := hz_bd H
  refine aw_pFF (k := 21) C cl_9 (by decide) rfl wd_683 (hz_fita _ _) e85 dX9_init_174 ?_
  refine aw_aload_n C dX9_init_177 rfl ?_
  refine aw_sipush C dX9_init_178 (v := (nI 501)) (by decide) ?_
  obtain ⟨h86, e87, H⟩ := hz_bd H
  refine aw_newa (t := 0) (cap := 501) C (by decide) rfl wd_172 e87 (by decide) (by show cs + 1 + 1 + 1 + 1 + 1 + 1 + 1 + 1 + 1 + 1 + 1 + 1 + 1 + 1 + 1 + 1 + 1 + 1 + 1 + 1 + 1 + 1 ≤ 28; omega) (by show sl + 7 + 7 + 7 + 420 + 7 + 7 + 7 + 7 + 7 + 7 + 7 + 7 + 49 + 7 + 49 + 49 + 2940 + 140 + 7 + 500 + 501 + 501 ≤ 37805; omega) dX9_init_181 ?_
  obtain ⟨h88, e89, H⟩ := hz_bd H
  refine aw_pFF (k := 22) C cl_9 (by decide) rfl wd_684 (hz_fita _ _) e89 dX9_init_183 ?_
  refine aw_aload_n C dX9_init_186 rfl ?_
  refine aw_sipush C dX9_init_187 (v := (nI 501)) (by decide) ?_
  obtain ⟨h90, e91, H⟩ := hz_bd H
  refine aw_newa (t := 0) (cap := 501) C (by decide) rfl wd_172 e91 (by decide) (by show cs + 1 + 1 + 1 + 1 + 1 + 1 + 1 + 1 + 1 + 1 + 1 + 1 + 1 + 1 + 1 + 1 + 1 + 1 + 1 + 1 + 1 + 1 + 1 ≤ 28; omega) (by show sl + 7 + 7 + 7 + 420 + 7 + 7 + 7 + 7 + 7 + 7 + 7 + 7 + 49 + 7 + 49 + 49 + 2940 + 140 + 7 + 500 + 501 + 501 + 501 ≤ 37805; omega) dX9_init_190 ?_
  obtain ⟨h92, e93, H⟩ := hz_bd H
  refine aw_pFF (k := 23) C cl_9 (by decide) rfl wd_685 (hz_fita _ _) e93 dX9_init_192 ?_
  refine aw_aload_n C dX9_init_195 rfl ?_
  refine aw_sipush C dX9_init_196 (v := (nI 501)) (by decide) ?_
  obtain ⟨h94, e95, H⟩ := hz_bd H
  refine aw_newa (t := 0) (cap := 501) C (by decide) rfl wd_172 e95 (by decide) (by show cs + 1 + 1 + 1 + 1 + 1 + 1 + 1 + 1 + 1 + 1 + 1 + 1 + 1 + 1 + 1 + 1 + 1 + 1 + 1 + 1 + 1 + 1 + 1 + 1 ≤ 28; omega) (by show sl + 7 + 7 + 7 + 420 + 7 + 7 + 7 + 7 + 7 + 7 + 7 + 7 + 49 + 7 + 49 + 49 + 2940 + 140 + 7 + 500 + 501 + 501 + 501 + 501 ≤ 37805; omega) dX9_init_199 ?_
  obtain ⟨h96, e97, H⟩ := hz_bd H
  refine aw_pFF (k := 24) C cl_9 (by decide) rfl wd_686 (hz_fita _ _) e97 dX9_init_201 ?_
  refine aw_aload_n C dX9_init_204 rfl ?_
  refine aw_sipush C dX9_init_205 (v := (nI 501)) (by decide) ?_
  obtain ⟨h98, e99, H⟩ := hz_bd H
  refine aw_newa (t := 0) (cap := 501) C (by decide) rfl wd_172 e99 (by decide) (by show cs + 1 + 1 + 1 + 1 + 1 + 1 + 1 + 1 + 1 + 1 + 1 + 1 + 1 + 1 + 1 + 1 + 1 + 1 + 1 + 1 + 1 + 1 + 1 + 1 + 1 ≤ 28; omega) (by show sl + 7 + 7 + 7 + 420 + 7 + 7 + 7 + 7 + 7 + 7 + 7 + 7 + 49 + 7 + 49 + 49 + 2940 + 140 + 7 + 500 + 501 + 501 + 501 + 501 + 501 ≤ 37805; omega) dX9_init_208 ?_
  obtain ⟨h100, e101, H⟩ := hz_bd H
  refine aw_pFF (k := 25) C cl_9 (by decide) rfl wd_687 (hz_fita _ _) e101 dX9_init_210 ?_
  refine aw_aload_n C dX9_init_213 rfl ?_
  refine aw_sipush C dX9_init_214 (v := (nI 501)) (by decide) ?_
  obtain ⟨h102, e103, H⟩ := hz_bd H
  refine aw_newa (t := 0) (cap := 501) C (by decide) rfl wd_172 e103 (by decide) (by show cs + 1 + 1 + 1 + 1 + 1 + 1 + 1 + 1 + 1 + 1 + 1 + 1 + 1 + 1 + 1 + 1 + 1 + 1 + 1 + 1 + 1 + 1 + 1 + 1 + 1 + 1 ≤ 28; omega) (by show sl + 7 + 7 + 7 + 420 + 7 + 7 + 7 + 7 + 7 + 7 + 7 + 7 + 49 + 7 + 49 + 49 + 2940 + 140 + 7 + 500 + 501 + 501 + 501 + 501 + 501 + 501 ≤ 37805; omega) dX9_init_217 ?_
  obtain ⟨h104, e105, H⟩ := hz_bd H
  refine aw_pFF (k := 26) C cl_9 (by decide) rfl wd_688 (hz_fita _ _) e105 dX9_init_219 ?_
  refine aw_aload_n C dX9_init_222 rfl ?_
  refine aw_sipush C dX9_init_223 (v := (nI 30060)) (by decide) ?_
  obtain ⟨h106, e107, H⟩ := hz_bd H
  refine aw_newa (t := 0) (cap := 30060) C (by decide) rfl wd_172 e107 (by decide) (by show cs + 1 + 1 + 1 + 1 + 1 + 1 + 1 + 1 + 1 + 1 + 1 + 1 + 1 + 1 + 1 + 1 + 1 + 1 + 1 + 1 + 1 + 1 + 1 + 1 + 1 + 1 + 1 ≤ 28; omega) (by show sl + 7 + 7 + 7 + 420 + 7 + 7 + 7 + 7 + 7 + 7 + 7 + 7 + 49 + 7 + 49 + 49 + 2940 + 140 + 7 + 500 + 501 + 501 + 501 + 501 + 501 + 501 + 30060 ≤ 37805; omega) dX9_init_226 ?_
  obtain ⟨h108, e109, H⟩ := hz_bd H
  refine aw_pFF (k := 27) C cl_9 (by decide) rfl wd_689 (hz_fita _ _) e109 dX9_init_228 ?_
  refine aw_aload_n C dX9_init_231 rfl ?_
  refine aw_sipush C dX9_init_232 (v := (nI 501)) (by decide) ?_
  obtain ⟨h110, e111, H⟩ := hz_bd H
  refine aw_newa (t := 0) (cap := 501) C (by decide) rfl wd_172 e111 (by decide) (by show cs + 1 + 1 + 1 + 1 + 1 + 1 + 1 + 1 + 1 + 1 + 1 + 1 + 1 + 1 + 1 + 1 + 1 + 1 + 1 + 1 + 1 + 1 + 1 + 1 + 1 + 1 + 1 + 1 ≤ 28; omega) (by show sl + 7 + 7 + 7 + 420 + 7 + 7 + 7 + 7 + 7 + 7 + 7 + 7 + 49 + 7 + 49 + 49 + 2940 + 140 + 7 + 500 + 501 + 501 + 501 + 501 + 501 + 501 + 30060 + 501 ≤ 37805; omega) dX9_init_235 ?_
  obtain ⟨h112, e113, H⟩ := hz_bd H
  refine aw_pFF (k := 28) C cl_9 (by decide) rfl wd_690 (hz_fita _ _) e113 dX9_init_237 ?_
  refine aw_aload_n C dX9_init_240 rfl ?_
  refine aw_iload_n C dX9_init_241 rfl ?_
  refine aw_iconst C dX9_init_242 (v := (nI 2)) (by decide) ?_
  refine aw_icmp_lt (tgt := 256) C dX9_init_243 (by decide) (fun c129 => ?_) (fun c129 => ?_)
  · replace H := hz_it c129 H
    exact aw_loc (hz_sub_s (hz_sub_n (hz_sub_n hz_sub_0))) (k_X9_init_256 (cs := cs + 1 + 1 + 1 + 1 + 1 + 1 + 1 + 1 + 1 + 1 + 1 + 1 + 1 + 1 + 1 + 1 + 1 + 1 + 1 + 1 + 1 + 1 + 1 + 1 + 1 + 1 + 1 + 1) (sl := sl + 7 + 7 + 7 + 420 + 7 + 7 + 7 + 7 + 7 + 7 + 7 + 7 + 49 + 7 + 49 + 49 + 2940 + 140 + 7 + 500 + 501 + 501 + 501 + 501 + 501 + 501 + 30060 + 501) hn C  _ _ _ H (by omega) (by omega))
  · replace H := hz_if c129 H
    refine aw_iload_n C dX9_init_246 rfl ?_
    refine aw_bipush C dX9_init_247 (v := (nI 7)) (by decide) ?_
    refine aw_icmp_gt (tgt := 256) C dX9_init_249 (by decide) (fun c130 => ?_) (fun c130 => ?_)
    · replace H := hz_it c130 H
      exact aw_loc (hz_sub_s (hz_sub_n (hz_sub_n hz_sub_0))) (k_X9_init_256 (cs := cs + 1 + 1 + 1 + 1 + 1 + 1 + 1 + 1 + 1 + 1 + 1 + 1 + 1 + 1 + 1 + 1 + 1 + 1 + 1 + 1 + 1 + 1 + 1 + 1 + 1 + 1 + 1 + 1) (sl := sl + 7 + 7 + 7 + 420 + 7 + 7 + 7 + 7 + 7 + 7 + 7 + 7 + 49 + 7 + 49 + 49 + 2940 + 140 + 7 + 500 + 501 + 501 + 501 + 501 + 501 + 501 + 30060 + 501) hn C  _ _ _ H (by omega) (by omega))
    · replace H := hz_if c130 H
      refine aw_iload_n C dX9_init_252 rfl ?_
      refine aw_goto (tgt := 257) C dX9_init_253 (by decide) ?_
      exact aw_loc (hz_sub_s (hz_sub_n (hz_sub_n hz_sub_0))) (k_X9_init_257 (cs := cs + 1 + 1 + 1 + 1 + 1 + 1 + 1 + 1 + 1 + 1 + 1 + 1 + 1 + 1 + 1 + 1 + 1 + 1 + 1 + 1 + 1 + 1 + 1 + 1 + 1 + 1 + 1 + 1) (sl := sl + 7 + 7 + 7 + 420 + 7 + 7 + 7 + 7 + 7 + 7 + 7 + 7 + 49 + 7 + 49 + 49 + 2940 + 140 + 7 + 500 + 501 + 501 + 501 + 501 + 501 + 501 + 30060 + 501) hn C  _ _ _ _ H (by omega) (by omega))
theorem hy_X9_isNode : hz_Y yX9_isNode cX9_isNode 2 (some .boolean) 1 := ⟨wd_776, wd_66, by decide +kernel, by decide +kernel, by decide +kernel⟩
theorem hv_X9_isNode : hz_YV yX9_isNode := ⟨wd_775, wd_37⟩
def f_X9_isNode_17 (s0 : Int32) (h : HP) : Option (Int32 × HP) :=
  if s0 &&& 1 = s0 then some (s0, h) else none
def f_X9_isNode_16 (h : HP) : Option (Int32 × HP) :=
  f_X9_isNode_17  (nI 0) h
def f_X9_isNode (a0 : Option Nat) (a1 : Int32) (h : HP) : Option (Int32 × HP) :=
  if a1 < 0 then
    f_X9_isNode_16   h
  else
    (hz_gI h a0 9 0).bind fun v1 =>
    if v1 ≤ a1 then
      f_X9_isNode_16   h
    else
      f_X9_isNode_17  (nI 1) h
abbrev rm_X9_isNode : Room := { frames := 0, cells := 0, slots := 0, locals := 0 }
set_option maxRecDepth 100000 in
set_option maxHeartbeats 4000000 in
theorem k_X9_isNode_17 {G : GX} {v' : Int32} {h' : HP} (hn : G.2.2.2.2.2.2.2.2.2.2.2.2 = 2) (C : Cx G cX9_isNode RX9 "isNode" (some .boolean) rm_X9_isNode (some (.int v')) h') (s0 : Int32) (h : HP) (H : f_X9_isNode_17  s0 h = some (v', h')) : aw G 17 [none, none] [.int s0] h 0 0 := by
  unfold f_X9_isNode_17 at H
  obtain ⟨gz, H⟩ := hz_wn H
  cases H
  exact aw_zret C gz (Nat.zero_le _) (Nat.zero_le _) dX9_isNode_17
set_option maxRecDepth 100000 in
set_option maxHeartbeats 4000000 in
theorem k_X9_isNode_16 {G : GX} {v' : Int32} {h' : HP} (hn : G.2.2.2.2.2.2.2.2.2.2.2.2 = 2) (C : Cx G cX9_isNode RX9 "isNode" (some .boolean) rm_X9_isNode (some (.int v')) h') (h : HP) (H : f_X9_isNode_16   h = some (v', h')) : aw G 16 [none, none] [] h 0 0 := by
  unfold f_X9_isNode_16 at H
  refine aw_iconst C dX9_isNode_16 (v := (nI 0)) (by decide) ?_
  exact k_X9_isNode_17 hn C  _ _ H
set_option maxRecDepth 100000 in
set_option maxHeartbeats 4000000 in
theorem c_X9_isNode {l : Launch} (a0 : Option Nat) (a1 : Int32) (h : HP) (v' : Int32) (h' : HP) (H : f_X9_isNode a0 a1 h = some (v', h')) : Ct l yX9_isNode cX9_isNode 2 (some .boolean) rm_X9_isNode [va_rf a0, .int a1] (some (.int v')) h h' := by
  refine Ct.of (plainFor_of_name (by decide)) (hz_s1c (hz_s1c hz_s1n rfl) (hz_cr _)) (Nat.le_of_ble_eq_true rfl) (fun G hl hn C0 => ?_)
  have C : Cx G cX9_isNode RX9 "isNode" (some .boolean) rm_X9_isNode (some (.int v')) h' := C0
  subst hl
  show aw G 0 [some (va_rf a0), some (.int a1)] [] h 0 0
  unfold f_X9_isNode at H
  refine aw_iload_n C dX9_isNode_0 rfl ?_
  refine aw_if_lt (tgt := 16) C dX9_isNode_1 (by decide) (fun c3 => ?_) (fun c3 => ?_)
  · replace H := hz_it c3 H
    exact aw_loc (hz_sub_n (hz_sub_n hz_sub_0)) (k_X9_isNode_16 hn C  _ H)
  · replace H := hz_if c3 H
    refine aw_iload_n C dX9_isNode_4 rfl ?_
    refine aw_aload_n C dX9_isNode_5 rfl ?_
    obtain ⟨v1, e2, H⟩ := hz_bd H
    refine aw_gI (k := 0) C cl_9 (by decide) wd_662 e2 dX9_isNode_6 ?_
    refine aw_icmp_ge (tgt := 16) C dX9_isNode_9 (by decide) (fun c4 => ?_) (fun c4 => ?_)
    · replace H := hz_it c4 H
      exact aw_loc (hz_sub_n (hz_sub_n hz_sub_0)) (k_X9_isNode_16 hn C  _ H)
    · replace H := hz_if c4 H
      refine aw_iconst C dX9_isNode_12 (v := (nI 1)) (by decide) ?_
      refine aw_goto (tgt := 17) C dX9_isNode_13 (by decide) ?_
      exact aw_loc (hz_sub_n (hz_sub_n hz_sub_0)) (k_X9_isNode_17 hn C  _ _ H)
theorem hy_X9_has : hz_Y yX9_has cX9_has 2 (some .boolean) 2 := ⟨wd_790, wd_66, by decide +kernel, by decide +kernel, by decide +kernel⟩
def f_X9_has_14 (s0 : Int32) (h : HP) : Option (Int32 × HP) :=
  if s0 &&& 1 = s0 then some (s0, h) else none
def f_X9_has (a0 : Int32) (a1 : Int32) (h : HP) : Option (Int32 × HP) :=
  if ((a0 >>> (a1 &&& 31)) &&& (nI 1)) = (nI 1) then
    f_X9_has_14  (nI 1) h
  else
    f_X9_has_14  (nI 0) h
abbrev rm_X9_has : Room := { frames := 0, cells := 0, slots := 0, locals := 0 }
set_option maxRecDepth 100000 in
set_option maxHeartbeats 4000000 in
theorem k_X9_has_14 {G : GX} {v' : Int32} {h' : HP} (hn : G.2.2.2.2.2.2.2.2.2.2.2.2 = 2) (C : Cx G cX9_has RX9 "has" (some .boolean) rm_X9_has (some (.int v')) h') (s0 : Int32) (h : HP) (H : f_X9_has_14  s0 h = some (v', h')) : aw G 14 [none, none] [.int s0] h 0 0 := by
  unfold f_X9_has_14 at H
  obtain ⟨gz, H⟩ := hz_wn H
  cases H
  exact aw_zret C gz (Nat.zero_le _) (Nat.zero_le _) dX9_has_14
set_option maxRecDepth 100000 in
set_option maxHeartbeats 4000000 in
theorem c_X9_has {l : Launch} (a0 : Int32) (a1 : Int32) (h : HP) (v' : Int32) (h' : HP) (H : f_X9_has a0 a1 h = some (v', h')) : Ct l yX9_has cX9_has 2 (some .boolean) rm_X9_has [.int a0, .int a1] (some (.int v')) h h' := by
  refine Ct.of (plainFor_of_name (by decide)) (hz_s1c (hz_s1c hz_s1n rfl) rfl) (Nat.le_of_ble_eq_true rfl) (fun G hl hn C0 => ?_)
  have C : Cx G cX9_has RX9 "has" (some .boolean) rm_X9_has (some (.int v')) h' := C0
  subst hl
  show aw G 0 [some (.int a0), some (.int a1)] [] h 0 0
  unfold f_X9_has at H
  refine aw_iload_n C dX9_has_0 rfl ?_
  refine aw_iload_n C dX9_has_1 rfl ?_
  refine aw_ishr C dX9_has_2 ?_
  refine aw_iconst C dX9_has_3 (v := (nI 1)) (by decide) ?_
  refine aw_iand C dX9_has_4 ?_
  refine aw_iconst C dX9_has_5 (v := (nI 1)) (by decide) ?_
  refine aw_icmp_ne (tgt := 13) C dX9_has_6 (by decide) (fun c1 => ?_) (fun c1 => ?_)
  · replace H := hz_if c1 H
    refine aw_iconst C dX9_has_13 (v := (nI 0)) (by decide) ?_
    exact aw_loc (hz_sub_n (hz_sub_n hz_sub_0)) (k_X9_has_14 hn C  _ _ H)
  · replace H := hz_it c1 H
    refine aw_iconst C dX9_has_9 (v := (nI 1)) (by decide) ?_
    refine aw_goto (tgt := 14) C dX9_has_10 (by decide) ?_
    exact aw_loc (hz_sub_n (hz_sub_n hz_sub_0)) (k_X9_has_14 hn C  _ _ H)
theorem hy_X9_many : hz_Y yX9_many cX9_many 4 (some .int) 1 := ⟨wd_846, wd_66, by decide +kernel, by decide +kernel, by decide +kernel⟩
theorem hv_X9_many : hz_YV yX9_many := ⟨wd_845, wd_52⟩
def f_X9_many_4 : Nat → Option Nat → Int32 → Int32 → Int32 → HP → Option (Int32 × HP)
  | 0, _, _, _, _, _ => none
  | n + 1, l0, l1, l2, l3, h =>
    (hz_gI h l0 9 0).bind fun v1 =>
    if v1 ≤ l3 then
      some (l2, h)
    else
      f_X9_many_4  n l0 l1 (l2 + ((l1 >>> (l3 &&& 31)) &&& (nI 1))) (l3 + (nI 1)) h
def f_X9_many (a0 : Option Nat) (a1 : Int32) (h : HP) : Option (Int32 × HP) :=
  f_X9_many_4  600 a0 a1 (nI 0) (nI 0) h
abbrev rm_X9_many : Room := { frames := 0, cells := 0, slots := 0, locals := 0 }
set_option maxRecDepth 100000 in
set_option maxHeartbeats 4000000 in
theorem k_X9_many_4 {G : GX} {v' : Int32} {h' : HP} (hn : G.2.2.2.2.2.2.2.2.2.2.2.2 = 4) (C : Cx G cX9_many RX9 "many" (some .int) rm_X9_many (some (.int v')) h') : ∀ (n : Nat) (l0 : Option Nat) (l1 : Int32) (l2 : Int32) (l3 : Int32) (h : HP), f_X9_many_4  n l0 l1 l2 l3 h = some (v', h') → aw G 4 [some (va_rf l0), some (.int l1), some (.int l2), some (.int l3)] [] h 0 0 := by
  intro n
  induction n with
  | zero => intro l0 l1 l2 l3 h H; cases H
  | succ n ih =>
    intro l0 l1 l2 l3 h H
    rw [f_X9_many_4] at H
    refine aw_iload_n C dX9_many_4 rfl ?_
    refine aw_aload_n C dX9_many_5 rfl ?_
    obtain ⟨v1, e2, H⟩ := hz_bd H
    refine aw_gI (k := 0) C cl_9 (by decide) wd_662 e2 dX9_many_6 ?_
    refine aw_icmp_ge (tgt := 26) C dX9_many_9 (by decide) (fun c3 => ?_) (fun c3 => ?_)
    · replace H := hz_it c3 H
      refine aw_iload_n C dX9_many_26 rfl ?_
      cases H
      exact aw_iret C (Nat.zero_le _) (Nat.zero_le _) dX9_many_27
    · replace H := hz_if c3 H
      refine aw_iload_n C dX9_many_12 rfl ?_
      refine aw_iload_n C dX9_many_13 rfl ?_
      refine aw_iload_n C dX9_many_14 rfl ?_
      refine aw_ishr C dX9_many_15 ?_
      refine aw_iconst C dX9_many_16 (v := (nI 1)) (by decide) ?_
      refine aw_iand C dX9_many_17 ?_
      refine aw_iadd C dX9_many_18 ?_
      refine aw_istore_n C dX9_many_19 (by rw [hn]; decide) rfl ?_
      refine aw_iinc (d := (nI 1)) C dX9_many_20 (by rw [hn]; decide) rfl (by decide) rfl ?_
      refine aw_goto (tgt := 4) C dX9_many_23 (by decide) ?_
      exact ih _ _ _ _ _ H
set_option maxRecDepth 100000 in
set_option maxHeartbeats 4000000 in
theorem c_X9_many {l : Launch} (a0 : Option Nat) (a1 : Int32) (h : HP) (v' : Int32) (h' : HP) (H : f_X9_many a0 a1 h = some (v', h')) : Ct l yX9_many cX9_many 4 (some .int) rm_X9_many [va_rf a0, .int a1] (some (.int v')) h h' := by
  refine Ct.of (plainFor_of_name (by decide)) (hz_s1c (hz_s1c hz_s1n rfl) (hz_cr _)) (Nat.le_of_ble_eq_true rfl) (fun G hl hn C0 => ?_)
  have C : Cx G cX9_many RX9 "many" (some .int) rm_X9_many (some (.int v')) h' := C0
  subst hl
  show aw G 0 [some (va_rf a0), some (.int a1), none, none] [] h 0 0
  unfold f_X9_many at H
  refine aw_iconst C dX9_many_0 (v := (nI 0)) (by decide) ?_
  refine aw_istore_n C dX9_many_1 (by rw [hn]; decide) rfl ?_
  refine aw_iconst C dX9_many_2 (v := (nI 0)) (by decide) ?_
  refine aw_istore_n C dX9_many_3 (by rw [hn]; decide) rfl ?_
  exact k_X9_many_4 hn C  600 _ _ _ _ _ H
theorem hy_X9_leader : hz_Y yX9_leader cX9_leader 3 (some .int) 1 := ⟨wd_787, wd_66, by decide +kernel, by decide +kernel, by decide +kernel⟩
theorem hv_X9_leader : hz_YV yX9_leader := ⟨wd_786, wd_39⟩
def f_X9_leader_30 (l2 : Int32) (h : HP) : Option (Int32 × HP) :=
  some (l2, h)
def f_X9_leader_7 : Nat → Option Nat → Int32 → Int32 → HP → Option (Int32 × HP)
  | 0, _, _, _, _ => none
  | n + 1, l0, l1, l2, h =>
    if l2 ≤ 0 then
      f_X9_leader_30  l2 h
    else
      (hz_gR h l0 9 3).bind fun r3 =>
      (hz_aI h r3 0 l1).bind fun v5 =>
      (f_X9_has v5 l2 h).bind fun p7 =>
      if p7.1 = 0 then
        f_X9_leader_7  n l0 l1 (l2 + (-1 : Int32)) p7.2
      else
        f_X9_leader_30  l2 p7.2
def f_X9_leader (a0 : Option Nat) (a1 : Int32) (h : HP) : Option (Int32 × HP) :=
  (hz_gI h a0 9 0).bind fun v1 =>
  f_X9_leader_7  600 a0 a1 (v1 - (nI 1)) h
abbrev rm_X9_leader : Room := { frames := 1, cells := 0, slots := 0, locals := 21 }
set_option maxRecDepth 100000 in
set_option maxHeartbeats 4000000 in
theorem k_X9_leader_30 {G : GX} {v' : Int32} {h' : HP} (hn : G.2.2.2.2.2.2.2.2.2.2.2.2 = 3) (C : Cx G cX9_leader RX9 "leader" (some .int) rm_X9_leader (some (.int v')) h') (l2 : Int32) (h : HP) (H : f_X9_leader_30  l2 h = some (v', h')) : aw G 30 [none, none, some (.int l2)] [] h 0 0 := by
  unfold f_X9_leader_30 at H
  refine aw_iload_n C dX9_leader_30 rfl ?_
  cases H
  exact aw_iret C (Nat.zero_le _) (Nat.zero_le _) dX9_leader_31
set_option maxRecDepth 100000 in
set_option maxHeartbeats 4000000 in
theorem k_X9_leader_7 {G : GX} {v' : Int32} {h' : HP} (hn : G.2.2.2.2.2.2.2.2.2.2.2.2 = 3) (C : Cx G cX9_leader RX9 "leader" (some .int) rm_X9_leader (some (.int v')) h') : ∀ (n : Nat) (l0 : Option Nat) (l1 : Int32) (l2 : Int32) (h : HP), f_X9_leader_7  n l0 l1 l2 h = some (v', h') → aw G 7 [some (va_rf l0), some (.int l1), some (.int l2)] [] h 0 0 := by
  intro n
  induction n with
  | zero => intro l0 l1 l2 h H; cases H
  | succ n ih =>
    intro l0 l1 l2 h H
    rw [f_X9_leader_7] at H
    refine aw_iload_n C dX9_leader_7 rfl ?_
    refine aw_if_le (tgt := 30) C dX9_leader_8 (by decide) (fun c9 => ?_) (fun c9 => ?_)
    · replace H := hz_it c9 H
      exact aw_loc (hz_sub_n (hz_sub_n (hz_sub_s hz_sub_0))) (k_X9_leader_30 hn C  _ _ H)
    · replace H := hz_if c9 H
      refine aw_aload_n C dX9_leader_11 rfl ?_
      obtain ⟨r3, e4, H⟩ := hz_bd H
      refine aw_gR (k := 3) C cl_9 (by decide) wd_665 e4 dX9_leader_12 ?_
      refine aw_iload_n C dX9_leader_15 rfl ?_
      obtain ⟨v5, e6, H⟩ := hz_bd H
      refine aw_iald C e6 dX9_leader_16 ?_
      refine aw_iload_n C dX9_leader_17 rfl ?_
      obtain ⟨p7, e8, H⟩ := hz_bd H
      refine aw_S (As := [.int v5, .int l2]) (rest := []) C hy_X9_has wd_789 wd_788 (c_X9_has _ _ _ _ _  e8) (hz_roi _) rfl rfl (Nat.le_of_ble_eq_true rfl) (by decide) (kc := 0) (ks := 0) rfl rfl (by decide) dX9_leader_18 ?_
      refine aw_if_ne (tgt := 30) C dX9_leader_21 (by decide) (fun c10 => ?_) (fun c10 => ?_)
      · replace H := hz_if c10 H
        exact aw_loc (hz_sub_n (hz_sub_n (hz_sub_s hz_sub_0))) (k_X9_leader_30 hn C  _ _ H)
      · replace H := hz_it c10 H
        refine aw_iinc (d := (-1)) C dX9_leader_24 (by rw [hn]; decide) rfl (by decide) rfl ?_
        refine aw_goto (tgt := 7) C dX9_leader_27 (by decide) ?_
        exact ih _ _ _ _ H
set_option maxRecDepth 100000 in
set_option maxHeartbeats 4000000 in
theorem c_X9_leader {l : Launch} (a0 : Option Nat) (a1 : Int32) (h : HP) (v' : Int32) (h' : HP) (H : f_X9_leader a0 a1 h = some (v', h')) : Ct l yX9_leader cX9_leader 3 (some .int) rm_X9_leader [va_rf a0, .int a1] (some (.int v')) h h' := by
  refine Ct.of (plainFor_of_name (by decide)) (hz_s1c (hz_s1c hz_s1n rfl) (hz_cr _)) (Nat.le_of_ble_eq_true rfl) (fun G hl hn C0 => ?_)
  have C : Cx G cX9_leader RX9 "leader" (some .int) rm_X9_leader (some (.int v')) h' := C0
  subst hl
  show aw G 0 [some (va_rf a0), some (.int a1), none] [] h 0 0
  unfold f_X9_leader at H
  refine aw_aload_n C dX9_leader_0 rfl ?_
  obtain ⟨v1, e2, H⟩ := hz_bd H
  refine aw_gI (k := 0) C cl_9 (by decide) wd_662 e2 dX9_leader_1 ?_
  refine aw_iconst C dX9_leader_4 (v := (nI 1)) (by decide) ?_
  refine aw_isub C dX9_leader_5 ?_
  refine aw_istore_n C dX9_leader_6 (by rw [hn]; decide) rfl ?_
  exact k_X9_leader_7 hn C  600 _ _ _ _ H
theorem hy_X9_isBlocked : hz_Y yX9_isBlocked cX9_isBlocked 2 (some .boolean) 1 := ⟨wd_783, wd_66, by decide +kernel, by decide +kernel, by decide +kernel⟩
theorem hv_X9_isBlocked : hz_YV yX9_isBlocked := ⟨wd_782, wd_38⟩
def f_X9_isBlocked_20 (s0 : Int32) (h : HP) : Option (Int32 × HP) :=
  if s0 &&& 1 = s0 then some (s0, h) else none
def f_X9_isBlocked (a0 : Option Nat) (a1 : Int32) (h : HP) : Option (Int32 × HP) :=
  (hz_gR h a0 9 8).bind fun r1 =>
  (hz_aI h r1 0 a1).bind fun v3 =>
  (hz_gR h a0 9 2).bind fun r5 =>
  (hz_aI h r5 0 a1).bind fun v7 =>
  if v3 = v7 then
    f_X9_isBlocked_20  (nI 0) h
  else
    f_X9_isBlocked_20  (nI 1) h
abbrev rm_X9_isBlocked : Room := { frames := 0, cells := 0, slots := 0, locals := 0 }
set_option maxRecDepth 100000 in
set_option maxHeartbeats 4000000 in
theorem k_X9_isBlocked_20 {G : GX} {v' : Int32} {h' : HP} (hn : G.2.2.2.2.2.2.2.2.2.2.2.2 = 2) (C : Cx G cX9_isBlocked RX9 "isBlocked" (some .boolean) rm_X9_isBlocked (some (.int v')) h') (s0 : Int32) (h : HP) (H : f_X9_isBlocked_20  s0 h = some (v', h')) : aw G 20 [none, none] [.int s0] h 0 0 := by
  unfold f_X9_isBlocked_20 at H
  obtain ⟨gz, H⟩ := hz_wn H
  cases H
  exact aw_zret C gz (Nat.zero_le _) (Nat.zero_le _) dX9_isBlocked_20
set_option maxRecDepth 100000 in
set_option maxHeartbeats 4000000 in
theorem c_X9_isBlocked {l : Launch} (a0 : Option Nat) (a1 : Int32) (h : HP) (v' : Int32) (h' : HP) (H : f_X9_isBlocked a0 a1 h = some (v', h')) : Ct l yX9_isBlocked cX9_isBlocked 2 (some .boolean) rm_X9_isBlocked [va_rf a0, .int a1] (some (.int v')) h h' := by
  refine Ct.of (plainFor_of_name (by decide)) (hz_s1c (hz_s1c hz_s1n rfl) (hz_cr _)) (Nat.le_of_ble_eq_true rfl) (fun G hl hn C0 => ?_)
  have C : Cx G cX9_isBlocked RX9 "isBlocked" (some .boolean) rm_X9_isBlocked (some (.int v')) h' := C0
  subst hl
  show aw G 0 [some (va_rf a0), some (.int a1)] [] h 0 0
  unfold f_X9_isBlocked at H
  refine aw_aload_n C dX9_isBlocked_0 rfl ?_
  obtain ⟨r1, e2, H⟩ := hz_bd H
  refine aw_gR (k := 8) C cl_9 (by decide) wd_670 e2 dX9_isBlocked_1 ?_
  refine aw_iload_n C dX9_isBlocked_4 rfl ?_
  obtain ⟨v3, e4, H⟩ := hz_bd H
  refine aw_iald C e4 dX9_isBlocked_5 ?_
  refine aw_aload_n C dX9_isBlocked_6 rfl ?_
  obtain ⟨r5, e6, H⟩ := hz_bd H
  refine aw_gR (k := 2) C cl_9 (by decide) wd_664 e6 dX9_isBlocked_7 ?_
  refine aw_iload_n C dX9_isBlocked_10 rfl ?_
  obtain ⟨v7, e8, H⟩ := hz_bd H
  refine aw_iald C e8 dX9_isBlocked_11 ?_
  refine aw_icmp_eq (tgt := 19) C dX9_isBlocked_12 (by decide) (fun c9 => ?_) (fun c9 => ?_)
  · replace H := hz_it c9 H
    refine aw_iconst C dX9_isBlocked_19 (v := (nI 0)) (by decide) ?_
    exact aw_loc (hz_sub_n (hz_sub_n hz_sub_0)) (k_X9_isBlocked_20 hn C  _ _ H)
  · replace H := hz_if c9 H
    refine aw_iconst C dX9_isBlocked_15 (v := (nI 1)) (by decide) ?_
    refine aw_goto (tgt := 20) C dX9_isBlocked_16 (by decide) ?_
    exact aw_loc (hz_sub_n (hz_sub_n hz_sub_0)) (k_X9_isBlocked_20 hn C  _ _ H)
theorem hy_X9_send : hz_Y yX9_send cX9_send 10 none 7 := ⟨wd_794, wd_66, by decide +kernel, by decide +kernel, by decide +kernel⟩
theorem hv_X9_send : hz_YV yX9_send := ⟨wd_793, wd_40⟩
def f_X9_send_186 (l0 : Option Nat) (h : HP) : Option HP :=
  (hz_gI h l0 9 29).bind fun v61 =>
  (hz_pF h l0 9 29 (.int (v61 + (nI 1)))).bind fun h63 =>
  some h63
def f_X9_send_130 (l0 : Option Nat) (l7 : Int32) (l8 : Int32) (h : HP) : Option HP :=
  (hz_gR h l0 9 27).bind fun r49 =>
  (hz_aS h r49 0 ((nI 60) * l8) l7).bind fun h51 =>
  f_X9_send_186  l0 h51
def f_X9_send_148 : Nat → Option Nat → Int32 → Int32 → Int32 → Int32 → HP → Option HP
  | 0, _, _, _, _, _, _ => none
  | n + 1, l0, l1, l6, l8, l9, h =>
    if l6 ≤ l9 then
      f_X9_send_186  l0 h
    else
      (hz_gR h l0 9 27).bind fun r53 =>
      (hz_gR h l0 9 4).bind fun r55 =>
      (hz_aI h r55 0 (((nI 60) * l1) + l9)).bind fun v57 =>
      (hz_aS h r53 0 (((nI 60) * l8) + l9) v57).bind fun h59 =>
      f_X9_send_148  n l0 l1 l6 l8 (l9 + (nI 1)) h59
def f_X9_send_34 : Nat → Option Nat → Int32 → Int32 → Int32 → Int32 → Int32 → Int32 → Int32 → Int32 → HP → Option HP
  | 0, _, _, _, _, _, _, _, _, _, _ => none
  | n + 1, l0, l1, l2, l3, l4, l5, l6, l7, l8, h =>
    (hz_gR h l0 9 20).bind fun r11 =>
    (hz_aI h r11 1 l8).bind fun v13 =>
    if v13 = 0 then
      (hz_gR h l0 9 20).bind fun r15 =>
      (hz_aS h r15 1 l8 (nI 1)).bind fun h17 =>
      (hz_gR h17 l0 9 21).bind fun r19 =>
      (hz_aS h17 r19 0 l8 l1).bind fun h21 =>
      (hz_gR h21 l0 9 22).bind fun r23 =>
      (hz_aS h21 r23 0 l8 l2).bind fun h25 =>
      (hz_gR h25 l0 9 23).bind fun r27 =>
      (hz_aS h25 r27 0 l8 l3).bind fun h29 =>
      (hz_gR h29 l0 9 24).bind fun r31 =>
      (hz_aS h29 r31 0 l8 l4).bind fun h33 =>
      (hz_gR h33 l0 9 25).bind fun r35 =>
      (hz_aS h33 r35 0 l8 l5).bind fun h37 =>
      (hz_gR h37 l0 9 26).bind fun r39 =>
      (hz_aS h37 r39 0 l8 l6).bind fun h41 =>
      (hz_gR h41 l0 9 28).bind fun r43 =>
      (hz_gI h41 l0 9 30).bind fun v45 =>
      (hz_aS h41 r43 0 l8 v45).bind fun h47 =>
      if l3 = (nI 1) then
        f_X9_send_130  l0 l7 l8 h47
      else
        if l3 = (nI 2) then
          f_X9_send_130  l0 l7 l8 h47
        else
          f_X9_send_148  600 l0 l1 l6 l8 (nI 0) h47
    else
      f_X9_send_34  n l0 l1 l2 l3 l4 l5 l6 l7 (l8 + (nI 1)) h
def f_X9_send (a0 : Option Nat) (a1 : Int32) (a2 : Int32) (a3 : Int32) (a4 : Int32) (a5 : Int32) (a6 : Int32) (a7 : Int32) (h : HP) : Option HP :=
  (hz_gI h a0 9 30).bind fun v1 =>
  (hz_pF h a0 9 30 (.int (v1 + (nI 1)))).bind fun h3 =>
  (hz_gI h3 a0 9 29).bind fun v5 =>
  if v5 = (nI 500) then
    (hz_gI h3 a0 9 31).bind fun v7 =>
    (hz_pF h3 a0 9 31 (.int (v7 + (nI 1)))).bind fun h9 =>
    some h9
  else
    f_X9_send_34  600 a0 a1 a2 a3 a4 a5 a6 a7 (nI 0) h3
abbrev rm_X9_send : Room := { frames := 0, cells := 0, slots := 0, locals := 0 }
set_option maxRecDepth 100000 in
set_option maxHeartbeats 4000000 in
theorem k_X9_send_186 {G : GX} {h' : HP} (hn : G.2.2.2.2.2.2.2.2.2.2.2.2 = 10) (C : Cx G cX9_send RX9 "send" none rm_X9_send none h') (l0 : Option Nat) (h : HP) (H : f_X9_send_186  l0 h = some h') : aw G 186 [some (va_rf l0), none, none, none, none, none, none, none, none, none] [] h 0 0 := by
  unfold f_X9_send_186 at H
  refine aw_aload_n C dX9_send_186 rfl ?_
  refine aw_dup C dX9_send_187 ?_
  obtain ⟨v61, e62, H⟩ := hz_bd H
  refine aw_gI (k := 29) C cl_9 (by decide) wd_691 e62 dX9_send_188 ?_
  refine aw_iconst C dX9_send_191 (v := (nI 1)) (by decide) ?_
  refine aw_iadd C dX9_send_192 ?_
  obtain ⟨h63, e64, H⟩ := hz_bd H
  refine aw_pF (k := 29) C cl_9 (by decide) rfl wd_691 (hz_fiti _) e64 dX9_send_193 ?_
  cases H
  exact aw_vret C (Nat.zero_le _) (Nat.zero_le _) dX9_send_196
set_option maxRecDepth 100000 in
set_option maxHeartbeats 4000000 in
theorem k_X9_send_130 {G : GX} {h' : HP} (hn : G.2.2.2.2.2.2.2.2.2.2.2.2 = 10) (C : Cx G cX9_send RX9 "send" none rm_X9_send none h') (l0 : Option Nat) (l7 : Int32) (l8 : Int32) (h : HP) (H : f_X9_send_130  l0 l7 l8 h = some h') : aw G 130 [some (va_rf l0), none, none, none, none, none, none, some (.int l7), some (.int l8), none] [] h 0 0 := by
  unfold f_X9_send_130 at H
  refine aw_aload_n C dX9_send_130 rfl ?_
  obtain ⟨r49, e50, H⟩ := hz_bd H
  refine aw_gR (k := 27) C cl_9 (by decide) wd_689 e50 dX9_send_131 ?_
  refine aw_bipush C dX9_send_134 (v := (nI 60)) (by decide) ?_
  refine aw_iload C dX9_send_136 rfl ?_
  refine aw_imul C dX9_send_138 ?_
  refine aw_iload C dX9_send_139 rfl ?_
  obtain ⟨h51, e52, H⟩ := hz_bd H
  refine aw_iast C e52 dX9_send_141 ?_
  refine aw_goto (tgt := 186) C dX9_send_142 (by decide) ?_
  exact aw_loc (hz_sub_s (hz_sub_n (hz_sub_n (hz_sub_n (hz_sub_n (hz_sub_n (hz_sub_n (hz_sub_n (hz_sub_n (hz_sub_n hz_sub_0)))))))))) (k_X9_send_186 hn C  _ _ H)
set_option maxRecDepth 100000 in
set_option maxHeartbeats 4000000 in
theorem k_X9_send_148 {G : GX} {h' : HP} (hn : G.2.2.2.2.2.2.2.2.2.2.2.2 = 10) (C : Cx G cX9_send RX9 "send" none rm_X9_send none h') : ∀ (n : Nat) (l0 : Option Nat) (l1 : Int32) (l6 : Int32) (l8 : Int32) (l9 : Int32) (h : HP), f_X9_send_148  n l0 l1 l6 l8 l9 h = some h' → aw G 148 [some (va_rf l0), some (.int l1), none, none, none, none, some (.int l6), none, some (.int l8), some (.int l9)] [] h 0 0 := by
  intro n
  induction n with
  | zero => intro l0 l1 l6 l8 l9 h H; cases H
  | succ n ih =>
    intro l0 l1 l6 l8 l9 h H
    rw [f_X9_send_148] at H
    refine aw_iload C dX9_send_148 rfl ?_
    refine aw_iload C dX9_send_150 rfl ?_
    refine aw_icmp_ge (tgt := 186) C dX9_send_152 (by decide) (fun c65 => ?_) (fun c65 => ?_)
    · replace H := hz_it c65 H
      exact aw_loc (hz_sub_s (hz_sub_n (hz_sub_n (hz_sub_n (hz_sub_n (hz_sub_n (hz_sub_n (hz_sub_n (hz_sub_n (hz_sub_n hz_sub_0)))))))))) (k_X9_send_186 hn C  _ _ H)
    · replace H := hz_if c65 H
      refine aw_aload_n C dX9_send_155 rfl ?_
      obtain ⟨r53, e54, H⟩ := hz_bd H
      refine aw_gR (k := 27) C cl_9 (by decide) wd_689 e54 dX9_send_156 ?_
      refine aw_bipush C dX9_send_159 (v := (nI 60)) (by decide) ?_
      refine aw_iload C dX9_send_161 rfl ?_
      refine aw_imul C dX9_send_163 ?_
      refine aw_iload C dX9_send_164 rfl ?_
      refine aw_iadd C dX9_send_166 ?_
      refine aw_aload_n C dX9_send_167 rfl ?_
      obtain ⟨r55, e56, H⟩ := hz_bd H
      refine aw_gR (k := 4) C cl_9 (by decide) wd_666 e56 dX9_send_168 ?_
      refine aw_bipush C dX9_send_171 (v := (nI 60)) (by decide) ?_
      refine aw_iload_n C dX9_send_173 rfl ?_
      refine aw_imul C dX9_send_174 ?_
      refine aw_iload C dX9_send_175 rfl ?_
      refine aw_iadd C dX9_send_177 ?_
      obtain ⟨v57, e58, H⟩ := hz_bd H
      refine aw_iald C e58 dX9_send_178 ?_
      obtain ⟨h59, e60, H⟩ := hz_bd H
      refine aw_iast C e60 dX9_send_179 ?_
      refine aw_iinc (d := (nI 1)) C dX9_send_180 (by rw [hn]; decide) rfl (by decide) rfl ?_
      refine aw_goto (tgt := 148) C dX9_send_183 (by decide) ?_
      exact ih _ _ _ _ _ _ H
set_option maxRecDepth 100000 in
set_option maxHeartbeats 4000000 in
theorem k_X9_send_34 {G : GX} {h' : HP} (hn : G.2.2.2.2.2.2.2.2.2.2.2.2 = 10) (C : Cx G cX9_send RX9 "send" none rm_X9_send none h') : ∀ (n : Nat) (l0 : Option Nat) (l1 : Int32) (l2 : Int32) (l3 : Int32) (l4 : Int32) (l5 : Int32) (l6 : Int32) (l7 : Int32) (l8 : Int32) (h : HP), f_X9_send_34  n l0 l1 l2 l3 l4 l5 l6 l7 l8 h = some h' → aw G 34 [some (va_rf l0), some (.int l1), some (.int l2), some (.int l3), some (.int l4), some (.int l5), some (.int l6), some (.int l7), some (.int l8), none] [] h 0 0 := by
  intro n
  induction n with
  | zero => intro l0 l1 l2 l3 l4 l5 l6 l7 l8 h H; cases H
  | succ n ih =>
    intro l0 l1 l2 l3 l4 l5 l6 l7 l8 h H
    rw [f_X9_send_34] at H
    refine aw_aload_n C dX9_send_34 rfl ?_
    obtain ⟨r11, e12, H⟩ := hz_bd H
    refine aw_gR (k := 20) C cl_9 (by decide) wd_682 e12 dX9_send_35 ?_
    refine aw_iload C dX9_send_38 rfl ?_
    obtain ⟨v13, e14, H⟩ := hz_bd H
    refine aw_bald C e14 dX9_send_40 ?_
    refine aw_if_eq (tgt := 50) C dX9_send_41 (by decide) (fun c66 => ?_) (fun c66 => ?_)
    · replace H := hz_it c66 H
      refine aw_aload_n C dX9_send_50 rfl ?_
      obtain ⟨r15, e16, H⟩ := hz_bd H
      refine aw_gR (k := 20) C cl_9 (by decide) wd_682 e16 dX9_send_51 ?_
      refine aw_iload C dX9_send_54 rfl ?_
      refine aw_iconst C dX9_send_56 (v := (nI 1)) (by decide) ?_
      obtain ⟨h17, e18, H⟩ := hz_bd H
      refine aw_bast C e18 dX9_send_57 ?_
      refine aw_aload_n C dX9_send_58 rfl ?_
      obtain ⟨r19, e20, H⟩ := hz_bd H
      refine aw_gR (k := 21) C cl_9 (by decide) wd_683 e20 dX9_send_59 ?_
      refine aw_iload C dX9_send_62 rfl ?_
      refine aw_iload_n C dX9_send_64 rfl ?_
      obtain ⟨h21, e22, H⟩ := hz_bd H
      refine aw_iast C e22 dX9_send_65 ?_
      refine aw_aload_n C dX9_send_66 rfl ?_
      obtain ⟨r23, e24, H⟩ := hz_bd H
      refine aw_gR (k := 22) C cl_9 (by decide) wd_684 e24 dX9_send_67 ?_
      refine aw_iload C dX9_send_70 rfl ?_
      refine aw_iload_n C dX9_send_72 rfl ?_
      obtain ⟨h25, e26, H⟩ := hz_bd H
      refine aw_iast C e26 dX9_send_73 ?_
      refine aw_aload_n C dX9_send_74 rfl ?_
      obtain ⟨r27, e28, H⟩ := hz_bd H
      refine aw_gR (k := 23) C cl_9 (by decide) wd_685 e28 dX9_send_75 ?_
      refine aw_iload C dX9_send_78 rfl ?_
      refine aw_iload_n C dX9_send_80 rfl ?_
      obtain ⟨h29, e30, H⟩ := hz_bd H
      refine aw_iast C e30 dX9_send_81 ?_
      refine aw_aload_n C dX9_send_82 rfl ?_
      obtain ⟨r31, e32, H⟩ := hz_bd H
      refine aw_gR (k := 24) C cl_9 (by decide) wd_686 e32 dX9_send_83 ?_
      refine aw_iload C dX9_send_86 rfl ?_
      refine aw_iload C dX9_send_88 rfl ?_
      obtain ⟨h33, e34, H⟩ := hz_bd H
      refine aw_iast C e34 dX9_send_90 ?_
      refine aw_aload_n C dX9_send_91 rfl ?_
      obtain ⟨r35, e36, H⟩ := hz_bd H
      refine aw_gR (k := 25) C cl_9 (by decide) wd_687 e36 dX9_send_92 ?_
      refine aw_iload C dX9_send_95 rfl ?_
      refine aw_iload C dX9_send_97 rfl ?_
      obtain ⟨h37, e38, H⟩ := hz_bd H
      refine aw_iast C e38 dX9_send_99 ?_
      refine aw_aload_n C dX9_send_100 rfl ?_
      obtain ⟨r39, e40, H⟩ := hz_bd H
      refine aw_gR (k := 26) C cl_9 (by decide) wd_688 e40 dX9_send_101 ?_
      refine aw_iload C dX9_send_104 rfl ?_
      refine aw_iload C dX9_send_106 rfl ?_
      obtain ⟨h41, e42, H⟩ := hz_bd H
      refine aw_iast C e42 dX9_send_108 ?_
      refine aw_aload_n C dX9_send_109 rfl ?_
      obtain ⟨r43, e44, H⟩ := hz_bd H
      refine aw_gR (k := 28) C cl_9 (by decide) wd_690 e44 dX9_send_110 ?_
      refine aw_iload C dX9_send_113 rfl ?_
      refine aw_aload_n C dX9_send_115 rfl ?_
      obtain ⟨v45, e46, H⟩ := hz_bd H
      refine aw_gI (k := 30) C cl_9 (by decide) wd_692 e46 dX9_send_116 ?_
      obtain ⟨h47, e48, H⟩ := hz_bd H
      refine aw_iast C e48 dX9_send_119 ?_
      refine aw_iload_n C dX9_send_120 rfl ?_
      refine aw_iconst C dX9_send_121 (v := (nI 1)) (by decide) ?_
      refine aw_icmp_eq (tgt := 130) C dX9_send_122 (by decide) (fun c67 => ?_) (fun c67 => ?_)
      · replace H := hz_it c67 H
        exact aw_loc (hz_sub_s (hz_sub_n (hz_sub_n (hz_sub_n (hz_sub_n (hz_sub_n (hz_sub_n (hz_sub_s (hz_sub_s (hz_sub_n hz_sub_0)))))))))) (k_X9_send_130 hn C  _ _ _ _ H)
      · replace H := hz_if c67 H
        refine aw_iload_n C dX9_send_125 rfl ?_
        refine aw_iconst C dX9_send_126 (v := (nI 2)) (by decide) ?_
        refine aw_icmp_ne (tgt := 145) C dX9_send_127 (by decide) (fun c68 => ?_) (fun c68 => ?_)
        · replace H := hz_if c68 H
          refine aw_iconst C dX9_send_145 (v := (nI 0)) (by decide) ?_
          refine aw_istore C dX9_send_146 (by rw [hn]; decide) rfl ?_
          exact aw_loc (hz_sub_s (hz_sub_s (hz_sub_n (hz_sub_n (hz_sub_n (hz_sub_n (hz_sub_s (hz_sub_n (hz_sub_s (hz_sub_s hz_sub_0)))))))))) (k_X9_send_148 hn C  600 _ _ _ _ _ _ H)
        · replace H := hz_it c68 H
          exact aw_loc (hz_sub_s (hz_sub_n (hz_sub_n (hz_sub_n (hz_sub_n (hz_sub_n (hz_sub_n (hz_sub_s (hz_sub_s (hz_sub_n hz_sub_0)))))))))) (k_X9_send_130 hn C  _ _ _ _ H)
    · replace H := hz_if c66 H
      refine aw_iinc (d := (nI 1)) C dX9_send_44 (by rw [hn]; decide) rfl (by decide) rfl ?_
      refine aw_goto (tgt := 34) C dX9_send_47 (by decide) ?_
      exact ih _ _ _ _ _ _ _ _ _ _ H
set_option maxRecDepth 100000 in
set_option maxHeartbeats 4000000 in
theorem c_X9_send {l : Launch} (a0 : Option Nat) (a1 : Int32) (a2 : Int32) (a3 : Int32) (a4 : Int32) (a5 : Int32) (a6 : Int32) (a7 : Int32) (h : HP) (h' : HP) (H : f_X9_send a0 a1 a2 a3 a4 a5 a6 a7 h = some h') : Ct l yX9_send cX9_send 10 none rm_X9_send [va_rf a0, .int a1, .int a2, .int a3, .int a4, .int a5, .int a6, .int a7] none h h' := by
  refine Ct.of (plainFor_of_name (by decide)) (hz_s1c (hz_s1c (hz_s1c (hz_s1c (hz_s1c (hz_s1c (hz_s1c (hz_s1c hz_s1n rfl) rfl) rfl) rfl) rfl) rfl) rfl) (hz_cr _)) (Nat.le_of_ble_eq_true rfl) (fun G hl hn C0 => ?_)
  have C : Cx G cX9_send RX9 "send" none rm_X9_send none h' := C0
  subst hl
  show aw G 0 [some (va_rf a0), some (.int a1), some (.int a2), some (.int a3), some (.int a4), some (.int a5), some (.int a6), some (.int a7), none, none] [] h 0 0
  unfold f_X9_send at H
  refine aw_aload_n C dX9_send_0 rfl ?_
  refine aw_dup C dX9_send_1 ?_
  obtain ⟨v1, e2, H⟩ := hz_bd H
  refine aw_gI (k := 30) C cl_9 (by decide) wd_692 e2 dX9_send_2 ?_
  refine aw_iconst C dX9_send_5 (v := (nI 1)) (by decide) ?_
  refine aw_iadd C dX9_send_6 ?_
  obtain ⟨h3, e4, H⟩ := hz_bd H
  refine aw_pF (k := 30) C cl_9 (by decide) rfl wd_692 (hz_fiti _) e4 dX9_send_7 ?_
  refine aw_aload_n C dX9_send_10 rfl ?_
  obtain ⟨v5, e6, H⟩ := hz_bd H
  refine aw_gI (k := 29) C cl_9 (by decide) wd_691 e6 dX9_send_11 ?_
  refine aw_sipush C dX9_send_14 (v := (nI 500)) (by decide) ?_
  refine aw_icmp_ne (tgt := 31) C dX9_send_17 (by decide) (fun c69 => ?_) (fun c69 => ?_)
  · replace H := hz_if c69 H
    refine aw_iconst C dX9_send_31 (v := (nI 0)) (by decide) ?_
    refine aw_istore C dX9_send_32 (by rw [hn]; decide) rfl ?_
    exact k_X9_send_34 hn C  600 _ _ _ _ _ _ _ _ _ _ H
  · replace H := hz_it c69 H
    refine aw_aload_n C dX9_send_20 rfl ?_
    refine aw_dup C dX9_send_21 ?_
    obtain ⟨v7, e8, H⟩ := hz_bd H
    refine aw_gI (k := 31) C cl_9 (by decide) wd_693 e8 dX9_send_22 ?_
    refine aw_iconst C dX9_send_25 (v := (nI 1)) (by decide) ?_
    refine aw_iadd C dX9_send_26 ?_
    obtain ⟨h9, e10, H⟩ := hz_bd H
    refine aw_pF (k := 31) C cl_9 (by decide) rfl wd_693 (hz_fiti _) e10 dX9_send_27 ?_
    cases H
    exact aw_vret C (Nat.zero_le _) (Nat.zero_le _) dX9_send_30
theorem hy_X9_sendAll : hz_Y yX9_sendAll cX9_sendAll 9 none 7 := ⟨wd_802, wd_66, by decide +kernel, by decide +kernel, by decide +kernel⟩
theorem hv_X9_sendAll : hz_YV yX9_sendAll := ⟨wd_801, wd_42⟩
def f_X9_sendAll_43 (K3 : Option Nat → Int32 → Int32 → Int32 → Int32 → Int32 → Int32 → Int32 → Int32 → HP → Option HP) (l0 : Option Nat) (l1 : Int32) (l2 : Int32) (l3 : Int32) (l4 : Int32) (l5 : Int32) (l6 : Int32) (l7 : Int32) (l8 : Int32) (h : HP) : Option HP :=
  K3 l0 l1 l2 l3 l4 l5 l6 l7 (l8 + (nI 1)) h
def f_X9_sendAll_3 : Nat → Option Nat → Int32 → Int32 → Int32 → Int32 → Int32 → Int32 → Int32 → Int32 → HP → Option HP
  | 0, _, _, _, _, _, _, _, _, _, _ => none
  | n + 1, l0, l1, l2, l3, l4, l5, l6, l7, l8, h =>
    (hz_gI h l0 9 0).bind fun v1 =>
    if v1 ≤ l8 then
      some h
    else
      if l8 = l1 then
        f_X9_sendAll_43 (f_X9_sendAll_3  n) l0 l1 l2 l3 l4 l5 l6 l7 l8 h
      else
        (f_X9_has l2 l8 h).bind fun p3 =>
        if p3.1 = 0 then
          f_X9_sendAll_43 (f_X9_sendAll_3  n) l0 l1 l2 l3 l4 l5 l6 l7 l8 p3.2
        else
          if hz_ob p3.2 l0 9 = true then
          (f_X9_send l0 l1 l8 l3 l4 l5 l6 l7 p3.2).bind fun p5 =>
          f_X9_sendAll_43 (f_X9_sendAll_3  n) l0 l1 l2 l3 l4 l5 l6 l7 l8 p5
          else none
def f_X9_sendAll (a0 : Option Nat) (a1 : Int32) (a2 : Int32) (a3 : Int32) (a4 : Int32) (a5 : Int32) (a6 : Int32) (a7 : Int32) (h : HP) : Option HP :=
  f_X9_sendAll_3  600 a0 a1 a2 a3 a4 a5 a6 a7 (nI 0) h
abbrev rm_X9_sendAll : Room := { frames := 1, cells := 0, slots := 0, locals := 29 }
set_option maxRecDepth 100000 in
set_option maxHeartbeats 4000000 in
theorem k_X9_sendAll_43 {G : GX} {h' : HP} (hn : G.2.2.2.2.2.2.2.2.2.2.2.2 = 9) (C : Cx G cX9_sendAll RX9 "sendAll" none rm_X9_sendAll none h') {K3 : Option Nat → Int32 → Int32 → Int32 → Int32 → Int32 → Int32 → Int32 → Int32 → HP → Option HP} (hK3 : ∀ (l0 : Option Nat) (l1 : Int32) (l2 : Int32) (l3 : Int32) (l4 : Int32) (l5 : Int32) (l6 : Int32) (l7 : Int32) (l8 : Int32) (h : HP), K3 l0 l1 l2 l3 l4 l5 l6 l7 l8 h = some h' → aw G 3 [some (va_rf l0), some (.int l1), some (.int l2), some (.int l3), some (.int l4), some (.int l5), some (.int l6), some (.int l7), some (.int l8)] [] h 0 0) (l0 : Option Nat) (l1 : Int32) (l2 : Int32) (l3 : Int32) (l4 : Int32) (l5 : Int32) (l6 : Int32) (l7 : Int32) (l8 : Int32) (h : HP) (H : f_X9_sendAll_43 K3 l0 l1 l2 l3 l4 l5 l6 l7 l8 h = some h') : aw G 43 [some (va_rf l0), some (.int l1), some (.int l2), some (.int l3), some (.int l4), some (.int l5), some (.int l6), some (.int l7), some (.int l8)] [] h 0 0 := by
  unfold f_X9_sendAll_43 at H
  refine aw_iinc (d := (nI 1)) C dX9_sendAll_43 (by rw [hn]; decide) rfl (by decide) rfl ?_
  refine aw_goto (tgt := 3) C dX9_sendAll_46 (by decide) ?_
  exact hK3 _ _ _ _ _ _ _ _ _ _ H
set_option maxRecDepth 100000 in
set_option maxHeartbeats 4000000 in
theorem k_X9_sendAll_3 {G : GX} {h' : HP} (hn : G.2.2.2.2.2.2.2.2.2.2.2.2 = 9) (C : Cx G cX9_sendAll RX9 "sendAll" none rm_X9_sendAll none h') : ∀ (n : Nat) (l0 : Option Nat) (l1 : Int32) (l2 : Int32) (l3 : Int32) (l4 : Int32) (l5 : Int32) (l6 : Int32) (l7 : Int32) (l8 : Int32) (h : HP), f_X9_sendAll_3  n l0 l1 l2 l3 l4 l5 l6 l7 l8 h = some h' → aw G 3 [some (va_rf l0), some (.int l1), some (.int l2), some (.int l3), some (.int l4), some (.int l5), some (.int l6), some (.int l7), some (.int l8)] [] h 0 0 := by
  intro n
  induction n with
  | zero => intro l0 l1 l2 l3 l4 l5 l6 l7 l8 h H; cases H
  | succ n ih =>
    intro l0 l1 l2 l3 l4 l5 l6 l7 l8 h H
    rw [f_X9_sendAll_3] at H
    refine aw_iload C dX9_sendAll_3 rfl ?_
    refine aw_aload_n C dX9_sendAll_5 rfl ?_
    obtain ⟨v1, e2, H⟩ := hz_bd H
    refine aw_gI (k := 0) C cl_9 (by decide) wd_662 e2 dX9_sendAll_6 ?_
    refine aw_icmp_ge (tgt := 49) C dX9_sendAll_9 (by decide) (fun c8 => ?_) (fun c8 => ?_)
    · replace H := hz_it c8 H
      cases H
      exact aw_vret C (Nat.zero_le _) (Nat.zero_le _) dX9_sendAll_49
    · replace H := hz_if c8 H
      refine aw_iload C dX9_sendAll_12 rfl ?_
      refine aw_iload_n C dX9_sendAll_14 rfl ?_
      refine aw_icmp_eq (tgt := 43) C dX9_sendAll_15 (by decide) (fun c9 => ?_) (fun c9 => ?_)
      · replace H := hz_it c9 H
        exact k_X9_sendAll_43 hn C (fun _ _ _ _ _ _ _ _ _ _ H => ih _ _ _ _ _ _ _ _ _ _ H) _ _ _ _ _ _ _ _ _ _ H
      · replace H := hz_if c9 H
        refine aw_iload_n C dX9_sendAll_18 rfl ?_
        refine aw_iload C dX9_sendAll_19 rfl ?_
        obtain ⟨p3, e4, H⟩ := hz_bd H
        refine aw_S (As := [.int l2, .int l8]) (rest := []) C hy_X9_has wd_789 wd_788 (c_X9_has _ _ _ _ _  e4) (hz_roi _) rfl rfl (Nat.le_of_ble_eq_true rfl) (by decide) (kc := 0) (ks := 0) rfl rfl (by decide) dX9_sendAll_21 ?_
        refine aw_if_eq (tgt := 43) C dX9_sendAll_24 (by decide) (fun c10 => ?_) (fun c10 => ?_)
        · replace H := hz_it c10 H
          exact k_X9_sendAll_43 hn C (fun _ _ _ _ _ _ _ _ _ _ H => ih _ _ _ _ _ _ _ _ _ _ H) _ _ _ _ _ _ _ _ _ _ H
        · replace H := hz_if c10 H
          refine aw_aload_n C dX9_sendAll_27 rfl ?_
          refine aw_iload_n C dX9_sendAll_28 rfl ?_
          refine aw_iload C dX9_sendAll_29 rfl ?_
          refine aw_iload_n C dX9_sendAll_31 rfl ?_
          refine aw_iload C dX9_sendAll_32 rfl ?_
          refine aw_iload C dX9_sendAll_34 rfl ?_
          refine aw_iload C dX9_sendAll_36 rfl ?_
          refine aw_iload C dX9_sendAll_38 rfl ?_
          obtain ⟨g7, H⟩ := hz_wn H
          obtain ⟨p5, e6, H⟩ := hz_bd H
          refine aw_V (As := [.int l1, .int l8, .int l3, .int l4, .int l5, .int l6, .int l7]) (rest := []) C hy_X9_send hv_X9_send wd_791 cl_9.1 g7 (c_X9_send _ _ _ _ _ _ _ _ _ _  e6) hz_ron rfl rfl (Nat.le_of_ble_eq_true rfl) (by decide) (kc := 0) (ks := 0) rfl rfl (by decide) dX9_sendAll_40 ?_
          exact k_X9_sendAll_43 hn C (fun _ _ _ _ _ _ _ _ _ _ H => ih _ _ _ _ _ _ _ _ _ _ H) _ _ _ _ _ _ _ _ _ _ H
set_option maxRecDepth 100000 in
set_option maxHeartbeats 4000000 in
theorem c_X9_sendAll {l : Launch} (a0 : Option Nat) (a1 : Int32) (a2 : Int32) (a3 : Int32) (a4 : Int32) (a5 : Int32) (a6 : Int32) (a7 : Int32) (h : HP) (h' : HP) (H : f_X9_sendAll a0 a1 a2 a3 a4 a5 a6 a7 h = some h') : Ct l yX9_sendAll cX9_sendAll 9 none rm_X9_sendAll [va_rf a0, .int a1, .int a2, .int a3, .int a4, .int a5, .int a6, .int a7] none h h' := by
  refine Ct.of (plainFor_of_name (by decide)) (hz_s1c (hz_s1c (hz_s1c (hz_s1c (hz_s1c (hz_s1c (hz_s1c (hz_s1c hz_s1n rfl) rfl) rfl) rfl) rfl) rfl) rfl) (hz_cr _)) (Nat.le_of_ble_eq_true rfl) (fun G hl hn C0 => ?_)
  have C : Cx G cX9_sendAll RX9 "sendAll" none rm_X9_sendAll none h' := C0
  subst hl
  show aw G 0 [some (va_rf a0), some (.int a1), some (.int a2), some (.int a3), some (.int a4), some (.int a5), some (.int a6), some (.int a7), none] [] h 0 0
  unfold f_X9_sendAll at H
  refine aw_iconst C dX9_sendAll_0 (v := (nI 0)) (by decide) ?_
  refine aw_istore C dX9_sendAll_1 (by rw [hn]; decide) rfl ?_
  exact k_X9_sendAll_3 hn C  600 _ _ _ _ _ _ _ _ _ _ H
theorem hy_X9_oldest : hz_Y yX9_oldest cX9_oldest 5 (some .int) 2 := ⟨wd_826, wd_66, by decide +kernel, by decide +kernel, by decide +kernel⟩
theorem hv_X9_oldest : hz_YV yX9_oldest := ⟨wd_825, wd_47⟩
def f_X9_oldest_69 (K5 : Option Nat → Int32 → Int32 → Int32 → Int32 → HP → Option (Int32 × HP)) (l0 : Option Nat) (l1 : Int32) (l2 : Int32) (l3 : Int32) (l4 : Int32) (h : HP) : Option (Int32 × HP) :=
  K5 l0 l1 l2 l3 (l4 + (nI 1)) h
def f_X9_oldest_66 (K5 : Option Nat → Int32 → Int32 → Int32 → Int32 → HP → Option (Int32 × HP)) (l0 : Option Nat) (l1 : Int32) (l2 : Int32) (l4 : Int32) (h : HP) : Option (Int32 × HP) :=
  f_X9_oldest_69 K5 l0 l1 l2 l4 l4 h
def f_X9_oldest_5 : Nat → Option Nat → Int32 → Int32 → Int32 → Int32 → HP → Option (Int32 × HP)
  | 0, _, _, _, _, _, _ => none
  | n + 1, l0, l1, l2, l3, l4, h =>
    if (nI 500) ≤ l4 then
      some (l3, h)
    else
      (hz_gR h l0 9 20).bind fun r1 =>
      (hz_aI h r1 1 l4).bind fun v3 =>
      if v3 = 0 then
        f_X9_oldest_69 (f_X9_oldest_5  n) l0 l1 l2 l3 l4 h
      else
        (hz_gR h l0 9 21).bind fun r5 =>
        (hz_aI h r5 0 l4).bind fun v7 =>
        if v7 = l1 then
          (hz_gR h l0 9 22).bind fun r9 =>
          (hz_aI h r9 0 l4).bind fun v11 =>
          if v11 = l2 then
            if l3 = (-1 : Int32) then
              f_X9_oldest_66 (f_X9_oldest_5  n) l0 l1 l2 l4 h
            else
              (hz_gR h l0 9 28).bind fun r13 =>
              (hz_aI h r13 0 l4).bind fun v15 =>
              (hz_gR h l0 9 28).bind fun r17 =>
              (hz_aI h r17 0 l3).bind fun v19 =>
              if v19 ≤ v15 then
                f_X9_oldest_69 (f_X9_oldest_5  n) l0 l1 l2 l3 l4 h
              else
                f_X9_oldest_66 (f_X9_oldest_5  n) l0 l1 l2 l4 h
          else
            f_X9_oldest_69 (f_X9_oldest_5  n) l0 l1 l2 l3 l4 h
        else
          f_X9_oldest_69 (f_X9_oldest_5  n) l0 l1 l2 l3 l4 h
def f_X9_oldest (a0 : Option Nat) (a1 : Int32) (a2 : Int32) (h : HP) : Option (Int32 × HP) :=
  f_X9_oldest_5  600 a0 a1 a2 (-1 : Int32) (nI 0) h
abbrev rm_X9_oldest : Room := { frames := 0, cells := 0, slots := 0, locals := 0 }
set_option maxRecDepth 100000 in
set_option maxHeartbeats 4000000 in
theorem k_X9_oldest_69 {G : GX} {v' : Int32} {h' : HP} (hn : G.2.2.2.2.2.2.2.2.2.2.2.2 = 5) (C : Cx G cX9_oldest RX9 "oldest" (some .int) rm_X9_oldest (some (.int v')) h') {K5 : Option Nat → Int32 → Int32 → Int32 → Int32 → HP → Option (Int32 × HP)} (hK5 : ∀ (l0 : Option Nat) (l1 : Int32) (l2 : Int32) (l3 : Int32) (l4 : Int32) (h : HP), K5 l0 l1 l2 l3 l4 h = some (v', h') → aw G 5 [some (va_rf l0), some (.int l1), some (.int l2), some (.int l3), some (.int l4)] [] h 0 0) (l0 : Option Nat) (l1 : Int32) (l2 : Int32) (l3 : Int32) (l4 : Int32) (h : HP) (H : f_X9_oldest_69 K5 l0 l1 l2 l3 l4 h = some (v', h')) : aw G 69 [some (va_rf l0), some (.int l1), some (.int l2), some (.int l3), some (.int l4)] [] h 0 0 := by
  unfold f_X9_oldest_69 at H
  refine aw_iinc (d := (nI 1)) C dX9_oldest_69 (by rw [hn]; decide) rfl (by decide) rfl ?_
  refine aw_goto (tgt := 5) C dX9_oldest_72 (by decide) ?_
  exact hK5 _ _ _ _ _ _ H
set_option maxRecDepth 100000 in
set_option maxHeartbeats 4000000 in
theorem k_X9_oldest_66 {G : GX} {v' : Int32} {h' : HP} (hn : G.2.2.2.2.2.2.2.2.2.2.2.2 = 5) (C : Cx G cX9_oldest RX9 "oldest" (some .int) rm_X9_oldest (some (.int v')) h') {K5 : Option Nat → Int32 → Int32 → Int32 → Int32 → HP → Option (Int32 × HP)} (hK5 : ∀ (l0 : Option Nat) (l1 : Int32) (l2 : Int32) (l3 : Int32) (l4 : Int32) (h : HP), K5 l0 l1 l2 l3 l4 h = some (v', h') → aw G 5 [some (va_rf l0), some (.int l1), some (.int l2), some (.int l3), some (.int l4)] [] h 0 0) (l0 : Option Nat) (l1 : Int32) (l2 : Int32) (l4 : Int32) (h : HP) (H : f_X9_oldest_66 K5 l0 l1 l2 l4 h = some (v', h')) : aw G 66 [some (va_rf l0), some (.int l1), some (.int l2), none, some (.int l4)] [] h 0 0 := by
  unfold f_X9_oldest_66 at H
  refine aw_iload C dX9_oldest_66 rfl ?_
  refine aw_istore_n C dX9_oldest_68 (by rw [hn]; decide) rfl ?_
  exact k_X9_oldest_69 hn C hK5 _ _ _ _ _ _ H
set_option maxRecDepth 100000 in
set_option maxHeartbeats 4000000 in
theorem k_X9_oldest_5 {G : GX} {v' : Int32} {h' : HP} (hn : G.2.2.2.2.2.2.2.2.2.2.2.2 = 5) (C : Cx G cX9_oldest RX9 "oldest" (some .int) rm_X9_oldest (some (.int v')) h') : ∀ (n : Nat) (l0 : Option Nat) (l1 : Int32) (l2 : Int32) (l3 : Int32) (l4 : Int32) (h : HP), f_X9_oldest_5  n l0 l1 l2 l3 l4 h = some (v', h') → aw G 5 [some (va_rf l0), some (.int l1), some (.int l2), some (.int l3), some (.int l4)] [] h 0 0 := by
  intro n
  induction n with
  | zero => intro l0 l1 l2 l3 l4 h H; cases H
  | succ n ih =>
    intro l0 l1 l2 l3 l4 h H
    rw [f_X9_oldest_5] at H
    refine aw_iload C dX9_oldest_5 rfl ?_
    refine aw_sipush C dX9_oldest_7 (v := (nI 500)) (by decide) ?_
    refine aw_icmp_ge (tgt := 75) C dX9_oldest_10 (by decide) (fun c21 => ?_) (fun c21 => ?_)
    · replace H := hz_it c21 H
      refine aw_iload_n C dX9_oldest_75 rfl ?_
      cases H
      exact aw_iret C (Nat.zero_le _) (Nat.zero_le _) dX9_oldest_76
    · replace H := hz_if c21 H
      refine aw_aload_n C dX9_oldest_13 rfl ?_
      obtain ⟨r1, e2, H⟩ := hz_bd H
      refine aw_gR (k := 20) C cl_9 (by decide) wd_682 e2 dX9_oldest_14 ?_
      refine aw_iload C dX9_oldest_17 rfl ?_
      obtain ⟨v3, e4, H⟩ := hz_bd H
      refine aw_bald C e4 dX9_oldest_19 ?_
      refine aw_if_eq (tgt := 69) C dX9_oldest_20 (by decide) (fun c22 => ?_) (fun c22 => ?_)
      · replace H := hz_it c22 H
        exact k_X9_oldest_69 hn C (fun _ _ _ _ _ _ H => ih _ _ _ _ _ _ H) _ _ _ _ _ _ H
      · replace H := hz_if c22 H
        refine aw_aload_n C dX9_oldest_23 rfl ?_
        obtain ⟨r5, e6, H⟩ := hz_bd H
        refine aw_gR (k := 21) C cl_9 (by decide) wd_683 e6 dX9_oldest_24 ?_
        refine aw_iload C dX9_oldest_27 rfl ?_
        obtain ⟨v7, e8, H⟩ := hz_bd H
        refine aw_iald C e8 dX9_oldest_29 ?_
        refine aw_iload_n C dX9_oldest_30 rfl ?_
        refine aw_icmp_ne (tgt := 69) C dX9_oldest_31 (by decide) (fun c23 => ?_) (fun c23 => ?_)
        · replace H := hz_if c23 H
          exact k_X9_oldest_69 hn C (fun _ _ _ _ _ _ H => ih _ _ _ _ _ _ H) _ _ _ _ _ _ H
        · replace H := hz_it c23 H
          refine aw_aload_n C dX9_oldest_34 rfl ?_
          obtain ⟨r9, e10, H⟩ := hz_bd H
          refine aw_gR (k := 22) C cl_9 (by decide) wd_684 e10 dX9_oldest_35 ?_
          refine aw_iload C dX9_oldest_38 rfl ?_
          obtain ⟨v11, e12, H⟩ := hz_bd H
          refine aw_iald C e12 dX9_oldest_40 ?_
          refine aw_iload_n C dX9_oldest_41 rfl ?_
          refine aw_icmp_ne (tgt := 69) C dX9_oldest_42 (by decide) (fun c24 => ?_) (fun c24 => ?_)
          · replace H := hz_if c24 H
            exact k_X9_oldest_69 hn C (fun _ _ _ _ _ _ H => ih _ _ _ _ _ _ H) _ _ _ _ _ _ H
          · replace H := hz_it c24 H
            refine aw_iload_n C dX9_oldest_45 rfl ?_
            refine aw_iconst C dX9_oldest_46 (v := (-1)) (by decide) ?_
            refine aw_icmp_eq (tgt := 66) C dX9_oldest_47 (by decide) (fun c25 => ?_) (fun c25 => ?_)
            · replace H := hz_it c25 H
              exact aw_loc (hz_sub_s (hz_sub_s (hz_sub_s (hz_sub_n (hz_sub_s hz_sub_0))))) (k_X9_oldest_66 hn C (fun _ _ _ _ _ _ H => ih _ _ _ _ _ _ H) _ _ _ _ _ H)
            · replace H := hz_if c25 H
              refine aw_aload_n C dX9_oldest_50 rfl ?_
              obtain ⟨r13, e14, H⟩ := hz_bd H
              refine aw_gR (k := 28) C cl_9 (by decide) wd_690 e14 dX9_oldest_51 ?_
              refine aw_iload C dX9_oldest_54 rfl ?_
              obtain ⟨v15, e16, H⟩ := hz_bd H
              refine aw_iald C e16 dX9_oldest_56 ?_
              refine aw_aload_n C dX9_oldest_57 rfl ?_
              obtain ⟨r17, e18, H⟩ := hz_bd H
              refine aw_gR (k := 28) C cl_9 (by decide) wd_690 e18 dX9_oldest_58 ?_
              refine aw_iload_n C dX9_oldest_61 rfl ?_
              obtain ⟨v19, e20, H⟩ := hz_bd H
              refine aw_iald C e20 dX9_oldest_62 ?_
              refine aw_icmp_ge (tgt := 69) C dX9_oldest_63 (by decide) (fun c26 => ?_) (fun c26 => ?_)
              · replace H := hz_it c26 H
                exact k_X9_oldest_69 hn C (fun _ _ _ _ _ _ H => ih _ _ _ _ _ _ H) _ _ _ _ _ _ H
              · replace H := hz_if c26 H
                exact aw_loc (hz_sub_s (hz_sub_s (hz_sub_s (hz_sub_n (hz_sub_s hz_sub_0))))) (k_X9_oldest_66 hn C (fun _ _ _ _ _ _ H => ih _ _ _ _ _ _ H) _ _ _ _ _ H)
set_option maxRecDepth 100000 in
set_option maxHeartbeats 4000000 in
theorem c_X9_oldest {l : Launch} (a0 : Option Nat) (a1 : Int32) (a2 : Int32) (h : HP) (v' : Int32) (h' : HP) (H : f_X9_oldest a0 a1 a2 h = some (v', h')) : Ct l yX9_oldest cX9_oldest 5 (some .int) rm_X9_oldest [va_rf a0, .int a1, .int a2] (some (.int v')) h h' := by
  refine Ct.of (plainFor_of_name (by decide)) (hz_s1c (hz_s1c (hz_s1c hz_s1n rfl) rfl) (hz_cr _)) (Nat.le_of_ble_eq_true rfl) (fun G hl hn C0 => ?_)
  have C : Cx G cX9_oldest RX9 "oldest" (some .int) rm_X9_oldest (some (.int v')) h' := C0
  subst hl
  show aw G 0 [some (va_rf a0), some (.int a1), some (.int a2), none, none] [] h 0 0
  unfold f_X9_oldest at H
  refine aw_iconst C dX9_oldest_0 (v := (-1)) (by decide) ?_
  refine aw_istore_n C dX9_oldest_1 (by rw [hn]; decide) rfl ?_
  refine aw_iconst C dX9_oldest_2 (v := (nI 0)) (by decide) ?_
  refine aw_istore C dX9_oldest_3 (by rw [hn]; decide) rfl ?_
  exact k_X9_oldest_5 hn C  600 _ _ _ _ _ _ H
theorem hy_X9_push : hz_Y yX9_push cX9_push 3 none 2 := ⟨wd_818, wd_66, by decide +kernel, by decide +kernel, by decide +kernel⟩
theorem hv_X9_push : hz_YV yX9_push := ⟨wd_817, wd_46⟩
def f_X9_push (a0 : Option Nat) (a1 : Int32) (a2 : Int32) (h : HP) : Option HP :=
  (hz_gR h a0 9 18).bind fun r1 =>
  (hz_gR h a0 9 19).bind fun r3 =>
  (hz_aI h r3 0 a1).bind fun v5 =>
  (hz_aS h r1 0 (((nI 20) * a1) + v5) a2).bind fun h7 =>
  (hz_gR h7 a0 9 19).bind fun r9 =>
  (hz_aI h7 r9 0 a1).bind fun v11 =>
  (hz_aS h7 r9 0 a1 (v11 + (nI 1))).bind fun h13 =>
  some h13
abbrev rm_X9_push : Room := { frames := 0, cells := 0, slots := 0, locals := 0 }
set_option maxRecDepth 100000 in
set_option maxHeartbeats 4000000 in
theorem c_X9_push {l : Launch} (a0 : Option Nat) (a1 : Int32) (a2 : Int32) (h : HP) (h' : HP) (H : f_X9_push a0 a1 a2 h = some h') : Ct l yX9_push cX9_push 3 none rm_X9_push [va_rf a0, .int a1, .int a2] none h h' := by
  refine Ct.of (plainFor_of_name (by decide)) (hz_s1c (hz_s1c (hz_s1c hz_s1n rfl) rfl) (hz_cr _)) (Nat.le_of_ble_eq_true rfl) (fun G hl hn C0 => ?_)
  have C : Cx G cX9_push RX9 "push" none rm_X9_push none h' := C0
  subst hl
  show aw G 0 [some (va_rf a0), some (.int a1), some (.int a2)] [] h 0 0
  unfold f_X9_push at H
  refine aw_aload_n C dX9_push_0 rfl ?_
  obtain ⟨r1, e2, H⟩ := hz_bd H
  refine aw_gR (k := 18) C cl_9 (by decide) wd_680 e2 dX9_push_1 ?_
  refine aw_bipush C dX9_push_4 (v := (nI 20)) (by decide) ?_
  refine aw_iload_n C dX9_push_6 rfl ?_
  refine aw_imul C dX9_push_7 ?_
  refine aw_aload_n C dX9_push_8 rfl ?_
  obtain ⟨r3, e4, H⟩ := hz_bd H
  refine aw_gR (k := 19) C cl_9 (by decide) wd_681 e4 dX9_push_9 ?_
  refine aw_iload_n C dX9_push_12 rfl ?_
  obtain ⟨v5, e6, H⟩ := hz_bd H
  refine aw_iald C e6 dX9_push_13 ?_
  refine aw_iadd C dX9_push_14 ?_
  refine aw_iload_n C dX9_push_15 rfl ?_
  obtain ⟨h7, e8, H⟩ := hz_bd H
  refine aw_iast C e8 dX9_push_16 ?_
  refine aw_aload_n C dX9_push_17 rfl ?_
  obtain ⟨r9, e10, H⟩ := hz_bd H
  refine aw_gR (k := 19) C cl_9 (by decide) wd_681 e10 dX9_push_18 ?_
  refine aw_iload_n C dX9_push_21 rfl ?_
  refine aw_dup2 C dX9_push_22 ?_
  obtain ⟨v11, e12, H⟩ := hz_bd H
  refine aw_iald C e12 dX9_push_23 ?_
  refine aw_iconst C dX9_push_24 (v := (nI 1)) (by decide) ?_
  refine aw_iadd C dX9_push_25 ?_
  obtain ⟨h13, e14, H⟩ := hz_bd H
  refine aw_iast C e14 dX9_push_26 ?_
  cases H
  exact aw_vret C (Nat.zero_le _) (Nat.zero_le _) dX9_push_27
theorem hy_X9_carry : hz_Y yX9_carry cX9_carry 6 none 1 := ⟨wd_814, wd_66, by decide +kernel, by decide +kernel, by decide +kernel⟩
theorem hv_X9_carry : hz_YV yX9_carry := ⟨wd_813, wd_45⟩
def f_X9_carry_297 (h : HP) : Option HP :=
  some h
def f_X9_carry_177 (l0 : Option Nat) (l1 : Int32) (s0 : Option Nat) (s1 : Int32) (s2 : Int32) (h : HP) : Option HP :=
  (hz_aS h s0 0 s1 s2).bind fun h119 =>
  (hz_gR h119 l0 9 19).bind fun r121 =>
  (hz_aI h119 r121 0 l1).bind fun v123 =>
  (hz_aS h119 r121 0 l1 (v123 - (nI 1))).bind fun h125 =>
  f_X9_carry_297   h125
def f_X9_carry (a0 : Option Nat) (a1 : Int32) (h : HP) : Option HP :=
  (hz_gR h a0 9 4).bind fun r1 =>
  (hz_gR h a0 9 6).bind fun r3 =>
  (hz_aI h r3 0 a1).bind fun v5 =>
  (hz_aI h r1 0 (((nI 60) * a1) + v5)).bind fun v7 =>
  (hz_gR h a0 9 6).bind fun r9 =>
  (hz_aI h r9 0 a1).bind fun v11 =>
  (hz_aS h r9 0 a1 (v11 + (nI 1))).bind fun h13 =>
  (hz_gI h13 a0 9 32).bind fun v15 =>
  (hz_pF h13 a0 9 32 (.int (v15 + (nI 1)))).bind fun h17 =>
  (hz_gR h17 a0 9 19).bind fun r19 =>
  (hz_aI h17 r19 0 a1).bind fun v21 =>
  if (v7 &&& (nI 7)) = nI 0 then
    (hz_gR h17 a0 9 19).bind fun r23 =>
    (hz_aI h17 r23 0 a1).bind fun v25 =>
    if (nI 20) ≤ v25 then
      f_X9_carry_297   h17
    else
      if hz_ob h17 a0 9 = true then
      (f_X9_push a0 a1 (v7 >>> ((nI 3) &&& 31)) h17).bind fun p27 =>
      f_X9_carry_297   p27
      else none
  else
  if (v7 &&& (nI 7)) = nI 1 then
    (hz_gR h17 a0 9 19).bind fun r30 =>
    (hz_aI h17 r30 0 a1).bind fun v32 =>
    if (nI 2) ≤ v32 then
      (hz_gR h17 a0 9 18).bind fun r34 =>
      if (v7 &&& (nI 7)) = (nI 1) then
        (hz_gR h17 a0 9 18).bind fun r44 =>
        (hz_aI h17 r44 0 (((((nI 20) * a1) + v21) - (nI 1)) - (nI 1))).bind fun v46 =>
        (hz_gR h17 a0 9 18).bind fun r48 =>
        (hz_aI h17 r48 0 ((((nI 20) * a1) + v21) - (nI 1))).bind fun v50 =>
        f_X9_carry_177  a0 a1 r34 (((((nI 20) * a1) + v21) - (nI 1)) - (nI 1)) (v46 + v50) h17
      else
        (hz_gR h17 a0 9 18).bind fun r36 =>
        (hz_aI h17 r36 0 (((((nI 20) * a1) + v21) - (nI 1)) - (nI 1))).bind fun v38 =>
        (hz_gR h17 a0 9 18).bind fun r40 =>
        (hz_aI h17 r40 0 ((((nI 20) * a1) + v21) - (nI 1))).bind fun v42 =>
        f_X9_carry_177  a0 a1 r34 (((((nI 20) * a1) + v21) - (nI 1)) - (nI 1)) (v38 * v42) h17
    else
      f_X9_carry_297   h17
  else
  if (v7 &&& (nI 7)) = nI 2 then
    (hz_gR h17 a0 9 19).bind fun r52 =>
    (hz_aI h17 r52 0 a1).bind fun v54 =>
    if (nI 2) ≤ v54 then
      (hz_gR h17 a0 9 18).bind fun r56 =>
      if (v7 &&& (nI 7)) = (nI 1) then
        (hz_gR h17 a0 9 18).bind fun r66 =>
        (hz_aI h17 r66 0 (((((nI 20) * a1) + v21) - (nI 1)) - (nI 1))).bind fun v68 =>
        (hz_gR h17 a0 9 18).bind fun r70 =>
        (hz_aI h17 r70 0 ((((nI 20) * a1) + v21) - (nI 1))).bind fun v72 =>
        f_X9_carry_177  a0 a1 r56 (((((nI 20) * a1) + v21) - (nI 1)) - (nI 1)) (v68 + v72) h17
      else
        (hz_gR h17 a0 9 18).bind fun r58 =>
        (hz_aI h17 r58 0 (((((nI 20) * a1) + v21) - (nI 1)) - (nI 1))).bind fun v60 =>
        (hz_gR h17 a0 9 18).bind fun r62 =>
        (hz_aI h17 r62 0 ((((nI 20) * a1) + v21) - (nI 1))).bind fun v64 =>
        f_X9_carry_177  a0 a1 r56 (((((nI 20) * a1) + v21) - (nI 1)) - (nI 1)) (v60 * v64) h17
    else
      f_X9_carry_297   h17
  else
  if (v7 &&& (nI 7)) = nI 3 then
    (hz_gR h17 a0 9 19).bind fun r74 =>
    (hz_aI h17 r74 0 a1).bind fun v76 =>
    if v76 ≤ 0 then
      f_X9_carry_297   h17
    else
      (hz_gR h17 a0 9 19).bind fun r78 =>
      (hz_aI h17 r78 0 a1).bind fun v80 =>
      if (nI 20) ≤ v80 then
        f_X9_carry_297   h17
      else
        (hz_gR h17 a0 9 18).bind fun r82 =>
        (hz_aI h17 r82 0 ((((nI 20) * a1) + v21) - (nI 1))).bind fun v84 =>
        if hz_ob h17 a0 9 = true then
        (f_X9_push a0 a1 v84 h17).bind fun p86 =>
        f_X9_carry_297   p86
        else none
  else
  if (v7 &&& (nI 7)) = nI 4 then
    (hz_gR h17 a0 9 19).bind fun r89 =>
    (hz_aI h17 r89 0 a1).bind fun v91 =>
    if v91 ≤ 0 then
      f_X9_carry_297   h17
    else
      (hz_gR h17 a0 9 19).bind fun r93 =>
      (hz_aI h17 r93 0 a1).bind fun v95 =>
      (hz_aS h17 r93 0 a1 (v95 - (nI 1))).bind fun h97 =>
      f_X9_carry_297   h97
  else
    (hz_gR h17 a0 9 19).bind fun r99 =>
    (hz_aI h17 r99 0 a1).bind fun v101 =>
    if (nI 2) ≤ v101 then
      (hz_gR h17 a0 9 18).bind fun r103 =>
      (hz_aI h17 r103 0 ((((nI 20) * a1) + v21) - (nI 1))).bind fun v105 =>
      (hz_gR h17 a0 9 18).bind fun r107 =>
      (hz_gR h17 a0 9 18).bind fun r109 =>
      (hz_aI h17 r109 0 (((((nI 20) * a1) + v21) - (nI 1)) - (nI 1))).bind fun v111 =>
      (hz_aS h17 r107 0 ((((nI 20) * a1) + v21) - (nI 1)) v111).bind fun h113 =>
      (hz_gR h113 a0 9 18).bind fun r115 =>
      (hz_aS h113 r115 0 (((((nI 20) * a1) + v21) - (nI 1)) - (nI 1)) v105).bind fun h117 =>
      f_X9_carry_297   h117
    else
      f_X9_carry_297   h17
abbrev rm_X9_carry : Room := { frames := 1, cells := 0, slots := 0, locals := 22 }
set_option maxRecDepth 100000 in
set_option maxHeartbeats 4000000 in
theorem k_X9_carry_297 {G : GX} {h' : HP} (hn : G.2.2.2.2.2.2.2.2.2.2.2.2 = 6) (C : Cx G cX9_carry RX9 "carry" none rm_X9_carry none h') (h : HP) (H : f_X9_carry_297   h = some h') : aw G 297 [none, none, none, none, none, none] [] h 0 0 := by
  unfold f_X9_carry_297 at H
  cases H
  exact aw_vret C (Nat.zero_le _) (Nat.zero_le _) dX9_carry_297
set_option maxRecDepth 100000 in
set_option maxHeartbeats 4000000 in
theorem k_X9_carry_177 {G : GX} {h' : HP} (hn : G.2.2.2.2.2.2.2.2.2.2.2.2 = 6) (C : Cx G cX9_carry RX9 "carry" none rm_X9_carry none h') (l0 : Option Nat) (l1 : Int32) (s0 : Option Nat) (s1 : Int32) (s2 : Int32) (h : HP) (H : f_X9_carry_177  l0 l1 s0 s1 s2 h = some h') : aw G 177 [some (va_rf l0), some (.int l1), none, none, none, none] [.int s2, .int s1, va_rf s0] h 0 0 := by
  unfold f_X9_carry_177 at H
  obtain ⟨h119, e120, H⟩ := hz_bd H
  refine aw_iast C e120 dX9_carry_177 ?_
  refine aw_aload_n C dX9_carry_178 rfl ?_
  obtain ⟨r121, e122, H⟩ := hz_bd H
  refine aw_gR (k := 19) C cl_9 (by decide) wd_681 e122 dX9_carry_179 ?_
  refine aw_iload_n C dX9_carry_182 rfl ?_
  refine aw_dup2 C dX9_carry_183 ?_
  obtain ⟨v123, e124, H⟩ := hz_bd H
  refine aw_iald C e124 dX9_carry_184 ?_
  refine aw_iconst C dX9_carry_185 (v := (nI 1)) (by decide) ?_
  refine aw_isub C dX9_carry_186 ?_
  obtain ⟨h125, e126, H⟩ := hz_bd H
  refine aw_iast C e126 dX9_carry_187 ?_
  refine aw_goto (tgt := 297) C dX9_carry_188 (by decide) ?_
  exact aw_loc (hz_sub_n (hz_sub_n (hz_sub_n (hz_sub_n (hz_sub_n (hz_sub_n hz_sub_0)))))) (k_X9_carry_297 hn C  _ H)
set_option maxRecDepth 100000 in
set_option maxHeartbeats 4000000 in
theorem c_X9_carry {l : Launch} (a0 : Option Nat) (a1 : Int32) (h : HP) (h' : HP) (H : f_X9_carry a0 a1 h = some h') : Ct l yX9_carry cX9_carry 6 none rm_X9_carry [va_rf a0, .int a1] none h h' := by
  refine Ct.of (plainFor_of_name (by decide)) (hz_s1c (hz_s1c hz_s1n rfl) (hz_cr _)) (Nat.le_of_ble_eq_true rfl) (fun G hl hn C0 => ?_)
  have C : Cx G cX9_carry RX9 "carry" none rm_X9_carry none h' := C0
  subst hl
  show aw G 0 [some (va_rf a0), some (.int a1), none, none, none, none] [] h 0 0
  unfold f_X9_carry at H
  refine aw_aload_n C dX9_carry_0 rfl ?_
  obtain ⟨r1, e2, H⟩ := hz_bd H
  refine aw_gR (k := 4) C cl_9 (by decide) wd_666 e2 dX9_carry_1 ?_
  refine aw_bipush C dX9_carry_4 (v := (nI 60)) (by decide) ?_
  refine aw_iload_n C dX9_carry_6 rfl ?_
  refine aw_imul C dX9_carry_7 ?_
  refine aw_aload_n C dX9_carry_8 rfl ?_
  obtain ⟨r3, e4, H⟩ := hz_bd H
  refine aw_gR (k := 6) C cl_9 (by decide) wd_668 e4 dX9_carry_9 ?_
  refine aw_iload_n C dX9_carry_12 rfl ?_
  obtain ⟨v5, e6, H⟩ := hz_bd H
  refine aw_iald C e6 dX9_carry_13 ?_
  refine aw_iadd C dX9_carry_14 ?_
  obtain ⟨v7, e8, H⟩ := hz_bd H
  refine aw_iald C e8 dX9_carry_15 ?_
  refine aw_istore_n C dX9_carry_16 (by rw [hn]; decide) rfl ?_
  refine aw_aload_n C dX9_carry_17 rfl ?_
  obtain ⟨r9, e10, H⟩ := hz_bd H
  refine aw_gR (k := 6) C cl_9 (by decide) wd_668 e10 dX9_carry_18 ?_
  refine aw_iload_n C dX9_carry_21 rfl ?_
  refine aw_dup2 C dX9_carry_22 ?_
  obtain ⟨v11, e12, H⟩ := hz_bd H
  refine aw_iald C e12 dX9_carry_23 ?_
  refine aw_iconst C dX9_carry_24 (v := (nI 1)) (by decide) ?_
  refine aw_iadd C dX9_carry_25 ?_
  obtain ⟨h13, e14, H⟩ := hz_bd H
  refine aw_iast C e14 dX9_carry_26 ?_
  refine aw_aload_n C dX9_carry_27 rfl ?_
  refine aw_dup C dX9_carry_28 ?_
  obtain ⟨v15, e16, H⟩ := hz_bd H
  refine aw_gI (k := 32) C cl_9 (by decide) wd_694 e16 dX9_carry_29 ?_
  refine aw_iconst C dX9_carry_32 (v := (nI 1)) (by decide) ?_
  refine aw_iadd C dX9_carry_33 ?_
  obtain ⟨h17, e18, H⟩ := hz_bd H
  refine aw_pF (k := 32) C cl_9 (by decide) rfl wd_694 (hz_fiti _) e18 dX9_carry_34 ?_
  refine aw_iload_n C dX9_carry_37 rfl ?_
  refine aw_bipush C dX9_carry_38 (v := (nI 7)) (by decide) ?_
  refine aw_iand C dX9_carry_40 ?_
  refine aw_istore_n C dX9_carry_41 (by rw [hn]; decide) rfl ?_
  refine aw_bipush C dX9_carry_42 (v := (nI 20)) (by decide) ?_
  refine aw_iload_n C dX9_carry_44 rfl ?_
  refine aw_imul C dX9_carry_45 ?_
  refine aw_aload_n C dX9_carry_46 rfl ?_
  obtain ⟨r19, e20, H⟩ := hz_bd H
  refine aw_gR (k := 19) C cl_9 (by decide) wd_681 e20 dX9_carry_47 ?_
  refine aw_iload_n C dX9_carry_50 rfl ?_
  obtain ⟨v21, e22, H⟩ := hz_bd H
  refine aw_iald C e22 dX9_carry_51 ?_
  refine aw_iadd C dX9_carry_52 ?_
  refine aw_iconst C dX9_carry_53 (v := (nI 1)) (by decide) ?_
  refine aw_isub C dX9_carry_54 ?_
  refine aw_istore C dX9_carry_55 (by rw [hn]; decide) rfl ?_
  refine aw_iload_n C dX9_carry_57 rfl ?_
  by_cases c127 : (v7 &&& (nI 7)) = nI 0
  · replace H := hz_it c127 H
    refine aw_tabI (a := 0) (off := 34) (tgt := 92) C dX9_carry_58 (by rw [c127]; decide) (by decide) (by decide) rfl (by decide) ?_
    refine aw_aload_n C dX9_carry_92 rfl ?_
    obtain ⟨r23, e24, H⟩ := hz_bd H
    refine aw_gR (k := 19) C cl_9 (by decide) wd_681 e24 dX9_carry_93 ?_
    refine aw_iload_n C dX9_carry_96 rfl ?_
    obtain ⟨v25, e26, H⟩ := hz_bd H
    refine aw_iald C e26 dX9_carry_97 ?_
    refine aw_bipush C dX9_carry_98 (v := (nI 20)) (by decide) ?_
    refine aw_icmp_ge (tgt := 297) C dX9_carry_100 (by decide) (fun c128 => ?_) (fun c128 => ?_)
    · replace H := hz_it c128 H
      exact aw_loc (hz_sub_n (hz_sub_n (hz_sub_n (hz_sub_n (hz_sub_n (hz_sub_n hz_sub_0)))))) (k_X9_carry_297 hn C  _ H)
    · replace H := hz_if c128 H
      refine aw_aload_n C dX9_carry_103 rfl ?_
      refine aw_iload_n C dX9_carry_104 rfl ?_
      refine aw_iload_n C dX9_carry_105 rfl ?_
      refine aw_iconst C dX9_carry_106 (v := (nI 3)) (by decide) ?_
      refine aw_ishr C dX9_carry_107 ?_
      obtain ⟨g29, H⟩ := hz_wn H
      obtain ⟨p27, e28, H⟩ := hz_bd H
      refine aw_V (As := [.int a1, .int (v7 >>> ((nI 3) &&& 31))]) (rest := []) C hy_X9_push hv_X9_push wd_815 cl_9.1 g29 (c_X9_push _ _ _ _ _  e28) hz_ron rfl rfl (Nat.le_of_ble_eq_true rfl) (by decide) (kc := 0) (ks := 0) rfl rfl (by decide) dX9_carry_108 ?_
      refine aw_goto (tgt := 297) C dX9_carry_111 (by decide) ?_
      exact aw_loc (hz_sub_n (hz_sub_n (hz_sub_n (hz_sub_n (hz_sub_n (hz_sub_n hz_sub_0)))))) (k_X9_carry_297 hn C  _ H)
  replace H := hz_if c127 H
  by_cases c129 : (v7 &&& (nI 7)) = nI 1
  · replace H := hz_it c129 H
    refine aw_tabI (a := 1) (off := 56) (tgt := 114) C dX9_carry_58 (by rw [c129]; decide) (by decide) (by decide) rfl (by decide) ?_
    refine aw_aload_n C dX9_carry_114 rfl ?_
    obtain ⟨r30, e31, H⟩ := hz_bd H
    refine aw_gR (k := 19) C cl_9 (by decide) wd_681 e31 dX9_carry_115 ?_
    refine aw_iload_n C dX9_carry_118 rfl ?_
    obtain ⟨v32, e33, H⟩ := hz_bd H
    refine aw_iald C e33 dX9_carry_119 ?_
    refine aw_iconst C dX9_carry_120 (v := (nI 2)) (by decide) ?_
    refine aw_icmp_ge (tgt := 127) C dX9_carry_121 (by decide) (fun c130 => ?_) (fun c130 => ?_)
    · replace H := hz_it c130 H
      refine aw_aload_n C dX9_carry_127 rfl ?_
      obtain ⟨r34, e35, H⟩ := hz_bd H
      refine aw_gR (k := 18) C cl_9 (by decide) wd_680 e35 dX9_carry_128 ?_
      refine aw_iload C dX9_carry_131 rfl ?_
      refine aw_iconst C dX9_carry_133 (v := (nI 1)) (by decide) ?_
      refine aw_isub C dX9_carry_134 ?_
      refine aw_iload_n C dX9_carry_135 rfl ?_
      refine aw_iconst C dX9_carry_136 (v := (nI 1)) (by decide) ?_
      refine aw_icmp_ne (tgt := 160) C dX9_carry_137 (by decide) (fun c131 => ?_) (fun c131 => ?_)
      · replace H := hz_if c131 H
        refine aw_aload_n C dX9_carry_160 rfl ?_
        obtain ⟨r36, e37, H⟩ := hz_bd H
        refine aw_gR (k := 18) C cl_9 (by decide) wd_680 e37 dX9_carry_161 ?_
        refine aw_iload C dX9_carry_164 rfl ?_
        refine aw_iconst C dX9_carry_166 (v := (nI 1)) (by decide) ?_
        refine aw_isub C dX9_carry_167 ?_
        obtain ⟨v38, e39, H⟩ := hz_bd H
        refine aw_iald C e39 dX9_carry_168 ?_
        refine aw_aload_n C dX9_carry_169 rfl ?_
        obtain ⟨r40, e41, H⟩ := hz_bd H
        refine aw_gR (k := 18) C cl_9 (by decide) wd_680 e41 dX9_carry_170 ?_
        refine aw_iload C dX9_carry_173 rfl ?_
        obtain ⟨v42, e43, H⟩ := hz_bd H
        refine aw_iald C e43 dX9_carry_175 ?_
        refine aw_imul C dX9_carry_176 ?_
        exact aw_loc (hz_sub_s (hz_sub_s (hz_sub_n (hz_sub_n (hz_sub_n (hz_sub_n hz_sub_0)))))) (k_X9_carry_177 hn C  _ _ _ _ _ _ H)
      · replace H := hz_it c131 H
        refine aw_aload_n C dX9_carry_140 rfl ?_
        obtain ⟨r44, e45, H⟩ := hz_bd H
        refine aw_gR (k := 18) C cl_9 (by decide) wd_680 e45 dX9_carry_141 ?_
        refine aw_iload C dX9_carry_144 rfl ?_
        refine aw_iconst C dX9_carry_146 (v := (nI 1)) (by decide) ?_
        refine aw_isub C dX9_carry_147 ?_
        obtain ⟨v46, e47, H⟩ := hz_bd H
        refine aw_iald C e47 dX9_carry_148 ?_
        refine aw_aload_n C dX9_carry_149 rfl ?_
        obtain ⟨r48, e49, H⟩ := hz_bd H
        refine aw_gR (k := 18) C cl_9 (by decide) wd_680 e49 dX9_carry_150 ?_
        refine aw_iload C dX9_carry_153 rfl ?_
        obtain ⟨v50, e51, H⟩ := hz_bd H
        refine aw_iald C e51 dX9_carry_155 ?_
        refine aw_iadd C dX9_carry_156 ?_
        refine aw_goto (tgt := 177) C dX9_carry_157 (by decide) ?_
        exact aw_loc (hz_sub_s (hz_sub_s (hz_sub_n (hz_sub_n (hz_sub_n (hz_sub_n hz_sub_0)))))) (k_X9_carry_177 hn C  _ _ _ _ _ _ H)
    · replace H := hz_if c130 H
      refine aw_goto (tgt := 297) C dX9_carry_124 (by decide) ?_
      exact aw_loc (hz_sub_n (hz_sub_n (hz_sub_n (hz_sub_n (hz_sub_n (hz_sub_n hz_sub_0)))))) (k_X9_carry_297 hn C  _ H)
  replace H := hz_if c129 H
  by_cases c132 : (v7 &&& (nI 7)) = nI 2
  · replace H := hz_it c132 H
    refine aw_tabI (a := 2) (off := 56) (tgt := 114) C dX9_carry_58 (by rw [c132]; decide) (by decide) (by decide) rfl (by decide) ?_
    refine aw_aload_n C dX9_carry_114 rfl ?_
    obtain ⟨r52, e53, H⟩ := hz_bd H
    refine aw_gR (k := 19) C cl_9 (by decide) wd_681 e53 dX9_carry_115 ?_
    refine aw_iload_n C dX9_carry_118 rfl ?_
    obtain ⟨v54, e55, H⟩ := hz_bd H
    refine aw_iald C e55 dX9_carry_119 ?_
    refine aw_iconst C dX9_carry_120 (v := (nI 2)) (by decide) ?_
    refine aw_icmp_ge (tgt := 127) C dX9_carry_121 (by decide) (fun c133 => ?_) (fun c133 => ?_)
    · replace H := hz_it c133 H
      refine aw_aload_n C dX9_carry_127 rfl ?_
      obtain ⟨r56, e57, H⟩ := hz_bd H
      refine aw_gR (k := 18) C cl_9 (by decide) wd_680 e57 dX9_carry_128 ?_
      refine aw_iload C dX9_carry_131 rfl ?_
      refine aw_iconst C dX9_carry_133 (v := (nI 1)) (by decide) ?_
      refine aw_isub C dX9_carry_134 ?_
      refine aw_iload_n C dX9_carry_135 rfl ?_
      refine aw_iconst C dX9_carry_136 (v := (nI 1)) (by decide) ?_
      refine aw_icmp_ne (tgt := 160) C dX9_carry_137 (by decide) (fun c134 => ?_) (fun c134 => ?_)
      · replace H := hz_if c134 H
        refine aw_aload_n C dX9_carry_160 rfl ?_
        obtain ⟨r58, e59, H⟩ := hz_bd H
        refine aw_gR (k := 18) C cl_9 (by decide) wd_680 e59 dX9_carry_161 ?_
        refine aw_iload C dX9_carry_164 rfl ?_
        refine aw_iconst C dX9_carry_166 (v := (nI 1)) (by decide) ?_
        refine aw_isub C dX9_carry_167 ?_
        obtain ⟨v60, e61, H⟩ := hz_bd H
        refine aw_iald C e61 dX9_carry_168 ?_
        refine aw_aload_n C dX9_carry_169 rfl ?_
        obtain ⟨r62, e63, H⟩ := hz_bd H
        refine aw_gR (k := 18) C cl_9 (by decide) wd_680 e63 dX9_carry_170 ?_
        refine aw_iload C dX9_carry_173 rfl ?_
        obtain ⟨v64, e65, H⟩ := hz_bd H
        refine aw_iald C e65 dX9_carry_175 ?_
        refine aw_imul C dX9_carry_176 ?_
        exact aw_loc (hz_sub_s (hz_sub_s (hz_sub_n (hz_sub_n (hz_sub_n (hz_sub_n hz_sub_0)))))) (k_X9_carry_177 hn C  _ _ _ _ _ _ H)
      · replace H := hz_it c134 H
        refine aw_aload_n C dX9_carry_140 rfl ?_
        obtain ⟨r66, e67, H⟩ := hz_bd H
        refine aw_gR (k := 18) C cl_9 (by decide) wd_680 e67 dX9_carry_141 ?_
        refine aw_iload C dX9_carry_144 rfl ?_
        refine aw_iconst C dX9_carry_146 (v := (nI 1)) (by decide) ?_
        refine aw_isub C dX9_carry_147 ?_
        obtain ⟨v68, e69, H⟩ := hz_bd H
        refine aw_iald C e69 dX9_carry_148 ?_
        refine aw_aload_n C dX9_carry_149 rfl ?_
        obtain ⟨r70, e71, H⟩ := hz_bd H
        refine aw_gR (k := 18) C cl_9 (by decide) wd_680 e71 dX9_carry_150 ?_
        refine aw_iload C dX9_carry_153 rfl ?_
        obtain ⟨v72, e73, H⟩ := hz_bd H
        refine aw_iald C e73 dX9_carry_155 ?_
        refine aw_iadd C dX9_carry_156 ?_
        refine aw_goto (tgt := 177) C dX9_carry_157 (by decide) ?_
        exact aw_loc (hz_sub_s (hz_sub_s (hz_sub_n (hz_sub_n (hz_sub_n (hz_sub_n hz_sub_0)))))) (k_X9_carry_177 hn C  _ _ _ _ _ _ H)
    · replace H := hz_if c133 H
      refine aw_goto (tgt := 297) C dX9_carry_124 (by decide) ?_
      exact aw_loc (hz_sub_n (hz_sub_n (hz_sub_n (hz_sub_n (hz_sub_n (hz_sub_n hz_sub_0)))))) (k_X9_carry_297 hn C  _ H)
  replace H := hz_if c132 H
  by_cases c135 : (v7 &&& (nI 7)) = nI 3
  · replace H := hz_it c135 H
    refine aw_tabI (a := 3) (off := 133) (tgt := 191) C dX9_carry_58 (by rw [c135]; decide) (by decide) (by decide) rfl (by decide) ?_
    refine aw_aload_n C dX9_carry_191 rfl ?_
    obtain ⟨r74, e75, H⟩ := hz_bd H
    refine aw_gR (k := 19) C cl_9 (by decide) wd_681 e75 dX9_carry_192 ?_
    refine aw_iload_n C dX9_carry_195 rfl ?_
    obtain ⟨v76, e77, H⟩ := hz_bd H
    refine aw_iald C e77 dX9_carry_196 ?_
    refine aw_if_le (tgt := 297) C dX9_carry_197 (by decide) (fun c136 => ?_) (fun c136 => ?_)
    · replace H := hz_it c136 H
      exact aw_loc (hz_sub_n (hz_sub_n (hz_sub_n (hz_sub_n (hz_sub_n (hz_sub_n hz_sub_0)))))) (k_X9_carry_297 hn C  _ H)
    · replace H := hz_if c136 H
      refine aw_aload_n C dX9_carry_200 rfl ?_
      obtain ⟨r78, e79, H⟩ := hz_bd H
      refine aw_gR (k := 19) C cl_9 (by decide) wd_681 e79 dX9_carry_201 ?_
      refine aw_iload_n C dX9_carry_204 rfl ?_
      obtain ⟨v80, e81, H⟩ := hz_bd H
      refine aw_iald C e81 dX9_carry_205 ?_
      refine aw_bipush C dX9_carry_206 (v := (nI 20)) (by decide) ?_
      refine aw_icmp_ge (tgt := 297) C dX9_carry_208 (by decide) (fun c137 => ?_) (fun c137 => ?_)
      · replace H := hz_it c137 H
        exact aw_loc (hz_sub_n (hz_sub_n (hz_sub_n (hz_sub_n (hz_sub_n (hz_sub_n hz_sub_0)))))) (k_X9_carry_297 hn C  _ H)
      · replace H := hz_if c137 H
        refine aw_aload_n C dX9_carry_211 rfl ?_
        refine aw_iload_n C dX9_carry_212 rfl ?_
        refine aw_aload_n C dX9_carry_213 rfl ?_
        obtain ⟨r82, e83, H⟩ := hz_bd H
        refine aw_gR (k := 18) C cl_9 (by decide) wd_680 e83 dX9_carry_214 ?_
        refine aw_iload C dX9_carry_217 rfl ?_
        obtain ⟨v84, e85, H⟩ := hz_bd H
        refine aw_iald C e85 dX9_carry_219 ?_
        obtain ⟨g88, H⟩ := hz_wn H
        obtain ⟨p86, e87, H⟩ := hz_bd H
        refine aw_V (As := [.int a1, .int v84]) (rest := []) C hy_X9_push hv_X9_push wd_815 cl_9.1 g88 (c_X9_push _ _ _ _ _  e87) hz_ron rfl rfl (Nat.le_of_ble_eq_true rfl) (by decide) (kc := 0) (ks := 0) rfl rfl (by decide) dX9_carry_220 ?_
        refine aw_goto (tgt := 297) C dX9_carry_223 (by decide) ?_
        exact aw_loc (hz_sub_n (hz_sub_n (hz_sub_n (hz_sub_n (hz_sub_n (hz_sub_n hz_sub_0)))))) (k_X9_carry_297 hn C  _ H)
  replace H := hz_if c135 H
  by_cases c138 : (v7 &&& (nI 7)) = nI 4
  · replace H := hz_it c138 H
    refine aw_tabI (a := 4) (off := 168) (tgt := 226) C dX9_carry_58 (by rw [c138]; decide) (by decide) (by decide) rfl (by decide) ?_
    refine aw_aload_n C dX9_carry_226 rfl ?_
    obtain ⟨r89, e90, H⟩ := hz_bd H
    refine aw_gR (k := 19) C cl_9 (by decide) wd_681 e90 dX9_carry_227 ?_
    refine aw_iload_n C dX9_carry_230 rfl ?_
    obtain ⟨v91, e92, H⟩ := hz_bd H
    refine aw_iald C e92 dX9_carry_231 ?_
    refine aw_if_le (tgt := 297) C dX9_carry_232 (by decide) (fun c139 => ?_) (fun c139 => ?_)
    · replace H := hz_it c139 H
      exact aw_loc (hz_sub_n (hz_sub_n (hz_sub_n (hz_sub_n (hz_sub_n (hz_sub_n hz_sub_0)))))) (k_X9_carry_297 hn C  _ H)
    · replace H := hz_if c139 H
      refine aw_aload_n C dX9_carry_235 rfl ?_
      obtain ⟨r93, e94, H⟩ := hz_bd H
      refine aw_gR (k := 19) C cl_9 (by decide) wd_681 e94 dX9_carry_236 ?_
      refine aw_iload_n C dX9_carry_239 rfl ?_
      refine aw_dup2 C dX9_carry_240 ?_
      obtain ⟨v95, e96, H⟩ := hz_bd H
      refine aw_iald C e96 dX9_carry_241 ?_
      refine aw_iconst C dX9_carry_242 (v := (nI 1)) (by decide) ?_
      refine aw_isub C dX9_carry_243 ?_
      obtain ⟨h97, e98, H⟩ := hz_bd H
      refine aw_iast C e98 dX9_carry_244 ?_
      refine aw_goto (tgt := 297) C dX9_carry_245 (by decide) ?_
      exact aw_loc (hz_sub_n (hz_sub_n (hz_sub_n (hz_sub_n (hz_sub_n (hz_sub_n hz_sub_0)))))) (k_X9_carry_297 hn C  _ H)
  replace H := hz_if c138 H
  refine aw_tabO (tgt := 248) C dX9_carry_58 (by have z0 := lv_neT (a := 0) c127 rfl; have z1 := lv_neT (a := 1) c129 rfl; have z2 := lv_neT (a := 2) c132 rfl; have z3 := lv_neT (a := 3) c135 rfl; have z4 := lv_neT (a := 4) c138 rfl; omega) (by decide) ?_
  refine aw_aload_n C dX9_carry_248 rfl ?_
  obtain ⟨r99, e100, H⟩ := hz_bd H
  refine aw_gR (k := 19) C cl_9 (by decide) wd_681 e100 dX9_carry_249 ?_
  refine aw_iload_n C dX9_carry_252 rfl ?_
  obtain ⟨v101, e102, H⟩ := hz_bd H
  refine aw_iald C e102 dX9_carry_253 ?_
  refine aw_iconst C dX9_carry_254 (v := (nI 2)) (by decide) ?_
  refine aw_icmp_ge (tgt := 261) C dX9_carry_255 (by decide) (fun c140 => ?_) (fun c140 => ?_)
  · replace H := hz_it c140 H
    refine aw_aload_n C dX9_carry_261 rfl ?_
    obtain ⟨r103, e104, H⟩ := hz_bd H
    refine aw_gR (k := 18) C cl_9 (by decide) wd_680 e104 dX9_carry_262 ?_
    refine aw_iload C dX9_carry_265 rfl ?_
    obtain ⟨v105, e106, H⟩ := hz_bd H
    refine aw_iald C e106 dX9_carry_267 ?_
    refine aw_istore C dX9_carry_268 (by rw [hn]; decide) rfl ?_
    refine aw_aload_n C dX9_carry_270 rfl ?_
    obtain ⟨r107, e108, H⟩ := hz_bd H
    refine aw_gR (k := 18) C cl_9 (by decide) wd_680 e108 dX9_carry_271 ?_
    refine aw_iload C dX9_carry_274 rfl ?_
    refine aw_aload_n C dX9_carry_276 rfl ?_
    obtain ⟨r109, e110, H⟩ := hz_bd H
    refine aw_gR (k := 18) C cl_9 (by decide) wd_680 e110 dX9_carry_277 ?_
    refine aw_iload C dX9_carry_280 rfl ?_
    refine aw_iconst C dX9_carry_282 (v := (nI 1)) (by decide) ?_
    refine aw_isub C dX9_carry_283 ?_
    obtain ⟨v111, e112, H⟩ := hz_bd H
    refine aw_iald C e112 dX9_carry_284 ?_
    obtain ⟨h113, e114, H⟩ := hz_bd H
    refine aw_iast C e114 dX9_carry_285 ?_
    refine aw_aload_n C dX9_carry_286 rfl ?_
    obtain ⟨r115, e116, H⟩ := hz_bd H
    refine aw_gR (k := 18) C cl_9 (by decide) wd_680 e116 dX9_carry_287 ?_
    refine aw_iload C dX9_carry_290 rfl ?_
    refine aw_iconst C dX9_carry_292 (v := (nI 1)) (by decide) ?_
    refine aw_isub C dX9_carry_293 ?_
    refine aw_iload C dX9_carry_294 rfl ?_
    obtain ⟨h117, e118, H⟩ := hz_bd H
    refine aw_iast C e118 dX9_carry_296 ?_
    exact aw_loc (hz_sub_n (hz_sub_n (hz_sub_n (hz_sub_n (hz_sub_n (hz_sub_n hz_sub_0)))))) (k_X9_carry_297 hn C  _ H)
  · replace H := hz_if c140 H
    refine aw_goto (tgt := 297) C dX9_carry_258 (by decide) ?_
    exact aw_loc (hz_sub_n (hz_sub_n (hz_sub_n (hz_sub_n (hz_sub_n (hz_sub_n hz_sub_0)))))) (k_X9_carry_297 hn C  _ H)
theorem hy_X9_carryTo : hz_Y yX9_carryTo cX9_carryTo 3 none 2 := ⟨wd_810, wd_66, by decide +kernel, by decide +kernel, by decide +kernel⟩
theorem hv_X9_carryTo : hz_YV yX9_carryTo := ⟨wd_809, wd_44⟩
def f_X9_carryTo_33 (h : HP) : Option HP :=
  some h
def f_X9_carryTo_0 : Nat → Option Nat → Int32 → Int32 → HP → Option HP
  | 0, _, _, _, _ => none
  | n + 1, l0, l1, l2, h =>
    (hz_gR h l0 9 6).bind fun r1 =>
    (hz_aI h r1 0 l1).bind fun v3 =>
    if l2 ≤ v3 then
      f_X9_carryTo_33   h
    else
      (hz_gR h l0 9 6).bind fun r5 =>
      (hz_aI h r5 0 l1).bind fun v7 =>
      (hz_gR h l0 9 5).bind fun r9 =>
      (hz_aI h r9 0 l1).bind fun v11 =>
      if v11 ≤ v7 then
        f_X9_carryTo_33   h
      else
        if hz_ob h l0 9 = true then
        (f_X9_carry l0 l1 h).bind fun p13 =>
        f_X9_carryTo_0  n l0 l1 l2 p13
        else none
def f_X9_carryTo (a0 : Option Nat) (a1 : Int32) (a2 : Int32) (h : HP) : Option HP :=
  f_X9_carryTo_0 600 a0 a1 a2 h
abbrev rm_X9_carryTo : Room := { frames := 2, cells := 0, slots := 0, locals := 47 }
set_option maxRecDepth 100000 in
set_option maxHeartbeats 4000000 in
theorem k_X9_carryTo_33 {G : GX} {h' : HP} (hn : G.2.2.2.2.2.2.2.2.2.2.2.2 = 3) (C : Cx G cX9_carryTo RX9 "carryTo" none rm_X9_carryTo none h') (h : HP) (H : f_X9_carryTo_33   h = some h') : aw G 33 [none, none, none] [] h 0 0 := by
  unfold f_X9_carryTo_33 at H
  cases H
  exact aw_vret C (Nat.zero_le _) (Nat.zero_le _) dX9_carryTo_33
set_option maxRecDepth 100000 in
set_option maxHeartbeats 4000000 in
theorem k_X9_carryTo_0 {G : GX} {h' : HP} (hn : G.2.2.2.2.2.2.2.2.2.2.2.2 = 3) (C : Cx G cX9_carryTo RX9 "carryTo" none rm_X9_carryTo none h') : ∀ (n : Nat) (l0 : Option Nat) (l1 : Int32) (l2 : Int32) (h : HP), f_X9_carryTo_0  n l0 l1 l2 h = some h' → aw G 0 [some (va_rf l0), some (.int l1), some (.int l2)] [] h 0 0 := by
  intro n
  induction n with
  | zero => intro l0 l1 l2 h H; cases H
  | succ n ih =>
    intro l0 l1 l2 h H
    rw [f_X9_carryTo_0] at H
    refine aw_aload_n C dX9_carryTo_0 rfl ?_
    obtain ⟨r1, e2, H⟩ := hz_bd H
    refine aw_gR (k := 6) C cl_9 (by decide) wd_668 e2 dX9_carryTo_1 ?_
    refine aw_iload_n C dX9_carryTo_4 rfl ?_
    obtain ⟨v3, e4, H⟩ := hz_bd H
    refine aw_iald C e4 dX9_carryTo_5 ?_
    refine aw_iload_n C dX9_carryTo_6 rfl ?_
    refine aw_icmp_ge (tgt := 33) C dX9_carryTo_7 (by decide) (fun c16 => ?_) (fun c16 => ?_)
    · replace H := hz_it c16 H
      exact aw_loc (hz_sub_n (hz_sub_n (hz_sub_n hz_sub_0))) (k_X9_carryTo_33 hn C  _ H)
    · replace H := hz_if c16 H
      refine aw_aload_n C dX9_carryTo_10 rfl ?_
      obtain ⟨r5, e6, H⟩ := hz_bd H
      refine aw_gR (k := 6) C cl_9 (by decide) wd_668 e6 dX9_carryTo_11 ?_
      refine aw_iload_n C dX9_carryTo_14 rfl ?_
      obtain ⟨v7, e8, H⟩ := hz_bd H
      refine aw_iald C e8 dX9_carryTo_15 ?_
      refine aw_aload_n C dX9_carryTo_16 rfl ?_
      obtain ⟨r9, e10, H⟩ := hz_bd H
      refine aw_gR (k := 5) C cl_9 (by decide) wd_667 e10 dX9_carryTo_17 ?_
      refine aw_iload_n C dX9_carryTo_20 rfl ?_
      obtain ⟨v11, e12, H⟩ := hz_bd H
      refine aw_iald C e12 dX9_carryTo_21 ?_
      refine aw_icmp_ge (tgt := 33) C dX9_carryTo_22 (by decide) (fun c17 => ?_) (fun c17 => ?_)
      · replace H := hz_it c17 H
        exact aw_loc (hz_sub_n (hz_sub_n (hz_sub_n hz_sub_0))) (k_X9_carryTo_33 hn C  _ H)
      · replace H := hz_if c17 H
        refine aw_aload_n C dX9_carryTo_25 rfl ?_
        refine aw_iload_n C dX9_carryTo_26 rfl ?_
        obtain ⟨g15, H⟩ := hz_wn H
        obtain ⟨p13, e14, H⟩ := hz_bd H
        refine aw_V (As := [.int l1]) (rest := []) C hy_X9_carry hv_X9_carry wd_811 cl_9.1 g15 (c_X9_carry _ _ _ _  e14) hz_ron rfl rfl (Nat.le_of_ble_eq_true rfl) (by decide) (kc := 0) (ks := 0) rfl rfl (by decide) dX9_carryTo_27 ?_
        refine aw_goto (tgt := 0) C dX9_carryTo_30 (by decide) ?_
        exact ih _ _ _ _ H
set_option maxRecDepth 100000 in
set_option maxHeartbeats 4000000 in
theorem c_X9_carryTo {l : Launch} (a0 : Option Nat) (a1 : Int32) (a2 : Int32) (h : HP) (h' : HP) (H : f_X9_carryTo a0 a1 a2 h = some h') : Ct l yX9_carryTo cX9_carryTo 3 none rm_X9_carryTo [va_rf a0, .int a1, .int a2] none h h' := by
  refine Ct.of (plainFor_of_name (by decide)) (hz_s1c (hz_s1c (hz_s1c hz_s1n rfl) rfl) (hz_cr _)) (Nat.le_of_ble_eq_true rfl) (fun G hl hn C0 => ?_)
  have C : Cx G cX9_carryTo RX9 "carryTo" none rm_X9_carryTo none h' := C0
  subst hl
  show aw G 0 [some (va_rf a0), some (.int a1), some (.int a2)] [] h 0 0
  unfold f_X9_carryTo at H
  exact k_X9_carryTo_0 hn C 600 _ _ _ _ H
theorem hy_X9_isAct : hz_Y yX9_isAct cX9_isAct 3 (some .boolean) 1 := ⟨wd_779, wd_66, by decide +kernel, by decide +kernel, by decide +kernel⟩
def f_X9_isAct_50 (s0 : Int32) (h : HP) : Option (Int32 × HP) :=
  if s0 &&& 1 = s0 then some (s0, h) else none
def f_X9_isAct_49 (h : HP) : Option (Int32 × HP) :=
  f_X9_isAct_50  (nI 0) h
def f_X9_isAct_31 (h : HP) : Option (Int32 × HP) :=
  f_X9_isAct_50  (nI 0) h
def f_X9_isAct (a0 : Int32) (h : HP) : Option (Int32 × HP) :=
  if (a0 &&& (nI 7)) = 0 then
    if (a0 >>> ((nI 3) &&& 31)) < (-1000 : Int32) then
      f_X9_isAct_31   h
    else
      if (nI 1000) < (a0 >>> ((nI 3) &&& 31)) then
        f_X9_isAct_31   h
      else
        f_X9_isAct_50  (nI 1) h
  else
    if (nI 6) ≤ (a0 &&& (nI 7)) then
      f_X9_isAct_49   h
    else
      if (a0 >>> ((nI 3) &&& 31)) = 0 then
        f_X9_isAct_50  (nI 1) h
      else
        f_X9_isAct_49   h
abbrev rm_X9_isAct : Room := { frames := 0, cells := 0, slots := 0, locals := 0 }
set_option maxRecDepth 100000 in
set_option maxHeartbeats 4000000 in
theorem k_X9_isAct_50 {G : GX} {v' : Int32} {h' : HP} (hn : G.2.2.2.2.2.2.2.2.2.2.2.2 = 3) (C : Cx G cX9_isAct RX9 "isAct" (some .boolean) rm_X9_isAct (some (.int v')) h') (s0 : Int32) (h : HP) (H : f_X9_isAct_50  s0 h = some (v', h')) : aw G 50 [none, none, none] [.int s0] h 0 0 := by
  unfold f_X9_isAct_50 at H
  obtain ⟨gz, H⟩ := hz_wn H
  cases H
  exact aw_zret C gz (Nat.zero_le _) (Nat.zero_le _) dX9_isAct_50
set_option maxRecDepth 100000 in
set_option maxHeartbeats 4000000 in
theorem k_X9_isAct_49 {G : GX} {v' : Int32} {h' : HP} (hn : G.2.2.2.2.2.2.2.2.2.2.2.2 = 3) (C : Cx G cX9_isAct RX9 "isAct" (some .boolean) rm_X9_isAct (some (.int v')) h') (h : HP) (H : f_X9_isAct_49   h = some (v', h')) : aw G 49 [none, none, none] [] h 0 0 := by
  unfold f_X9_isAct_49 at H
  refine aw_iconst C dX9_isAct_49 (v := (nI 0)) (by decide) ?_
  exact k_X9_isAct_50 hn C  _ _ H
set_option maxRecDepth 100000 in
set_option maxHeartbeats 4000000 in
theorem k_X9_isAct_31 {G : GX} {v' : Int32} {h' : HP} (hn : G.2.2.2.2.2.2.2.2.2.2.2.2 = 3) (C : Cx G cX9_isAct RX9 "isAct" (some .boolean) rm_X9_isAct (some (.int v')) h') (h : HP) (H : f_X9_isAct_31   h = some (v', h')) : aw G 31 [none, none, none] [] h 0 0 := by
  unfold f_X9_isAct_31 at H
  refine aw_iconst C dX9_isAct_31 (v := (nI 0)) (by decide) ?_
  refine aw_goto (tgt := 50) C dX9_isAct_32 (by decide) ?_
  exact k_X9_isAct_50 hn C  _ _ H
set_option maxRecDepth 100000 in
set_option maxHeartbeats 4000000 in
theorem c_X9_isAct {l : Launch} (a0 : Int32) (h : HP) (v' : Int32) (h' : HP) (H : f_X9_isAct a0 h = some (v', h')) : Ct l yX9_isAct cX9_isAct 3 (some .boolean) rm_X9_isAct [.int a0] (some (.int v')) h h' := by
  refine Ct.of (plainFor_of_name (by decide)) (hz_s1c hz_s1n rfl) (Nat.le_of_ble_eq_true rfl) (fun G hl hn C0 => ?_)
  have C : Cx G cX9_isAct RX9 "isAct" (some .boolean) rm_X9_isAct (some (.int v')) h' := C0
  subst hl
  show aw G 0 [some (.int a0), none, none] [] h 0 0
  unfold f_X9_isAct at H
  refine aw_iload_n C dX9_isAct_0 rfl ?_
  refine aw_bipush C dX9_isAct_1 (v := (nI 7)) (by decide) ?_
  refine aw_iand C dX9_isAct_3 ?_
  refine aw_istore_n C dX9_isAct_4 (by rw [hn]; decide) rfl ?_
  refine aw_iload_n C dX9_isAct_5 rfl ?_
  refine aw_iconst C dX9_isAct_6 (v := (nI 3)) (by decide) ?_
  refine aw_ishr C dX9_isAct_7 ?_
  refine aw_istore_n C dX9_isAct_8 (by rw [hn]; decide) rfl ?_
  refine aw_iload_n C dX9_isAct_9 rfl ?_
  refine aw_if_ne (tgt := 35) C dX9_isAct_10 (by decide) (fun c1 => ?_) (fun c1 => ?_)
  · replace H := hz_if c1 H
    refine aw_iload_n C dX9_isAct_35 rfl ?_
    refine aw_bipush C dX9_isAct_36 (v := (nI 6)) (by decide) ?_
    refine aw_icmp_ge (tgt := 49) C dX9_isAct_38 (by decide) (fun c2 => ?_) (fun c2 => ?_)
    · replace H := hz_it c2 H
      exact aw_loc (hz_sub_n (hz_sub_n (hz_sub_n hz_sub_0))) (k_X9_isAct_49 hn C  _ H)
    · replace H := hz_if c2 H
      refine aw_iload_n C dX9_isAct_41 rfl ?_
      refine aw_if_ne (tgt := 49) C dX9_isAct_42 (by decide) (fun c3 => ?_) (fun c3 => ?_)
      · replace H := hz_if c3 H
        exact aw_loc (hz_sub_n (hz_sub_n (hz_sub_n hz_sub_0))) (k_X9_isAct_49 hn C  _ H)
      · replace H := hz_it c3 H
        refine aw_iconst C dX9_isAct_45 (v := (nI 1)) (by decide) ?_
        refine aw_goto (tgt := 50) C dX9_isAct_46 (by decide) ?_
        exact aw_loc (hz_sub_n (hz_sub_n (hz_sub_n hz_sub_0))) (k_X9_isAct_50 hn C  _ _ H)
  · replace H := hz_it c1 H
    refine aw_iload_n C dX9_isAct_13 rfl ?_
    refine aw_sipush C dX9_isAct_14 (v := (-1000)) (by decide) ?_
    refine aw_icmp_lt (tgt := 31) C dX9_isAct_17 (by decide) (fun c4 => ?_) (fun c4 => ?_)
    · replace H := hz_it c4 H
      exact aw_loc (hz_sub_n (hz_sub_n (hz_sub_n hz_sub_0))) (k_X9_isAct_31 hn C  _ H)
    · replace H := hz_if c4 H
      refine aw_iload_n C dX9_isAct_20 rfl ?_
      refine aw_sipush C dX9_isAct_21 (v := (nI 1000)) (by decide) ?_
      refine aw_icmp_gt (tgt := 31) C dX9_isAct_24 (by decide) (fun c5 => ?_) (fun c5 => ?_)
      · replace H := hz_it c5 H
        exact aw_loc (hz_sub_n (hz_sub_n (hz_sub_n hz_sub_0))) (k_X9_isAct_31 hn C  _ H)
      · replace H := hz_if c5 H
        refine aw_iconst C dX9_isAct_27 (v := (nI 1)) (by decide) ?_
        refine aw_goto (tgt := 50) C dX9_isAct_28 (by decide) ?_
        exact aw_loc (hz_sub_n (hz_sub_n (hz_sub_n hz_sub_0))) (k_X9_isAct_50 hn C  _ _ H)
theorem hy_X9_look : hz_Y yX9_look cX9_look 6 none 1 := ⟨wd_806, wd_66, by decide +kernel, by decide +kernel, by decide +kernel⟩
theorem hv_X9_look : hz_YV yX9_look := ⟨wd_805, wd_43⟩
def f_X9_look_112 (K28 : Option Nat → Int32 → Int32 → Int32 → HP → Option HP) (l0 : Option Nat) (l1 : Int32) (l2 : Int32) (l3 : Int32) (h : HP) : Option HP :=
  K28 l0 l1 l2 (l3 + (nI 1)) h
def f_X9_look_90 (K28 : Option Nat → Int32 → Int32 → Int32 → HP → Option HP) (K44 : Option Nat → Int32 → Int32 → Int32 → Int32 → Int32 → HP → Option HP) (l0 : Option Nat) (l1 : Int32) (l2 : Int32) (l3 : Int32) (l5 : Int32) (s0 : Int32) (s1 : Int32) (h : HP) : Option HP :=
  K44 l0 l1 l2 l3 (s0 + s1) (l5 + (nI 1)) h
def f_X9_look_89 (K28 : Option Nat → Int32 → Int32 → Int32 → HP → Option HP) (K44 : Option Nat → Int32 → Int32 → Int32 → Int32 → Int32 → HP → Option HP) (l0 : Option Nat) (l1 : Int32) (l2 : Int32) (l3 : Int32) (l5 : Int32) (s0 : Int32) (h : HP) : Option HP :=
  f_X9_look_90 K28 K44 l0 l1 l2 l3 l5 s0 (nI 0) h
def f_X9_look_44 (K28 : Option Nat → Int32 → Int32 → Int32 → HP → Option HP) : Nat → Option Nat → Int32 → Int32 → Int32 → Int32 → Int32 → HP → Option HP
  | 0, _, _, _, _, _, _, _ => none
  | n + 1, l0, l1, l2, l3, l4, l5, h =>
    (hz_gI h l0 9 0).bind fun v35 =>
    if v35 ≤ l5 then
      (hz_gI h l0 9 0).bind fun v37 =>
      if ((nI 2) * l4) ≤ v37 then
        f_X9_look_112 K28 l0 l1 l2 l3 h
      else
        f_X9_look_112 K28 l0 l1 l3 l3 h
    else
      (hz_gR h l0 9 3).bind fun r39 =>
      (hz_aI h r39 0 l1).bind fun v41 =>
      (f_X9_has v41 l5 h).bind fun p43 =>
      if p43.1 = 0 then
        f_X9_look_89 K28 (f_X9_look_44 K28 n) l0 l1 l2 l3 l5 l4 p43.2
      else
        (hz_gR p43.2 l0 9 13).bind fun r45 =>
        (hz_aI p43.2 r45 0 (((nI 7) * l1) + l5)).bind fun v47 =>
        if v47 < l3 then
          f_X9_look_89 K28 (f_X9_look_44 K28 n) l0 l1 l2 l3 l5 l4 p43.2
        else
          f_X9_look_90 K28 (f_X9_look_44 K28 n) l0 l1 l2 l3 l5 l4 (nI 1) p43.2
def f_X9_look_28 : Nat → Option Nat → Int32 → Int32 → Int32 → HP → Option HP
  | 0, _, _, _, _, _ => none
  | n + 1, l0, l1, l2, l3, h =>
    (hz_gR h l0 9 5).bind fun r13 =>
    (hz_aI h r13 0 l1).bind fun v15 =>
    if v15 < l3 then
      (hz_gR h l0 9 6).bind fun r17 =>
      (hz_aI h r17 0 l1).bind fun v19 =>
      if v19 < l2 then
        if hz_ob h l0 9 = true then
        (f_X9_carryTo l0 l1 l2 h).bind fun p21 =>
        (hz_gR p21 l0 9 3).bind fun r24 =>
        (hz_aI p21 r24 0 l1).bind fun v26 =>
        (hz_gR p21 l0 9 2).bind fun r28 =>
        (hz_aI p21 r28 0 l1).bind fun v30 =>
        if hz_ob p21 l0 9 = true then
        (f_X9_sendAll l0 l1 v26 (nI 4) v30 l2 (nI 0) (nI 0) p21).bind fun p32 =>
        some p32
        else none
        else none
      else
        some h
    else
      f_X9_look_44 (f_X9_look_28  n) 600 l0 l1 l2 l3 (nI 0) (nI 0) h
def f_X9_look (a0 : Option Nat) (a1 : Int32) (h : HP) : Option HP :=
  (hz_gR h a0 9 13).bind fun r1 =>
  (hz_gR h a0 9 5).bind fun r3 =>
  (hz_aI h r3 0 a1).bind fun v5 =>
  (hz_aS h r1 0 (((nI 7) * a1) + a1) v5).bind fun h7 =>
  (hz_gR h7 a0 9 6).bind fun r9 =>
  (hz_aI h7 r9 0 a1).bind fun v11 =>
  f_X9_look_28  600 a0 a1 (nI 0) (v11 + (nI 1)) h7
abbrev rm_X9_look : Room := { frames := 3, cells := 0, slots := 0, locals := 69 }
set_option maxRecDepth 100000 in
set_option maxHeartbeats 4000000 in
theorem k_X9_look_112 {G : GX} {h' : HP} (hn : G.2.2.2.2.2.2.2.2.2.2.2.2 = 6) (C : Cx G cX9_look RX9 "look" none rm_X9_look none h') {K28 : Option Nat → Int32 → Int32 → Int32 → HP → Option HP} (hK28 : ∀ (l0 : Option Nat) (l1 : Int32) (l2 : Int32) (l3 : Int32) (h : HP), K28 l0 l1 l2 l3 h = some h' → aw G 28 [some (va_rf l0), some (.int l1), some (.int l2), some (.int l3), none, none] [] h 0 0) (l0 : Option Nat) (l1 : Int32) (l2 : Int32) (l3 : Int32) (h : HP) (H : f_X9_look_112 K28 l0 l1 l2 l3 h = some h') : aw G 112 [some (va_rf l0), some (.int l1), some (.int l2), some (.int l3), none, none] [] h 0 0 := by
  unfold f_X9_look_112 at H
  refine aw_iinc (d := (nI 1)) C dX9_look_112 (by rw [hn]; decide) rfl (by decide) rfl ?_
  refine aw_goto (tgt := 28) C dX9_look_115 (by decide) ?_
  exact hK28 _ _ _ _ _ H
set_option maxRecDepth 100000 in
set_option maxHeartbeats 4000000 in
theorem k_X9_look_90 {G : GX} {h' : HP} (hn : G.2.2.2.2.2.2.2.2.2.2.2.2 = 6) (C : Cx G cX9_look RX9 "look" none rm_X9_look none h') {K28 : Option Nat → Int32 → Int32 → Int32 → HP → Option HP} (hK28 : ∀ (l0 : Option Nat) (l1 : Int32) (l2 : Int32) (l3 : Int32) (h : HP), K28 l0 l1 l2 l3 h = some h' → aw G 28 [some (va_rf l0), some (.int l1), some (.int l2), some (.int l3), none, none] [] h 0 0) {K44 : Option Nat → Int32 → Int32 → Int32 → Int32 → Int32 → HP → Option HP} (hK44 : ∀ (l0 : Option Nat) (l1 : Int32) (l2 : Int32) (l3 : Int32) (l4 : Int32) (l5 : Int32) (h : HP), K44 l0 l1 l2 l3 l4 l5 h = some h' → aw G 44 [some (va_rf l0), some (.int l1), some (.int l2), some (.int l3), some (.int l4), some (.int l5)] [] h 0 0) (l0 : Option Nat) (l1 : Int32) (l2 : Int32) (l3 : Int32) (l5 : Int32) (s0 : Int32) (s1 : Int32) (h : HP) (H : f_X9_look_90 K28 K44 l0 l1 l2 l3 l5 s0 s1 h = some h') : aw G 90 [some (va_rf l0), some (.int l1), some (.int l2), some (.int l3), none, some (.int l5)] [.int s1, .int s0] h 0 0 := by
  unfold f_X9_look_90 at H
  refine aw_iadd C dX9_look_90 ?_
  refine aw_istore C dX9_look_91 (by rw [hn]; decide) rfl ?_
  refine aw_iinc (d := (nI 1)) C dX9_look_93 (by rw [hn]; decide) rfl (by decide) rfl ?_
  refine aw_goto (tgt := 44) C dX9_look_96 (by decide) ?_
  exact hK44 _ _ _ _ _ _ _ H
set_option maxRecDepth 100000 in
set_option maxHeartbeats 4000000 in
theorem k_X9_look_89 {G : GX} {h' : HP} (hn : G.2.2.2.2.2.2.2.2.2.2.2.2 = 6) (C : Cx G cX9_look RX9 "look" none rm_X9_look none h') {K28 : Option Nat → Int32 → Int32 → Int32 → HP → Option HP} (hK28 : ∀ (l0 : Option Nat) (l1 : Int32) (l2 : Int32) (l3 : Int32) (h : HP), K28 l0 l1 l2 l3 h = some h' → aw G 28 [some (va_rf l0), some (.int l1), some (.int l2), some (.int l3), none, none] [] h 0 0) {K44 : Option Nat → Int32 → Int32 → Int32 → Int32 → Int32 → HP → Option HP} (hK44 : ∀ (l0 : Option Nat) (l1 : Int32) (l2 : Int32) (l3 : Int32) (l4 : Int32) (l5 : Int32) (h : HP), K44 l0 l1 l2 l3 l4 l5 h = some h' → aw G 44 [some (va_rf l0), some (.int l1), some (.int l2), some (.int l3), some (.int l4), some (.int l5)] [] h 0 0) (l0 : Option Nat) (l1 : Int32) (l2 : Int32) (l3 : Int32) (l5 : Int32) (s0 : Int32) (h : HP) (H : f_X9_look_89 K28 K44 l0 l1 l2 l3 l5 s0 h = some h') : aw G 89 [some (va_rf l0), some (.int l1), some (.int l2), some (.int l3), none, some (.int l5)] [.int s0] h 0 0 := by
  unfold f_X9_look_89 at H
  refine aw_iconst C dX9_look_89 (v := (nI 0)) (by decide) ?_
  exact k_X9_look_90 hn C hK28 hK44 _ _ _ _ _ _ _ _ H
set_option maxRecDepth 100000 in
set_option maxHeartbeats 4000000 in
theorem k_X9_look_44 {G : GX} {h' : HP} (hn : G.2.2.2.2.2.2.2.2.2.2.2.2 = 6) (C : Cx G cX9_look RX9 "look" none rm_X9_look none h') {K28 : Option Nat → Int32 → Int32 → Int32 → HP → Option HP} (hK28 : ∀ (l0 : Option Nat) (l1 : Int32) (l2 : Int32) (l3 : Int32) (h : HP), K28 l0 l1 l2 l3 h = some h' → aw G 28 [some (va_rf l0), some (.int l1), some (.int l2), some (.int l3), none, none] [] h 0 0) : ∀ (n : Nat) (l0 : Option Nat) (l1 : Int32) (l2 : Int32) (l3 : Int32) (l4 : Int32) (l5 : Int32) (h : HP), f_X9_look_44 K28 n l0 l1 l2 l3 l4 l5 h = some h' → aw G 44 [some (va_rf l0), some (.int l1), some (.int l2), some (.int l3), some (.int l4), some (.int l5)] [] h 0 0 := by
  intro n
  induction n with
  | zero => intro l0 l1 l2 l3 l4 l5 h H; cases H
  | succ n ih =>
    intro l0 l1 l2 l3 l4 l5 h H
    rw [f_X9_look_44] at H
    refine aw_iload C dX9_look_44 rfl ?_
    refine aw_aload_n C dX9_look_46 rfl ?_
    obtain ⟨v35, e36, H⟩ := hz_bd H
    refine aw_gI (k := 0) C cl_9 (by decide) wd_662 e36 dX9_look_47 ?_
    refine aw_icmp_ge (tgt := 99) C dX9_look_50 (by decide) (fun c49 => ?_) (fun c49 => ?_)
    · replace H := hz_it c49 H
      refine aw_iconst C dX9_look_99 (v := (nI 2)) (by decide) ?_
      refine aw_iload C dX9_look_100 rfl ?_
      refine aw_imul C dX9_look_102 ?_
      refine aw_aload_n C dX9_look_103 rfl ?_
      obtain ⟨v37, e38, H⟩ := hz_bd H
      refine aw_gI (k := 0) C cl_9 (by decide) wd_662 e38 dX9_look_104 ?_
      refine aw_icmp_le (tgt := 112) C dX9_look_107 (by decide) (fun c50 => ?_) (fun c50 => ?_)
      · replace H := hz_it c50 H
        exact aw_loc (hz_sub_s (hz_sub_s (hz_sub_s (hz_sub_s (hz_sub_n (hz_sub_n hz_sub_0)))))) (k_X9_look_112 hn C hK28 _ _ _ _ _ H)
      · replace H := hz_if c50 H
        refine aw_iload_n C dX9_look_110 rfl ?_
        refine aw_istore_n C dX9_look_111 (by rw [hn]; decide) rfl ?_
        exact aw_loc (hz_sub_s (hz_sub_s (hz_sub_s (hz_sub_s (hz_sub_n (hz_sub_n hz_sub_0)))))) (k_X9_look_112 hn C hK28 _ _ _ _ _ H)
    · replace H := hz_if c49 H
      refine aw_iload C dX9_look_53 rfl ?_
      refine aw_aload_n C dX9_look_55 rfl ?_
      obtain ⟨r39, e40, H⟩ := hz_bd H
      refine aw_gR (k := 3) C cl_9 (by decide) wd_665 e40 dX9_look_56 ?_
      refine aw_iload_n C dX9_look_59 rfl ?_
      obtain ⟨v41, e42, H⟩ := hz_bd H
      refine aw_iald C e42 dX9_look_60 ?_
      refine aw_iload C dX9_look_61 rfl ?_
      obtain ⟨p43, e44, H⟩ := hz_bd H
      refine aw_S (As := [.int v41, .int l5]) (rest := [.int l4]) C hy_X9_has wd_789 wd_788 (c_X9_has _ _ _ _ _  e44) (hz_roi _) rfl rfl (Nat.le_of_ble_eq_true rfl) (by decide) (kc := 0) (ks := 0) rfl rfl (by decide) dX9_look_63 ?_
      refine aw_if_eq (tgt := 89) C dX9_look_66 (by decide) (fun c51 => ?_) (fun c51 => ?_)
      · replace H := hz_it c51 H
        exact aw_loc (hz_sub_s (hz_sub_s (hz_sub_s (hz_sub_s (hz_sub_n (hz_sub_s hz_sub_0)))))) (k_X9_look_89 hn C hK28 (fun _ _ _ _ _ _ _ H => ih _ _ _ _ _ _ _ H) _ _ _ _ _ _ _ H)
      · replace H := hz_if c51 H
        refine aw_aload_n C dX9_look_69 rfl ?_
        obtain ⟨r45, e46, H⟩ := hz_bd H
        refine aw_gR (k := 13) C cl_9 (by decide) wd_675 e46 dX9_look_70 ?_
        refine aw_bipush C dX9_look_73 (v := (nI 7)) (by decide) ?_
        refine aw_iload_n C dX9_look_75 rfl ?_
        refine aw_imul C dX9_look_76 ?_
        refine aw_iload C dX9_look_77 rfl ?_
        refine aw_iadd C dX9_look_79 ?_
        obtain ⟨v47, e48, H⟩ := hz_bd H
        refine aw_iald C e48 dX9_look_80 ?_
        refine aw_iload_n C dX9_look_81 rfl ?_
        refine aw_icmp_lt (tgt := 89) C dX9_look_82 (by decide) (fun c52 => ?_) (fun c52 => ?_)
        · replace H := hz_it c52 H
          exact aw_loc (hz_sub_s (hz_sub_s (hz_sub_s (hz_sub_s (hz_sub_n (hz_sub_s hz_sub_0)))))) (k_X9_look_89 hn C hK28 (fun _ _ _ _ _ _ _ H => ih _ _ _ _ _ _ _ H) _ _ _ _ _ _ _ H)
        · replace H := hz_if c52 H
          refine aw_iconst C dX9_look_85 (v := (nI 1)) (by decide) ?_
          refine aw_goto (tgt := 90) C dX9_look_86 (by decide) ?_
          exact aw_loc (hz_sub_s (hz_sub_s (hz_sub_s (hz_sub_s (hz_sub_n (hz_sub_s hz_sub_0)))))) (k_X9_look_90 hn C hK28 (fun _ _ _ _ _ _ _ H => ih _ _ _ _ _ _ _ H) _ _ _ _ _ _ _ _ H)
set_option maxRecDepth 100000 in
set_option maxHeartbeats 4000000 in
theorem k_X9_look_28 {G : GX} {h' : HP} (hn : G.2.2.2.2.2.2.2.2.2.2.2.2 = 6) (C : Cx G cX9_look RX9 "look" none rm_X9_look none h') : ∀ (n : Nat) (l0 : Option Nat) (l1 : Int32) (l2 : Int32) (l3 : Int32) (h : HP), f_X9_look_28  n l0 l1 l2 l3 h = some h' → aw G 28 [some (va_rf l0), some (.int l1), some (.int l2), some (.int l3), none, none] [] h 0 0 := by
  intro n
  induction n with
  | zero => intro l0 l1 l2 l3 h H; cases H
  | succ n ih =>
    intro l0 l1 l2 l3 h H
    rw [f_X9_look_28] at H
    refine aw_iload_n C dX9_look_28 rfl ?_
    refine aw_aload_n C dX9_look_29 rfl ?_
    obtain ⟨r13, e14, H⟩ := hz_bd H
    refine aw_gR (k := 5) C cl_9 (by decide) wd_667 e14 dX9_look_30 ?_
    refine aw_iload_n C dX9_look_33 rfl ?_
    obtain ⟨v15, e16, H⟩ := hz_bd H
    refine aw_iald C e16 dX9_look_34 ?_
    refine aw_icmp_gt (tgt := 118) C dX9_look_35 (by decide) (fun c53 => ?_) (fun c53 => ?_)
    · replace H := hz_it c53 H
      refine aw_iload_n C dX9_look_118 rfl ?_
      refine aw_aload_n C dX9_look_119 rfl ?_
      obtain ⟨r17, e18, H⟩ := hz_bd H
      refine aw_gR (k := 6) C cl_9 (by decide) wd_668 e18 dX9_look_120 ?_
      refine aw_iload_n C dX9_look_123 rfl ?_
      obtain ⟨v19, e20, H⟩ := hz_bd H
      refine aw_iald C e20 dX9_look_124 ?_
      refine aw_icmp_gt (tgt := 129) C dX9_look_125 (by decide) (fun c54 => ?_) (fun c54 => ?_)
      · replace H := hz_it c54 H
        refine aw_aload_n C dX9_look_129 rfl ?_
        refine aw_iload_n C dX9_look_130 rfl ?_
        refine aw_iload_n C dX9_look_131 rfl ?_
        obtain ⟨g23, H⟩ := hz_wn H
        obtain ⟨p21, e22, H⟩ := hz_bd H
        refine aw_V (As := [.int l1, .int l2]) (rest := []) C hy_X9_carryTo hv_X9_carryTo wd_807 cl_9.1 g23 (c_X9_carryTo _ _ _ _ _  e22) hz_ron rfl rfl (Nat.le_of_ble_eq_true rfl) (by decide) (kc := 0) (ks := 0) rfl rfl (by decide) dX9_look_132 ?_
        refine aw_aload_n C dX9_look_135 rfl ?_
        refine aw_iload_n C dX9_look_136 rfl ?_
        refine aw_aload_n C dX9_look_137 rfl ?_
        obtain ⟨r24, e25, H⟩ := hz_bd H
        refine aw_gR (k := 3) C cl_9 (by decide) wd_665 e25 dX9_look_138 ?_
        refine aw_iload_n C dX9_look_141 rfl ?_
        obtain ⟨v26, e27, H⟩ := hz_bd H
        refine aw_iald C e27 dX9_look_142 ?_
        refine aw_iconst C dX9_look_143 (v := (nI 4)) (by decide) ?_
        refine aw_aload_n C dX9_look_144 rfl ?_
        obtain ⟨r28, e29, H⟩ := hz_bd H
        refine aw_gR (k := 2) C cl_9 (by decide) wd_664 e29 dX9_look_145 ?_
        refine aw_iload_n C dX9_look_148 rfl ?_
        obtain ⟨v30, e31, H⟩ := hz_bd H
        refine aw_iald C e31 dX9_look_149 ?_
        refine aw_iload_n C dX9_look_150 rfl ?_
        refine aw_iconst C dX9_look_151 (v := (nI 0)) (by decide) ?_
        refine aw_iconst C dX9_look_152 (v := (nI 0)) (by decide) ?_
        obtain ⟨g34, H⟩ := hz_wn H
        obtain ⟨p32, e33, H⟩ := hz_bd H
        refine aw_V (As := [.int l1, .int v26, .int (nI 4), .int v30, .int l2, .int (nI 0), .int (nI 0)]) (rest := []) C hy_X9_sendAll hv_X9_sendAll wd_799 cl_9.1 g34 (c_X9_sendAll _ _ _ _ _ _ _ _ _ _  e33) hz_ron rfl rfl (Nat.le_of_ble_eq_true rfl) (by decide) (kc := 0) (ks := 0) rfl rfl (by decide) dX9_look_153 ?_
        cases H
        exact aw_vret C (Nat.zero_le _) (Nat.zero_le _) dX9_look_156
      · replace H := hz_if c54 H
        cases H
        exact aw_vret C (Nat.zero_le _) (Nat.zero_le _) dX9_look_128
    · replace H := hz_if c53 H
      refine aw_iconst C dX9_look_38 (v := (nI 0)) (by decide) ?_
      refine aw_istore C dX9_look_39 (by rw [hn]; decide) rfl ?_
      refine aw_iconst C dX9_look_41 (v := (nI 0)) (by decide) ?_
      refine aw_istore C dX9_look_42 (by rw [hn]; decide) rfl ?_
      exact k_X9_look_44 hn C (fun _ _ _ _ _ H => ih _ _ _ _ _ H) 600 _ _ _ _ _ _ _ H
set_option maxRecDepth 100000 in
set_option maxHeartbeats 4000000 in
theorem c_X9_look {l : Launch} (a0 : Option Nat) (a1 : Int32) (h : HP) (h' : HP) (H : f_X9_look a0 a1 h = some h') : Ct l yX9_look cX9_look 6 none rm_X9_look [va_rf a0, .int a1] none h h' := by
  refine Ct.of (plainFor_of_name (by decide)) (hz_s1c (hz_s1c hz_s1n rfl) (hz_cr _)) (Nat.le_of_ble_eq_true rfl) (fun G hl hn C0 => ?_)
  have C : Cx G cX9_look RX9 "look" none rm_X9_look none h' := C0
  subst hl
  show aw G 0 [some (va_rf a0), some (.int a1), none, none, none, none] [] h 0 0
  unfold f_X9_look at H
  refine aw_aload_n C dX9_look_0 rfl ?_
  obtain ⟨r1, e2, H⟩ := hz_bd H
  refine aw_gR (k := 13) C cl_9 (by decide) wd_675 e2 dX9_look_1 ?_
  refine aw_bipush C dX9_look_4 (v := (nI 7)) (by decide) ?_
  refine aw_iload_n C dX9_look_6 rfl ?_
  refine aw_imul C dX9_look_7 ?_
  refine aw_iload_n C dX9_look_8 rfl ?_
  refine aw_iadd C dX9_look_9 ?_
  refine aw_aload_n C dX9_look_10 rfl ?_
  obtain ⟨r3, e4, H⟩ := hz_bd H
  refine aw_gR (k := 5) C cl_9 (by decide) wd_667 e4 dX9_look_11 ?_
  refine aw_iload_n C dX9_look_14 rfl ?_
  obtain ⟨v5, e6, H⟩ := hz_bd H
  refine aw_iald C e6 dX9_look_15 ?_
  obtain ⟨h7, e8, H⟩ := hz_bd H
  refine aw_iast C e8 dX9_look_16 ?_
  refine aw_iconst C dX9_look_17 (v := (nI 0)) (by decide) ?_
  refine aw_istore_n C dX9_look_18 (by rw [hn]; decide) rfl ?_
  refine aw_aload_n C dX9_look_19 rfl ?_
  obtain ⟨r9, e10, H⟩ := hz_bd H
  refine aw_gR (k := 6) C cl_9 (by decide) wd_668 e10 dX9_look_20 ?_
  refine aw_iload_n C dX9_look_23 rfl ?_
  obtain ⟨v11, e12, H⟩ := hz_bd H
  refine aw_iald C e12 dX9_look_24 ?_
  refine aw_iconst C dX9_look_25 (v := (nI 1)) (by decide) ?_
  refine aw_iadd C dX9_look_26 ?_
  refine aw_istore_n C dX9_look_27 (by rw [hn]; decide) rfl ?_
  exact k_X9_look_28 hn C  600 _ _ _ _ _ H
theorem hy_X9_add : hz_Y yX9_add cX9_add 4 none 2 := ⟨wd_798, wd_66, by decide +kernel, by decide +kernel, by decide +kernel⟩
theorem hv_X9_add : hz_YV yX9_add := ⟨wd_797, wd_41⟩
def f_X9_add (a0 : Option Nat) (a1 : Int32) (a2 : Int32) (h : HP) : Option HP :=
  (hz_gR h a0 9 5).bind fun r1 =>
  (hz_aI h r1 0 a1).bind fun v3 =>
  (hz_gR h a0 9 4).bind fun r5 =>
  (hz_aS h r5 0 (((nI 60) * a1) + v3) a2).bind fun h7 =>
  (hz_gR h7 a0 9 5).bind fun r9 =>
  (hz_aI h7 r9 0 a1).bind fun v11 =>
  (hz_aS h7 r9 0 a1 (v11 + (nI 1))).bind fun h13 =>
  (hz_gR h13 a0 9 3).bind fun r15 =>
  (hz_aI h13 r15 0 a1).bind fun v17 =>
  (hz_gR h13 a0 9 2).bind fun r19 =>
  (hz_aI h13 r19 0 a1).bind fun v21 =>
  if hz_ob h13 a0 9 = true then
  (f_X9_sendAll a0 a1 v17 (nI 2) v21 v3 (nI 1) a2 h13).bind fun p23 =>
  if hz_ob p23 a0 9 = true then
  (f_X9_look a0 a1 p23).bind fun p26 =>
  some p26
  else none
  else none
abbrev rm_X9_add : Room := { frames := 4, cells := 0, slots := 0, locals := 94 }
set_option maxRecDepth 100000 in
set_option maxHeartbeats 4000000 in
theorem c_X9_add {l : Launch} (a0 : Option Nat) (a1 : Int32) (a2 : Int32) (h : HP) (h' : HP) (H : f_X9_add a0 a1 a2 h = some h') : Ct l yX9_add cX9_add 4 none rm_X9_add [va_rf a0, .int a1, .int a2] none h h' := by
  refine Ct.of (plainFor_of_name (by decide)) (hz_s1c (hz_s1c (hz_s1c hz_s1n rfl) rfl) (hz_cr _)) (Nat.le_of_ble_eq_true rfl) (fun G hl hn C0 => ?_)
  have C : Cx G cX9_add RX9 "add" none rm_X9_add none h' := C0
  subst hl
  show aw G 0 [some (va_rf a0), some (.int a1), some (.int a2), none] [] h 0 0
  unfold f_X9_add at H
  refine aw_aload_n C dX9_add_0 rfl ?_
  obtain ⟨r1, e2, H⟩ := hz_bd H
  refine aw_gR (k := 5) C cl_9 (by decide) wd_667 e2 dX9_add_1 ?_
  refine aw_iload_n C dX9_add_4 rfl ?_
  obtain ⟨v3, e4, H⟩ := hz_bd H
  refine aw_iald C e4 dX9_add_5 ?_
  refine aw_istore_n C dX9_add_6 (by rw [hn]; decide) rfl ?_
  refine aw_aload_n C dX9_add_7 rfl ?_
  obtain ⟨r5, e6, H⟩ := hz_bd H
  refine aw_gR (k := 4) C cl_9 (by decide) wd_666 e6 dX9_add_8 ?_
  refine aw_bipush C dX9_add_11 (v := (nI 60)) (by decide) ?_
  refine aw_iload_n C dX9_add_13 rfl ?_
  refine aw_imul C dX9_add_14 ?_
  refine aw_iload_n C dX9_add_15 rfl ?_
  refine aw_iadd C dX9_add_16 ?_
  refine aw_iload_n C dX9_add_17 rfl ?_
  obtain ⟨h7, e8, H⟩ := hz_bd H
  refine aw_iast C e8 dX9_add_18 ?_
  refine aw_aload_n C dX9_add_19 rfl ?_
  obtain ⟨r9, e10, H⟩ := hz_bd H
  refine aw_gR (k := 5) C cl_9 (by decide) wd_667 e10 dX9_add_20 ?_
  refine aw_iload_n C dX9_add_23 rfl ?_
  refine aw_dup2 C dX9_add_24 ?_
  obtain ⟨v11, e12, H⟩ := hz_bd H
  refine aw_iald C e12 dX9_add_25 ?_
  refine aw_iconst C dX9_add_26 (v := (nI 1)) (by decide) ?_
  refine aw_iadd C dX9_add_27 ?_
  obtain ⟨h13, e14, H⟩ := hz_bd H
  refine aw_iast C e14 dX9_add_28 ?_
  refine aw_aload_n C dX9_add_29 rfl ?_
  refine aw_iload_n C dX9_add_30 rfl ?_
  refine aw_aload_n C dX9_add_31 rfl ?_
  obtain ⟨r15, e16, H⟩ := hz_bd H
  refine aw_gR (k := 3) C cl_9 (by decide) wd_665 e16 dX9_add_32 ?_
  refine aw_iload_n C dX9_add_35 rfl ?_
  obtain ⟨v17, e18, H⟩ := hz_bd H
  refine aw_iald C e18 dX9_add_36 ?_
  refine aw_iconst C dX9_add_37 (v := (nI 2)) (by decide) ?_
  refine aw_aload_n C dX9_add_38 rfl ?_
  obtain ⟨r19, e20, H⟩ := hz_bd H
  refine aw_gR (k := 2) C cl_9 (by decide) wd_664 e20 dX9_add_39 ?_
  refine aw_iload_n C dX9_add_42 rfl ?_
  obtain ⟨v21, e22, H⟩ := hz_bd H
  refine aw_iald C e22 dX9_add_43 ?_
  refine aw_iload_n C dX9_add_44 rfl ?_
  refine aw_iconst C dX9_add_45 (v := (nI 1)) (by decide) ?_
  refine aw_iload_n C dX9_add_46 rfl ?_
  obtain ⟨g25, H⟩ := hz_wn H
  obtain ⟨p23, e24, H⟩ := hz_bd H
  refine aw_V (As := [.int a1, .int v17, .int (nI 2), .int v21, .int v3, .int (nI 1), .int a2]) (rest := []) C hy_X9_sendAll hv_X9_sendAll wd_799 cl_9.1 g25 (c_X9_sendAll _ _ _ _ _ _ _ _ _ _  e24) hz_ron rfl rfl (Nat.le_of_ble_eq_true rfl) (by decide) (kc := 0) (ks := 0) rfl rfl (by decide) dX9_add_47 ?_
  refine aw_aload_n C dX9_add_50 rfl ?_
  refine aw_iload_n C dX9_add_51 rfl ?_
  obtain ⟨g28, H⟩ := hz_wn H
  obtain ⟨p26, e27, H⟩ := hz_bd H
  refine aw_V (As := [.int a1]) (rest := []) C hy_X9_look hv_X9_look wd_803 cl_9.1 g28 (c_X9_look _ _ _ _  e27) hz_ron rfl rfl (Nat.le_of_ble_eq_true rfl) (by decide) (kc := 0) (ks := 0) rfl rfl (by decide) dX9_add_52 ?_
  cases H
  exact aw_vret C (Nat.zero_le _) (Nat.zero_le _) dX9_add_55
theorem hy_X9_submit : hz_Y yX9_submit cX9_submit 4 (some .int) 2 := ⟨wd_772, wd_66, by decide +kernel, by decide +kernel, by decide +kernel⟩
theorem hv_X9_submit : hz_YV yX9_submit := ⟨wd_770, wd_771⟩
def f_X9_submit_15 (h : HP) : Option (Int32 × HP) :=
  some ((-1 : Int32), h)
def f_X9_submit (a0 : Option Nat) (a1 : Int32) (a2 : Int32) (h : HP) : Option (Int32 × HP) :=
  if hz_ob h a0 9 = true then
  (f_X9_isNode a0 a1 h).bind fun p1 =>
  if p1.1 = 0 then
    f_X9_submit_15   p1.2
  else
    (f_X9_isAct a2 p1.2).bind fun p4 =>
    if p4.1 = 0 then
      f_X9_submit_15   p4.2
    else
      (hz_gR p4.2 a0 9 1).bind fun r6 =>
      (hz_aI p4.2 r6 0 a1).bind fun v8 =>
      if v8 = 0 then
        if hz_ob p4.2 a0 9 = true then
        (f_X9_isBlocked a0 a1 p4.2).bind fun p10 =>
        if p10.1 = 0 then
          if hz_ob p10.2 a0 9 = true then
          (f_X9_leader a0 a1 p10.2).bind fun p13 =>
          if p13.1 = a1 then
            (hz_gR p13.2 a0 9 5).bind fun r16 =>
            (hz_aI p13.2 r16 0 a1).bind fun v18 =>
            if v18 = (nI 60) then
              some ((nI 3), p13.2)
            else
              if hz_ob p13.2 a0 9 = true then
              (f_X9_add a0 a1 a2 p13.2).bind fun p20 =>
              some ((nI 1), p20)
              else none
          else
            if hz_ob p13.2 a0 9 = true then
            (f_X9_send a0 a1 p13.1 (nI 1) (nI 0) (nI 0) (nI 1) a2 p13.2).bind fun p23 =>
            some ((nI 1), p23)
            else none
          else none
        else
          some ((nI 2), p10.2)
        else none
      else
        some ((nI 0), p4.2)
  else none
abbrev rm_X9_submit : Room := { frames := 5, cells := 0, slots := 0, locals := 117 }
set_option maxRecDepth 100000 in
set_option maxHeartbeats 4000000 in
theorem k_X9_submit_15 {G : GX} {v' : Int32} {h' : HP} (hn : G.2.2.2.2.2.2.2.2.2.2.2.2 = 4) (C : Cx G cX9_submit RX9 "submit" (some .int) rm_X9_submit (some (.int v')) h') (h : HP) (H : f_X9_submit_15   h = some (v', h')) : aw G 15 [none, none, none, none] [] h 0 0 := by
  unfold f_X9_submit_15 at H
  refine aw_iconst C dX9_submit_15 (v := (-1)) (by decide) ?_
  cases H
  exact aw_iret C (Nat.zero_le _) (Nat.zero_le _) dX9_submit_16
set_option maxRecDepth 100000 in
set_option maxHeartbeats 4000000 in
theorem c_X9_submit {l : Launch} (a0 : Option Nat) (a1 : Int32) (a2 : Int32) (h : HP) (v' : Int32) (h' : HP) (H : f_X9_submit a0 a1 a2 h = some (v', h')) : Ct l yX9_submit cX9_submit 4 (some .int) rm_X9_submit [va_rf a0, .int a1, .int a2] (some (.int v')) h h' := by
  refine Ct.of (plainFor_of_name (by decide)) (hz_s1c (hz_s1c (hz_s1c hz_s1n rfl) rfl) (hz_cr _)) (Nat.le_of_ble_eq_true rfl) (fun G hl hn C0 => ?_)
  have C : Cx G cX9_submit RX9 "submit" (some .int) rm_X9_submit (some (.int v')) h' := C0
  subst hl
  show aw G 0 [some (va_rf a0), some (.int a1), some (.int a2), none] [] h 0 0
  unfold f_X9_submit at H
  refine aw_aload_n C dX9_submit_0 rfl ?_
  refine aw_iload_n C dX9_submit_1 rfl ?_
  obtain ⟨g3, H⟩ := hz_wn H
  obtain ⟨p1, e2, H⟩ := hz_bd H
  refine aw_V (As := [.int a1]) (rest := []) C hy_X9_isNode hv_X9_isNode wd_773 cl_9.1 g3 (c_X9_isNode _ _ _ _ _  e2) (hz_roi _) rfl rfl (Nat.le_of_ble_eq_true rfl) (by decide) (kc := 0) (ks := 0) rfl rfl (by decide) dX9_submit_2 ?_
  refine aw_if_eq (tgt := 15) C dX9_submit_5 (by decide) (fun c26 => ?_) (fun c26 => ?_)
  · replace H := hz_it c26 H
    exact aw_loc (hz_sub_n (hz_sub_n (hz_sub_n (hz_sub_n hz_sub_0)))) (k_X9_submit_15 hn C  _ H)
  · replace H := hz_if c26 H
    refine aw_iload_n C dX9_submit_8 rfl ?_
    obtain ⟨p4, e5, H⟩ := hz_bd H
    refine aw_S (As := [.int a2]) (rest := []) C hy_X9_isAct wd_778 wd_777 (c_X9_isAct _ _ _ _  e5) (hz_roi _) rfl rfl (Nat.le_of_ble_eq_true rfl) (by decide) (kc := 0) (ks := 0) rfl rfl (by decide) dX9_submit_9 ?_
    refine aw_if_ne (tgt := 17) C dX9_submit_12 (by decide) (fun c27 => ?_) (fun c27 => ?_)
    · replace H := hz_if c27 H
      refine aw_aload_n C dX9_submit_17 rfl ?_
      obtain ⟨r6, e7, H⟩ := hz_bd H
      refine aw_gR (k := 1) C cl_9 (by decide) wd_663 e7 dX9_submit_18 ?_
      refine aw_iload_n C dX9_submit_21 rfl ?_
      obtain ⟨v8, e9, H⟩ := hz_bd H
      refine aw_iald C e9 dX9_submit_22 ?_
      refine aw_if_eq (tgt := 28) C dX9_submit_23 (by decide) (fun c28 => ?_) (fun c28 => ?_)
      · replace H := hz_it c28 H
        refine aw_aload_n C dX9_submit_28 rfl ?_
        refine aw_iload_n C dX9_submit_29 rfl ?_
        obtain ⟨g12, H⟩ := hz_wn H
        obtain ⟨p10, e11, H⟩ := hz_bd H
        refine aw_V (As := [.int a1]) (rest := []) C hy_X9_isBlocked hv_X9_isBlocked wd_780 cl_9.1 g12 (c_X9_isBlocked _ _ _ _ _  e11) (hz_roi _) rfl rfl (Nat.le_of_ble_eq_true rfl) (by decide) (kc := 0) (ks := 0) rfl rfl (by decide) dX9_submit_30 ?_
        refine aw_if_eq (tgt := 38) C dX9_submit_33 (by decide) (fun c29 => ?_) (fun c29 => ?_)
        · replace H := hz_it c29 H
          refine aw_aload_n C dX9_submit_38 rfl ?_
          refine aw_iload_n C dX9_submit_39 rfl ?_
          obtain ⟨g15, H⟩ := hz_wn H
          obtain ⟨p13, e14, H⟩ := hz_bd H
          refine aw_V (As := [.int a1]) (rest := []) C hy_X9_leader hv_X9_leader wd_784 cl_9.1 g15 (c_X9_leader _ _ _ _ _  e14) (hz_roi _) rfl rfl (Nat.le_of_ble_eq_true rfl) (by decide) (kc := 0) (ks := 0) rfl rfl (by decide) dX9_submit_40 ?_
          refine aw_istore_n C dX9_submit_43 (by rw [hn]; decide) rfl ?_
          refine aw_iload_n C dX9_submit_44 rfl ?_
          refine aw_iload_n C dX9_submit_45 rfl ?_
          refine aw_icmp_eq (tgt := 62) C dX9_submit_46 (by decide) (fun c30 => ?_) (fun c30 => ?_)
          · replace H := hz_it c30 H
            refine aw_aload_n C dX9_submit_62 rfl ?_
            obtain ⟨r16, e17, H⟩ := hz_bd H
            refine aw_gR (k := 5) C cl_9 (by decide) wd_667 e17 dX9_submit_63 ?_
            refine aw_iload_n C dX9_submit_66 rfl ?_
            obtain ⟨v18, e19, H⟩ := hz_bd H
            refine aw_iald C e19 dX9_submit_67 ?_
            refine aw_bipush C dX9_submit_68 (v := (nI 60)) (by decide) ?_
            refine aw_icmp_ne (tgt := 75) C dX9_submit_70 (by decide) (fun c31 => ?_) (fun c31 => ?_)
            · replace H := hz_if c31 H
              refine aw_aload_n C dX9_submit_75 rfl ?_
              refine aw_iload_n C dX9_submit_76 rfl ?_
              refine aw_iload_n C dX9_submit_77 rfl ?_
              obtain ⟨g22, H⟩ := hz_wn H
              obtain ⟨p20, e21, H⟩ := hz_bd H
              refine aw_V (As := [.int a1, .int a2]) (rest := []) C hy_X9_add hv_X9_add wd_795 cl_9.1 g22 (c_X9_add _ _ _ _ _  e21) hz_ron rfl rfl (Nat.le_of_ble_eq_true rfl) (by decide) (kc := 0) (ks := 0) rfl rfl (by decide) dX9_submit_78 ?_
              refine aw_iconst C dX9_submit_81 (v := (nI 1)) (by decide) ?_
              cases H
              exact aw_iret C (Nat.zero_le _) (Nat.zero_le _) dX9_submit_82
            · replace H := hz_it c31 H
              refine aw_iconst C dX9_submit_73 (v := (nI 3)) (by decide) ?_
              cases H
              exact aw_iret C (Nat.zero_le _) (Nat.zero_le _) dX9_submit_74
          · replace H := hz_if c30 H
            refine aw_aload_n C dX9_submit_49 rfl ?_
            refine aw_iload_n C dX9_submit_50 rfl ?_
            refine aw_iload_n C dX9_submit_51 rfl ?_
            refine aw_iconst C dX9_submit_52 (v := (nI 1)) (by decide) ?_
            refine aw_iconst C dX9_submit_53 (v := (nI 0)) (by decide) ?_
            refine aw_iconst C dX9_submit_54 (v := (nI 0)) (by decide) ?_
            refine aw_iconst C dX9_submit_55 (v := (nI 1)) (by decide) ?_
            refine aw_iload_n C dX9_submit_56 rfl ?_
            obtain ⟨g25, H⟩ := hz_wn H
            obtain ⟨p23, e24, H⟩ := hz_bd H
            refine aw_V (As := [.int a1, .int p13.1, .int (nI 1), .int (nI 0), .int (nI 0), .int (nI 1), .int a2]) (rest := []) C hy_X9_send hv_X9_send wd_791 cl_9.1 g25 (c_X9_send _ _ _ _ _ _ _ _ _ _  e24) hz_ron rfl rfl (Nat.le_of_ble_eq_true rfl) (by decide) (kc := 0) (ks := 0) rfl rfl (by decide) dX9_submit_57 ?_
            refine aw_iconst C dX9_submit_60 (v := (nI 1)) (by decide) ?_
            cases H
            exact aw_iret C (Nat.zero_le _) (Nat.zero_le _) dX9_submit_61
        · replace H := hz_if c29 H
          refine aw_iconst C dX9_submit_36 (v := (nI 2)) (by decide) ?_
          cases H
          exact aw_iret C (Nat.zero_le _) (Nat.zero_le _) dX9_submit_37
      · replace H := hz_if c28 H
        refine aw_iconst C dX9_submit_26 (v := (nI 0)) (by decide) ?_
        cases H
        exact aw_iret C (Nat.zero_le _) (Nat.zero_le _) dX9_submit_27
    · replace H := hz_it c27 H
      exact aw_loc (hz_sub_n (hz_sub_n (hz_sub_n (hz_sub_n hz_sub_0)))) (k_X9_submit_15 hn C  _ H)
theorem hy_X9_begin : hz_Y yX9_begin cX9_begin 5 none 3 := ⟨wd_858, wd_66, by decide +kernel, by decide +kernel, by decide +kernel⟩
theorem hv_X9_begin : hz_YV yX9_begin := ⟨wd_857, wd_55⟩
def f_X9_begin_45 : Nat → Option Nat → Int32 → Int32 → HP → Option HP
  | 0, _, _, _, _ => none
  | n + 1, l0, l1, l4, h =>
    (hz_gI h l0 9 0).bind fun v24 =>
    if v24 ≤ l4 then
      some h
    else
      (hz_gR h l0 9 13).bind fun r26 =>
      (hz_gR h l0 9 5).bind fun r28 =>
      (hz_aI h r28 0 l1).bind fun v30 =>
      (hz_aS h r26 0 (((nI 7) * l1) + l4) v30).bind fun h32 =>
      f_X9_begin_45  n l0 l1 (l4 + (nI 1)) h32
def f_X9_begin (a0 : Option Nat) (a1 : Int32) (a2 : Int32) (a3 : Int32) (h : HP) : Option HP :=
  (hz_gR h a0 9 2).bind fun r1 =>
  (hz_aS h r1 0 a1 a2).bind fun h3 =>
  (hz_gR h3 a0 9 3).bind fun r5 =>
  (hz_aS h3 r5 0 a1 a3).bind fun h7 =>
  (hz_gR h7 a0 9 5).bind fun r9 =>
  (hz_aI h7 r9 0 a1).bind fun v11 =>
  if hz_ob h7 a0 9 = true then
  (f_X9_carryTo a0 a1 v11 h7).bind fun p13 =>
  (hz_gR p13 a0 9 10).bind fun r16 =>
  (hz_aS p13 r16 0 a1 (nI 0)).bind fun h18 =>
  (hz_gI h18 a0 9 33).bind fun v20 =>
  (hz_pF h18 a0 9 33 (.int (v20 + (nI 1)))).bind fun h22 =>
  f_X9_begin_45  600 a0 a1 (nI 0) h22
  else none
abbrev rm_X9_begin : Room := { frames := 3, cells := 0, slots := 0, locals := 69 }
set_option maxRecDepth 100000 in
set_option maxHeartbeats 4000000 in
theorem k_X9_begin_45 {G : GX} {h' : HP} (hn : G.2.2.2.2.2.2.2.2.2.2.2.2 = 5) (C : Cx G cX9_begin RX9 "begin" none rm_X9_begin none h') : ∀ (n : Nat) (l0 : Option Nat) (l1 : Int32) (l4 : Int32) (h : HP), f_X9_begin_45  n l0 l1 l4 h = some h' → aw G 45 [some (va_rf l0), some (.int l1), none, none, some (.int l4)] [] h 0 0 := by
  intro n
  induction n with
  | zero => intro l0 l1 l4 h H; cases H
  | succ n ih =>
    intro l0 l1 l4 h H
    rw [f_X9_begin_45] at H
    refine aw_iload C dX9_begin_45 rfl ?_
    refine aw_aload_n C dX9_begin_47 rfl ?_
    obtain ⟨v24, e25, H⟩ := hz_bd H
    refine aw_gI (k := 0) C cl_9 (by decide) wd_662 e25 dX9_begin_48 ?_
    refine aw_icmp_ge (tgt := 78) C dX9_begin_51 (by decide) (fun c34 => ?_) (fun c34 => ?_)
    · replace H := hz_it c34 H
      cases H
      exact aw_vret C (Nat.zero_le _) (Nat.zero_le _) dX9_begin_78
    · replace H := hz_if c34 H
      refine aw_aload_n C dX9_begin_54 rfl ?_
      obtain ⟨r26, e27, H⟩ := hz_bd H
      refine aw_gR (k := 13) C cl_9 (by decide) wd_675 e27 dX9_begin_55 ?_
      refine aw_bipush C dX9_begin_58 (v := (nI 7)) (by decide) ?_
      refine aw_iload_n C dX9_begin_60 rfl ?_
      refine aw_imul C dX9_begin_61 ?_
      refine aw_iload C dX9_begin_62 rfl ?_
      refine aw_iadd C dX9_begin_64 ?_
      refine aw_aload_n C dX9_begin_65 rfl ?_
      obtain ⟨r28, e29, H⟩ := hz_bd H
      refine aw_gR (k := 5) C cl_9 (by decide) wd_667 e29 dX9_begin_66 ?_
      refine aw_iload_n C dX9_begin_69 rfl ?_
      obtain ⟨v30, e31, H⟩ := hz_bd H
      refine aw_iald C e31 dX9_begin_70 ?_
      obtain ⟨h32, e33, H⟩ := hz_bd H
      refine aw_iast C e33 dX9_begin_71 ?_
      refine aw_iinc (d := (nI 1)) C dX9_begin_72 (by rw [hn]; decide) rfl (by decide) rfl ?_
      refine aw_goto (tgt := 45) C dX9_begin_75 (by decide) ?_
      exact ih _ _ _ _ H
set_option maxRecDepth 100000 in
set_option maxHeartbeats 4000000 in
theorem c_X9_begin {l : Launch} (a0 : Option Nat) (a1 : Int32) (a2 : Int32) (a3 : Int32) (h : HP) (h' : HP) (H : f_X9_begin a0 a1 a2 a3 h = some h') : Ct l yX9_begin cX9_begin 5 none rm_X9_begin [va_rf a0, .int a1, .int a2, .int a3] none h h' := by
  refine Ct.of (plainFor_of_name (by decide)) (hz_s1c (hz_s1c (hz_s1c (hz_s1c hz_s1n rfl) rfl) rfl) (hz_cr _)) (Nat.le_of_ble_eq_true rfl) (fun G hl hn C0 => ?_)
  have C : Cx G cX9_begin RX9 "begin" none rm_X9_begin none h' := C0
  subst hl
  show aw G 0 [some (va_rf a0), some (.int a1), some (.int a2), some (.int a3), none] [] h 0 0
  unfold f_X9_begin at H
  refine aw_aload_n C dX9_begin_0 rfl ?_
  obtain ⟨r1, e2, H⟩ := hz_bd H
  refine aw_gR (k := 2) C cl_9 (by decide) wd_664 e2 dX9_begin_1 ?_
  refine aw_iload_n C dX9_begin_4 rfl ?_
  refine aw_iload_n C dX9_begin_5 rfl ?_
  obtain ⟨h3, e4, H⟩ := hz_bd H
  refine aw_iast C e4 dX9_begin_6 ?_
  refine aw_aload_n C dX9_begin_7 rfl ?_
  obtain ⟨r5, e6, H⟩ := hz_bd H
  refine aw_gR (k := 3) C cl_9 (by decide) wd_665 e6 dX9_begin_8 ?_
  refine aw_iload_n C dX9_begin_11 rfl ?_
  refine aw_iload_n C dX9_begin_12 rfl ?_
  obtain ⟨h7, e8, H⟩ := hz_bd H
  refine aw_iast C e8 dX9_begin_13 ?_
  refine aw_aload_n C dX9_begin_14 rfl ?_
  refine aw_iload_n C dX9_begin_15 rfl ?_
  refine aw_aload_n C dX9_begin_16 rfl ?_
  obtain ⟨r9, e10, H⟩ := hz_bd H
  refine aw_gR (k := 5) C cl_9 (by decide) wd_667 e10 dX9_begin_17 ?_
  refine aw_iload_n C dX9_begin_20 rfl ?_
  obtain ⟨v11, e12, H⟩ := hz_bd H
  refine aw_iald C e12 dX9_begin_21 ?_
  obtain ⟨g15, H⟩ := hz_wn H
  obtain ⟨p13, e14, H⟩ := hz_bd H
  refine aw_V (As := [.int a1, .int v11]) (rest := []) C hy_X9_carryTo hv_X9_carryTo wd_807 cl_9.1 g15 (c_X9_carryTo _ _ _ _ _  e14) hz_ron rfl rfl (Nat.le_of_ble_eq_true rfl) (by decide) (kc := 0) (ks := 0) rfl rfl (by decide) dX9_begin_22 ?_
  refine aw_aload_n C dX9_begin_25 rfl ?_
  obtain ⟨r16, e17, H⟩ := hz_bd H
  refine aw_gR (k := 10) C cl_9 (by decide) wd_672 e17 dX9_begin_26 ?_
  refine aw_iload_n C dX9_begin_29 rfl ?_
  refine aw_iconst C dX9_begin_30 (v := (nI 0)) (by decide) ?_
  obtain ⟨h18, e19, H⟩ := hz_bd H
  refine aw_iast C e19 dX9_begin_31 ?_
  refine aw_aload_n C dX9_begin_32 rfl ?_
  refine aw_dup C dX9_begin_33 ?_
  obtain ⟨v20, e21, H⟩ := hz_bd H
  refine aw_gI (k := 33) C cl_9 (by decide) wd_695 e21 dX9_begin_34 ?_
  refine aw_iconst C dX9_begin_37 (v := (nI 1)) (by decide) ?_
  refine aw_iadd C dX9_begin_38 ?_
  obtain ⟨h22, e23, H⟩ := hz_bd H
  refine aw_pF (k := 33) C cl_9 (by decide) rfl wd_695 (hz_fiti _) e23 dX9_begin_39 ?_
  refine aw_iconst C dX9_begin_42 (v := (nI 0)) (by decide) ?_
  refine aw_istore C dX9_begin_43 (by rw [hn]; decide) rfl ?_
  exact aw_loc (hz_sub_s (hz_sub_s (hz_sub_n (hz_sub_n (hz_sub_s hz_sub_0))))) (k_X9_begin_45 hn C  600 _ _ _ _ H)
theorem hy_X9_found : hz_Y yX9_found cX9_found 4 none 1 := ⟨wd_854, wd_66, by decide +kernel, by decide +kernel, by decide +kernel⟩
theorem hv_X9_found : hz_YV yX9_found := ⟨wd_853, wd_54⟩
def f_X9_found (a0 : Option Nat) (a1 : Int32) (h : HP) : Option HP :=
  (hz_gR h a0 9 11).bind fun r1 =>
  (hz_aI h r1 0 a1).bind fun v3 =>
  (hz_gR h a0 9 3).bind fun r5 =>
  (hz_aI h r5 0 a1).bind fun v7 =>
  (hz_gR h a0 9 8).bind fun r9 =>
  (hz_aI h r9 0 a1).bind fun v11 =>
  if hz_ob h a0 9 = true then
  (f_X9_sendAll a0 a1 v3 (nI 11) v11 v3 (nI 0) (nI 0) h).bind fun p13 =>
  if hz_ob p13 a0 9 = true then
  (f_X9_sendAll a0 a1 (v7 &&& (v3 ^^^ (-1 : Int32))) (nI 12) (nI 0) (nI 0) (nI 0) (nI 0) p13).bind fun p16 =>
  (hz_gR p16 a0 9 8).bind fun r19 =>
  (hz_aI p16 r19 0 a1).bind fun v21 =>
  if hz_ob p16 a0 9 = true then
  (f_X9_begin a0 a1 v21 v3 p16).bind fun p23 =>
  some p23
  else none
  else none
  else none
abbrev rm_X9_found : Room := { frames := 4, cells := 0, slots := 0, locals := 93 }
set_option maxRecDepth 100000 in
set_option maxHeartbeats 4000000 in
theorem c_X9_found {l : Launch} (a0 : Option Nat) (a1 : Int32) (h : HP) (h' : HP) (H : f_X9_found a0 a1 h = some h') : Ct l yX9_found cX9_found 4 none rm_X9_found [va_rf a0, .int a1] none h h' := by
  refine Ct.of (plainFor_of_name (by decide)) (hz_s1c (hz_s1c hz_s1n rfl) (hz_cr _)) (Nat.le_of_ble_eq_true rfl) (fun G hl hn C0 => ?_)
  have C : Cx G cX9_found RX9 "found" none rm_X9_found none h' := C0
  subst hl
  show aw G 0 [some (va_rf a0), some (.int a1), none, none] [] h 0 0
  unfold f_X9_found at H
  refine aw_aload_n C dX9_found_0 rfl ?_
  obtain ⟨r1, e2, H⟩ := hz_bd H
  refine aw_gR (k := 11) C cl_9 (by decide) wd_673 e2 dX9_found_1 ?_
  refine aw_iload_n C dX9_found_4 rfl ?_
  obtain ⟨v3, e4, H⟩ := hz_bd H
  refine aw_iald C e4 dX9_found_5 ?_
  refine aw_istore_n C dX9_found_6 (by rw [hn]; decide) rfl ?_
  refine aw_aload_n C dX9_found_7 rfl ?_
  obtain ⟨r5, e6, H⟩ := hz_bd H
  refine aw_gR (k := 3) C cl_9 (by decide) wd_665 e6 dX9_found_8 ?_
  refine aw_iload_n C dX9_found_11 rfl ?_
  obtain ⟨v7, e8, H⟩ := hz_bd H
  refine aw_iald C e8 dX9_found_12 ?_
  refine aw_iload_n C dX9_found_13 rfl ?_
  refine aw_iconst C dX9_found_14 (v := (-1)) (by decide) ?_
  refine aw_ixor C dX9_found_15 ?_
  refine aw_iand C dX9_found_16 ?_
  refine aw_istore_n C dX9_found_17 (by rw [hn]; decide) rfl ?_
  refine aw_aload_n C dX9_found_18 rfl ?_
  refine aw_iload_n C dX9_found_19 rfl ?_
  refine aw_iload_n C dX9_found_20 rfl ?_
  refine aw_bipush C dX9_found_21 (v := (nI 11)) (by decide) ?_
  refine aw_aload_n C dX9_found_23 rfl ?_
  obtain ⟨r9, e10, H⟩ := hz_bd H
  refine aw_gR (k := 8) C cl_9 (by decide) wd_670 e10 dX9_found_24 ?_
  refine aw_iload_n C dX9_found_27 rfl ?_
  obtain ⟨v11, e12, H⟩ := hz_bd H
  refine aw_iald C e12 dX9_found_28 ?_
  refine aw_iload_n C dX9_found_29 rfl ?_
  refine aw_iconst C dX9_found_30 (v := (nI 0)) (by decide) ?_
  refine aw_iconst C dX9_found_31 (v := (nI 0)) (by decide) ?_
  obtain ⟨g15, H⟩ := hz_wn H
  obtain ⟨p13, e14, H⟩ := hz_bd H
  refine aw_V (As := [.int a1, .int v3, .int (nI 11), .int v11, .int v3, .int (nI 0), .int (nI 0)]) (rest := []) C hy_X9_sendAll hv_X9_sendAll wd_799 cl_9.1 g15 (c_X9_sendAll _ _ _ _ _ _ _ _ _ _  e14) hz_ron rfl rfl (Nat.le_of_ble_eq_true rfl) (by decide) (kc := 0) (ks := 0) rfl rfl (by decide) dX9_found_32 ?_
  refine aw_aload_n C dX9_found_35 rfl ?_
  refine aw_iload_n C dX9_found_36 rfl ?_
  refine aw_iload_n C dX9_found_37 rfl ?_
  refine aw_bipush C dX9_found_38 (v := (nI 12)) (by decide) ?_
  refine aw_iconst C dX9_found_40 (v := (nI 0)) (by decide) ?_
  refine aw_iconst C dX9_found_41 (v := (nI 0)) (by decide) ?_
  refine aw_iconst C dX9_found_42 (v := (nI 0)) (by decide) ?_
  refine aw_iconst C dX9_found_43 (v := (nI 0)) (by decide) ?_
  obtain ⟨g18, H⟩ := hz_wn H
  obtain ⟨p16, e17, H⟩ := hz_bd H
  refine aw_V (As := [.int a1, .int (v7 &&& (v3 ^^^ (-1 : Int32))), .int (nI 12), .int (nI 0), .int (nI 0), .int (nI 0), .int (nI 0)]) (rest := []) C hy_X9_sendAll hv_X9_sendAll wd_799 cl_9.1 g18 (c_X9_sendAll _ _ _ _ _ _ _ _ _ _  e17) hz_ron rfl rfl (Nat.le_of_ble_eq_true rfl) (by decide) (kc := 0) (ks := 0) rfl rfl (by decide) dX9_found_44 ?_
  refine aw_aload_n C dX9_found_47 rfl ?_
  refine aw_iload_n C dX9_found_48 rfl ?_
  refine aw_aload_n C dX9_found_49 rfl ?_
  obtain ⟨r19, e20, H⟩ := hz_bd H
  refine aw_gR (k := 8) C cl_9 (by decide) wd_670 e20 dX9_found_50 ?_
  refine aw_iload_n C dX9_found_53 rfl ?_
  obtain ⟨v21, e22, H⟩ := hz_bd H
  refine aw_iald C e22 dX9_found_54 ?_
  refine aw_iload_n C dX9_found_55 rfl ?_
  obtain ⟨g25, H⟩ := hz_wn H
  obtain ⟨p23, e24, H⟩ := hz_bd H
  refine aw_V (As := [.int a1, .int v21, .int v3]) (rest := []) C hy_X9_begin hv_X9_begin wd_855 cl_9.1 g25 (c_X9_begin _ _ _ _ _ _  e24) hz_ron rfl rfl (Nat.le_of_ble_eq_true rfl) (by decide) (kc := 0) (ks := 0) rfl rfl (by decide) dX9_found_56 ?_
  cases H
  exact aw_vret C (Nat.zero_le _) (Nat.zero_le _) dX9_found_59
theorem hy_X9_choose : hz_Y yX9_choose cX9_choose 6 none 1 := ⟨wd_850, wd_66, by decide +kernel, by decide +kernel, by decide +kernel⟩
theorem hv_X9_choose : hz_YV yX9_choose := ⟨wd_849, wd_53⟩
def f_X9_choose_335 (h : HP) : Option HP :=
  some h
def f_X9_choose_216 : Nat → Option Nat → Int32 → Int32 → Int32 → HP → Option HP
  | 0, _, _, _, _, _ => none
  | n + 1, l0, l1, l2, l3, h =>
    (hz_gR h l0 9 5).bind fun r69 =>
    (hz_aI h r69 0 l1).bind fun v71 =>
    if v71 ≤ l3 then
      (hz_gR h l0 9 7).bind fun r73 =>
      (hz_gR h l0 9 8).bind fun r75 =>
      (hz_aI h r75 0 l1).bind fun v77 =>
      (hz_aS h r73 0 l1 v77).bind fun h79 =>
      (hz_gR h79 l0 9 10).bind fun r81 =>
      (hz_aS h79 r81 0 l1 (nI 4)).bind fun h83 =>
      (hz_gR h83 l0 9 14).bind fun r85 =>
      (hz_aS h83 r85 0 l1 ((nI 1) <<< (l1 &&& 31))).bind fun h87 =>
      (hz_gR h87 l0 9 11).bind fun r89 =>
      (hz_aI h87 r89 0 l1).bind fun v91 =>
      (hz_gR h87 l0 9 8).bind fun r93 =>
      (hz_aI h87 r93 0 l1).bind fun v95 =>
      (hz_gR h87 l0 9 5).bind fun r97 =>
      (hz_aI h87 r97 0 l1).bind fun v99 =>
      if hz_ob h87 l0 9 = true then
      (f_X9_sendAll l0 l1 v91 (nI 9) v95 (nI 0) v99 (nI 0) h87).bind fun p101 =>
      (hz_gR p101 l0 9 14).bind fun r104 =>
      (hz_aI p101 r104 0 l1).bind fun v106 =>
      (hz_gR p101 l0 9 11).bind fun r108 =>
      (hz_aI p101 r108 0 l1).bind fun v110 =>
      if v106 = v110 then
        if hz_ob p101 l0 9 = true then
        (f_X9_found l0 l1 p101).bind fun p112 =>
        f_X9_choose_335   p112
        else none
      else
        f_X9_choose_335   p101
      else none
    else
      (hz_gR h l0 9 4).bind fun r115 =>
      (hz_gR h l0 9 17).bind fun r117 =>
      (hz_aI h r117 0 ((((nI 420) * l1) + ((nI 60) * l2)) + l3)).bind fun v119 =>
      (hz_aS h r115 0 (((nI 60) * l1) + l3) v119).bind fun h121 =>
      f_X9_choose_216  n l0 l1 l2 (l3 + (nI 1)) h121
def f_X9_choose_191 (K4 : Option Nat → Int32 → Int32 → Int32 → HP → Option HP) (l0 : Option Nat) (l1 : Int32) (l2 : Int32) (l3 : Int32) (h : HP) : Option HP :=
  K4 l0 l1 l2 (l3 + (nI 1)) h
def f_X9_choose_189 (K4 : Option Nat → Int32 → Int32 → Int32 → HP → Option HP) (l0 : Option Nat) (l1 : Int32) (l3 : Int32) (h : HP) : Option HP :=
  f_X9_choose_191 K4 l0 l1 l3 l3 h
def f_X9_choose_117 (K4 : Option Nat → Int32 → Int32 → Int32 → HP → Option HP) (l0 : Option Nat) (l1 : Int32) (l2 : Int32) (l3 : Int32) (h : HP) : Option HP :=
  if l2 = (-1 : Int32) then
    f_X9_choose_189 K4 l0 l1 l3 h
  else
    (hz_gR h l0 9 15).bind fun r45 =>
    (hz_aI h r45 0 (((nI 7) * l1) + l3)).bind fun v47 =>
    (hz_gR h l0 9 15).bind fun r49 =>
    (hz_aI h r49 0 (((nI 7) * l1) + l2)).bind fun v51 =>
    if v51 < v47 then
      f_X9_choose_189 K4 l0 l1 l3 h
    else
      (hz_gR h l0 9 15).bind fun r53 =>
      (hz_aI h r53 0 (((nI 7) * l1) + l3)).bind fun v55 =>
      (hz_gR h l0 9 15).bind fun r57 =>
      (hz_aI h r57 0 (((nI 7) * l1) + l2)).bind fun v59 =>
      if v55 = v59 then
        (hz_gR h l0 9 16).bind fun r61 =>
        (hz_aI h r61 0 (((nI 7) * l1) + l3)).bind fun v63 =>
        (hz_gR h l0 9 16).bind fun r65 =>
        (hz_aI h r65 0 (((nI 7) * l1) + l2)).bind fun v67 =>
        if v63 ≤ v67 then
          f_X9_choose_191 K4 l0 l1 l2 l3 h
        else
          f_X9_choose_189 K4 l0 l1 l3 h
      else
        f_X9_choose_191 K4 l0 l1 l2 l3 h
def f_X9_choose_70 (K4 : Option Nat → Int32 → Int32 → Int32 → HP → Option HP) : Nat → Option Nat → Int32 → Int32 → Int32 → Int32 → HP → Option HP
  | 0, _, _, _, _, _, _ => none
  | n + 1, l0, l1, l2, l3, l4, h =>
    (hz_gR h l0 9 5).bind fun r33 =>
    (hz_aI h r33 0 l1).bind fun v35 =>
    if v35 ≤ l4 then
      f_X9_choose_117 K4 l0 l1 l2 l3 h
    else
      (hz_gR h l0 9 17).bind fun r37 =>
      (hz_gR h l0 9 4).bind fun r39 =>
      (hz_aI h r39 0 (((nI 60) * l1) + l4)).bind fun v41 =>
      (hz_aS h r37 0 ((((nI 420) * l1) + ((nI 60) * l3)) + l4) v41).bind fun h43 =>
      f_X9_choose_70 K4 n l0 l1 l2 l3 (l4 + (nI 1)) h43
def f_X9_choose_4 : Nat → Option Nat → Int32 → Int32 → Int32 → HP → Option HP
  | 0, _, _, _, _, _ => none
  | n + 1, l0, l1, l2, l3, h =>
    (hz_gI h l0 9 0).bind fun v1 =>
    if v1 ≤ l3 then
      (hz_gR h l0 9 5).bind fun r3 =>
      (hz_gR h l0 9 16).bind fun r5 =>
      (hz_aI h r5 0 (((nI 7) * l1) + l2)).bind fun v7 =>
      (hz_aS h r3 0 l1 v7).bind fun h9 =>
      f_X9_choose_216  600 l0 l1 l2 (nI 0) h9
    else
      (hz_gR h l0 9 11).bind fun r11 =>
      (hz_aI h r11 0 l1).bind fun v13 =>
      (f_X9_has v13 l3 h).bind fun p15 =>
      if p15.1 = 0 then
        f_X9_choose_191 (f_X9_choose_4  n) l0 l1 l2 l3 p15.2
      else
        if l3 = l1 then
          (hz_gR p15.2 l0 9 15).bind fun r17 =>
          (hz_gR p15.2 l0 9 7).bind fun r19 =>
          (hz_aI p15.2 r19 0 l1).bind fun v21 =>
          (hz_aS p15.2 r17 0 (((nI 7) * l1) + l3) v21).bind fun h23 =>
          (hz_gR h23 l0 9 16).bind fun r25 =>
          (hz_gR h23 l0 9 5).bind fun r27 =>
          (hz_aI h23 r27 0 l1).bind fun v29 =>
          (hz_aS h23 r25 0 (((nI 7) * l1) + l3) v29).bind fun h31 =>
          f_X9_choose_70 (f_X9_choose_4  n) 600 l0 l1 l2 l3 (nI 0) h31
        else
          f_X9_choose_117 (f_X9_choose_4  n) l0 l1 l2 l3 p15.2
def f_X9_choose (a0 : Option Nat) (a1 : Int32) (h : HP) : Option HP :=
  f_X9_choose_4  600 a0 a1 (-1 : Int32) (nI 0) h
abbrev rm_X9_choose : Room := { frames := 5, cells := 0, slots := 0, locals := 116 }
set_option maxRecDepth 100000 in
set_option maxHeartbeats 4000000 in
theorem k_X9_choose_335 {G : GX} {h' : HP} (hn : G.2.2.2.2.2.2.2.2.2.2.2.2 = 6) (C : Cx G cX9_choose RX9 "choose" none rm_X9_choose none h') (h : HP) (H : f_X9_choose_335   h = some h') : aw G 335 [none, none, none, none, none, none] [] h 0 0 := by
  unfold f_X9_choose_335 at H
  cases H
  exact aw_vret C (Nat.zero_le _) (Nat.zero_le _) dX9_choose_335
set_option maxRecDepth 100000 in
set_option maxHeartbeats 4000000 in
theorem k_X9_choose_216 {G : GX} {h' : HP} (hn : G.2.2.2.2.2.2.2.2.2.2.2.2 = 6) (C : Cx G cX9_choose RX9 "choose" none rm_X9_choose none h') : ∀ (n : Nat) (l0 : Option Nat) (l1 : Int32) (l2 : Int32) (l3 : Int32) (h : HP), f_X9_choose_216  n l0 l1 l2 l3 h = some h' → aw G 216 [some (va_rf l0), some (.int l1), some (.int l2), some (.int l3), none, none] [] h 0 0 := by
  intro n
  induction n with
  | zero => intro l0 l1 l2 l3 h H; cases H
  | succ n ih =>
    intro l0 l1 l2 l3 h H
    rw [f_X9_choose_216] at H
    refine aw_iload_n C dX9_choose_216 rfl ?_
    refine aw_aload_n C dX9_choose_217 rfl ?_
    obtain ⟨r69, e70, H⟩ := hz_bd H
    refine aw_gR (k := 5) C cl_9 (by decide) wd_667 e70 dX9_choose_218 ?_
    refine aw_iload_n C dX9_choose_221 rfl ?_
    obtain ⟨v71, e72, H⟩ := hz_bd H
    refine aw_iald C e72 dX9_choose_222 ?_
    refine aw_icmp_ge (tgt := 260) C dX9_choose_223 (by decide) (fun c123 => ?_) (fun c123 => ?_)
    · replace H := hz_it c123 H
      refine aw_aload_n C dX9_choose_260 rfl ?_
      obtain ⟨r73, e74, H⟩ := hz_bd H
      refine aw_gR (k := 7) C cl_9 (by decide) wd_669 e74 dX9_choose_261 ?_
      refine aw_iload_n C dX9_choose_264 rfl ?_
      refine aw_aload_n C dX9_choose_265 rfl ?_
      obtain ⟨r75, e76, H⟩ := hz_bd H
      refine aw_gR (k := 8) C cl_9 (by decide) wd_670 e76 dX9_choose_266 ?_
      refine aw_iload_n C dX9_choose_269 rfl ?_
      obtain ⟨v77, e78, H⟩ := hz_bd H
      refine aw_iald C e78 dX9_choose_270 ?_
      obtain ⟨h79, e80, H⟩ := hz_bd H
      refine aw_iast C e80 dX9_choose_271 ?_
      refine aw_aload_n C dX9_choose_272 rfl ?_
      obtain ⟨r81, e82, H⟩ := hz_bd H
      refine aw_gR (k := 10) C cl_9 (by decide) wd_672 e82 dX9_choose_273 ?_
      refine aw_iload_n C dX9_choose_276 rfl ?_
      refine aw_iconst C dX9_choose_277 (v := (nI 4)) (by decide) ?_
      obtain ⟨h83, e84, H⟩ := hz_bd H
      refine aw_iast C e84 dX9_choose_278 ?_
      refine aw_aload_n C dX9_choose_279 rfl ?_
      obtain ⟨r85, e86, H⟩ := hz_bd H
      refine aw_gR (k := 14) C cl_9 (by decide) wd_676 e86 dX9_choose_280 ?_
      refine aw_iload_n C dX9_choose_283 rfl ?_
      refine aw_iconst C dX9_choose_284 (v := (nI 1)) (by decide) ?_
      refine aw_iload_n C dX9_choose_285 rfl ?_
      refine aw_ishl C dX9_choose_286 ?_
      obtain ⟨h87, e88, H⟩ := hz_bd H
      refine aw_iast C e88 dX9_choose_287 ?_
      refine aw_aload_n C dX9_choose_288 rfl ?_
      refine aw_iload_n C dX9_choose_289 rfl ?_
      refine aw_aload_n C dX9_choose_290 rfl ?_
      obtain ⟨r89, e90, H⟩ := hz_bd H
      refine aw_gR (k := 11) C cl_9 (by decide) wd_673 e90 dX9_choose_291 ?_
      refine aw_iload_n C dX9_choose_294 rfl ?_
      obtain ⟨v91, e92, H⟩ := hz_bd H
      refine aw_iald C e92 dX9_choose_295 ?_
      refine aw_bipush C dX9_choose_296 (v := (nI 9)) (by decide) ?_
      refine aw_aload_n C dX9_choose_298 rfl ?_
      obtain ⟨r93, e94, H⟩ := hz_bd H
      refine aw_gR (k := 8) C cl_9 (by decide) wd_670 e94 dX9_choose_299 ?_
      refine aw_iload_n C dX9_choose_302 rfl ?_
      obtain ⟨v95, e96, H⟩ := hz_bd H
      refine aw_iald C e96 dX9_choose_303 ?_
      refine aw_iconst C dX9_choose_304 (v := (nI 0)) (by decide) ?_
      refine aw_aload_n C dX9_choose_305 rfl ?_
      obtain ⟨r97, e98, H⟩ := hz_bd H
      refine aw_gR (k := 5) C cl_9 (by decide) wd_667 e98 dX9_choose_306 ?_
      refine aw_iload_n C dX9_choose_309 rfl ?_
      obtain ⟨v99, e100, H⟩ := hz_bd H
      refine aw_iald C e100 dX9_choose_310 ?_
      refine aw_iconst C dX9_choose_311 (v := (nI 0)) (by decide) ?_
      obtain ⟨g103, H⟩ := hz_wn H
      obtain ⟨p101, e102, H⟩ := hz_bd H
      refine aw_V (As := [.int l1, .int v91, .int (nI 9), .int v95, .int (nI 0), .int v99, .int (nI 0)]) (rest := []) C hy_X9_sendAll hv_X9_sendAll wd_799 cl_9.1 g103 (c_X9_sendAll _ _ _ _ _ _ _ _ _ _  e102) hz_ron rfl rfl (Nat.le_of_ble_eq_true rfl) (by decide) (kc := 0) (ks := 0) rfl rfl (by decide) dX9_choose_312 ?_
      refine aw_aload_n C dX9_choose_315 rfl ?_
      obtain ⟨r104, e105, H⟩ := hz_bd H
      refine aw_gR (k := 14) C cl_9 (by decide) wd_676 e105 dX9_choose_316 ?_
      refine aw_iload_n C dX9_choose_319 rfl ?_
      obtain ⟨v106, e107, H⟩ := hz_bd H
      refine aw_iald C e107 dX9_choose_320 ?_
      refine aw_aload_n C dX9_choose_321 rfl ?_
      obtain ⟨r108, e109, H⟩ := hz_bd H
      refine aw_gR (k := 11) C cl_9 (by decide) wd_673 e109 dX9_choose_322 ?_
      refine aw_iload_n C dX9_choose_325 rfl ?_
      obtain ⟨v110, e111, H⟩ := hz_bd H
      refine aw_iald C e111 dX9_choose_326 ?_
      refine aw_icmp_ne (tgt := 335) C dX9_choose_327 (by decide) (fun c124 => ?_) (fun c124 => ?_)
      · replace H := hz_if c124 H
        exact aw_loc (hz_sub_n (hz_sub_n (hz_sub_n (hz_sub_n (hz_sub_n (hz_sub_n hz_sub_0)))))) (k_X9_choose_335 hn C  _ H)
      · replace H := hz_it c124 H
        refine aw_aload_n C dX9_choose_330 rfl ?_
        refine aw_iload_n C dX9_choose_331 rfl ?_
        obtain ⟨g114, H⟩ := hz_wn H
        obtain ⟨p112, e113, H⟩ := hz_bd H
        refine aw_V (As := [.int l1]) (rest := []) C hy_X9_found hv_X9_found wd_851 cl_9.1 g114 (c_X9_found _ _ _ _  e113) hz_ron rfl rfl (Nat.le_of_ble_eq_true rfl) (by decide) (kc := 0) (ks := 0) rfl rfl (by decide) dX9_choose_332 ?_
        exact aw_loc (hz_sub_n (hz_sub_n (hz_sub_n (hz_sub_n (hz_sub_n (hz_sub_n hz_sub_0)))))) (k_X9_choose_335 hn C  _ H)
    · replace H := hz_if c123 H
      refine aw_aload_n C dX9_choose_226 rfl ?_
      obtain ⟨r115, e116, H⟩ := hz_bd H
      refine aw_gR (k := 4) C cl_9 (by decide) wd_666 e116 dX9_choose_227 ?_
      refine aw_bipush C dX9_choose_230 (v := (nI 60)) (by decide) ?_
      refine aw_iload_n C dX9_choose_232 rfl ?_
      refine aw_imul C dX9_choose_233 ?_
      refine aw_iload_n C dX9_choose_234 rfl ?_
      refine aw_iadd C dX9_choose_235 ?_
      refine aw_aload_n C dX9_choose_236 rfl ?_
      obtain ⟨r117, e118, H⟩ := hz_bd H
      refine aw_gR (k := 17) C cl_9 (by decide) wd_679 e118 dX9_choose_237 ?_
      refine aw_sipush C dX9_choose_240 (v := (nI 420)) (by decide) ?_
      refine aw_iload_n C dX9_choose_243 rfl ?_
      refine aw_imul C dX9_choose_244 ?_
      refine aw_bipush C dX9_choose_245 (v := (nI 60)) (by decide) ?_
      refine aw_iload_n C dX9_choose_247 rfl ?_
      refine aw_imul C dX9_choose_248 ?_
      refine aw_iadd C dX9_choose_249 ?_
      refine aw_iload_n C dX9_choose_250 rfl ?_
      refine aw_iadd C dX9_choose_251 ?_
      obtain ⟨v119, e120, H⟩ := hz_bd H
      refine aw_iald C e120 dX9_choose_252 ?_
      obtain ⟨h121, e122, H⟩ := hz_bd H
      refine aw_iast C e122 dX9_choose_253 ?_
      refine aw_iinc (d := (nI 1)) C dX9_choose_254 (by rw [hn]; decide) rfl (by decide) rfl ?_
      refine aw_goto (tgt := 216) C dX9_choose_257 (by decide) ?_
      exact ih _ _ _ _ _ H
set_option maxRecDepth 100000 in
set_option maxHeartbeats 4000000 in
theorem k_X9_choose_191 {G : GX} {h' : HP} (hn : G.2.2.2.2.2.2.2.2.2.2.2.2 = 6) (C : Cx G cX9_choose RX9 "choose" none rm_X9_choose none h') {K4 : Option Nat → Int32 → Int32 → Int32 → HP → Option HP} (hK4 : ∀ (l0 : Option Nat) (l1 : Int32) (l2 : Int32) (l3 : Int32) (h : HP), K4 l0 l1 l2 l3 h = some h' → aw G 4 [some (va_rf l0), some (.int l1), some (.int l2), some (.int l3), none, none] [] h 0 0) (l0 : Option Nat) (l1 : Int32) (l2 : Int32) (l3 : Int32) (h : HP) (H : f_X9_choose_191 K4 l0 l1 l2 l3 h = some h') : aw G 191 [some (va_rf l0), some (.int l1), some (.int l2), some (.int l3), none, none] [] h 0 0 := by
  unfold f_X9_choose_191 at H
  refine aw_iinc (d := (nI 1)) C dX9_choose_191 (by rw [hn]; decide) rfl (by decide) rfl ?_
  refine aw_goto (tgt := 4) C dX9_choose_194 (by decide) ?_
  exact hK4 _ _ _ _ _ H
set_option maxRecDepth 100000 in
set_option maxHeartbeats 4000000 in
theorem k_X9_choose_189 {G : GX} {h' : HP} (hn : G.2.2.2.2.2.2.2.2.2.2.2.2 = 6) (C : Cx G cX9_choose RX9 "choose" none rm_X9_choose none h') {K4 : Option Nat → Int32 → Int32 → Int32 → HP → Option HP} (hK4 : ∀ (l0 : Option Nat) (l1 : Int32) (l2 : Int32) (l3 : Int32) (h : HP), K4 l0 l1 l2 l3 h = some h' → aw G 4 [some (va_rf l0), some (.int l1), some (.int l2), some (.int l3), none, none] [] h 0 0) (l0 : Option Nat) (l1 : Int32) (l3 : Int32) (h : HP) (H : f_X9_choose_189 K4 l0 l1 l3 h = some h') : aw G 189 [some (va_rf l0), some (.int l1), none, some (.int l3), none, none] [] h 0 0 := by
  unfold f_X9_choose_189 at H
  refine aw_iload_n C dX9_choose_189 rfl ?_
  refine aw_istore_n C dX9_choose_190 (by rw [hn]; decide) rfl ?_
  exact k_X9_choose_191 hn C hK4 _ _ _ _ _ H
set_option maxRecDepth 100000 in
set_option maxHeartbeats 4000000 in
theorem k_X9_choose_117 {G : GX} {h' : HP} (hn : G.2.2.2.2.2.2.2.2.2.2.2.2 = 6) (C : Cx G cX9_choose RX9 "choose" none rm_X9_choose none h') {K4 : Option Nat → Int32 → Int32 → Int32 → HP → Option HP} (hK4 : ∀ (l0 : Option Nat) (l1 : Int32) (l2 : Int32) (l3 : Int32) (h : HP), K4 l0 l1 l2 l3 h = some h' → aw G 4 [some (va_rf l0), some (.int l1), some (.int l2), some (.int l3), none, none] [] h 0 0) (l0 : Option Nat) (l1 : Int32) (l2 : Int32) (l3 : Int32) (h : HP) (H : f_X9_choose_117 K4 l0 l1 l2 l3 h = some h') : aw G 117 [some (va_rf l0), some (.int l1), some (.int l2), some (.int l3), none, none] [] h 0 0 := by
  unfold f_X9_choose_117 at H
  refine aw_bipush C dX9_choose_117 (v := (nI 7)) (by decide) ?_
  refine aw_iload_n C dX9_choose_119 rfl ?_
  refine aw_imul C dX9_choose_120 ?_
  refine aw_iload_n C dX9_choose_121 rfl ?_
  refine aw_iadd C dX9_choose_122 ?_
  refine aw_istore C dX9_choose_123 (by rw [hn]; decide) rfl ?_
  refine aw_bipush C dX9_choose_125 (v := (nI 7)) (by decide) ?_
  refine aw_iload_n C dX9_choose_127 rfl ?_
  refine aw_imul C dX9_choose_128 ?_
  refine aw_iload_n C dX9_choose_129 rfl ?_
  refine aw_iadd C dX9_choose_130 ?_
  refine aw_istore C dX9_choose_131 (by rw [hn]; decide) rfl ?_
  refine aw_iload_n C dX9_choose_133 rfl ?_
  refine aw_iconst C dX9_choose_134 (v := (-1)) (by decide) ?_
  refine aw_icmp_eq (tgt := 189) C dX9_choose_135 (by decide) (fun c125 => ?_) (fun c125 => ?_)
  · replace H := hz_it c125 H
    exact aw_loc (hz_sub_s (hz_sub_s (hz_sub_n (hz_sub_s (hz_sub_n (hz_sub_n hz_sub_0)))))) (k_X9_choose_189 hn C hK4 _ _ _ _ H)
  · replace H := hz_if c125 H
    refine aw_aload_n C dX9_choose_138 rfl ?_
    obtain ⟨r45, e46, H⟩ := hz_bd H
    refine aw_gR (k := 15) C cl_9 (by decide) wd_677 e46 dX9_choose_139 ?_
    refine aw_iload C dX9_choose_142 rfl ?_
    obtain ⟨v47, e48, H⟩ := hz_bd H
    refine aw_iald C e48 dX9_choose_144 ?_
    refine aw_aload_n C dX9_choose_145 rfl ?_
    obtain ⟨r49, e50, H⟩ := hz_bd H
    refine aw_gR (k := 15) C cl_9 (by decide) wd_677 e50 dX9_choose_146 ?_
    refine aw_iload C dX9_choose_149 rfl ?_
    obtain ⟨v51, e52, H⟩ := hz_bd H
    refine aw_iald C e52 dX9_choose_151 ?_
    refine aw_icmp_gt (tgt := 189) C dX9_choose_152 (by decide) (fun c126 => ?_) (fun c126 => ?_)
    · replace H := hz_it c126 H
      exact aw_loc (hz_sub_s (hz_sub_s (hz_sub_n (hz_sub_s (hz_sub_n (hz_sub_n hz_sub_0)))))) (k_X9_choose_189 hn C hK4 _ _ _ _ H)
    · replace H := hz_if c126 H
      refine aw_aload_n C dX9_choose_155 rfl ?_
      obtain ⟨r53, e54, H⟩ := hz_bd H
      refine aw_gR (k := 15) C cl_9 (by decide) wd_677 e54 dX9_choose_156 ?_
      refine aw_iload C dX9_choose_159 rfl ?_
      obtain ⟨v55, e56, H⟩ := hz_bd H
      refine aw_iald C e56 dX9_choose_161 ?_
      refine aw_aload_n C dX9_choose_162 rfl ?_
      obtain ⟨r57, e58, H⟩ := hz_bd H
      refine aw_gR (k := 15) C cl_9 (by decide) wd_677 e58 dX9_choose_163 ?_
      refine aw_iload C dX9_choose_166 rfl ?_
      obtain ⟨v59, e60, H⟩ := hz_bd H
      refine aw_iald C e60 dX9_choose_168 ?_
      refine aw_icmp_ne (tgt := 191) C dX9_choose_169 (by decide) (fun c127 => ?_) (fun c127 => ?_)
      · replace H := hz_if c127 H
        exact aw_loc (hz_sub_s (hz_sub_s (hz_sub_s (hz_sub_s (hz_sub_n (hz_sub_n hz_sub_0)))))) (k_X9_choose_191 hn C hK4 _ _ _ _ _ H)
      · replace H := hz_it c127 H
        refine aw_aload_n C dX9_choose_172 rfl ?_
        obtain ⟨r61, e62, H⟩ := hz_bd H
        refine aw_gR (k := 16) C cl_9 (by decide) wd_678 e62 dX9_choose_173 ?_
        refine aw_iload C dX9_choose_176 rfl ?_
        obtain ⟨v63, e64, H⟩ := hz_bd H
        refine aw_iald C e64 dX9_choose_178 ?_
        refine aw_aload_n C dX9_choose_179 rfl ?_
        obtain ⟨r65, e66, H⟩ := hz_bd H
        refine aw_gR (k := 16) C cl_9 (by decide) wd_678 e66 dX9_choose_180 ?_
        refine aw_iload C dX9_choose_183 rfl ?_
        obtain ⟨v67, e68, H⟩ := hz_bd H
        refine aw_iald C e68 dX9_choose_185 ?_
        refine aw_icmp_le (tgt := 191) C dX9_choose_186 (by decide) (fun c128 => ?_) (fun c128 => ?_)
        · replace H := hz_it c128 H
          exact aw_loc (hz_sub_s (hz_sub_s (hz_sub_s (hz_sub_s (hz_sub_n (hz_sub_n hz_sub_0)))))) (k_X9_choose_191 hn C hK4 _ _ _ _ _ H)
        · replace H := hz_if c128 H
          exact aw_loc (hz_sub_s (hz_sub_s (hz_sub_n (hz_sub_s (hz_sub_n (hz_sub_n hz_sub_0)))))) (k_X9_choose_189 hn C hK4 _ _ _ _ H)
set_option maxRecDepth 100000 in
set_option maxHeartbeats 4000000 in
theorem k_X9_choose_70 {G : GX} {h' : HP} (hn : G.2.2.2.2.2.2.2.2.2.2.2.2 = 6) (C : Cx G cX9_choose RX9 "choose" none rm_X9_choose none h') {K4 : Option Nat → Int32 → Int32 → Int32 → HP → Option HP} (hK4 : ∀ (l0 : Option Nat) (l1 : Int32) (l2 : Int32) (l3 : Int32) (h : HP), K4 l0 l1 l2 l3 h = some h' → aw G 4 [some (va_rf l0), some (.int l1), some (.int l2), some (.int l3), none, none] [] h 0 0) : ∀ (n : Nat) (l0 : Option Nat) (l1 : Int32) (l2 : Int32) (l3 : Int32) (l4 : Int32) (h : HP), f_X9_choose_70 K4 n l0 l1 l2 l3 l4 h = some h' → aw G 70 [some (va_rf l0), some (.int l1), some (.int l2), some (.int l3), some (.int l4), none] [] h 0 0 := by
  intro n
  induction n with
  | zero => intro l0 l1 l2 l3 l4 h H; cases H
  | succ n ih =>
    intro l0 l1 l2 l3 l4 h H
    rw [f_X9_choose_70] at H
    refine aw_iload C dX9_choose_70 rfl ?_
    refine aw_aload_n C dX9_choose_72 rfl ?_
    obtain ⟨r33, e34, H⟩ := hz_bd H
    refine aw_gR (k := 5) C cl_9 (by decide) wd_667 e34 dX9_choose_73 ?_
    refine aw_iload_n C dX9_choose_76 rfl ?_
    obtain ⟨v35, e36, H⟩ := hz_bd H
    refine aw_iald C e36 dX9_choose_77 ?_
    refine aw_icmp_ge (tgt := 117) C dX9_choose_78 (by decide) (fun c129 => ?_) (fun c129 => ?_)
    · replace H := hz_it c129 H
      exact aw_loc (hz_sub_s (hz_sub_s (hz_sub_s (hz_sub_s (hz_sub_n (hz_sub_n hz_sub_0)))))) (k_X9_choose_117 hn C hK4 _ _ _ _ _ H)
    · replace H := hz_if c129 H
      refine aw_aload_n C dX9_choose_81 rfl ?_
      obtain ⟨r37, e38, H⟩ := hz_bd H
      refine aw_gR (k := 17) C cl_9 (by decide) wd_679 e38 dX9_choose_82 ?_
      refine aw_sipush C dX9_choose_85 (v := (nI 420)) (by decide) ?_
      refine aw_iload_n C dX9_choose_88 rfl ?_
      refine aw_imul C dX9_choose_89 ?_
      refine aw_bipush C dX9_choose_90 (v := (nI 60)) (by decide) ?_
      refine aw_iload_n C dX9_choose_92 rfl ?_
      refine aw_imul C dX9_choose_93 ?_
      refine aw_iadd C dX9_choose_94 ?_
      refine aw_iload C dX9_choose_95 rfl ?_
      refine aw_iadd C dX9_choose_97 ?_
      refine aw_aload_n C dX9_choose_98 rfl ?_
      obtain ⟨r39, e40, H⟩ := hz_bd H
      refine aw_gR (k := 4) C cl_9 (by decide) wd_666 e40 dX9_choose_99 ?_
      refine aw_bipush C dX9_choose_102 (v := (nI 60)) (by decide) ?_
      refine aw_iload_n C dX9_choose_104 rfl ?_
      refine aw_imul C dX9_choose_105 ?_
      refine aw_iload C dX9_choose_106 rfl ?_
      refine aw_iadd C dX9_choose_108 ?_
      obtain ⟨v41, e42, H⟩ := hz_bd H
      refine aw_iald C e42 dX9_choose_109 ?_
      obtain ⟨h43, e44, H⟩ := hz_bd H
      refine aw_iast C e44 dX9_choose_110 ?_
      refine aw_iinc (d := (nI 1)) C dX9_choose_111 (by rw [hn]; decide) rfl (by decide) rfl ?_
      refine aw_goto (tgt := 70) C dX9_choose_114 (by decide) ?_
      exact ih _ _ _ _ _ _ H
set_option maxRecDepth 100000 in
set_option maxHeartbeats 4000000 in
theorem k_X9_choose_4 {G : GX} {h' : HP} (hn : G.2.2.2.2.2.2.2.2.2.2.2.2 = 6) (C : Cx G cX9_choose RX9 "choose" none rm_X9_choose none h') : ∀ (n : Nat) (l0 : Option Nat) (l1 : Int32) (l2 : Int32) (l3 : Int32) (h : HP), f_X9_choose_4  n l0 l1 l2 l3 h = some h' → aw G 4 [some (va_rf l0), some (.int l1), some (.int l2), some (.int l3), none, none] [] h 0 0 := by
  intro n
  induction n with
  | zero => intro l0 l1 l2 l3 h H; cases H
  | succ n ih =>
    intro l0 l1 l2 l3 h H
    rw [f_X9_choose_4] at H
    refine aw_iload_n C dX9_choose_4 rfl ?_
    refine aw_aload_n C dX9_choose_5 rfl ?_
    obtain ⟨v1, e2, H⟩ := hz_bd H
    refine aw_gI (k := 0) C cl_9 (by decide) wd_662 e2 dX9_choose_6 ?_
    refine aw_icmp_ge (tgt := 197) C dX9_choose_9 (by decide) (fun c130 => ?_) (fun c130 => ?_)
    · replace H := hz_it c130 H
      refine aw_aload_n C dX9_choose_197 rfl ?_
      obtain ⟨r3, e4, H⟩ := hz_bd H
      refine aw_gR (k := 5) C cl_9 (by decide) wd_667 e4 dX9_choose_198 ?_
      refine aw_iload_n C dX9_choose_201 rfl ?_
      refine aw_aload_n C dX9_choose_202 rfl ?_
      obtain ⟨r5, e6, H⟩ := hz_bd H
      refine aw_gR (k := 16) C cl_9 (by decide) wd_678 e6 dX9_choose_203 ?_
      refine aw_bipush C dX9_choose_206 (v := (nI 7)) (by decide) ?_
      refine aw_iload_n C dX9_choose_208 rfl ?_
      refine aw_imul C dX9_choose_209 ?_
      refine aw_iload_n C dX9_choose_210 rfl ?_
      refine aw_iadd C dX9_choose_211 ?_
      obtain ⟨v7, e8, H⟩ := hz_bd H
      refine aw_iald C e8 dX9_choose_212 ?_
      obtain ⟨h9, e10, H⟩ := hz_bd H
      refine aw_iast C e10 dX9_choose_213 ?_
      refine aw_iconst C dX9_choose_214 (v := (nI 0)) (by decide) ?_
      refine aw_istore_n C dX9_choose_215 (by rw [hn]; decide) rfl ?_
      exact k_X9_choose_216 hn C  600 _ _ _ _ _ H
    · replace H := hz_if c130 H
      refine aw_aload_n C dX9_choose_12 rfl ?_
      obtain ⟨r11, e12, H⟩ := hz_bd H
      refine aw_gR (k := 11) C cl_9 (by decide) wd_673 e12 dX9_choose_13 ?_
      refine aw_iload_n C dX9_choose_16 rfl ?_
      obtain ⟨v13, e14, H⟩ := hz_bd H
      refine aw_iald C e14 dX9_choose_17 ?_
      refine aw_iload_n C dX9_choose_18 rfl ?_
      obtain ⟨p15, e16, H⟩ := hz_bd H
      refine aw_S (As := [.int v13, .int l3]) (rest := []) C hy_X9_has wd_789 wd_788 (c_X9_has _ _ _ _ _  e16) (hz_roi _) rfl rfl (Nat.le_of_ble_eq_true rfl) (by decide) (kc := 0) (ks := 0) rfl rfl (by decide) dX9_choose_19 ?_
      refine aw_if_ne (tgt := 28) C dX9_choose_22 (by decide) (fun c131 => ?_) (fun c131 => ?_)
      · replace H := hz_if c131 H
        refine aw_iload_n C dX9_choose_28 rfl ?_
        refine aw_iload_n C dX9_choose_29 rfl ?_
        refine aw_icmp_ne (tgt := 117) C dX9_choose_30 (by decide) (fun c132 => ?_) (fun c132 => ?_)
        · replace H := hz_if c132 H
          exact k_X9_choose_117 hn C (fun _ _ _ _ _ H => ih _ _ _ _ _ H) _ _ _ _ _ H
        · replace H := hz_it c132 H
          refine aw_aload_n C dX9_choose_33 rfl ?_
          obtain ⟨r17, e18, H⟩ := hz_bd H
          refine aw_gR (k := 15) C cl_9 (by decide) wd_677 e18 dX9_choose_34 ?_
          refine aw_bipush C dX9_choose_37 (v := (nI 7)) (by decide) ?_
          refine aw_iload_n C dX9_choose_39 rfl ?_
          refine aw_imul C dX9_choose_40 ?_
          refine aw_iload_n C dX9_choose_41 rfl ?_
          refine aw_iadd C dX9_choose_42 ?_
          refine aw_aload_n C dX9_choose_43 rfl ?_
          obtain ⟨r19, e20, H⟩ := hz_bd H
          refine aw_gR (k := 7) C cl_9 (by decide) wd_669 e20 dX9_choose_44 ?_
          refine aw_iload_n C dX9_choose_47 rfl ?_
          obtain ⟨v21, e22, H⟩ := hz_bd H
          refine aw_iald C e22 dX9_choose_48 ?_
          obtain ⟨h23, e24, H⟩ := hz_bd H
          refine aw_iast C e24 dX9_choose_49 ?_
          refine aw_aload_n C dX9_choose_50 rfl ?_
          obtain ⟨r25, e26, H⟩ := hz_bd H
          refine aw_gR (k := 16) C cl_9 (by decide) wd_678 e26 dX9_choose_51 ?_
          refine aw_bipush C dX9_choose_54 (v := (nI 7)) (by decide) ?_
          refine aw_iload_n C dX9_choose_56 rfl ?_
          refine aw_imul C dX9_choose_57 ?_
          refine aw_iload_n C dX9_choose_58 rfl ?_
          refine aw_iadd C dX9_choose_59 ?_
          refine aw_aload_n C dX9_choose_60 rfl ?_
          obtain ⟨r27, e28, H⟩ := hz_bd H
          refine aw_gR (k := 5) C cl_9 (by decide) wd_667 e28 dX9_choose_61 ?_
          refine aw_iload_n C dX9_choose_64 rfl ?_
          obtain ⟨v29, e30, H⟩ := hz_bd H
          refine aw_iald C e30 dX9_choose_65 ?_
          obtain ⟨h31, e32, H⟩ := hz_bd H
          refine aw_iast C e32 dX9_choose_66 ?_
          refine aw_iconst C dX9_choose_67 (v := (nI 0)) (by decide) ?_
          refine aw_istore C dX9_choose_68 (by rw [hn]; decide) rfl ?_
          exact k_X9_choose_70 hn C (fun _ _ _ _ _ H => ih _ _ _ _ _ H) 600 _ _ _ _ _ _ H
      · replace H := hz_it c131 H
        refine aw_goto (tgt := 191) C dX9_choose_25 (by decide) ?_
        exact k_X9_choose_191 hn C (fun _ _ _ _ _ H => ih _ _ _ _ _ H) _ _ _ _ _ H
set_option maxRecDepth 100000 in
set_option maxHeartbeats 4000000 in
theorem c_X9_choose {l : Launch} (a0 : Option Nat) (a1 : Int32) (h : HP) (h' : HP) (H : f_X9_choose a0 a1 h = some h') : Ct l yX9_choose cX9_choose 6 none rm_X9_choose [va_rf a0, .int a1] none h h' := by
  refine Ct.of (plainFor_of_name (by decide)) (hz_s1c (hz_s1c hz_s1n rfl) (hz_cr _)) (Nat.le_of_ble_eq_true rfl) (fun G hl hn C0 => ?_)
  have C : Cx G cX9_choose RX9 "choose" none rm_X9_choose none h' := C0
  subst hl
  show aw G 0 [some (va_rf a0), some (.int a1), none, none, none, none] [] h 0 0
  unfold f_X9_choose at H
  refine aw_iconst C dX9_choose_0 (v := (-1)) (by decide) ?_
  refine aw_istore_n C dX9_choose_1 (by rw [hn]; decide) rfl ?_
  refine aw_iconst C dX9_choose_2 (v := (nI 0)) (by decide) ?_
  refine aw_istore_n C dX9_choose_3 (by rw [hn]; decide) rfl ?_
  exact k_X9_choose_4 hn C  600 _ _ _ _ _ H
theorem hy_X9_flush : hz_Y yX9_flush cX9_flush 4 none 1 := ⟨wd_842, wd_66, by decide +kernel, by decide +kernel, by decide +kernel⟩
theorem hv_X9_flush : hz_YV yX9_flush := ⟨wd_841, wd_51⟩
def f_X9_flush_130 (h : HP) : Option HP :=
  some h
def f_X9_flush_47 : Nat → Option Nat → Int32 → Int32 → Int32 → HP → Option HP
  | 0, _, _, _, _, _ => none
  | n + 1, l0, l1, l2, l3, h =>
    (hz_gI h l0 9 0).bind fun v22 =>
    if v22 = 0 then none else
    if (l3 - l3 / v22 * v22) = l1 then
      (hz_gR h l0 9 8).bind fun r25 =>
      (hz_aS h r25 0 l1 l3).bind fun h27 =>
      (hz_gR h27 l0 9 10).bind fun r29 =>
      (hz_aS h27 r29 0 l1 (nI 3)).bind fun h31 =>
      (hz_gR h31 l0 9 11).bind fun r33 =>
      (hz_aS h31 r33 0 l1 l2).bind fun h35 =>
      (hz_gR h35 l0 9 14).bind fun r37 =>
      (hz_aS h35 r37 0 l1 ((nI 1) <<< (l1 &&& 31))).bind fun h39 =>
      (hz_gI h39 l0 9 34).bind fun v41 =>
      (hz_pF h39 l0 9 34 (.int (v41 + (nI 1)))).bind fun h43 =>
      if hz_ob h43 l0 9 = true then
      (f_X9_sendAll l0 l1 l2 (nI 7) l3 l2 (nI 0) (nI 0) h43).bind fun p45 =>
      (hz_gR p45 l0 9 14).bind fun r48 =>
      (hz_aI p45 r48 0 l1).bind fun v50 =>
      if v50 = l2 then
        if hz_ob p45 l0 9 = true then
        (f_X9_choose l0 l1 p45).bind fun p52 =>
        f_X9_flush_130   p52
        else none
      else
        f_X9_flush_130   p45
      else none
    else
      f_X9_flush_47  n l0 l1 l2 (l3 + (nI 1)) h
def f_X9_flush (a0 : Option Nat) (a1 : Int32) (h : HP) : Option HP :=
  (hz_gR h a0 9 3).bind fun r1 =>
  (hz_aI h r1 0 a1).bind fun v3 =>
  (hz_gR h a0 9 9).bind fun r5 =>
  (hz_aI h r5 0 a1).bind fun v7 =>
  if hz_ob h a0 9 = true then
  (f_X9_many a0 (v3 &&& (v7 ^^^ (-1 : Int32))) h).bind fun p9 =>
  (hz_gI p9.2 a0 9 0).bind fun v12 =>
  if v12 < ((nI 2) * p9.1) then
    (hz_gR p9.2 a0 9 8).bind fun r14 =>
    (hz_aI p9.2 r14 0 a1).bind fun v16 =>
    f_X9_flush_47  600 a0 a1 (v3 &&& (v7 ^^^ (-1 : Int32))) (v16 + (nI 1)) p9.2
  else
    (hz_gR p9.2 a0 9 10).bind fun r18 =>
    (hz_aS p9.2 r18 0 a1 (nI 0)).bind fun h20 =>
    some h20
  else none
abbrev rm_X9_flush : Room := { frames := 6, cells := 0, slots := 0, locals := 141 }
set_option maxRecDepth 100000 in
set_option maxHeartbeats 4000000 in
theorem k_X9_flush_130 {G : GX} {h' : HP} (hn : G.2.2.2.2.2.2.2.2.2.2.2.2 = 4) (C : Cx G cX9_flush RX9 "flush" none rm_X9_flush none h') (h : HP) (H : f_X9_flush_130   h = some h') : aw G 130 [none, none, none, none] [] h 0 0 := by
  unfold f_X9_flush_130 at H
  cases H
  exact aw_vret C (Nat.zero_le _) (Nat.zero_le _) dX9_flush_130
set_option maxRecDepth 100000 in
set_option maxHeartbeats 4000000 in
theorem k_X9_flush_47 {G : GX} {h' : HP} (hn : G.2.2.2.2.2.2.2.2.2.2.2.2 = 4) (C : Cx G cX9_flush RX9 "flush" none rm_X9_flush none h') : ∀ (n : Nat) (l0 : Option Nat) (l1 : Int32) (l2 : Int32) (l3 : Int32) (h : HP), f_X9_flush_47  n l0 l1 l2 l3 h = some h' → aw G 47 [some (va_rf l0), some (.int l1), some (.int l2), some (.int l3)] [] h 0 0 := by
  intro n
  induction n with
  | zero => intro l0 l1 l2 l3 h H; cases H
  | succ n ih =>
    intro l0 l1 l2 l3 h H
    rw [f_X9_flush_47] at H
    refine aw_iload_n C dX9_flush_47 rfl ?_
    refine aw_aload_n C dX9_flush_48 rfl ?_
    obtain ⟨v22, e23, H⟩ := hz_bd H
    refine aw_gI (k := 0) C cl_9 (by decide) wd_662 e23 dX9_flush_49 ?_
    obtain ⟨g24, H⟩ := hz_un H
    refine aw_irem C dX9_flush_52 g24 ?_
    refine aw_iload_n C dX9_flush_53 rfl ?_
    refine aw_icmp_eq (tgt := 63) C dX9_flush_54 (by decide) (fun c55 => ?_) (fun c55 => ?_)
    · replace H := hz_it c55 H
      refine aw_aload_n C dX9_flush_63 rfl ?_
      obtain ⟨r25, e26, H⟩ := hz_bd H
      refine aw_gR (k := 8) C cl_9 (by decide) wd_670 e26 dX9_flush_64 ?_
      refine aw_iload_n C dX9_flush_67 rfl ?_
      refine aw_iload_n C dX9_flush_68 rfl ?_
      obtain ⟨h27, e28, H⟩ := hz_bd H
      refine aw_iast C e28 dX9_flush_69 ?_
      refine aw_aload_n C dX9_flush_70 rfl ?_
      obtain ⟨r29, e30, H⟩ := hz_bd H
      refine aw_gR (k := 10) C cl_9 (by decide) wd_672 e30 dX9_flush_71 ?_
      refine aw_iload_n C dX9_flush_74 rfl ?_
      refine aw_iconst C dX9_flush_75 (v := (nI 3)) (by decide) ?_
      obtain ⟨h31, e32, H⟩ := hz_bd H
      refine aw_iast C e32 dX9_flush_76 ?_
      refine aw_aload_n C dX9_flush_77 rfl ?_
      obtain ⟨r33, e34, H⟩ := hz_bd H
      refine aw_gR (k := 11) C cl_9 (by decide) wd_673 e34 dX9_flush_78 ?_
      refine aw_iload_n C dX9_flush_81 rfl ?_
      refine aw_iload_n C dX9_flush_82 rfl ?_
      obtain ⟨h35, e36, H⟩ := hz_bd H
      refine aw_iast C e36 dX9_flush_83 ?_
      refine aw_aload_n C dX9_flush_84 rfl ?_
      obtain ⟨r37, e38, H⟩ := hz_bd H
      refine aw_gR (k := 14) C cl_9 (by decide) wd_676 e38 dX9_flush_85 ?_
      refine aw_iload_n C dX9_flush_88 rfl ?_
      refine aw_iconst C dX9_flush_89 (v := (nI 1)) (by decide) ?_
      refine aw_iload_n C dX9_flush_90 rfl ?_
      refine aw_ishl C dX9_flush_91 ?_
      obtain ⟨h39, e40, H⟩ := hz_bd H
      refine aw_iast C e40 dX9_flush_92 ?_
      refine aw_aload_n C dX9_flush_93 rfl ?_
      refine aw_dup C dX9_flush_94 ?_
      obtain ⟨v41, e42, H⟩ := hz_bd H
      refine aw_gI (k := 34) C cl_9 (by decide) wd_696 e42 dX9_flush_95 ?_
      refine aw_iconst C dX9_flush_98 (v := (nI 1)) (by decide) ?_
      refine aw_iadd C dX9_flush_99 ?_
      obtain ⟨h43, e44, H⟩ := hz_bd H
      refine aw_pF (k := 34) C cl_9 (by decide) rfl wd_696 (hz_fiti _) e44 dX9_flush_100 ?_
      refine aw_aload_n C dX9_flush_103 rfl ?_
      refine aw_iload_n C dX9_flush_104 rfl ?_
      refine aw_iload_n C dX9_flush_105 rfl ?_
      refine aw_bipush C dX9_flush_106 (v := (nI 7)) (by decide) ?_
      refine aw_iload_n C dX9_flush_108 rfl ?_
      refine aw_iload_n C dX9_flush_109 rfl ?_
      refine aw_iconst C dX9_flush_110 (v := (nI 0)) (by decide) ?_
      refine aw_iconst C dX9_flush_111 (v := (nI 0)) (by decide) ?_
      obtain ⟨g47, H⟩ := hz_wn H
      obtain ⟨p45, e46, H⟩ := hz_bd H
      refine aw_V (As := [.int l1, .int l2, .int (nI 7), .int l3, .int l2, .int (nI 0), .int (nI 0)]) (rest := []) C hy_X9_sendAll hv_X9_sendAll wd_799 cl_9.1 g47 (c_X9_sendAll _ _ _ _ _ _ _ _ _ _  e46) hz_ron rfl rfl (Nat.le_of_ble_eq_true rfl) (by decide) (kc := 0) (ks := 0) rfl rfl (by decide) dX9_flush_112 ?_
      refine aw_aload_n C dX9_flush_115 rfl ?_
      obtain ⟨r48, e49, H⟩ := hz_bd H
      refine aw_gR (k := 14) C cl_9 (by decide) wd_676 e49 dX9_flush_116 ?_
      refine aw_iload_n C dX9_flush_119 rfl ?_
      obtain ⟨v50, e51, H⟩ := hz_bd H
      refine aw_iald C e51 dX9_flush_120 ?_
      refine aw_iload_n C dX9_flush_121 rfl ?_
      refine aw_icmp_ne (tgt := 130) C dX9_flush_122 (by decide) (fun c56 => ?_) (fun c56 => ?_)
      · replace H := hz_if c56 H
        exact aw_loc (hz_sub_n (hz_sub_n (hz_sub_n (hz_sub_n hz_sub_0)))) (k_X9_flush_130 hn C  _ H)
      · replace H := hz_it c56 H
        refine aw_aload_n C dX9_flush_125 rfl ?_
        refine aw_iload_n C dX9_flush_126 rfl ?_
        obtain ⟨g54, H⟩ := hz_wn H
        obtain ⟨p52, e53, H⟩ := hz_bd H
        refine aw_V (As := [.int l1]) (rest := []) C hy_X9_choose hv_X9_choose wd_847 cl_9.1 g54 (c_X9_choose _ _ _ _  e53) hz_ron rfl rfl (Nat.le_of_ble_eq_true rfl) (by decide) (kc := 0) (ks := 0) rfl rfl (by decide) dX9_flush_127 ?_
        exact aw_loc (hz_sub_n (hz_sub_n (hz_sub_n (hz_sub_n hz_sub_0)))) (k_X9_flush_130 hn C  _ H)
    · replace H := hz_if c55 H
      refine aw_iinc (d := (nI 1)) C dX9_flush_57 (by rw [hn]; decide) rfl (by decide) rfl ?_
      refine aw_goto (tgt := 47) C dX9_flush_60 (by decide) ?_
      exact ih _ _ _ _ _ H
set_option maxRecDepth 100000 in
set_option maxHeartbeats 4000000 in
theorem c_X9_flush {l : Launch} (a0 : Option Nat) (a1 : Int32) (h : HP) (h' : HP) (H : f_X9_flush a0 a1 h = some h') : Ct l yX9_flush cX9_flush 4 none rm_X9_flush [va_rf a0, .int a1] none h h' := by
  refine Ct.of (plainFor_of_name (by decide)) (hz_s1c (hz_s1c hz_s1n rfl) (hz_cr _)) (Nat.le_of_ble_eq_true rfl) (fun G hl hn C0 => ?_)
  have C : Cx G cX9_flush RX9 "flush" none rm_X9_flush none h' := C0
  subst hl
  show aw G 0 [some (va_rf a0), some (.int a1), none, none] [] h 0 0
  unfold f_X9_flush at H
  refine aw_aload_n C dX9_flush_0 rfl ?_
  obtain ⟨r1, e2, H⟩ := hz_bd H
  refine aw_gR (k := 3) C cl_9 (by decide) wd_665 e2 dX9_flush_1 ?_
  refine aw_iload_n C dX9_flush_4 rfl ?_
  obtain ⟨v3, e4, H⟩ := hz_bd H
  refine aw_iald C e4 dX9_flush_5 ?_
  refine aw_aload_n C dX9_flush_6 rfl ?_
  obtain ⟨r5, e6, H⟩ := hz_bd H
  refine aw_gR (k := 9) C cl_9 (by decide) wd_671 e6 dX9_flush_7 ?_
  refine aw_iload_n C dX9_flush_10 rfl ?_
  obtain ⟨v7, e8, H⟩ := hz_bd H
  refine aw_iald C e8 dX9_flush_11 ?_
  refine aw_iconst C dX9_flush_12 (v := (-1)) (by decide) ?_
  refine aw_ixor C dX9_flush_13 ?_
  refine aw_iand C dX9_flush_14 ?_
  refine aw_istore_n C dX9_flush_15 (by rw [hn]; decide) rfl ?_
  refine aw_iconst C dX9_flush_16 (v := (nI 2)) (by decide) ?_
  refine aw_aload_n C dX9_flush_17 rfl ?_
  refine aw_iload_n C dX9_flush_18 rfl ?_
  obtain ⟨g11, H⟩ := hz_wn H
  obtain ⟨p9, e10, H⟩ := hz_bd H
  refine aw_V (As := [.int (v3 &&& (v7 ^^^ (-1 : Int32)))]) (rest := [.int (nI 2)]) C hy_X9_many hv_X9_many wd_843 cl_9.1 g11 (c_X9_many _ _ _ _ _  e10) (hz_roi _) rfl rfl (Nat.le_of_ble_eq_true rfl) (by decide) (kc := 0) (ks := 0) rfl rfl (by decide) dX9_flush_19 ?_
  refine aw_imul C dX9_flush_22 ?_
  refine aw_aload_n C dX9_flush_23 rfl ?_
  obtain ⟨v12, e13, H⟩ := hz_bd H
  refine aw_gI (k := 0) C cl_9 (by decide) wd_662 e13 dX9_flush_24 ?_
  refine aw_icmp_gt (tgt := 38) C dX9_flush_27 (by decide) (fun c57 => ?_) (fun c57 => ?_)
  · replace H := hz_it c57 H
    refine aw_aload_n C dX9_flush_38 rfl ?_
    obtain ⟨r14, e15, H⟩ := hz_bd H
    refine aw_gR (k := 8) C cl_9 (by decide) wd_670 e15 dX9_flush_39 ?_
    refine aw_iload_n C dX9_flush_42 rfl ?_
    obtain ⟨v16, e17, H⟩ := hz_bd H
    refine aw_iald C e17 dX9_flush_43 ?_
    refine aw_iconst C dX9_flush_44 (v := (nI 1)) (by decide) ?_
    refine aw_iadd C dX9_flush_45 ?_
    refine aw_istore_n C dX9_flush_46 (by rw [hn]; decide) rfl ?_
    exact k_X9_flush_47 hn C  600 _ _ _ _ _ H
  · replace H := hz_if c57 H
    refine aw_aload_n C dX9_flush_30 rfl ?_
    obtain ⟨r18, e19, H⟩ := hz_bd H
    refine aw_gR (k := 10) C cl_9 (by decide) wd_672 e19 dX9_flush_31 ?_
    refine aw_iload_n C dX9_flush_34 rfl ?_
    refine aw_iconst C dX9_flush_35 (v := (nI 0)) (by decide) ?_
    obtain ⟨h20, e21, H⟩ := hz_bd H
    refine aw_iast C e21 dX9_flush_36 ?_
    cases H
    exact aw_vret C (Nat.zero_le _) (Nat.zero_le _) dX9_flush_37
theorem hy_X9_ask : hz_Y yX9_ask cX9_ask 3 none 1 := ⟨wd_838, wd_66, by decide +kernel, by decide +kernel, by decide +kernel⟩
theorem hv_X9_ask : hz_YV yX9_ask := ⟨wd_837, wd_50⟩
def f_X9_ask_56 (h : HP) : Option HP :=
  some h
def f_X9_ask (a0 : Option Nat) (a1 : Int32) (h : HP) : Option HP :=
  (hz_gR h a0 9 10).bind fun r1 =>
  (hz_aS h r1 0 a1 (nI 1)).bind fun h3 =>
  (hz_gR h3 a0 9 3).bind fun r5 =>
  (hz_aI h3 r5 0 a1).bind fun v7 =>
  (hz_gR h3 a0 9 9).bind fun r9 =>
  (hz_aI h3 r9 0 a1).bind fun v11 =>
  if ((v7 &&& (v11 ^^^ (-1 : Int32))) &&& ((((nI 1) <<< ((a1 + (nI 1)) &&& 31)) - (nI 1)) ^^^ (-1 : Int32))) = 0 then
    if hz_ob h3 a0 9 = true then
    (f_X9_flush a0 a1 h3).bind fun p16 =>
    f_X9_ask_56   p16
    else none
  else
    if hz_ob h3 a0 9 = true then
    (f_X9_sendAll a0 a1 ((v7 &&& (v11 ^^^ (-1 : Int32))) &&& ((((nI 1) <<< ((a1 + (nI 1)) &&& 31)) - (nI 1)) ^^^ (-1 : Int32))) (nI 5) (nI 0) (nI 0) (nI 0) (nI 0) h3).bind fun p13 =>
    f_X9_ask_56   p13
    else none
abbrev rm_X9_ask : Room := { frames := 7, cells := 0, slots := 0, locals := 164 }
set_option maxRecDepth 100000 in
set_option maxHeartbeats 4000000 in
theorem k_X9_ask_56 {G : GX} {h' : HP} (hn : G.2.2.2.2.2.2.2.2.2.2.2.2 = 3) (C : Cx G cX9_ask RX9 "ask" none rm_X9_ask none h') (h : HP) (H : f_X9_ask_56   h = some h') : aw G 56 [none, none, none] [] h 0 0 := by
  unfold f_X9_ask_56 at H
  cases H
  exact aw_vret C (Nat.zero_le _) (Nat.zero_le _) dX9_ask_56
set_option maxRecDepth 100000 in
set_option maxHeartbeats 4000000 in
theorem c_X9_ask {l : Launch} (a0 : Option Nat) (a1 : Int32) (h : HP) (h' : HP) (H : f_X9_ask a0 a1 h = some h') : Ct l yX9_ask cX9_ask 3 none rm_X9_ask [va_rf a0, .int a1] none h h' := by
  refine Ct.of (plainFor_of_name (by decide)) (hz_s1c (hz_s1c hz_s1n rfl) (hz_cr _)) (Nat.le_of_ble_eq_true rfl) (fun G hl hn C0 => ?_)
  have C : Cx G cX9_ask RX9 "ask" none rm_X9_ask none h' := C0
  subst hl
  show aw G 0 [some (va_rf a0), some (.int a1), none] [] h 0 0
  unfold f_X9_ask at H
  refine aw_aload_n C dX9_ask_0 rfl ?_
  obtain ⟨r1, e2, H⟩ := hz_bd H
  refine aw_gR (k := 10) C cl_9 (by decide) wd_672 e2 dX9_ask_1 ?_
  refine aw_iload_n C dX9_ask_4 rfl ?_
  refine aw_iconst C dX9_ask_5 (v := (nI 1)) (by decide) ?_
  obtain ⟨h3, e4, H⟩ := hz_bd H
  refine aw_iast C e4 dX9_ask_6 ?_
  refine aw_aload_n C dX9_ask_7 rfl ?_
  obtain ⟨r5, e6, H⟩ := hz_bd H
  refine aw_gR (k := 3) C cl_9 (by decide) wd_665 e6 dX9_ask_8 ?_
  refine aw_iload_n C dX9_ask_11 rfl ?_
  obtain ⟨v7, e8, H⟩ := hz_bd H
  refine aw_iald C e8 dX9_ask_12 ?_
  refine aw_aload_n C dX9_ask_13 rfl ?_
  obtain ⟨r9, e10, H⟩ := hz_bd H
  refine aw_gR (k := 9) C cl_9 (by decide) wd_671 e10 dX9_ask_14 ?_
  refine aw_iload_n C dX9_ask_17 rfl ?_
  obtain ⟨v11, e12, H⟩ := hz_bd H
  refine aw_iald C e12 dX9_ask_18 ?_
  refine aw_iconst C dX9_ask_19 (v := (-1)) (by decide) ?_
  refine aw_ixor C dX9_ask_20 ?_
  refine aw_iand C dX9_ask_21 ?_
  refine aw_iconst C dX9_ask_22 (v := (nI 1)) (by decide) ?_
  refine aw_iload_n C dX9_ask_23 rfl ?_
  refine aw_iconst C dX9_ask_24 (v := (nI 1)) (by decide) ?_
  refine aw_iadd C dX9_ask_25 ?_
  refine aw_ishl C dX9_ask_26 ?_
  refine aw_iconst C dX9_ask_27 (v := (nI 1)) (by decide) ?_
  refine aw_isub C dX9_ask_28 ?_
  refine aw_iconst C dX9_ask_29 (v := (-1)) (by decide) ?_
  refine aw_ixor C dX9_ask_30 ?_
  refine aw_iand C dX9_ask_31 ?_
  refine aw_istore_n C dX9_ask_32 (by rw [hn]; decide) rfl ?_
  refine aw_iload_n C dX9_ask_33 rfl ?_
  refine aw_if_ne (tgt := 45) C dX9_ask_34 (by decide) (fun c19 => ?_) (fun c19 => ?_)
  · replace H := hz_if c19 H
    refine aw_aload_n C dX9_ask_45 rfl ?_
    refine aw_iload_n C dX9_ask_46 rfl ?_
    refine aw_iload_n C dX9_ask_47 rfl ?_
    refine aw_iconst C dX9_ask_48 (v := (nI 5)) (by decide) ?_
    refine aw_iconst C dX9_ask_49 (v := (nI 0)) (by decide) ?_
    refine aw_iconst C dX9_ask_50 (v := (nI 0)) (by decide) ?_
    refine aw_iconst C dX9_ask_51 (v := (nI 0)) (by decide) ?_
    refine aw_iconst C dX9_ask_52 (v := (nI 0)) (by decide) ?_
    obtain ⟨g15, H⟩ := hz_wn H
    obtain ⟨p13, e14, H⟩ := hz_bd H
    refine aw_V (As := [.int a1, .int ((v7 &&& (v11 ^^^ (-1 : Int32))) &&& ((((nI 1) <<< ((a1 + (nI 1)) &&& 31)) - (nI 1)) ^^^ (-1 : Int32))), .int (nI 5), .int (nI 0), .int (nI 0), .int (nI 0), .int (nI 0)]) (rest := []) C hy_X9_sendAll hv_X9_sendAll wd_799 cl_9.1 g15 (c_X9_sendAll _ _ _ _ _ _ _ _ _ _  e14) hz_ron rfl rfl (Nat.le_of_ble_eq_true rfl) (by decide) (kc := 0) (ks := 0) rfl rfl (by decide) dX9_ask_53 ?_
    exact aw_loc (hz_sub_n (hz_sub_n (hz_sub_n hz_sub_0))) (k_X9_ask_56 hn C  _ H)
  · replace H := hz_it c19 H
    refine aw_aload_n C dX9_ask_37 rfl ?_
    refine aw_iload_n C dX9_ask_38 rfl ?_
    obtain ⟨g18, H⟩ := hz_wn H
    obtain ⟨p16, e17, H⟩ := hz_bd H
    refine aw_V (As := [.int a1]) (rest := []) C hy_X9_flush hv_X9_flush wd_839 cl_9.1 g18 (c_X9_flush _ _ _ _  e17) hz_ron rfl rfl (Nat.le_of_ble_eq_true rfl) (by decide) (kc := 0) (ks := 0) rfl rfl (by decide) dX9_ask_39 ?_
    refine aw_goto (tgt := 56) C dX9_ask_42 (by decide) ?_
    exact aw_loc (hz_sub_n (hz_sub_n (hz_sub_n hz_sub_0))) (k_X9_ask_56 hn C  _ H)
theorem hy_X9_comeOfView : hz_Y yX9_comeOfView cX9_comeOfView 5 none 3 := ⟨wd_862, wd_66, by decide +kernel, by decide +kernel, by decide +kernel⟩
theorem hv_X9_comeOfView : hz_YV yX9_comeOfView := ⟨wd_861, wd_56⟩
def f_X9_comeOfView_484 (h : HP) : Option HP :=
  some h
def f_X9_comeOfView_200 : Nat → Option Nat → Int32 → Int32 → Int32 → Int32 → HP → Option HP
  | 0, _, _, _, _, _, _ => none
  | n + 1, l0, l1, l2, l3, l4, h =>
    (hz_gR h l0 9 26).bind fun r154 =>
    (hz_aI h r154 0 l1).bind fun v156 =>
    if v156 ≤ l4 then
      (hz_gR h l0 9 14).bind fun r158 =>
      (hz_aI h r158 0 l2).bind fun v160 =>
      (hz_gR h l0 9 11).bind fun r162 =>
      (hz_aI h r162 0 l2).bind fun v164 =>
      if v160 = v164 then
        if hz_ob h l0 9 = true then
        (f_X9_choose l0 l2 h).bind fun p166 =>
        f_X9_comeOfView_484   p166
        else none
      else
        f_X9_comeOfView_484   h
    else
      (hz_gR h l0 9 17).bind fun r169 =>
      (hz_gR h l0 9 27).bind fun r171 =>
      (hz_aI h r171 0 (((nI 60) * l1) + l4)).bind fun v173 =>
      (hz_aS h r169 0 ((((nI 420) * l2) + ((nI 60) * l3)) + l4) v173).bind fun h175 =>
      f_X9_comeOfView_200  n l0 l1 l2 l3 (l4 + (nI 1)) h175
def f_X9_comeOfView_303 : Nat → Option Nat → Int32 → Int32 → Int32 → Int32 → HP → Option HP
  | 0, _, _, _, _, _, _ => none
  | n + 1, l0, l1, l2, l3, l4, h =>
    (hz_gR h l0 9 26).bind fun r177 =>
    (hz_aI h r177 0 l1).bind fun v179 =>
    if v179 ≤ l4 then
      (hz_gR h l0 9 7).bind fun r181 =>
      (hz_gR h l0 9 24).bind fun r183 =>
      (hz_aI h r183 0 l1).bind fun v185 =>
      (hz_aS h r181 0 l2 v185).bind fun h187 =>
      (hz_gR h187 l0 9 24).bind fun r189 =>
      (hz_aI h187 r189 0 l1).bind fun v191 =>
      if hz_ob h187 l0 9 = true then
      (f_X9_send l0 l2 l3 (nI 10) v191 (nI 0) (nI 0) (nI 0) h187).bind fun p193 =>
      f_X9_comeOfView_484   p193
      else none
    else
      (hz_gR h l0 9 4).bind fun r196 =>
      (hz_gR h l0 9 27).bind fun r198 =>
      (hz_aI h r198 0 (((nI 60) * l1) + l4)).bind fun v200 =>
      (hz_aS h r196 0 (((nI 60) * l2) + l4) v200).bind fun h202 =>
      f_X9_comeOfView_303  n l0 l1 l2 l3 (l4 + (nI 1)) h202
def f_X9_comeOfView (a0 : Option Nat) (a1 : Int32) (a2 : Int32) (a3 : Int32) (h : HP) : Option HP :=
  (hz_gR h a0 9 23).bind fun r1 =>
  (hz_aI h r1 0 a1).bind fun v3 =>
  if v3 = nI 7 then
    (hz_gR h a0 9 24).bind fun r5 =>
    (hz_aI h r5 0 a1).bind fun v7 =>
    (hz_gR h a0 9 8).bind fun r9 =>
    (hz_aI h r9 0 a2).bind fun v11 =>
    if v11 < v7 then
      (hz_gR h a0 9 8).bind fun r13 =>
      (hz_gR h a0 9 24).bind fun r15 =>
      (hz_aI h r15 0 a1).bind fun v17 =>
      (hz_aS h r13 0 a2 v17).bind fun h19 =>
      (hz_gR h19 a0 9 10).bind fun r21 =>
      (hz_aS h19 r21 0 a2 (nI 0)).bind fun h23 =>
      (hz_gR h23 a0 9 12).bind fun r25 =>
      (hz_aS h23 r25 0 a2 a3).bind fun h27 =>
      (hz_gR h27 a0 9 24).bind fun r29 =>
      (hz_aI h27 r29 0 a1).bind fun v31 =>
      (hz_gR h27 a0 9 7).bind fun r33 =>
      (hz_aI h27 r33 0 a2).bind fun v35 =>
      (hz_gR h27 a0 9 5).bind fun r37 =>
      (hz_aI h27 r37 0 a2).bind fun v39 =>
      if hz_ob h27 a0 9 = true then
      (f_X9_send a0 a2 a3 (nI 8) v31 v35 v39 (nI 0) h27).bind fun p41 =>
      f_X9_comeOfView_484   p41
      else none
    else
      f_X9_comeOfView_484   h
  else
  if v3 = nI 8 then
    (hz_gR h a0 9 10).bind fun r44 =>
    (hz_aI h r44 0 a2).bind fun v46 =>
    if v46 = (nI 3) then
      (hz_gR h a0 9 24).bind fun r48 =>
      (hz_aI h r48 0 a1).bind fun v50 =>
      (hz_gR h a0 9 8).bind fun r52 =>
      (hz_aI h r52 0 a2).bind fun v54 =>
      if v50 = v54 then
        (hz_gR h a0 9 11).bind fun r56 =>
        (hz_aI h r56 0 a2).bind fun v58 =>
        (f_X9_has v58 a3 h).bind fun p60 =>
        if p60.1 = 0 then
          f_X9_comeOfView_484   p60.2
        else
          (hz_gR p60.2 a0 9 14).bind fun r62 =>
          (hz_aI p60.2 r62 0 a2).bind fun v64 =>
          (hz_aS p60.2 r62 0 a2 (v64 ||| ((nI 1) <<< (a3 &&& 31)))).bind fun h66 =>
          (hz_gR h66 a0 9 15).bind fun r68 =>
          (hz_gR h66 a0 9 25).bind fun r70 =>
          (hz_aI h66 r70 0 a1).bind fun v72 =>
          (hz_aS h66 r68 0 (((nI 7) * a2) + a3) v72).bind fun h74 =>
          (hz_gR h74 a0 9 16).bind fun r76 =>
          (hz_gR h74 a0 9 26).bind fun r78 =>
          (hz_aI h74 r78 0 a1).bind fun v80 =>
          (hz_aS h74 r76 0 (((nI 7) * a2) + a3) v80).bind fun h82 =>
          f_X9_comeOfView_200  600 a0 a1 a2 a3 (nI 0) h82
      else
        f_X9_comeOfView_484   h
    else
      f_X9_comeOfView_484   h
  else
  if v3 = nI 9 then
    (hz_gR h a0 9 24).bind fun r84 =>
    (hz_aI h r84 0 a1).bind fun v86 =>
    (hz_gR h a0 9 8).bind fun r88 =>
    (hz_aI h r88 0 a2).bind fun v90 =>
    if v86 = v90 then
      (hz_gR h a0 9 5).bind fun r92 =>
      (hz_gR h a0 9 26).bind fun r94 =>
      (hz_aI h r94 0 a1).bind fun v96 =>
      (hz_aS h r92 0 a2 v96).bind fun h98 =>
      f_X9_comeOfView_303  600 a0 a1 a2 a3 (nI 0) h98
    else
      f_X9_comeOfView_484   h
  else
  if v3 = nI 10 then
    (hz_gR h a0 9 10).bind fun r100 =>
    (hz_aI h r100 0 a2).bind fun v102 =>
    if v102 = (nI 4) then
      (hz_gR h a0 9 24).bind fun r104 =>
      (hz_aI h r104 0 a1).bind fun v106 =>
      (hz_gR h a0 9 8).bind fun r108 =>
      (hz_aI h r108 0 a2).bind fun v110 =>
      if v106 = v110 then
        (hz_gR h a0 9 11).bind fun r112 =>
        (hz_aI h r112 0 a2).bind fun v114 =>
        (f_X9_has v114 a3 h).bind fun p116 =>
        if p116.1 = 0 then
          f_X9_comeOfView_484   p116.2
        else
          (hz_gR p116.2 a0 9 14).bind fun r118 =>
          (hz_aI p116.2 r118 0 a2).bind fun v120 =>
          (hz_aS p116.2 r118 0 a2 (v120 ||| ((nI 1) <<< (a3 &&& 31)))).bind fun h122 =>
          (hz_gR h122 a0 9 14).bind fun r124 =>
          (hz_aI h122 r124 0 a2).bind fun v126 =>
          (hz_gR h122 a0 9 11).bind fun r128 =>
          (hz_aI h122 r128 0 a2).bind fun v130 =>
          if v126 = v130 then
            if hz_ob h122 a0 9 = true then
            (f_X9_found a0 a2 h122).bind fun p132 =>
            f_X9_comeOfView_484   p132
            else none
          else
            f_X9_comeOfView_484   h122
      else
        f_X9_comeOfView_484   h
    else
      f_X9_comeOfView_484   h
  else
    (hz_gR h a0 9 24).bind fun r135 =>
    (hz_aI h r135 0 a1).bind fun v137 =>
    (hz_gR h a0 9 8).bind fun r139 =>
    (hz_aI h r139 0 a2).bind fun v141 =>
    if v137 = v141 then
      (hz_gR h a0 9 24).bind fun r143 =>
      (hz_aI h r143 0 a1).bind fun v145 =>
      (hz_gR h a0 9 25).bind fun r147 =>
      (hz_aI h r147 0 a1).bind fun v149 =>
      if hz_ob h a0 9 = true then
      (f_X9_begin a0 a2 v145 v149 h).bind fun p151 =>
      f_X9_comeOfView_484   p151
      else none
    else
      f_X9_comeOfView_484   h
abbrev rm_X9_comeOfView : Room := { frames := 6, cells := 0, slots := 0, locals := 141 }
set_option maxRecDepth 100000 in
set_option maxHeartbeats 4000000 in
theorem k_X9_comeOfView_484 {G : GX} {h' : HP} (hn : G.2.2.2.2.2.2.2.2.2.2.2.2 = 5) (C : Cx G cX9_comeOfView RX9 "comeOfView" none rm_X9_comeOfView none h') (h : HP) (H : f_X9_comeOfView_484   h = some h') : aw G 484 [none, none, none, none, none] [] h 0 0 := by
  unfold f_X9_comeOfView_484 at H
  cases H
  exact aw_vret C (Nat.zero_le _) (Nat.zero_le _) dX9_comeOfView_484
set_option maxRecDepth 100000 in
set_option maxHeartbeats 4000000 in
theorem k_X9_comeOfView_200 {G : GX} {h' : HP} (hn : G.2.2.2.2.2.2.2.2.2.2.2.2 = 5) (C : Cx G cX9_comeOfView RX9 "comeOfView" none rm_X9_comeOfView none h') : ∀ (n : Nat) (l0 : Option Nat) (l1 : Int32) (l2 : Int32) (l3 : Int32) (l4 : Int32) (h : HP), f_X9_comeOfView_200  n l0 l1 l2 l3 l4 h = some h' → aw G 200 [some (va_rf l0), some (.int l1), some (.int l2), some (.int l3), some (.int l4)] [] h 0 0 := by
  intro n
  induction n with
  | zero => intro l0 l1 l2 l3 l4 h H; cases H
  | succ n ih =>
    intro l0 l1 l2 l3 l4 h H
    rw [f_X9_comeOfView_200] at H
    refine aw_iload C dX9_comeOfView_200 rfl ?_
    refine aw_aload_n C dX9_comeOfView_202 rfl ?_
    obtain ⟨r154, e155, H⟩ := hz_bd H
    refine aw_gR (k := 26) C cl_9 (by decide) wd_688 e155 dX9_comeOfView_203 ?_
    refine aw_iload_n C dX9_comeOfView_206 rfl ?_
    obtain ⟨v156, e157, H⟩ := hz_bd H
    refine aw_iald C e157 dX9_comeOfView_207 ?_
    refine aw_icmp_ge (tgt := 247) C dX9_comeOfView_208 (by decide) (fun c204 => ?_) (fun c204 => ?_)
    · replace H := hz_it c204 H
      refine aw_aload_n C dX9_comeOfView_247 rfl ?_
      obtain ⟨r158, e159, H⟩ := hz_bd H
      refine aw_gR (k := 14) C cl_9 (by decide) wd_676 e159 dX9_comeOfView_248 ?_
      refine aw_iload_n C dX9_comeOfView_251 rfl ?_
      obtain ⟨v160, e161, H⟩ := hz_bd H
      refine aw_iald C e161 dX9_comeOfView_252 ?_
      refine aw_aload_n C dX9_comeOfView_253 rfl ?_
      obtain ⟨r162, e163, H⟩ := hz_bd H
      refine aw_gR (k := 11) C cl_9 (by decide) wd_673 e163 dX9_comeOfView_254 ?_
      refine aw_iload_n C dX9_comeOfView_257 rfl ?_
      obtain ⟨v164, e165, H⟩ := hz_bd H
      refine aw_iald C e165 dX9_comeOfView_258 ?_
      refine aw_icmp_ne (tgt := 484) C dX9_comeOfView_259 (by decide) (fun c205 => ?_) (fun c205 => ?_)
      · replace H := hz_if c205 H
        exact aw_loc (hz_sub_n (hz_sub_n (hz_sub_n (hz_sub_n (hz_sub_n hz_sub_0))))) (k_X9_comeOfView_484 hn C  _ H)
      · replace H := hz_it c205 H
        refine aw_aload_n C dX9_comeOfView_262 rfl ?_
        refine aw_iload_n C dX9_comeOfView_263 rfl ?_
        obtain ⟨g168, H⟩ := hz_wn H
        obtain ⟨p166, e167, H⟩ := hz_bd H
        refine aw_V (As := [.int l2]) (rest := []) C hy_X9_choose hv_X9_choose wd_847 cl_9.1 g168 (c_X9_choose _ _ _ _  e167) hz_ron rfl rfl (Nat.le_of_ble_eq_true rfl) (by decide) (kc := 0) (ks := 0) rfl rfl (by decide) dX9_comeOfView_264 ?_
        refine aw_goto (tgt := 484) C dX9_comeOfView_267 (by decide) ?_
        exact aw_loc (hz_sub_n (hz_sub_n (hz_sub_n (hz_sub_n (hz_sub_n hz_sub_0))))) (k_X9_comeOfView_484 hn C  _ H)
    · replace H := hz_if c204 H
      refine aw_aload_n C dX9_comeOfView_211 rfl ?_
      obtain ⟨r169, e170, H⟩ := hz_bd H
      refine aw_gR (k := 17) C cl_9 (by decide) wd_679 e170 dX9_comeOfView_212 ?_
      refine aw_sipush C dX9_comeOfView_215 (v := (nI 420)) (by decide) ?_
      refine aw_iload_n C dX9_comeOfView_218 rfl ?_
      refine aw_imul C dX9_comeOfView_219 ?_
      refine aw_bipush C dX9_comeOfView_220 (v := (nI 60)) (by decide) ?_
      refine aw_iload_n C dX9_comeOfView_222 rfl ?_
      refine aw_imul C dX9_comeOfView_223 ?_
      refine aw_iadd C dX9_comeOfView_224 ?_
      refine aw_iload C dX9_comeOfView_225 rfl ?_
      refine aw_iadd C dX9_comeOfView_227 ?_
      refine aw_aload_n C dX9_comeOfView_228 rfl ?_
      obtain ⟨r171, e172, H⟩ := hz_bd H
      refine aw_gR (k := 27) C cl_9 (by decide) wd_689 e172 dX9_comeOfView_229 ?_
      refine aw_bipush C dX9_comeOfView_232 (v := (nI 60)) (by decide) ?_
      refine aw_iload_n C dX9_comeOfView_234 rfl ?_
      refine aw_imul C dX9_comeOfView_235 ?_
      refine aw_iload C dX9_comeOfView_236 rfl ?_
      refine aw_iadd C dX9_comeOfView_238 ?_
      obtain ⟨v173, e174, H⟩ := hz_bd H
      refine aw_iald C e174 dX9_comeOfView_239 ?_
      obtain ⟨h175, e176, H⟩ := hz_bd H
      refine aw_iast C e176 dX9_comeOfView_240 ?_
      refine aw_iinc (d := (nI 1)) C dX9_comeOfView_241 (by rw [hn]; decide) rfl (by decide) rfl ?_
      refine aw_goto (tgt := 200) C dX9_comeOfView_244 (by decide) ?_
      exact ih _ _ _ _ _ _ H
set_option maxRecDepth 100000 in
set_option maxHeartbeats 4000000 in
theorem k_X9_comeOfView_303 {G : GX} {h' : HP} (hn : G.2.2.2.2.2.2.2.2.2.2.2.2 = 5) (C : Cx G cX9_comeOfView RX9 "comeOfView" none rm_X9_comeOfView none h') : ∀ (n : Nat) (l0 : Option Nat) (l1 : Int32) (l2 : Int32) (l3 : Int32) (l4 : Int32) (h : HP), f_X9_comeOfView_303  n l0 l1 l2 l3 l4 h = some h' → aw G 303 [some (va_rf l0), some (.int l1), some (.int l2), some (.int l3), some (.int l4)] [] h 0 0 := by
  intro n
  induction n with
  | zero => intro l0 l1 l2 l3 l4 h H; cases H
  | succ n ih =>
    intro l0 l1 l2 l3 l4 h H
    rw [f_X9_comeOfView_303] at H
    refine aw_iload C dX9_comeOfView_303 rfl ?_
    refine aw_aload_n C dX9_comeOfView_305 rfl ?_
    obtain ⟨r177, e178, H⟩ := hz_bd H
    refine aw_gR (k := 26) C cl_9 (by decide) wd_688 e178 dX9_comeOfView_306 ?_
    refine aw_iload_n C dX9_comeOfView_309 rfl ?_
    obtain ⟨v179, e180, H⟩ := hz_bd H
    refine aw_iald C e180 dX9_comeOfView_310 ?_
    refine aw_icmp_ge (tgt := 344) C dX9_comeOfView_311 (by decide) (fun c206 => ?_) (fun c206 => ?_)
    · replace H := hz_it c206 H
      refine aw_aload_n C dX9_comeOfView_344 rfl ?_
      obtain ⟨r181, e182, H⟩ := hz_bd H
      refine aw_gR (k := 7) C cl_9 (by decide) wd_669 e182 dX9_comeOfView_345 ?_
      refine aw_iload_n C dX9_comeOfView_348 rfl ?_
      refine aw_aload_n C dX9_comeOfView_349 rfl ?_
      obtain ⟨r183, e184, H⟩ := hz_bd H
      refine aw_gR (k := 24) C cl_9 (by decide) wd_686 e184 dX9_comeOfView_350 ?_
      refine aw_iload_n C dX9_comeOfView_353 rfl ?_
      obtain ⟨v185, e186, H⟩ := hz_bd H
      refine aw_iald C e186 dX9_comeOfView_354 ?_
      obtain ⟨h187, e188, H⟩ := hz_bd H
      refine aw_iast C e188 dX9_comeOfView_355 ?_
      refine aw_aload_n C dX9_comeOfView_356 rfl ?_
      refine aw_iload_n C dX9_comeOfView_357 rfl ?_
      refine aw_iload_n C dX9_comeOfView_358 rfl ?_
      refine aw_bipush C dX9_comeOfView_359 (v := (nI 10)) (by decide) ?_
      refine aw_aload_n C dX9_comeOfView_361 rfl ?_
      obtain ⟨r189, e190, H⟩ := hz_bd H
      refine aw_gR (k := 24) C cl_9 (by decide) wd_686 e190 dX9_comeOfView_362 ?_
      refine aw_iload_n C dX9_comeOfView_365 rfl ?_
      obtain ⟨v191, e192, H⟩ := hz_bd H
      refine aw_iald C e192 dX9_comeOfView_366 ?_
      refine aw_iconst C dX9_comeOfView_367 (v := (nI 0)) (by decide) ?_
      refine aw_iconst C dX9_comeOfView_368 (v := (nI 0)) (by decide) ?_
      refine aw_iconst C dX9_comeOfView_369 (v := (nI 0)) (by decide) ?_
      obtain ⟨g195, H⟩ := hz_wn H
      obtain ⟨p193, e194, H⟩ := hz_bd H
      refine aw_V (As := [.int l2, .int l3, .int (nI 10), .int v191, .int (nI 0), .int (nI 0), .int (nI 0)]) (rest := []) C hy_X9_send hv_X9_send wd_791 cl_9.1 g195 (c_X9_send _ _ _ _ _ _ _ _ _ _  e194) hz_ron rfl rfl (Nat.le_of_ble_eq_true rfl) (by decide) (kc := 0) (ks := 0) rfl rfl (by decide) dX9_comeOfView_370 ?_
      refine aw_goto (tgt := 484) C dX9_comeOfView_373 (by decide) ?_
      exact aw_loc (hz_sub_n (hz_sub_n (hz_sub_n (hz_sub_n (hz_sub_n hz_sub_0))))) (k_X9_comeOfView_484 hn C  _ H)
    · replace H := hz_if c206 H
      refine aw_aload_n C dX9_comeOfView_314 rfl ?_
      obtain ⟨r196, e197, H⟩ := hz_bd H
      refine aw_gR (k := 4) C cl_9 (by decide) wd_666 e197 dX9_comeOfView_315 ?_
      refine aw_bipush C dX9_comeOfView_318 (v := (nI 60)) (by decide) ?_
      refine aw_iload_n C dX9_comeOfView_320 rfl ?_
      refine aw_imul C dX9_comeOfView_321 ?_
      refine aw_iload C dX9_comeOfView_322 rfl ?_
      refine aw_iadd C dX9_comeOfView_324 ?_
      refine aw_aload_n C dX9_comeOfView_325 rfl ?_
      obtain ⟨r198, e199, H⟩ := hz_bd H
      refine aw_gR (k := 27) C cl_9 (by decide) wd_689 e199 dX9_comeOfView_326 ?_
      refine aw_bipush C dX9_comeOfView_329 (v := (nI 60)) (by decide) ?_
      refine aw_iload_n C dX9_comeOfView_331 rfl ?_
      refine aw_imul C dX9_comeOfView_332 ?_
      refine aw_iload C dX9_comeOfView_333 rfl ?_
      refine aw_iadd C dX9_comeOfView_335 ?_
      obtain ⟨v200, e201, H⟩ := hz_bd H
      refine aw_iald C e201 dX9_comeOfView_336 ?_
      obtain ⟨h202, e203, H⟩ := hz_bd H
      refine aw_iast C e203 dX9_comeOfView_337 ?_
      refine aw_iinc (d := (nI 1)) C dX9_comeOfView_338 (by rw [hn]; decide) rfl (by decide) rfl ?_
      refine aw_goto (tgt := 303) C dX9_comeOfView_341 (by decide) ?_
      exact ih _ _ _ _ _ _ H
set_option maxRecDepth 100000 in
set_option maxHeartbeats 4000000 in
theorem c_X9_comeOfView {l : Launch} (a0 : Option Nat) (a1 : Int32) (a2 : Int32) (a3 : Int32) (h : HP) (h' : HP) (H : f_X9_comeOfView a0 a1 a2 a3 h = some h') : Ct l yX9_comeOfView cX9_comeOfView 5 none rm_X9_comeOfView [va_rf a0, .int a1, .int a2, .int a3] none h h' := by
  refine Ct.of (plainFor_of_name (by decide)) (hz_s1c (hz_s1c (hz_s1c (hz_s1c hz_s1n rfl) rfl) rfl) (hz_cr _)) (Nat.le_of_ble_eq_true rfl) (fun G hl hn C0 => ?_)
  have C : Cx G cX9_comeOfView RX9 "comeOfView" none rm_X9_comeOfView none h' := C0
  subst hl
  show aw G 0 [some (va_rf a0), some (.int a1), some (.int a2), some (.int a3), none] [] h 0 0
  unfold f_X9_comeOfView at H
  refine aw_aload_n C dX9_comeOfView_0 rfl ?_
  obtain ⟨r1, e2, H⟩ := hz_bd H
  refine aw_gR (k := 23) C cl_9 (by decide) wd_685 e2 dX9_comeOfView_1 ?_
  refine aw_iload_n C dX9_comeOfView_4 rfl ?_
  obtain ⟨v3, e4, H⟩ := hz_bd H
  refine aw_iald C e4 dX9_comeOfView_5 ?_
  by_cases c207 : v3 = nI 7
  · replace H := hz_it c207 H
    refine aw_tabI (a := 7) (off := 30) (tgt := 36) C dX9_comeOfView_6 (by rw [c207]; decide) (by decide) (by decide) rfl (by decide) ?_
    refine aw_aload_n C dX9_comeOfView_36 rfl ?_
    obtain ⟨r5, e6, H⟩ := hz_bd H
    refine aw_gR (k := 24) C cl_9 (by decide) wd_686 e6 dX9_comeOfView_37 ?_
    refine aw_iload_n C dX9_comeOfView_40 rfl ?_
    obtain ⟨v7, e8, H⟩ := hz_bd H
    refine aw_iald C e8 dX9_comeOfView_41 ?_
    refine aw_aload_n C dX9_comeOfView_42 rfl ?_
    obtain ⟨r9, e10, H⟩ := hz_bd H
    refine aw_gR (k := 8) C cl_9 (by decide) wd_670 e10 dX9_comeOfView_43 ?_
    refine aw_iload_n C dX9_comeOfView_46 rfl ?_
    obtain ⟨v11, e12, H⟩ := hz_bd H
    refine aw_iald C e12 dX9_comeOfView_47 ?_
    refine aw_icmp_gt (tgt := 54) C dX9_comeOfView_48 (by decide) (fun c208 => ?_) (fun c208 => ?_)
    · replace H := hz_it c208 H
      refine aw_aload_n C dX9_comeOfView_54 rfl ?_
      obtain ⟨r13, e14, H⟩ := hz_bd H
      refine aw_gR (k := 8) C cl_9 (by decide) wd_670 e14 dX9_comeOfView_55 ?_
      refine aw_iload_n C dX9_comeOfView_58 rfl ?_
      refine aw_aload_n C dX9_comeOfView_59 rfl ?_
      obtain ⟨r15, e16, H⟩ := hz_bd H
      refine aw_gR (k := 24) C cl_9 (by decide) wd_686 e16 dX9_comeOfView_60 ?_
      refine aw_iload_n C dX9_comeOfView_63 rfl ?_
      obtain ⟨v17, e18, H⟩ := hz_bd H
      refine aw_iald C e18 dX9_comeOfView_64 ?_
      obtain ⟨h19, e20, H⟩ := hz_bd H
      refine aw_iast C e20 dX9_comeOfView_65 ?_
      refine aw_aload_n C dX9_comeOfView_66 rfl ?_
      obtain ⟨r21, e22, H⟩ := hz_bd H
      refine aw_gR (k := 10) C cl_9 (by decide) wd_672 e22 dX9_comeOfView_67 ?_
      refine aw_iload_n C dX9_comeOfView_70 rfl ?_
      refine aw_iconst C dX9_comeOfView_71 (v := (nI 0)) (by decide) ?_
      obtain ⟨h23, e24, H⟩ := hz_bd H
      refine aw_iast C e24 dX9_comeOfView_72 ?_
      refine aw_aload_n C dX9_comeOfView_73 rfl ?_
      obtain ⟨r25, e26, H⟩ := hz_bd H
      refine aw_gR (k := 12) C cl_9 (by decide) wd_674 e26 dX9_comeOfView_74 ?_
      refine aw_iload_n C dX9_comeOfView_77 rfl ?_
      refine aw_iload_n C dX9_comeOfView_78 rfl ?_
      obtain ⟨h27, e28, H⟩ := hz_bd H
      refine aw_iast C e28 dX9_comeOfView_79 ?_
      refine aw_aload_n C dX9_comeOfView_80 rfl ?_
      refine aw_iload_n C dX9_comeOfView_81 rfl ?_
      refine aw_iload_n C dX9_comeOfView_82 rfl ?_
      refine aw_bipush C dX9_comeOfView_83 (v := (nI 8)) (by decide) ?_
      refine aw_aload_n C dX9_comeOfView_85 rfl ?_
      obtain ⟨r29, e30, H⟩ := hz_bd H
      refine aw_gR (k := 24) C cl_9 (by decide) wd_686 e30 dX9_comeOfView_86 ?_
      refine aw_iload_n C dX9_comeOfView_89 rfl ?_
      obtain ⟨v31, e32, H⟩ := hz_bd H
      refine aw_iald C e32 dX9_comeOfView_90 ?_
      refine aw_aload_n C dX9_comeOfView_91 rfl ?_
      obtain ⟨r33, e34, H⟩ := hz_bd H
      refine aw_gR (k := 7) C cl_9 (by decide) wd_669 e34 dX9_comeOfView_92 ?_
      refine aw_iload_n C dX9_comeOfView_95 rfl ?_
      obtain ⟨v35, e36, H⟩ := hz_bd H
      refine aw_iald C e36 dX9_comeOfView_96 ?_
      refine aw_aload_n C dX9_comeOfView_97 rfl ?_
      obtain ⟨r37, e38, H⟩ := hz_bd H
      refine aw_gR (k := 5) C cl_9 (by decide) wd_667 e38 dX9_comeOfView_98 ?_
      refine aw_iload_n C dX9_comeOfView_101 rfl ?_
      obtain ⟨v39, e40, H⟩ := hz_bd H
      refine aw_iald C e40 dX9_comeOfView_102 ?_
      refine aw_iconst C dX9_comeOfView_103 (v := (nI 0)) (by decide) ?_
      obtain ⟨g43, H⟩ := hz_wn H
      obtain ⟨p41, e42, H⟩ := hz_bd H
      refine aw_V (As := [.int a2, .int a3, .int (nI 8), .int v31, .int v35, .int v39, .int (nI 0)]) (rest := []) C hy_X9_send hv_X9_send wd_791 cl_9.1 g43 (c_X9_send _ _ _ _ _ _ _ _ _ _  e42) hz_ron rfl rfl (Nat.le_of_ble_eq_true rfl) (by decide) (kc := 0) (ks := 0) rfl rfl (by decide) dX9_comeOfView_104 ?_
      refine aw_goto (tgt := 484) C dX9_comeOfView_107 (by decide) ?_
      exact aw_loc (hz_sub_n (hz_sub_n (hz_sub_n (hz_sub_n (hz_sub_n hz_sub_0))))) (k_X9_comeOfView_484 hn C  _ H)
    · replace H := hz_if c208 H
      refine aw_goto (tgt := 484) C dX9_comeOfView_51 (by decide) ?_
      exact aw_loc (hz_sub_n (hz_sub_n (hz_sub_n (hz_sub_n (hz_sub_n hz_sub_0))))) (k_X9_comeOfView_484 hn C  _ H)
  replace H := hz_if c207 H
  by_cases c209 : v3 = nI 8
  · replace H := hz_it c209 H
    refine aw_tabI (a := 8) (off := 104) (tgt := 110) C dX9_comeOfView_6 (by rw [c209]; decide) (by decide) (by decide) rfl (by decide) ?_
    refine aw_aload_n C dX9_comeOfView_110 rfl ?_
    obtain ⟨r44, e45, H⟩ := hz_bd H
    refine aw_gR (k := 10) C cl_9 (by decide) wd_672 e45 dX9_comeOfView_111 ?_
    refine aw_iload_n C dX9_comeOfView_114 rfl ?_
    obtain ⟨v46, e47, H⟩ := hz_bd H
    refine aw_iald C e47 dX9_comeOfView_115 ?_
    refine aw_iconst C dX9_comeOfView_116 (v := (nI 3)) (by decide) ?_
    refine aw_icmp_ne (tgt := 484) C dX9_comeOfView_117 (by decide) (fun c210 => ?_) (fun c210 => ?_)
    · replace H := hz_if c210 H
      exact aw_loc (hz_sub_n (hz_sub_n (hz_sub_n (hz_sub_n (hz_sub_n hz_sub_0))))) (k_X9_comeOfView_484 hn C  _ H)
    · replace H := hz_it c210 H
      refine aw_aload_n C dX9_comeOfView_120 rfl ?_
      obtain ⟨r48, e49, H⟩ := hz_bd H
      refine aw_gR (k := 24) C cl_9 (by decide) wd_686 e49 dX9_comeOfView_121 ?_
      refine aw_iload_n C dX9_comeOfView_124 rfl ?_
      obtain ⟨v50, e51, H⟩ := hz_bd H
      refine aw_iald C e51 dX9_comeOfView_125 ?_
      refine aw_aload_n C dX9_comeOfView_126 rfl ?_
      obtain ⟨r52, e53, H⟩ := hz_bd H
      refine aw_gR (k := 8) C cl_9 (by decide) wd_670 e53 dX9_comeOfView_127 ?_
      refine aw_iload_n C dX9_comeOfView_130 rfl ?_
      obtain ⟨v54, e55, H⟩ := hz_bd H
      refine aw_iald C e55 dX9_comeOfView_131 ?_
      refine aw_icmp_ne (tgt := 484) C dX9_comeOfView_132 (by decide) (fun c211 => ?_) (fun c211 => ?_)
      · replace H := hz_if c211 H
        exact aw_loc (hz_sub_n (hz_sub_n (hz_sub_n (hz_sub_n (hz_sub_n hz_sub_0))))) (k_X9_comeOfView_484 hn C  _ H)
      · replace H := hz_it c211 H
        refine aw_aload_n C dX9_comeOfView_135 rfl ?_
        obtain ⟨r56, e57, H⟩ := hz_bd H
        refine aw_gR (k := 11) C cl_9 (by decide) wd_673 e57 dX9_comeOfView_136 ?_
        refine aw_iload_n C dX9_comeOfView_139 rfl ?_
        obtain ⟨v58, e59, H⟩ := hz_bd H
        refine aw_iald C e59 dX9_comeOfView_140 ?_
        refine aw_iload_n C dX9_comeOfView_141 rfl ?_
        obtain ⟨p60, e61, H⟩ := hz_bd H
        refine aw_S (As := [.int v58, .int a3]) (rest := []) C hy_X9_has wd_789 wd_788 (c_X9_has _ _ _ _ _  e61) (hz_roi _) rfl rfl (Nat.le_of_ble_eq_true rfl) (by decide) (kc := 0) (ks := 0) rfl rfl (by decide) dX9_comeOfView_142 ?_
        refine aw_if_ne (tgt := 151) C dX9_comeOfView_145 (by decide) (fun c212 => ?_) (fun c212 => ?_)
        · replace H := hz_if c212 H
          refine aw_aload_n C dX9_comeOfView_151 rfl ?_
          obtain ⟨r62, e63, H⟩ := hz_bd H
          refine aw_gR (k := 14) C cl_9 (by decide) wd_676 e63 dX9_comeOfView_152 ?_
          refine aw_iload_n C dX9_comeOfView_155 rfl ?_
          refine aw_dup2 C dX9_comeOfView_156 ?_
          obtain ⟨v64, e65, H⟩ := hz_bd H
          refine aw_iald C e65 dX9_comeOfView_157 ?_
          refine aw_iconst C dX9_comeOfView_158 (v := (nI 1)) (by decide) ?_
          refine aw_iload_n C dX9_comeOfView_159 rfl ?_
          refine aw_ishl C dX9_comeOfView_160 ?_
          refine aw_ior C dX9_comeOfView_161 ?_
          obtain ⟨h66, e67, H⟩ := hz_bd H
          refine aw_iast C e67 dX9_comeOfView_162 ?_
          refine aw_aload_n C dX9_comeOfView_163 rfl ?_
          obtain ⟨r68, e69, H⟩ := hz_bd H
          refine aw_gR (k := 15) C cl_9 (by decide) wd_677 e69 dX9_comeOfView_164 ?_
          refine aw_bipush C dX9_comeOfView_167 (v := (nI 7)) (by decide) ?_
          refine aw_iload_n C dX9_comeOfView_169 rfl ?_
          refine aw_imul C dX9_comeOfView_170 ?_
          refine aw_iload_n C dX9_comeOfView_171 rfl ?_
          refine aw_iadd C dX9_comeOfView_172 ?_
          refine aw_aload_n C dX9_comeOfView_173 rfl ?_
          obtain ⟨r70, e71, H⟩ := hz_bd H
          refine aw_gR (k := 25) C cl_9 (by decide) wd_687 e71 dX9_comeOfView_174 ?_
          refine aw_iload_n C dX9_comeOfView_177 rfl ?_
          obtain ⟨v72, e73, H⟩ := hz_bd H
          refine aw_iald C e73 dX9_comeOfView_178 ?_
          obtain ⟨h74, e75, H⟩ := hz_bd H
          refine aw_iast C e75 dX9_comeOfView_179 ?_
          refine aw_aload_n C dX9_comeOfView_180 rfl ?_
          obtain ⟨r76, e77, H⟩ := hz_bd H
          refine aw_gR (k := 16) C cl_9 (by decide) wd_678 e77 dX9_comeOfView_181 ?_
          refine aw_bipush C dX9_comeOfView_184 (v := (nI 7)) (by decide) ?_
          refine aw_iload_n C dX9_comeOfView_186 rfl ?_
          refine aw_imul C dX9_comeOfView_187 ?_
          refine aw_iload_n C dX9_comeOfView_188 rfl ?_
          refine aw_iadd C dX9_comeOfView_189 ?_
          refine aw_aload_n C dX9_comeOfView_190 rfl ?_
          obtain ⟨r78, e79, H⟩ := hz_bd H
          refine aw_gR (k := 26) C cl_9 (by decide) wd_688 e79 dX9_comeOfView_191 ?_
          refine aw_iload_n C dX9_comeOfView_194 rfl ?_
          obtain ⟨v80, e81, H⟩ := hz_bd H
          refine aw_iald C e81 dX9_comeOfView_195 ?_
          obtain ⟨h82, e83, H⟩ := hz_bd H
          refine aw_iast C e83 dX9_comeOfView_196 ?_
          refine aw_iconst C dX9_comeOfView_197 (v := (nI 0)) (by decide) ?_
          refine aw_istore C dX9_comeOfView_198 (by rw [hn]; decide) rfl ?_
          exact k_X9_comeOfView_200 hn C  600 _ _ _ _ _ _ H
        · replace H := hz_it c212 H
          refine aw_goto (tgt := 484) C dX9_comeOfView_148 (by decide) ?_
          exact aw_loc (hz_sub_n (hz_sub_n (hz_sub_n (hz_sub_n (hz_sub_n hz_sub_0))))) (k_X9_comeOfView_484 hn C  _ H)
  replace H := hz_if c209 H
  by_cases c213 : v3 = nI 9
  · replace H := hz_it c213 H
    refine aw_tabI (a := 9) (off := 264) (tgt := 270) C dX9_comeOfView_6 (by rw [c213]; decide) (by decide) (by decide) rfl (by decide) ?_
    refine aw_aload_n C dX9_comeOfView_270 rfl ?_
    obtain ⟨r84, e85, H⟩ := hz_bd H
    refine aw_gR (k := 24) C cl_9 (by decide) wd_686 e85 dX9_comeOfView_271 ?_
    refine aw_iload_n C dX9_comeOfView_274 rfl ?_
    obtain ⟨v86, e87, H⟩ := hz_bd H
    refine aw_iald C e87 dX9_comeOfView_275 ?_
    refine aw_aload_n C dX9_comeOfView_276 rfl ?_
    obtain ⟨r88, e89, H⟩ := hz_bd H
    refine aw_gR (k := 8) C cl_9 (by decide) wd_670 e89 dX9_comeOfView_277 ?_
    refine aw_iload_n C dX9_comeOfView_280 rfl ?_
    obtain ⟨v90, e91, H⟩ := hz_bd H
    refine aw_iald C e91 dX9_comeOfView_281 ?_
    refine aw_icmp_eq (tgt := 288) C dX9_comeOfView_282 (by decide) (fun c214 => ?_) (fun c214 => ?_)
    · replace H := hz_it c214 H
      refine aw_aload_n C dX9_comeOfView_288 rfl ?_
      obtain ⟨r92, e93, H⟩ := hz_bd H
      refine aw_gR (k := 5) C cl_9 (by decide) wd_667 e93 dX9_comeOfView_289 ?_
      refine aw_iload_n C dX9_comeOfView_292 rfl ?_
      refine aw_aload_n C dX9_comeOfView_293 rfl ?_
      obtain ⟨r94, e95, H⟩ := hz_bd H
      refine aw_gR (k := 26) C cl_9 (by decide) wd_688 e95 dX9_comeOfView_294 ?_
      refine aw_iload_n C dX9_comeOfView_297 rfl ?_
      obtain ⟨v96, e97, H⟩ := hz_bd H
      refine aw_iald C e97 dX9_comeOfView_298 ?_
      obtain ⟨h98, e99, H⟩ := hz_bd H
      refine aw_iast C e99 dX9_comeOfView_299 ?_
      refine aw_iconst C dX9_comeOfView_300 (v := (nI 0)) (by decide) ?_
      refine aw_istore C dX9_comeOfView_301 (by rw [hn]; decide) rfl ?_
      exact k_X9_comeOfView_303 hn C  600 _ _ _ _ _ _ H
    · replace H := hz_if c214 H
      refine aw_goto (tgt := 484) C dX9_comeOfView_285 (by decide) ?_
      exact aw_loc (hz_sub_n (hz_sub_n (hz_sub_n (hz_sub_n (hz_sub_n hz_sub_0))))) (k_X9_comeOfView_484 hn C  _ H)
  replace H := hz_if c213 H
  by_cases c215 : v3 = nI 10
  · replace H := hz_it c215 H
    refine aw_tabI (a := 10) (off := 370) (tgt := 376) C dX9_comeOfView_6 (by rw [c215]; decide) (by decide) (by decide) rfl (by decide) ?_
    refine aw_aload_n C dX9_comeOfView_376 rfl ?_
    obtain ⟨r100, e101, H⟩ := hz_bd H
    refine aw_gR (k := 10) C cl_9 (by decide) wd_672 e101 dX9_comeOfView_377 ?_
    refine aw_iload_n C dX9_comeOfView_380 rfl ?_
    obtain ⟨v102, e103, H⟩ := hz_bd H
    refine aw_iald C e103 dX9_comeOfView_381 ?_
    refine aw_iconst C dX9_comeOfView_382 (v := (nI 4)) (by decide) ?_
    refine aw_icmp_ne (tgt := 484) C dX9_comeOfView_383 (by decide) (fun c216 => ?_) (fun c216 => ?_)
    · replace H := hz_if c216 H
      exact aw_loc (hz_sub_n (hz_sub_n (hz_sub_n (hz_sub_n (hz_sub_n hz_sub_0))))) (k_X9_comeOfView_484 hn C  _ H)
    · replace H := hz_it c216 H
      refine aw_aload_n C dX9_comeOfView_386 rfl ?_
      obtain ⟨r104, e105, H⟩ := hz_bd H
      refine aw_gR (k := 24) C cl_9 (by decide) wd_686 e105 dX9_comeOfView_387 ?_
      refine aw_iload_n C dX9_comeOfView_390 rfl ?_
      obtain ⟨v106, e107, H⟩ := hz_bd H
      refine aw_iald C e107 dX9_comeOfView_391 ?_
      refine aw_aload_n C dX9_comeOfView_392 rfl ?_
      obtain ⟨r108, e109, H⟩ := hz_bd H
      refine aw_gR (k := 8) C cl_9 (by decide) wd_670 e109 dX9_comeOfView_393 ?_
      refine aw_iload_n C dX9_comeOfView_396 rfl ?_
      obtain ⟨v110, e111, H⟩ := hz_bd H
      refine aw_iald C e111 dX9_comeOfView_397 ?_
      refine aw_icmp_ne (tgt := 484) C dX9_comeOfView_398 (by decide) (fun c217 => ?_) (fun c217 => ?_)
      · replace H := hz_if c217 H
        exact aw_loc (hz_sub_n (hz_sub_n (hz_sub_n (hz_sub_n (hz_sub_n hz_sub_0))))) (k_X9_comeOfView_484 hn C  _ H)
      · replace H := hz_it c217 H
        refine aw_aload_n C dX9_comeOfView_401 rfl ?_
        obtain ⟨r112, e113, H⟩ := hz_bd H
        refine aw_gR (k := 11) C cl_9 (by decide) wd_673 e113 dX9_comeOfView_402 ?_
        refine aw_iload_n C dX9_comeOfView_405 rfl ?_
        obtain ⟨v114, e115, H⟩ := hz_bd H
        refine aw_iald C e115 dX9_comeOfView_406 ?_
        refine aw_iload_n C dX9_comeOfView_407 rfl ?_
        obtain ⟨p116, e117, H⟩ := hz_bd H
        refine aw_S (As := [.int v114, .int a3]) (rest := []) C hy_X9_has wd_789 wd_788 (c_X9_has _ _ _ _ _  e117) (hz_roi _) rfl rfl (Nat.le_of_ble_eq_true rfl) (by decide) (kc := 0) (ks := 0) rfl rfl (by decide) dX9_comeOfView_408 ?_
        refine aw_if_ne (tgt := 417) C dX9_comeOfView_411 (by decide) (fun c218 => ?_) (fun c218 => ?_)
        · replace H := hz_if c218 H
          refine aw_aload_n C dX9_comeOfView_417 rfl ?_
          obtain ⟨r118, e119, H⟩ := hz_bd H
          refine aw_gR (k := 14) C cl_9 (by decide) wd_676 e119 dX9_comeOfView_418 ?_
          refine aw_iload_n C dX9_comeOfView_421 rfl ?_
          refine aw_dup2 C dX9_comeOfView_422 ?_
          obtain ⟨v120, e121, H⟩ := hz_bd H
          refine aw_iald C e121 dX9_comeOfView_423 ?_
          refine aw_iconst C dX9_comeOfView_424 (v := (nI 1)) (by decide) ?_
          refine aw_iload_n C dX9_comeOfView_425 rfl ?_
          refine aw_ishl C dX9_comeOfView_426 ?_
          refine aw_ior C dX9_comeOfView_427 ?_
          obtain ⟨h122, e123, H⟩ := hz_bd H
          refine aw_iast C e123 dX9_comeOfView_428 ?_
          refine aw_aload_n C dX9_comeOfView_429 rfl ?_
          obtain ⟨r124, e125, H⟩ := hz_bd H
          refine aw_gR (k := 14) C cl_9 (by decide) wd_676 e125 dX9_comeOfView_430 ?_
          refine aw_iload_n C dX9_comeOfView_433 rfl ?_
          obtain ⟨v126, e127, H⟩ := hz_bd H
          refine aw_iald C e127 dX9_comeOfView_434 ?_
          refine aw_aload_n C dX9_comeOfView_435 rfl ?_
          obtain ⟨r128, e129, H⟩ := hz_bd H
          refine aw_gR (k := 11) C cl_9 (by decide) wd_673 e129 dX9_comeOfView_436 ?_
          refine aw_iload_n C dX9_comeOfView_439 rfl ?_
          obtain ⟨v130, e131, H⟩ := hz_bd H
          refine aw_iald C e131 dX9_comeOfView_440 ?_
          refine aw_icmp_ne (tgt := 484) C dX9_comeOfView_441 (by decide) (fun c219 => ?_) (fun c219 => ?_)
          · replace H := hz_if c219 H
            exact aw_loc (hz_sub_n (hz_sub_n (hz_sub_n (hz_sub_n (hz_sub_n hz_sub_0))))) (k_X9_comeOfView_484 hn C  _ H)
          · replace H := hz_it c219 H
            refine aw_aload_n C dX9_comeOfView_444 rfl ?_
            refine aw_iload_n C dX9_comeOfView_445 rfl ?_
            obtain ⟨g134, H⟩ := hz_wn H
            obtain ⟨p132, e133, H⟩ := hz_bd H
            refine aw_V (As := [.int a2]) (rest := []) C hy_X9_found hv_X9_found wd_851 cl_9.1 g134 (c_X9_found _ _ _ _  e133) hz_ron rfl rfl (Nat.le_of_ble_eq_true rfl) (by decide) (kc := 0) (ks := 0) rfl rfl (by decide) dX9_comeOfView_446 ?_
            refine aw_goto (tgt := 484) C dX9_comeOfView_449 (by decide) ?_
            exact aw_loc (hz_sub_n (hz_sub_n (hz_sub_n (hz_sub_n (hz_sub_n hz_sub_0))))) (k_X9_comeOfView_484 hn C  _ H)
        · replace H := hz_it c218 H
          refine aw_goto (tgt := 484) C dX9_comeOfView_414 (by decide) ?_
          exact aw_loc (hz_sub_n (hz_sub_n (hz_sub_n (hz_sub_n (hz_sub_n hz_sub_0))))) (k_X9_comeOfView_484 hn C  _ H)
  replace H := hz_if c215 H
  refine aw_tabO (tgt := 452) C dX9_comeOfView_6 (by have z0 := lv_neT (a := 7) c207 rfl; have z1 := lv_neT (a := 8) c209 rfl; have z2 := lv_neT (a := 9) c213 rfl; have z3 := lv_neT (a := 10) c215 rfl; omega) (by decide) ?_
  refine aw_aload_n C dX9_comeOfView_452 rfl ?_
  obtain ⟨r135, e136, H⟩ := hz_bd H
  refine aw_gR (k := 24) C cl_9 (by decide) wd_686 e136 dX9_comeOfView_453 ?_
  refine aw_iload_n C dX9_comeOfView_456 rfl ?_
  obtain ⟨v137, e138, H⟩ := hz_bd H
  refine aw_iald C e138 dX9_comeOfView_457 ?_
  refine aw_aload_n C dX9_comeOfView_458 rfl ?_
  obtain ⟨r139, e140, H⟩ := hz_bd H
  refine aw_gR (k := 8) C cl_9 (by decide) wd_670 e140 dX9_comeOfView_459 ?_
  refine aw_iload_n C dX9_comeOfView_462 rfl ?_
  obtain ⟨v141, e142, H⟩ := hz_bd H
  refine aw_iald C e142 dX9_comeOfView_463 ?_
  refine aw_icmp_ne (tgt := 484) C dX9_comeOfView_464 (by decide) (fun c220 => ?_) (fun c220 => ?_)
  · replace H := hz_if c220 H
    exact aw_loc (hz_sub_n (hz_sub_n (hz_sub_n (hz_sub_n (hz_sub_n hz_sub_0))))) (k_X9_comeOfView_484 hn C  _ H)
  · replace H := hz_it c220 H
    refine aw_aload_n C dX9_comeOfView_467 rfl ?_
    refine aw_iload_n C dX9_comeOfView_468 rfl ?_
    refine aw_aload_n C dX9_comeOfView_469 rfl ?_
    obtain ⟨r143, e144, H⟩ := hz_bd H
    refine aw_gR (k := 24) C cl_9 (by decide) wd_686 e144 dX9_comeOfView_470 ?_
    refine aw_iload_n C dX9_comeOfView_473 rfl ?_
    obtain ⟨v145, e146, H⟩ := hz_bd H
    refine aw_iald C e146 dX9_comeOfView_474 ?_
    refine aw_aload_n C dX9_comeOfView_475 rfl ?_
    obtain ⟨r147, e148, H⟩ := hz_bd H
    refine aw_gR (k := 25) C cl_9 (by decide) wd_687 e148 dX9_comeOfView_476 ?_
    refine aw_iload_n C dX9_comeOfView_479 rfl ?_
    obtain ⟨v149, e150, H⟩ := hz_bd H
    refine aw_iald C e150 dX9_comeOfView_480 ?_
    obtain ⟨g153, H⟩ := hz_wn H
    obtain ⟨p151, e152, H⟩ := hz_bd H
    refine aw_V (As := [.int a2, .int v145, .int v149]) (rest := []) C hy_X9_begin hv_X9_begin wd_855 cl_9.1 g153 (c_X9_begin _ _ _ _ _ _  e152) hz_ron rfl rfl (Nat.le_of_ble_eq_true rfl) (by decide) (kc := 0) (ks := 0) rfl rfl (by decide) dX9_comeOfView_481 ?_
    exact aw_loc (hz_sub_n (hz_sub_n (hz_sub_n (hz_sub_n (hz_sub_n hz_sub_0))))) (k_X9_comeOfView_484 hn C  _ H)
theorem hy_X9_come : hz_Y yX9_come cX9_come 4 none 1 := ⟨wd_834, wd_66, by decide +kernel, by decide +kernel, by decide +kernel⟩
theorem hv_X9_come : hz_YV yX9_come := ⟨wd_833, wd_49⟩
def f_X9_come_433 (h : HP) : Option HP :=
  some h
def f_X9_come_129 (l0 : Option Nat) (h : HP) : Option HP :=
  (hz_gI h l0 9 31).bind fun v166 =>
  (hz_pF h l0 9 31 (.int (v166 + (nI 1)))).bind fun h168 =>
  f_X9_come_433   h168
def f_X9_come_314 (l0 : Option Nat) (l2 : Int32) (h : HP) : Option HP :=
  if hz_ob h l0 9 = true then
  (f_X9_look l0 l2 h).bind fun p170 =>
  f_X9_come_433   p170
  else none
def f_X9_come (a0 : Option Nat) (a1 : Int32) (h : HP) : Option HP :=
  (hz_gR h a0 9 22).bind fun r1 =>
  (hz_aI h r1 0 a1).bind fun v3 =>
  (hz_gR h a0 9 21).bind fun r5 =>
  (hz_aI h r5 0 a1).bind fun v7 =>
  (hz_gR h a0 9 23).bind fun r9 =>
  (hz_aI h r9 0 a1).bind fun v11 =>
  if v11 = nI 1 then
    if hz_ob h a0 9 = true then
    (f_X9_leader a0 v3 h).bind fun p13 =>
    if p13.1 = v3 then
      if hz_ob p13.2 a0 9 = true then
      (f_X9_isBlocked a0 v3 p13.2).bind fun p16 =>
      if p16.1 = 0 then
        (hz_gR p16.2 a0 9 5).bind fun r19 =>
        (hz_aI p16.2 r19 0 v3).bind fun v21 =>
        if (nI 60) ≤ v21 then
          f_X9_come_129  a0 p16.2
        else
          (hz_gR p16.2 a0 9 27).bind fun r23 =>
          (hz_aI p16.2 r23 0 ((nI 60) * a1)).bind fun v25 =>
          if hz_ob p16.2 a0 9 = true then
          (f_X9_add a0 v3 v25 p16.2).bind fun p27 =>
          f_X9_come_433   p27
          else none
      else
        f_X9_come_129  a0 p16.2
      else none
    else
      f_X9_come_129  a0 p13.2
    else none
  else
  if v11 = nI 2 then
    (hz_gR h a0 9 24).bind fun r30 =>
    (hz_aI h r30 0 a1).bind fun v32 =>
    (hz_gR h a0 9 2).bind fun r34 =>
    (hz_aI h r34 0 v3).bind fun v36 =>
    if v32 = v36 then
      if hz_ob h a0 9 = true then
      (f_X9_isBlocked a0 v3 h).bind fun p38 =>
      if p38.1 = 0 then
        (hz_gR p38.2 a0 9 5).bind fun r41 =>
        (hz_aI p38.2 r41 0 v3).bind fun v43 =>
        (hz_gR p38.2 a0 9 25).bind fun r45 =>
        (hz_aI p38.2 r45 0 a1).bind fun v47 =>
        if v43 = v47 then
          (hz_gR p38.2 a0 9 4).bind fun r49 =>
          (hz_gR p38.2 a0 9 5).bind fun r51 =>
          (hz_aI p38.2 r51 0 v3).bind fun v53 =>
          (hz_gR p38.2 a0 9 27).bind fun r55 =>
          (hz_aI p38.2 r55 0 ((nI 60) * a1)).bind fun v57 =>
          (hz_aS p38.2 r49 0 (((nI 60) * v3) + v53) v57).bind fun h59 =>
          (hz_gR h59 a0 9 5).bind fun r61 =>
          (hz_aI h59 r61 0 v3).bind fun v63 =>
          (hz_aS h59 r61 0 v3 (v63 + (nI 1))).bind fun h65 =>
          (hz_gR h65 a0 9 24).bind fun r67 =>
          (hz_aI h65 r67 0 a1).bind fun v69 =>
          (hz_gR h65 a0 9 5).bind fun r71 =>
          (hz_aI h65 r71 0 v3).bind fun v73 =>
          if hz_ob h65 a0 9 = true then
          (f_X9_send a0 v3 v7 (nI 3) v69 v73 (nI 0) (nI 0) h65).bind fun p75 =>
          f_X9_come_433   p75
          else none
        else
          f_X9_come_433   p38.2
      else
        f_X9_come_433   p38.2
      else none
    else
      f_X9_come_433   h
  else
  if v11 = nI 3 then
    if hz_ob h a0 9 = true then
    (f_X9_leader a0 v3 h).bind fun p78 =>
    if p78.1 = v3 then
      (hz_gR p78.2 a0 9 24).bind fun r81 =>
      (hz_aI p78.2 r81 0 a1).bind fun v83 =>
      (hz_gR p78.2 a0 9 2).bind fun r85 =>
      (hz_aI p78.2 r85 0 v3).bind fun v87 =>
      if v83 = v87 then
        if hz_ob p78.2 a0 9 = true then
        (f_X9_isBlocked a0 v3 p78.2).bind fun p89 =>
        if p89.1 = 0 then
          (hz_gR p89.2 a0 9 25).bind fun r92 =>
          (hz_aI p89.2 r92 0 a1).bind fun v94 =>
          (hz_gR p89.2 a0 9 13).bind fun r96 =>
          (hz_aI p89.2 r96 0 (((nI 7) * v3) + v7)).bind fun v98 =>
          if v94 ≤ v98 then
            f_X9_come_314  a0 v3 p89.2
          else
            (hz_gR p89.2 a0 9 13).bind fun r100 =>
            (hz_gR p89.2 a0 9 25).bind fun r102 =>
            (hz_aI p89.2 r102 0 a1).bind fun v104 =>
            (hz_aS p89.2 r100 0 (((nI 7) * v3) + v7) v104).bind fun h106 =>
            f_X9_come_314  a0 v3 h106
        else
          f_X9_come_433   p89.2
        else none
      else
        f_X9_come_433   p78.2
    else
      f_X9_come_433   p78.2
    else none
  else
  if v11 = nI 4 then
    (hz_gR h a0 9 24).bind fun r108 =>
    (hz_aI h r108 0 a1).bind fun v110 =>
    (hz_gR h a0 9 2).bind fun r112 =>
    (hz_aI h r112 0 v3).bind fun v114 =>
    if v110 = v114 then
      if hz_ob h a0 9 = true then
      (f_X9_isBlocked a0 v3 h).bind fun p116 =>
      if p116.1 = 0 then
        (hz_gR p116.2 a0 9 25).bind fun r119 =>
        (hz_aI p116.2 r119 0 a1).bind fun v121 =>
        if hz_ob p116.2 a0 9 = true then
        (f_X9_carryTo a0 v3 v121 p116.2).bind fun p123 =>
        f_X9_come_433   p123
        else none
      else
        f_X9_come_433   p116.2
      else none
    else
      f_X9_come_433   h
  else
  if v11 = nI 5 then
    if v7 ≤ v3 then
      if hz_ob h a0 9 = true then
      (f_X9_send a0 v3 v7 (nI 6) (nI 0) (nI 0) (nI 0) (nI 0) h).bind fun p126 =>
      (hz_gR p126 a0 9 10).bind fun r129 =>
      (hz_aI p126 r129 0 v3).bind fun v131 =>
      if v131 = 0 then
        if hz_ob p126 a0 9 = true then
        (f_X9_ask a0 v3 p126).bind fun p133 =>
        f_X9_come_433   p133
        else none
      else
        f_X9_come_433   p126
      else none
    else
      f_X9_come_433   h
  else
  if v11 = nI 6 then
    (hz_gR h a0 9 10).bind fun r136 =>
    (hz_aI h r136 0 v3).bind fun v138 =>
    if v138 = (nI 1) then
      (hz_gR h a0 9 10).bind fun r140 =>
      (hz_aS h r140 0 v3 (nI 2)).bind fun h142 =>
      f_X9_come_433   h142
    else
      f_X9_come_433   h
  else
  if v11 = nI 7 then
    if hz_ob h a0 9 = true then
    (f_X9_comeOfView a0 a1 v3 v7 h).bind fun p144 =>
    f_X9_come_433   p144
    else none
  else
  if v11 = nI 8 then
    if hz_ob h a0 9 = true then
    (f_X9_comeOfView a0 a1 v3 v7 h).bind fun p147 =>
    f_X9_come_433   p147
    else none
  else
  if v11 = nI 9 then
    if hz_ob h a0 9 = true then
    (f_X9_comeOfView a0 a1 v3 v7 h).bind fun p150 =>
    f_X9_come_433   p150
    else none
  else
  if v11 = nI 10 then
    if hz_ob h a0 9 = true then
    (f_X9_comeOfView a0 a1 v3 v7 h).bind fun p153 =>
    f_X9_come_433   p153
    else none
  else
  if v11 = nI 11 then
    if hz_ob h a0 9 = true then
    (f_X9_comeOfView a0 a1 v3 v7 h).bind fun p156 =>
    f_X9_come_433   p156
    else none
  else
  if v11 = nI 12 then
    (hz_gR h a0 9 1).bind fun r159 =>
    (hz_aS h r159 0 v3 (nI 2)).bind fun h161 =>
    f_X9_come_433   h161
  else
    if hz_ob h a0 9 = true then
    (f_X9_comeOfView a0 a1 v3 v7 h).bind fun p163 =>
    f_X9_come_433   p163
    else none
abbrev rm_X9_come : Room := { frames := 8, cells := 0, slots := 0, locals := 186 }
set_option maxRecDepth 100000 in
set_option maxHeartbeats 4000000 in
theorem k_X9_come_433 {G : GX} {h' : HP} (hn : G.2.2.2.2.2.2.2.2.2.2.2.2 = 4) (C : Cx G cX9_come RX9 "come" none rm_X9_come none h') (h : HP) (H : f_X9_come_433   h = some h') : aw G 433 [none, none, none, none] [] h 0 0 := by
  unfold f_X9_come_433 at H
  cases H
  exact aw_vret C (Nat.zero_le _) (Nat.zero_le _) dX9_come_433
set_option maxRecDepth 100000 in
set_option maxHeartbeats 4000000 in
theorem k_X9_come_129 {G : GX} {h' : HP} (hn : G.2.2.2.2.2.2.2.2.2.2.2.2 = 4) (C : Cx G cX9_come RX9 "come" none rm_X9_come none h') (l0 : Option Nat) (h : HP) (H : f_X9_come_129  l0 h = some h') : aw G 129 [some (va_rf l0), none, none, none] [] h 0 0 := by
  unfold f_X9_come_129 at H
  refine aw_aload_n C dX9_come_129 rfl ?_
  refine aw_dup C dX9_come_130 ?_
  obtain ⟨v166, e167, H⟩ := hz_bd H
  refine aw_gI (k := 31) C cl_9 (by decide) wd_693 e167 dX9_come_131 ?_
  refine aw_iconst C dX9_come_134 (v := (nI 1)) (by decide) ?_
  refine aw_iadd C dX9_come_135 ?_
  obtain ⟨h168, e169, H⟩ := hz_bd H
  refine aw_pF (k := 31) C cl_9 (by decide) rfl wd_693 (hz_fiti _) e169 dX9_come_136 ?_
  refine aw_goto (tgt := 433) C dX9_come_139 (by decide) ?_
  exact aw_loc (hz_sub_n (hz_sub_n (hz_sub_n (hz_sub_n hz_sub_0)))) (k_X9_come_433 hn C  _ H)
set_option maxRecDepth 100000 in
set_option maxHeartbeats 4000000 in
theorem k_X9_come_314 {G : GX} {h' : HP} (hn : G.2.2.2.2.2.2.2.2.2.2.2.2 = 4) (C : Cx G cX9_come RX9 "come" none rm_X9_come none h') (l0 : Option Nat) (l2 : Int32) (h : HP) (H : f_X9_come_314  l0 l2 h = some h') : aw G 314 [some (va_rf l0), none, some (.int l2), none] [] h 0 0 := by
  unfold f_X9_come_314 at H
  refine aw_aload_n C dX9_come_314 rfl ?_
  refine aw_iload_n C dX9_come_315 rfl ?_
  obtain ⟨g172, H⟩ := hz_wn H
  obtain ⟨p170, e171, H⟩ := hz_bd H
  refine aw_V (As := [.int l2]) (rest := []) C hy_X9_look hv_X9_look wd_803 cl_9.1 g172 (c_X9_look _ _ _ _  e171) hz_ron rfl rfl (Nat.le_of_ble_eq_true rfl) (by decide) (kc := 0) (ks := 0) rfl rfl (by decide) dX9_come_316 ?_
  refine aw_goto (tgt := 433) C dX9_come_319 (by decide) ?_
  exact aw_loc (hz_sub_n (hz_sub_n (hz_sub_n (hz_sub_n hz_sub_0)))) (k_X9_come_433 hn C  _ H)
set_option maxRecDepth 100000 in
set_option maxHeartbeats 4000000 in
theorem c_X9_come {l : Launch} (a0 : Option Nat) (a1 : Int32) (h : HP) (h' : HP) (H : f_X9_come a0 a1 h = some h') : Ct l yX9_come cX9_come 4 none rm_X9_come [va_rf a0, .int a1] none h h' := by
  refine Ct.of (plainFor_of_name (by decide)) (hz_s1c (hz_s1c hz_s1n rfl) (hz_cr _)) (Nat.le_of_ble_eq_true rfl) (fun G hl hn C0 => ?_)
  have C : Cx G cX9_come RX9 "come" none rm_X9_come none h' := C0
  subst hl
  show aw G 0 [some (va_rf a0), some (.int a1), none, none] [] h 0 0
  unfold f_X9_come at H
  refine aw_aload_n C dX9_come_0 rfl ?_
  obtain ⟨r1, e2, H⟩ := hz_bd H
  refine aw_gR (k := 22) C cl_9 (by decide) wd_684 e2 dX9_come_1 ?_
  refine aw_iload_n C dX9_come_4 rfl ?_
  obtain ⟨v3, e4, H⟩ := hz_bd H
  refine aw_iald C e4 dX9_come_5 ?_
  refine aw_istore_n C dX9_come_6 (by rw [hn]; decide) rfl ?_
  refine aw_aload_n C dX9_come_7 rfl ?_
  obtain ⟨r5, e6, H⟩ := hz_bd H
  refine aw_gR (k := 21) C cl_9 (by decide) wd_683 e6 dX9_come_8 ?_
  refine aw_iload_n C dX9_come_11 rfl ?_
  obtain ⟨v7, e8, H⟩ := hz_bd H
  refine aw_iald C e8 dX9_come_12 ?_
  refine aw_istore_n C dX9_come_13 (by rw [hn]; decide) rfl ?_
  refine aw_aload_n C dX9_come_14 rfl ?_
  obtain ⟨r9, e10, H⟩ := hz_bd H
  refine aw_gR (k := 23) C cl_9 (by decide) wd_685 e10 dX9_come_15 ?_
  refine aw_iload_n C dX9_come_18 rfl ?_
  obtain ⟨v11, e12, H⟩ := hz_bd H
  refine aw_iald C e12 dX9_come_19 ?_
  by_cases c173 : v11 = nI 1
  · replace H := hz_it c173 H
    refine aw_tabI (a := 1) (off := 64) (tgt := 84) C dX9_come_20 (by rw [c173]; decide) (by decide) (by decide) rfl (by decide) ?_
    refine aw_aload_n C dX9_come_84 rfl ?_
    refine aw_iload_n C dX9_come_85 rfl ?_
    obtain ⟨g15, H⟩ := hz_wn H
    obtain ⟨p13, e14, H⟩ := hz_bd H
    refine aw_V (As := [.int v3]) (rest := []) C hy_X9_leader hv_X9_leader wd_784 cl_9.1 g15 (c_X9_leader _ _ _ _ _  e14) (hz_roi _) rfl rfl (Nat.le_of_ble_eq_true rfl) (by decide) (kc := 0) (ks := 0) rfl rfl (by decide) dX9_come_86 ?_
    refine aw_iload_n C dX9_come_89 rfl ?_
    refine aw_icmp_ne (tgt := 129) C dX9_come_90 (by decide) (fun c174 => ?_) (fun c174 => ?_)
    · replace H := hz_if c174 H
      exact aw_loc (hz_sub_s (hz_sub_n (hz_sub_n (hz_sub_n hz_sub_0)))) (k_X9_come_129 hn C  _ _ H)
    · replace H := hz_it c174 H
      refine aw_aload_n C dX9_come_93 rfl ?_
      refine aw_iload_n C dX9_come_94 rfl ?_
      obtain ⟨g18, H⟩ := hz_wn H
      obtain ⟨p16, e17, H⟩ := hz_bd H
      refine aw_V (As := [.int v3]) (rest := []) C hy_X9_isBlocked hv_X9_isBlocked wd_780 cl_9.1 g18 (c_X9_isBlocked _ _ _ _ _  e17) (hz_roi _) rfl rfl (Nat.le_of_ble_eq_true rfl) (by decide) (kc := 0) (ks := 0) rfl rfl (by decide) dX9_come_95 ?_
      refine aw_if_ne (tgt := 129) C dX9_come_98 (by decide) (fun c175 => ?_) (fun c175 => ?_)
      · replace H := hz_if c175 H
        exact aw_loc (hz_sub_s (hz_sub_n (hz_sub_n (hz_sub_n hz_sub_0)))) (k_X9_come_129 hn C  _ _ H)
      · replace H := hz_it c175 H
        refine aw_aload_n C dX9_come_101 rfl ?_
        obtain ⟨r19, e20, H⟩ := hz_bd H
        refine aw_gR (k := 5) C cl_9 (by decide) wd_667 e20 dX9_come_102 ?_
        refine aw_iload_n C dX9_come_105 rfl ?_
        obtain ⟨v21, e22, H⟩ := hz_bd H
        refine aw_iald C e22 dX9_come_106 ?_
        refine aw_bipush C dX9_come_107 (v := (nI 60)) (by decide) ?_
        refine aw_icmp_ge (tgt := 129) C dX9_come_109 (by decide) (fun c176 => ?_) (fun c176 => ?_)
        · replace H := hz_it c176 H
          exact aw_loc (hz_sub_s (hz_sub_n (hz_sub_n (hz_sub_n hz_sub_0)))) (k_X9_come_129 hn C  _ _ H)
        · replace H := hz_if c176 H
          refine aw_aload_n C dX9_come_112 rfl ?_
          refine aw_iload_n C dX9_come_113 rfl ?_
          refine aw_aload_n C dX9_come_114 rfl ?_
          obtain ⟨r23, e24, H⟩ := hz_bd H
          refine aw_gR (k := 27) C cl_9 (by decide) wd_689 e24 dX9_come_115 ?_
          refine aw_bipush C dX9_come_118 (v := (nI 60)) (by decide) ?_
          refine aw_iload_n C dX9_come_120 rfl ?_
          refine aw_imul C dX9_come_121 ?_
          obtain ⟨v25, e26, H⟩ := hz_bd H
          refine aw_iald C e26 dX9_come_122 ?_
          obtain ⟨g29, H⟩ := hz_wn H
          obtain ⟨p27, e28, H⟩ := hz_bd H
          refine aw_V (As := [.int v3, .int v25]) (rest := []) C hy_X9_add hv_X9_add wd_795 cl_9.1 g29 (c_X9_add _ _ _ _ _  e28) hz_ron rfl rfl (Nat.le_of_ble_eq_true rfl) (by decide) (kc := 0) (ks := 0) rfl rfl (by decide) dX9_come_123 ?_
          refine aw_goto (tgt := 433) C dX9_come_126 (by decide) ?_
          exact aw_loc (hz_sub_n (hz_sub_n (hz_sub_n (hz_sub_n hz_sub_0)))) (k_X9_come_433 hn C  _ H)
  replace H := hz_if c173 H
  by_cases c177 : v11 = nI 2
  · replace H := hz_it c177 H
    refine aw_tabI (a := 2) (off := 122) (tgt := 142) C dX9_come_20 (by rw [c177]; decide) (by decide) (by decide) rfl (by decide) ?_
    refine aw_aload_n C dX9_come_142 rfl ?_
    obtain ⟨r30, e31, H⟩ := hz_bd H
    refine aw_gR (k := 24) C cl_9 (by decide) wd_686 e31 dX9_come_143 ?_
    refine aw_iload_n C dX9_come_146 rfl ?_
    obtain ⟨v32, e33, H⟩ := hz_bd H
    refine aw_iald C e33 dX9_come_147 ?_
    refine aw_aload_n C dX9_come_148 rfl ?_
    obtain ⟨r34, e35, H⟩ := hz_bd H
    refine aw_gR (k := 2) C cl_9 (by decide) wd_664 e35 dX9_come_149 ?_
    refine aw_iload_n C dX9_come_152 rfl ?_
    obtain ⟨v36, e37, H⟩ := hz_bd H
    refine aw_iald C e37 dX9_come_153 ?_
    refine aw_icmp_ne (tgt := 433) C dX9_come_154 (by decide) (fun c178 => ?_) (fun c178 => ?_)
    · replace H := hz_if c178 H
      exact aw_loc (hz_sub_n (hz_sub_n (hz_sub_n (hz_sub_n hz_sub_0)))) (k_X9_come_433 hn C  _ H)
    · replace H := hz_it c178 H
      refine aw_aload_n C dX9_come_157 rfl ?_
      refine aw_iload_n C dX9_come_158 rfl ?_
      obtain ⟨g40, H⟩ := hz_wn H
      obtain ⟨p38, e39, H⟩ := hz_bd H
      refine aw_V (As := [.int v3]) (rest := []) C hy_X9_isBlocked hv_X9_isBlocked wd_780 cl_9.1 g40 (c_X9_isBlocked _ _ _ _ _  e39) (hz_roi _) rfl rfl (Nat.le_of_ble_eq_true rfl) (by decide) (kc := 0) (ks := 0) rfl rfl (by decide) dX9_come_159 ?_
      refine aw_if_ne (tgt := 433) C dX9_come_162 (by decide) (fun c179 => ?_) (fun c179 => ?_)
      · replace H := hz_if c179 H
        exact aw_loc (hz_sub_n (hz_sub_n (hz_sub_n (hz_sub_n hz_sub_0)))) (k_X9_come_433 hn C  _ H)
      · replace H := hz_it c179 H
        refine aw_aload_n C dX9_come_165 rfl ?_
        obtain ⟨r41, e42, H⟩ := hz_bd H
        refine aw_gR (k := 5) C cl_9 (by decide) wd_667 e42 dX9_come_166 ?_
        refine aw_iload_n C dX9_come_169 rfl ?_
        obtain ⟨v43, e44, H⟩ := hz_bd H
        refine aw_iald C e44 dX9_come_170 ?_
        refine aw_aload_n C dX9_come_171 rfl ?_
        obtain ⟨r45, e46, H⟩ := hz_bd H
        refine aw_gR (k := 25) C cl_9 (by decide) wd_687 e46 dX9_come_172 ?_
        refine aw_iload_n C dX9_come_175 rfl ?_
        obtain ⟨v47, e48, H⟩ := hz_bd H
        refine aw_iald C e48 dX9_come_176 ?_
        refine aw_icmp_eq (tgt := 183) C dX9_come_177 (by decide) (fun c180 => ?_) (fun c180 => ?_)
        · replace H := hz_it c180 H
          refine aw_aload_n C dX9_come_183 rfl ?_
          obtain ⟨r49, e50, H⟩ := hz_bd H
          refine aw_gR (k := 4) C cl_9 (by decide) wd_666 e50 dX9_come_184 ?_
          refine aw_bipush C dX9_come_187 (v := (nI 60)) (by decide) ?_
          refine aw_iload_n C dX9_come_189 rfl ?_
          refine aw_imul C dX9_come_190 ?_
          refine aw_aload_n C dX9_come_191 rfl ?_
          obtain ⟨r51, e52, H⟩ := hz_bd H
          refine aw_gR (k := 5) C cl_9 (by decide) wd_667 e52 dX9_come_192 ?_
          refine aw_iload_n C dX9_come_195 rfl ?_
          obtain ⟨v53, e54, H⟩ := hz_bd H
          refine aw_iald C e54 dX9_come_196 ?_
          refine aw_iadd C dX9_come_197 ?_
          refine aw_aload_n C dX9_come_198 rfl ?_
          obtain ⟨r55, e56, H⟩ := hz_bd H
          refine aw_gR (k := 27) C cl_9 (by decide) wd_689 e56 dX9_come_199 ?_
          refine aw_bipush C dX9_come_202 (v := (nI 60)) (by decide) ?_
          refine aw_iload_n C dX9_come_204 rfl ?_
          refine aw_imul C dX9_come_205 ?_
          obtain ⟨v57, e58, H⟩ := hz_bd H
          refine aw_iald C e58 dX9_come_206 ?_
          obtain ⟨h59, e60, H⟩ := hz_bd H
          refine aw_iast C e60 dX9_come_207 ?_
          refine aw_aload_n C dX9_come_208 rfl ?_
          obtain ⟨r61, e62, H⟩ := hz_bd H
          refine aw_gR (k := 5) C cl_9 (by decide) wd_667 e62 dX9_come_209 ?_
          refine aw_iload_n C dX9_come_212 rfl ?_
          refine aw_dup2 C dX9_come_213 ?_
          obtain ⟨v63, e64, H⟩ := hz_bd H
          refine aw_iald C e64 dX9_come_214 ?_
          refine aw_iconst C dX9_come_215 (v := (nI 1)) (by decide) ?_
          refine aw_iadd C dX9_come_216 ?_
          obtain ⟨h65, e66, H⟩ := hz_bd H
          refine aw_iast C e66 dX9_come_217 ?_
          refine aw_aload_n C dX9_come_218 rfl ?_
          refine aw_iload_n C dX9_come_219 rfl ?_
          refine aw_iload_n C dX9_come_220 rfl ?_
          refine aw_iconst C dX9_come_221 (v := (nI 3)) (by decide) ?_
          refine aw_aload_n C dX9_come_222 rfl ?_
          obtain ⟨r67, e68, H⟩ := hz_bd H
          refine aw_gR (k := 24) C cl_9 (by decide) wd_686 e68 dX9_come_223 ?_
          refine aw_iload_n C dX9_come_226 rfl ?_
          obtain ⟨v69, e70, H⟩ := hz_bd H
          refine aw_iald C e70 dX9_come_227 ?_
          refine aw_aload_n C dX9_come_228 rfl ?_
          obtain ⟨r71, e72, H⟩ := hz_bd H
          refine aw_gR (k := 5) C cl_9 (by decide) wd_667 e72 dX9_come_229 ?_
          refine aw_iload_n C dX9_come_232 rfl ?_
          obtain ⟨v73, e74, H⟩ := hz_bd H
          refine aw_iald C e74 dX9_come_233 ?_
          refine aw_iconst C dX9_come_234 (v := (nI 0)) (by decide) ?_
          refine aw_iconst C dX9_come_235 (v := (nI 0)) (by decide) ?_
          obtain ⟨g77, H⟩ := hz_wn H
          obtain ⟨p75, e76, H⟩ := hz_bd H
          refine aw_V (As := [.int v3, .int v7, .int (nI 3), .int v69, .int v73, .int (nI 0), .int (nI 0)]) (rest := []) C hy_X9_send hv_X9_send wd_791 cl_9.1 g77 (c_X9_send _ _ _ _ _ _ _ _ _ _  e76) hz_ron rfl rfl (Nat.le_of_ble_eq_true rfl) (by decide) (kc := 0) (ks := 0) rfl rfl (by decide) dX9_come_236 ?_
          refine aw_goto (tgt := 433) C dX9_come_239 (by decide) ?_
          exact aw_loc (hz_sub_n (hz_sub_n (hz_sub_n (hz_sub_n hz_sub_0)))) (k_X9_come_433 hn C  _ H)
        · replace H := hz_if c180 H
          refine aw_goto (tgt := 433) C dX9_come_180 (by decide) ?_
          exact aw_loc (hz_sub_n (hz_sub_n (hz_sub_n (hz_sub_n hz_sub_0)))) (k_X9_come_433 hn C  _ H)
  replace H := hz_if c177 H
  by_cases c181 : v11 = nI 3
  · replace H := hz_it c181 H
    refine aw_tabI (a := 3) (off := 222) (tgt := 242) C dX9_come_20 (by rw [c181]; decide) (by decide) (by decide) rfl (by decide) ?_
    refine aw_aload_n C dX9_come_242 rfl ?_
    refine aw_iload_n C dX9_come_243 rfl ?_
    obtain ⟨g80, H⟩ := hz_wn H
    obtain ⟨p78, e79, H⟩ := hz_bd H
    refine aw_V (As := [.int v3]) (rest := []) C hy_X9_leader hv_X9_leader wd_784 cl_9.1 g80 (c_X9_leader _ _ _ _ _  e79) (hz_roi _) rfl rfl (Nat.le_of_ble_eq_true rfl) (by decide) (kc := 0) (ks := 0) rfl rfl (by decide) dX9_come_244 ?_
    refine aw_iload_n C dX9_come_247 rfl ?_
    refine aw_icmp_ne (tgt := 433) C dX9_come_248 (by decide) (fun c182 => ?_) (fun c182 => ?_)
    · replace H := hz_if c182 H
      exact aw_loc (hz_sub_n (hz_sub_n (hz_sub_n (hz_sub_n hz_sub_0)))) (k_X9_come_433 hn C  _ H)
    · replace H := hz_it c182 H
      refine aw_aload_n C dX9_come_251 rfl ?_
      obtain ⟨r81, e82, H⟩ := hz_bd H
      refine aw_gR (k := 24) C cl_9 (by decide) wd_686 e82 dX9_come_252 ?_
      refine aw_iload_n C dX9_come_255 rfl ?_
      obtain ⟨v83, e84, H⟩ := hz_bd H
      refine aw_iald C e84 dX9_come_256 ?_
      refine aw_aload_n C dX9_come_257 rfl ?_
      obtain ⟨r85, e86, H⟩ := hz_bd H
      refine aw_gR (k := 2) C cl_9 (by decide) wd_664 e86 dX9_come_258 ?_
      refine aw_iload_n C dX9_come_261 rfl ?_
      obtain ⟨v87, e88, H⟩ := hz_bd H
      refine aw_iald C e88 dX9_come_262 ?_
      refine aw_icmp_ne (tgt := 433) C dX9_come_263 (by decide) (fun c183 => ?_) (fun c183 => ?_)
      · replace H := hz_if c183 H
        exact aw_loc (hz_sub_n (hz_sub_n (hz_sub_n (hz_sub_n hz_sub_0)))) (k_X9_come_433 hn C  _ H)
      · replace H := hz_it c183 H
        refine aw_aload_n C dX9_come_266 rfl ?_
        refine aw_iload_n C dX9_come_267 rfl ?_
        obtain ⟨g91, H⟩ := hz_wn H
        obtain ⟨p89, e90, H⟩ := hz_bd H
        refine aw_V (As := [.int v3]) (rest := []) C hy_X9_isBlocked hv_X9_isBlocked wd_780 cl_9.1 g91 (c_X9_isBlocked _ _ _ _ _  e90) (hz_roi _) rfl rfl (Nat.le_of_ble_eq_true rfl) (by decide) (kc := 0) (ks := 0) rfl rfl (by decide) dX9_come_268 ?_
        refine aw_if_eq (tgt := 277) C dX9_come_271 (by decide) (fun c184 => ?_) (fun c184 => ?_)
        · replace H := hz_it c184 H
          refine aw_aload_n C dX9_come_277 rfl ?_
          obtain ⟨r92, e93, H⟩ := hz_bd H
          refine aw_gR (k := 25) C cl_9 (by decide) wd_687 e93 dX9_come_278 ?_
          refine aw_iload_n C dX9_come_281 rfl ?_
          obtain ⟨v94, e95, H⟩ := hz_bd H
          refine aw_iald C e95 dX9_come_282 ?_
          refine aw_aload_n C dX9_come_283 rfl ?_
          obtain ⟨r96, e97, H⟩ := hz_bd H
          refine aw_gR (k := 13) C cl_9 (by decide) wd_675 e97 dX9_come_284 ?_
          refine aw_bipush C dX9_come_287 (v := (nI 7)) (by decide) ?_
          refine aw_iload_n C dX9_come_289 rfl ?_
          refine aw_imul C dX9_come_290 ?_
          refine aw_iload_n C dX9_come_291 rfl ?_
          refine aw_iadd C dX9_come_292 ?_
          obtain ⟨v98, e99, H⟩ := hz_bd H
          refine aw_iald C e99 dX9_come_293 ?_
          refine aw_icmp_le (tgt := 314) C dX9_come_294 (by decide) (fun c185 => ?_) (fun c185 => ?_)
          · replace H := hz_it c185 H
            exact aw_loc (hz_sub_s (hz_sub_n (hz_sub_s (hz_sub_n hz_sub_0)))) (k_X9_come_314 hn C  _ _ _ H)
          · replace H := hz_if c185 H
            refine aw_aload_n C dX9_come_297 rfl ?_
            obtain ⟨r100, e101, H⟩ := hz_bd H
            refine aw_gR (k := 13) C cl_9 (by decide) wd_675 e101 dX9_come_298 ?_
            refine aw_bipush C dX9_come_301 (v := (nI 7)) (by decide) ?_
            refine aw_iload_n C dX9_come_303 rfl ?_
            refine aw_imul C dX9_come_304 ?_
            refine aw_iload_n C dX9_come_305 rfl ?_
            refine aw_iadd C dX9_come_306 ?_
            refine aw_aload_n C dX9_come_307 rfl ?_
            obtain ⟨r102, e103, H⟩ := hz_bd H
            refine aw_gR (k := 25) C cl_9 (by decide) wd_687 e103 dX9_come_308 ?_
            refine aw_iload_n C dX9_come_311 rfl ?_
            obtain ⟨v104, e105, H⟩ := hz_bd H
            refine aw_iald C e105 dX9_come_312 ?_
            obtain ⟨h106, e107, H⟩ := hz_bd H
            refine aw_iast C e107 dX9_come_313 ?_
            exact aw_loc (hz_sub_s (hz_sub_n (hz_sub_s (hz_sub_n hz_sub_0)))) (k_X9_come_314 hn C  _ _ _ H)
        · replace H := hz_if c184 H
          refine aw_goto (tgt := 433) C dX9_come_274 (by decide) ?_
          exact aw_loc (hz_sub_n (hz_sub_n (hz_sub_n (hz_sub_n hz_sub_0)))) (k_X9_come_433 hn C  _ H)
  replace H := hz_if c181 H
  by_cases c186 : v11 = nI 4
  · replace H := hz_it c186 H
    refine aw_tabI (a := 4) (off := 302) (tgt := 322) C dX9_come_20 (by rw [c186]; decide) (by decide) (by decide) rfl (by decide) ?_
    refine aw_aload_n C dX9_come_322 rfl ?_
    obtain ⟨r108, e109, H⟩ := hz_bd H
    refine aw_gR (k := 24) C cl_9 (by decide) wd_686 e109 dX9_come_323 ?_
    refine aw_iload_n C dX9_come_326 rfl ?_
    obtain ⟨v110, e111, H⟩ := hz_bd H
    refine aw_iald C e111 dX9_come_327 ?_
    refine aw_aload_n C dX9_come_328 rfl ?_
    obtain ⟨r112, e113, H⟩ := hz_bd H
    refine aw_gR (k := 2) C cl_9 (by decide) wd_664 e113 dX9_come_329 ?_
    refine aw_iload_n C dX9_come_332 rfl ?_
    obtain ⟨v114, e115, H⟩ := hz_bd H
    refine aw_iald C e115 dX9_come_333 ?_
    refine aw_icmp_ne (tgt := 433) C dX9_come_334 (by decide) (fun c187 => ?_) (fun c187 => ?_)
    · replace H := hz_if c187 H
      exact aw_loc (hz_sub_n (hz_sub_n (hz_sub_n (hz_sub_n hz_sub_0)))) (k_X9_come_433 hn C  _ H)
    · replace H := hz_it c187 H
      refine aw_aload_n C dX9_come_337 rfl ?_
      refine aw_iload_n C dX9_come_338 rfl ?_
      obtain ⟨g118, H⟩ := hz_wn H
      obtain ⟨p116, e117, H⟩ := hz_bd H
      refine aw_V (As := [.int v3]) (rest := []) C hy_X9_isBlocked hv_X9_isBlocked wd_780 cl_9.1 g118 (c_X9_isBlocked _ _ _ _ _  e117) (hz_roi _) rfl rfl (Nat.le_of_ble_eq_true rfl) (by decide) (kc := 0) (ks := 0) rfl rfl (by decide) dX9_come_339 ?_
      refine aw_if_ne (tgt := 433) C dX9_come_342 (by decide) (fun c188 => ?_) (fun c188 => ?_)
      · replace H := hz_if c188 H
        exact aw_loc (hz_sub_n (hz_sub_n (hz_sub_n (hz_sub_n hz_sub_0)))) (k_X9_come_433 hn C  _ H)
      · replace H := hz_it c188 H
        refine aw_aload_n C dX9_come_345 rfl ?_
        refine aw_iload_n C dX9_come_346 rfl ?_
        refine aw_aload_n C dX9_come_347 rfl ?_
        obtain ⟨r119, e120, H⟩ := hz_bd H
        refine aw_gR (k := 25) C cl_9 (by decide) wd_687 e120 dX9_come_348 ?_
        refine aw_iload_n C dX9_come_351 rfl ?_
        obtain ⟨v121, e122, H⟩ := hz_bd H
        refine aw_iald C e122 dX9_come_352 ?_
        obtain ⟨g125, H⟩ := hz_wn H
        obtain ⟨p123, e124, H⟩ := hz_bd H
        refine aw_V (As := [.int v3, .int v121]) (rest := []) C hy_X9_carryTo hv_X9_carryTo wd_807 cl_9.1 g125 (c_X9_carryTo _ _ _ _ _  e124) hz_ron rfl rfl (Nat.le_of_ble_eq_true rfl) (by decide) (kc := 0) (ks := 0) rfl rfl (by decide) dX9_come_353 ?_
        refine aw_goto (tgt := 433) C dX9_come_356 (by decide) ?_
        exact aw_loc (hz_sub_n (hz_sub_n (hz_sub_n (hz_sub_n hz_sub_0)))) (k_X9_come_433 hn C  _ H)
  replace H := hz_if c186 H
  by_cases c189 : v11 = nI 5
  · replace H := hz_it c189 H
    refine aw_tabI (a := 5) (off := 339) (tgt := 359) C dX9_come_20 (by rw [c189]; decide) (by decide) (by decide) rfl (by decide) ?_
    refine aw_iload_n C dX9_come_359 rfl ?_
    refine aw_iload_n C dX9_come_360 rfl ?_
    refine aw_icmp_le (tgt := 367) C dX9_come_361 (by decide) (fun c190 => ?_) (fun c190 => ?_)
    · replace H := hz_it c190 H
      refine aw_aload_n C dX9_come_367 rfl ?_
      refine aw_iload_n C dX9_come_368 rfl ?_
      refine aw_iload_n C dX9_come_369 rfl ?_
      refine aw_bipush C dX9_come_370 (v := (nI 6)) (by decide) ?_
      refine aw_iconst C dX9_come_372 (v := (nI 0)) (by decide) ?_
      refine aw_iconst C dX9_come_373 (v := (nI 0)) (by decide) ?_
      refine aw_iconst C dX9_come_374 (v := (nI 0)) (by decide) ?_
      refine aw_iconst C dX9_come_375 (v := (nI 0)) (by decide) ?_
      obtain ⟨g128, H⟩ := hz_wn H
      obtain ⟨p126, e127, H⟩ := hz_bd H
      refine aw_V (As := [.int v3, .int v7, .int (nI 6), .int (nI 0), .int (nI 0), .int (nI 0), .int (nI 0)]) (rest := []) C hy_X9_send hv_X9_send wd_791 cl_9.1 g128 (c_X9_send _ _ _ _ _ _ _ _ _ _  e127) hz_ron rfl rfl (Nat.le_of_ble_eq_true rfl) (by decide) (kc := 0) (ks := 0) rfl rfl (by decide) dX9_come_376 ?_
      refine aw_aload_n C dX9_come_379 rfl ?_
      obtain ⟨r129, e130, H⟩ := hz_bd H
      refine aw_gR (k := 10) C cl_9 (by decide) wd_672 e130 dX9_come_380 ?_
      refine aw_iload_n C dX9_come_383 rfl ?_
      obtain ⟨v131, e132, H⟩ := hz_bd H
      refine aw_iald C e132 dX9_come_384 ?_
      refine aw_if_ne (tgt := 433) C dX9_come_385 (by decide) (fun c191 => ?_) (fun c191 => ?_)
      · replace H := hz_if c191 H
        exact aw_loc (hz_sub_n (hz_sub_n (hz_sub_n (hz_sub_n hz_sub_0)))) (k_X9_come_433 hn C  _ H)
      · replace H := hz_it c191 H
        refine aw_aload_n C dX9_come_388 rfl ?_
        refine aw_iload_n C dX9_come_389 rfl ?_
        obtain ⟨g135, H⟩ := hz_wn H
        obtain ⟨p133, e134, H⟩ := hz_bd H
        refine aw_V (As := [.int v3]) (rest := []) C hy_X9_ask hv_X9_ask wd_835 cl_9.1 g135 (c_X9_ask _ _ _ _  e134) hz_ron rfl rfl (Nat.le_of_ble_eq_true rfl) (by decide) (kc := 0) (ks := 0) rfl rfl (by decide) dX9_come_390 ?_
        refine aw_goto (tgt := 433) C dX9_come_393 (by decide) ?_
        exact aw_loc (hz_sub_n (hz_sub_n (hz_sub_n (hz_sub_n hz_sub_0)))) (k_X9_come_433 hn C  _ H)
    · replace H := hz_if c190 H
      refine aw_goto (tgt := 433) C dX9_come_364 (by decide) ?_
      exact aw_loc (hz_sub_n (hz_sub_n (hz_sub_n (hz_sub_n hz_sub_0)))) (k_X9_come_433 hn C  _ H)
  replace H := hz_if c189 H
  by_cases c192 : v11 = nI 6
  · replace H := hz_it c192 H
    refine aw_tabI (a := 6) (off := 376) (tgt := 396) C dX9_come_20 (by rw [c192]; decide) (by decide) (by decide) rfl (by decide) ?_
    refine aw_aload_n C dX9_come_396 rfl ?_
    obtain ⟨r136, e137, H⟩ := hz_bd H
    refine aw_gR (k := 10) C cl_9 (by decide) wd_672 e137 dX9_come_397 ?_
    refine aw_iload_n C dX9_come_400 rfl ?_
    obtain ⟨v138, e139, H⟩ := hz_bd H
    refine aw_iald C e139 dX9_come_401 ?_
    refine aw_iconst C dX9_come_402 (v := (nI 1)) (by decide) ?_
    refine aw_icmp_ne (tgt := 433) C dX9_come_403 (by decide) (fun c193 => ?_) (fun c193 => ?_)
    · replace H := hz_if c193 H
      exact aw_loc (hz_sub_n (hz_sub_n (hz_sub_n (hz_sub_n hz_sub_0)))) (k_X9_come_433 hn C  _ H)
    · replace H := hz_it c193 H
      refine aw_aload_n C dX9_come_406 rfl ?_
      obtain ⟨r140, e141, H⟩ := hz_bd H
      refine aw_gR (k := 10) C cl_9 (by decide) wd_672 e141 dX9_come_407 ?_
      refine aw_iload_n C dX9_come_410 rfl ?_
      refine aw_iconst C dX9_come_411 (v := (nI 2)) (by decide) ?_
      obtain ⟨h142, e143, H⟩ := hz_bd H
      refine aw_iast C e143 dX9_come_412 ?_
      refine aw_goto (tgt := 433) C dX9_come_413 (by decide) ?_
      exact aw_loc (hz_sub_n (hz_sub_n (hz_sub_n (hz_sub_n hz_sub_0)))) (k_X9_come_433 hn C  _ H)
  replace H := hz_if c192 H
  by_cases c194 : v11 = nI 7
  · replace H := hz_it c194 H
    refine aw_tabI (a := 7) (off := 406) (tgt := 426) C dX9_come_20 (by rw [c194]; decide) (by decide) (by decide) rfl (by decide) ?_
    refine aw_aload_n C dX9_come_426 rfl ?_
    refine aw_iload_n C dX9_come_427 rfl ?_
    refine aw_iload_n C dX9_come_428 rfl ?_
    refine aw_iload_n C dX9_come_429 rfl ?_
    obtain ⟨g146, H⟩ := hz_wn H
    obtain ⟨p144, e145, H⟩ := hz_bd H
    refine aw_V (As := [.int a1, .int v3, .int v7]) (rest := []) C hy_X9_comeOfView hv_X9_comeOfView wd_859 cl_9.1 g146 (c_X9_comeOfView _ _ _ _ _ _  e145) hz_ron rfl rfl (Nat.le_of_ble_eq_true rfl) (by decide) (kc := 0) (ks := 0) rfl rfl (by decide) dX9_come_430 ?_
    exact aw_loc (hz_sub_n (hz_sub_n (hz_sub_n (hz_sub_n hz_sub_0)))) (k_X9_come_433 hn C  _ H)
  replace H := hz_if c194 H
  by_cases c195 : v11 = nI 8
  · replace H := hz_it c195 H
    refine aw_tabI (a := 8) (off := 406) (tgt := 426) C dX9_come_20 (by rw [c195]; decide) (by decide) (by decide) rfl (by decide) ?_
    refine aw_aload_n C dX9_come_426 rfl ?_
    refine aw_iload_n C dX9_come_427 rfl ?_
    refine aw_iload_n C dX9_come_428 rfl ?_
    refine aw_iload_n C dX9_come_429 rfl ?_
    obtain ⟨g149, H⟩ := hz_wn H
    obtain ⟨p147, e148, H⟩ := hz_bd H
    refine aw_V (As := [.int a1, .int v3, .int v7]) (rest := []) C hy_X9_comeOfView hv_X9_comeOfView wd_859 cl_9.1 g149 (c_X9_comeOfView _ _ _ _ _ _  e148) hz_ron rfl rfl (Nat.le_of_ble_eq_true rfl) (by decide) (kc := 0) (ks := 0) rfl rfl (by decide) dX9_come_430 ?_
    exact aw_loc (hz_sub_n (hz_sub_n (hz_sub_n (hz_sub_n hz_sub_0)))) (k_X9_come_433 hn C  _ H)
  replace H := hz_if c195 H
  by_cases c196 : v11 = nI 9
  · replace H := hz_it c196 H
    refine aw_tabI (a := 9) (off := 406) (tgt := 426) C dX9_come_20 (by rw [c196]; decide) (by decide) (by decide) rfl (by decide) ?_
    refine aw_aload_n C dX9_come_426 rfl ?_
    refine aw_iload_n C dX9_come_427 rfl ?_
    refine aw_iload_n C dX9_come_428 rfl ?_
    refine aw_iload_n C dX9_come_429 rfl ?_
    obtain ⟨g152, H⟩ := hz_wn H
    obtain ⟨p150, e151, H⟩ := hz_bd H
    refine aw_V (As := [.int a1, .int v3, .int v7]) (rest := []) C hy_X9_comeOfView hv_X9_comeOfView wd_859 cl_9.1 g152 (c_X9_comeOfView _ _ _ _ _ _  e151) hz_ron rfl rfl (Nat.le_of_ble_eq_true rfl) (by decide) (kc := 0) (ks := 0) rfl rfl (by decide) dX9_come_430 ?_
    exact aw_loc (hz_sub_n (hz_sub_n (hz_sub_n (hz_sub_n hz_sub_0)))) (k_X9_come_433 hn C  _ H)
  replace H := hz_if c196 H
  by_cases c197 : v11 = nI 10
  · replace H := hz_it c197 H
    refine aw_tabI (a := 10) (off := 406) (tgt := 426) C dX9_come_20 (by rw [c197]; decide) (by decide) (by decide) rfl (by decide) ?_
    refine aw_aload_n C dX9_come_426 rfl ?_
    refine aw_iload_n C dX9_come_427 rfl ?_
    refine aw_iload_n C dX9_come_428 rfl ?_
    refine aw_iload_n C dX9_come_429 rfl ?_
    obtain ⟨g155, H⟩ := hz_wn H
    obtain ⟨p153, e154, H⟩ := hz_bd H
    refine aw_V (As := [.int a1, .int v3, .int v7]) (rest := []) C hy_X9_comeOfView hv_X9_comeOfView wd_859 cl_9.1 g155 (c_X9_comeOfView _ _ _ _ _ _  e154) hz_ron rfl rfl (Nat.le_of_ble_eq_true rfl) (by decide) (kc := 0) (ks := 0) rfl rfl (by decide) dX9_come_430 ?_
    exact aw_loc (hz_sub_n (hz_sub_n (hz_sub_n (hz_sub_n hz_sub_0)))) (k_X9_come_433 hn C  _ H)
  replace H := hz_if c197 H
  by_cases c198 : v11 = nI 11
  · replace H := hz_it c198 H
    refine aw_tabI (a := 11) (off := 406) (tgt := 426) C dX9_come_20 (by rw [c198]; decide) (by decide) (by decide) rfl (by decide) ?_
    refine aw_aload_n C dX9_come_426 rfl ?_
    refine aw_iload_n C dX9_come_427 rfl ?_
    refine aw_iload_n C dX9_come_428 rfl ?_
    refine aw_iload_n C dX9_come_429 rfl ?_
    obtain ⟨g158, H⟩ := hz_wn H
    obtain ⟨p156, e157, H⟩ := hz_bd H
    refine aw_V (As := [.int a1, .int v3, .int v7]) (rest := []) C hy_X9_comeOfView hv_X9_comeOfView wd_859 cl_9.1 g158 (c_X9_comeOfView _ _ _ _ _ _  e157) hz_ron rfl rfl (Nat.le_of_ble_eq_true rfl) (by decide) (kc := 0) (ks := 0) rfl rfl (by decide) dX9_come_430 ?_
    exact aw_loc (hz_sub_n (hz_sub_n (hz_sub_n (hz_sub_n hz_sub_0)))) (k_X9_come_433 hn C  _ H)
  replace H := hz_if c198 H
  by_cases c199 : v11 = nI 12
  · replace H := hz_it c199 H
    refine aw_tabI (a := 12) (off := 396) (tgt := 416) C dX9_come_20 (by rw [c199]; decide) (by decide) (by decide) rfl (by decide) ?_
    refine aw_aload_n C dX9_come_416 rfl ?_
    obtain ⟨r159, e160, H⟩ := hz_bd H
    refine aw_gR (k := 1) C cl_9 (by decide) wd_663 e160 dX9_come_417 ?_
    refine aw_iload_n C dX9_come_420 rfl ?_
    refine aw_iconst C dX9_come_421 (v := (nI 2)) (by decide) ?_
    obtain ⟨h161, e162, H⟩ := hz_bd H
    refine aw_iast C e162 dX9_come_422 ?_
    refine aw_goto (tgt := 433) C dX9_come_423 (by decide) ?_
    exact aw_loc (hz_sub_n (hz_sub_n (hz_sub_n (hz_sub_n hz_sub_0)))) (k_X9_come_433 hn C  _ H)
  replace H := hz_if c199 H
  refine aw_tabO (tgt := 426) C dX9_come_20 (by have z0 := lv_neT (a := 1) c173 rfl; have z1 := lv_neT (a := 2) c177 rfl; have z2 := lv_neT (a := 3) c181 rfl; have z3 := lv_neT (a := 4) c186 rfl; have z4 := lv_neT (a := 5) c189 rfl; have z5 := lv_neT (a := 6) c192 rfl; have z6 := lv_neT (a := 7) c194 rfl; have z7 := lv_neT (a := 8) c195 rfl; have z8 := lv_neT (a := 9) c196 rfl; have z9 := lv_neT (a := 10) c197 rfl; have z10 := lv_neT (a := 11) c198 rfl; have z11 := lv_neT (a := 12) c199 rfl; omega) (by decide) ?_
  refine aw_aload_n C dX9_come_426 rfl ?_
  refine aw_iload_n C dX9_come_427 rfl ?_
  refine aw_iload_n C dX9_come_428 rfl ?_
  refine aw_iload_n C dX9_come_429 rfl ?_
  obtain ⟨g165, H⟩ := hz_wn H
  obtain ⟨p163, e164, H⟩ := hz_bd H
  refine aw_V (As := [.int a1, .int v3, .int v7]) (rest := []) C hy_X9_comeOfView hv_X9_comeOfView wd_859 cl_9.1 g165 (c_X9_comeOfView _ _ _ _ _ _  e164) hz_ron rfl rfl (Nat.le_of_ble_eq_true rfl) (by decide) (kc := 0) (ks := 0) rfl rfl (by decide) dX9_come_430 ?_
  exact aw_loc (hz_sub_n (hz_sub_n (hz_sub_n (hz_sub_n hz_sub_0)))) (k_X9_come_433 hn C  _ H)
theorem hy_X9_keepLetter : hz_Y yX9_keepLetter cX9_keepLetter 3 none 1 := ⟨wd_830, wd_66, by decide +kernel, by decide +kernel, by decide +kernel⟩
theorem hv_X9_keepLetter : hz_YV yX9_keepLetter := ⟨wd_829, wd_48⟩
def f_X9_keepLetter_86 : Nat → Option Nat → Int32 → Int32 → HP → Option HP
  | 0, _, _, _, _ => none
  | n + 1, l0, l1, l2, h =>
    if (nI 60) ≤ l2 then
      some h
    else
      (hz_gR h l0 9 27).bind fun r49 =>
      (hz_gR h l0 9 27).bind fun r51 =>
      (hz_aI h r51 0 (((nI 60) * l1) + l2)).bind fun v53 =>
      (hz_aS h r49 0 ((nI 30000) + l2) v53).bind fun h55 =>
      f_X9_keepLetter_86  n l0 l1 (l2 + (nI 1)) h55
def f_X9_keepLetter (a0 : Option Nat) (a1 : Int32) (h : HP) : Option HP :=
  (hz_gR h a0 9 21).bind fun r1 =>
  (hz_gR h a0 9 21).bind fun r3 =>
  (hz_aI h r3 0 a1).bind fun v5 =>
  (hz_aS h r1 0 (nI 500) v5).bind fun h7 =>
  (hz_gR h7 a0 9 22).bind fun r9 =>
  (hz_gR h7 a0 9 22).bind fun r11 =>
  (hz_aI h7 r11 0 a1).bind fun v13 =>
  (hz_aS h7 r9 0 (nI 500) v13).bind fun h15 =>
  (hz_gR h15 a0 9 23).bind fun r17 =>
  (hz_gR h15 a0 9 23).bind fun r19 =>
  (hz_aI h15 r19 0 a1).bind fun v21 =>
  (hz_aS h15 r17 0 (nI 500) v21).bind fun h23 =>
  (hz_gR h23 a0 9 24).bind fun r25 =>
  (hz_gR h23 a0 9 24).bind fun r27 =>
  (hz_aI h23 r27 0 a1).bind fun v29 =>
  (hz_aS h23 r25 0 (nI 500) v29).bind fun h31 =>
  (hz_gR h31 a0 9 25).bind fun r33 =>
  (hz_gR h31 a0 9 25).bind fun r35 =>
  (hz_aI h31 r35 0 a1).bind fun v37 =>
  (hz_aS h31 r33 0 (nI 500) v37).bind fun h39 =>
  (hz_gR h39 a0 9 26).bind fun r41 =>
  (hz_gR h39 a0 9 26).bind fun r43 =>
  (hz_aI h39 r43 0 a1).bind fun v45 =>
  (hz_aS h39 r41 0 (nI 500) v45).bind fun h47 =>
  f_X9_keepLetter_86  600 a0 a1 (nI 0) h47
abbrev rm_X9_keepLetter : Room := { frames := 0, cells := 0, slots := 0, locals := 0 }
set_option maxRecDepth 100000 in
set_option maxHeartbeats 4000000 in
theorem k_X9_keepLetter_86 {G : GX} {h' : HP} (hn : G.2.2.2.2.2.2.2.2.2.2.2.2 = 3) (C : Cx G cX9_keepLetter RX9 "keepLetter" none rm_X9_keepLetter none h') : ∀ (n : Nat) (l0 : Option Nat) (l1 : Int32) (l2 : Int32) (h : HP), f_X9_keepLetter_86  n l0 l1 l2 h = some h' → aw G 86 [some (va_rf l0), some (.int l1), some (.int l2)] [] h 0 0 := by
  intro n
  induction n with
  | zero => intro l0 l1 l2 h H; cases H
  | succ n ih =>
    intro l0 l1 l2 h H
    rw [f_X9_keepLetter_86] at H
    refine aw_iload_n C dX9_keepLetter_86 rfl ?_
    refine aw_bipush C dX9_keepLetter_87 (v := (nI 60)) (by decide) ?_
    refine aw_icmp_ge (tgt := 119) C dX9_keepLetter_89 (by decide) (fun c57 => ?_) (fun c57 => ?_)
    · replace H := hz_it c57 H
      cases H
      exact aw_vret C (Nat.zero_le _) (Nat.zero_le _) dX9_keepLetter_119
    · replace H := hz_if c57 H
      refine aw_aload_n C dX9_keepLetter_92 rfl ?_
      obtain ⟨r49, e50, H⟩ := hz_bd H
      refine aw_gR (k := 27) C cl_9 (by decide) wd_689 e50 dX9_keepLetter_93 ?_
      refine aw_sipush C dX9_keepLetter_96 (v := (nI 30000)) (by decide) ?_
      refine aw_iload_n C dX9_keepLetter_99 rfl ?_
      refine aw_iadd C dX9_keepLetter_100 ?_
      refine aw_aload_n C dX9_keepLetter_101 rfl ?_
      obtain ⟨r51, e52, H⟩ := hz_bd H
      refine aw_gR (k := 27) C cl_9 (by decide) wd_689 e52 dX9_keepLetter_102 ?_
      refine aw_bipush C dX9_keepLetter_105 (v := (nI 60)) (by decide) ?_
      refine aw_iload_n C dX9_keepLetter_107 rfl ?_
      refine aw_imul C dX9_keepLetter_108 ?_
      refine aw_iload_n C dX9_keepLetter_109 rfl ?_
      refine aw_iadd C dX9_keepLetter_110 ?_
      obtain ⟨v53, e54, H⟩ := hz_bd H
      refine aw_iald C e54 dX9_keepLetter_111 ?_
      obtain ⟨h55, e56, H⟩ := hz_bd H
      refine aw_iast C e56 dX9_keepLetter_112 ?_
      refine aw_iinc (d := (nI 1)) C dX9_keepLetter_113 (by rw [hn]; decide) rfl (by decide) rfl ?_
      refine aw_goto (tgt := 86) C dX9_keepLetter_116 (by decide) ?_
      exact ih _ _ _ _ H
set_option maxRecDepth 100000 in
set_option maxHeartbeats 4000000 in
theorem c_X9_keepLetter {l : Launch} (a0 : Option Nat) (a1 : Int32) (h : HP) (h' : HP) (H : f_X9_keepLetter a0 a1 h = some h') : Ct l yX9_keepLetter cX9_keepLetter 3 none rm_X9_keepLetter [va_rf a0, .int a1] none h h' := by
  refine Ct.of (plainFor_of_name (by decide)) (hz_s1c (hz_s1c hz_s1n rfl) (hz_cr _)) (Nat.le_of_ble_eq_true rfl) (fun G hl hn C0 => ?_)
  have C : Cx G cX9_keepLetter RX9 "keepLetter" none rm_X9_keepLetter none h' := C0
  subst hl
  show aw G 0 [some (va_rf a0), some (.int a1), none] [] h 0 0
  unfold f_X9_keepLetter at H
  refine aw_aload_n C dX9_keepLetter_0 rfl ?_
  obtain ⟨r1, e2, H⟩ := hz_bd H
  refine aw_gR (k := 21) C cl_9 (by decide) wd_683 e2 dX9_keepLetter_1 ?_
  refine aw_sipush C dX9_keepLetter_4 (v := (nI 500)) (by decide) ?_
  refine aw_aload_n C dX9_keepLetter_7 rfl ?_
  obtain ⟨r3, e4, H⟩ := hz_bd H
  refine aw_gR (k := 21) C cl_9 (by decide) wd_683 e4 dX9_keepLetter_8 ?_
  refine aw_iload_n C dX9_keepLetter_11 rfl ?_
  obtain ⟨v5, e6, H⟩ := hz_bd H
  refine aw_iald C e6 dX9_keepLetter_12 ?_
  obtain ⟨h7, e8, H⟩ := hz_bd H
  refine aw_iast C e8 dX9_keepLetter_13 ?_
  refine aw_aload_n C dX9_keepLetter_14 rfl ?_
  obtain ⟨r9, e10, H⟩ := hz_bd H
  refine aw_gR (k := 22) C cl_9 (by decide) wd_684 e10 dX9_keepLetter_15 ?_
  refine aw_sipush C dX9_keepLetter_18 (v := (nI 500)) (by decide) ?_
  refine aw_aload_n C dX9_keepLetter_21 rfl ?_
  obtain ⟨r11, e12, H⟩ := hz_bd H
  refine aw_gR (k := 22) C cl_9 (by decide) wd_684 e12 dX9_keepLetter_22 ?_
  refine aw_iload_n C dX9_keepLetter_25 rfl ?_
  obtain ⟨v13, e14, H⟩ := hz_bd H
  refine aw_iald C e14 dX9_keepLetter_26 ?_
  obtain ⟨h15, e16, H⟩ := hz_bd H
  refine aw_iast C e16 dX9_keepLetter_27 ?_
  refine aw_aload_n C dX9_keepLetter_28 rfl ?_
  obtain ⟨r17, e18, H⟩ := hz_bd H
  refine aw_gR (k := 23) C cl_9 (by decide) wd_685 e18 dX9_keepLetter_29 ?_
  refine aw_sipush C dX9_keepLetter_32 (v := (nI 500)) (by decide) ?_
  refine aw_aload_n C dX9_keepLetter_35 rfl ?_
  obtain ⟨r19, e20, H⟩ := hz_bd H
  refine aw_gR (k := 23) C cl_9 (by decide) wd_685 e20 dX9_keepLetter_36 ?_
  refine aw_iload_n C dX9_keepLetter_39 rfl ?_
  obtain ⟨v21, e22, H⟩ := hz_bd H
  refine aw_iald C e22 dX9_keepLetter_40 ?_
  obtain ⟨h23, e24, H⟩ := hz_bd H
  refine aw_iast C e24 dX9_keepLetter_41 ?_
  refine aw_aload_n C dX9_keepLetter_42 rfl ?_
  obtain ⟨r25, e26, H⟩ := hz_bd H
  refine aw_gR (k := 24) C cl_9 (by decide) wd_686 e26 dX9_keepLetter_43 ?_
  refine aw_sipush C dX9_keepLetter_46 (v := (nI 500)) (by decide) ?_
  refine aw_aload_n C dX9_keepLetter_49 rfl ?_
  obtain ⟨r27, e28, H⟩ := hz_bd H
  refine aw_gR (k := 24) C cl_9 (by decide) wd_686 e28 dX9_keepLetter_50 ?_
  refine aw_iload_n C dX9_keepLetter_53 rfl ?_
  obtain ⟨v29, e30, H⟩ := hz_bd H
  refine aw_iald C e30 dX9_keepLetter_54 ?_
  obtain ⟨h31, e32, H⟩ := hz_bd H
  refine aw_iast C e32 dX9_keepLetter_55 ?_
  refine aw_aload_n C dX9_keepLetter_56 rfl ?_
  obtain ⟨r33, e34, H⟩ := hz_bd H
  refine aw_gR (k := 25) C cl_9 (by decide) wd_687 e34 dX9_keepLetter_57 ?_
  refine aw_sipush C dX9_keepLetter_60 (v := (nI 500)) (by decide) ?_
  refine aw_aload_n C dX9_keepLetter_63 rfl ?_
  obtain ⟨r35, e36, H⟩ := hz_bd H
  refine aw_gR (k := 25) C cl_9 (by decide) wd_687 e36 dX9_keepLetter_64 ?_
  refine aw_iload_n C dX9_keepLetter_67 rfl ?_
  obtain ⟨v37, e38, H⟩ := hz_bd H
  refine aw_iald C e38 dX9_keepLetter_68 ?_
  obtain ⟨h39, e40, H⟩ := hz_bd H
  refine aw_iast C e40 dX9_keepLetter_69 ?_
  refine aw_aload_n C dX9_keepLetter_70 rfl ?_
  obtain ⟨r41, e42, H⟩ := hz_bd H
  refine aw_gR (k := 26) C cl_9 (by decide) wd_688 e42 dX9_keepLetter_71 ?_
  refine aw_sipush C dX9_keepLetter_74 (v := (nI 500)) (by decide) ?_
  refine aw_aload_n C dX9_keepLetter_77 rfl ?_
  obtain ⟨r43, e44, H⟩ := hz_bd H
  refine aw_gR (k := 26) C cl_9 (by decide) wd_688 e44 dX9_keepLetter_78 ?_
  refine aw_iload_n C dX9_keepLetter_81 rfl ?_
  obtain ⟨v45, e46, H⟩ := hz_bd H
  refine aw_iald C e46 dX9_keepLetter_82 ?_
  obtain ⟨h47, e48, H⟩ := hz_bd H
  refine aw_iast C e48 dX9_keepLetter_83 ?_
  refine aw_iconst C dX9_keepLetter_84 (v := (nI 0)) (by decide) ?_
  refine aw_istore_n C dX9_keepLetter_85 (by rw [hn]; decide) rfl ?_
  exact k_X9_keepLetter_86 hn C  600 _ _ _ _ H
theorem hy_X9_deliver : hz_Y yX9_deliver cX9_deliver 5 (some .int) 2 := ⟨wd_822, wd_66, by decide +kernel, by decide +kernel, by decide +kernel⟩
theorem hv_X9_deliver : hz_YV yX9_deliver := ⟨wd_820, wd_821⟩
def f_X9_deliver_16 (h : HP) : Option (Int32 × HP) :=
  some ((-1 : Int32), h)
def f_X9_deliver (a0 : Option Nat) (a1 : Int32) (a2 : Int32) (h : HP) : Option (Int32 × HP) :=
  if hz_ob h a0 9 = true then
  (f_X9_isNode a0 a1 h).bind fun p1 =>
  if p1.1 = 0 then
    f_X9_deliver_16   p1.2
  else
    if hz_ob p1.2 a0 9 = true then
    (f_X9_isNode a0 a2 p1.2).bind fun p4 =>
    if p4.1 = 0 then
      f_X9_deliver_16   p4.2
    else
      if hz_ob p4.2 a0 9 = true then
      (f_X9_oldest a0 a1 a2 p4.2).bind fun p7 =>
      if p7.1 = (-1 : Int32) then
        some ((nI 0), p7.2)
      else
        (hz_gR p7.2 a0 9 20).bind fun r10 =>
        (hz_aS p7.2 r10 1 p7.1 (nI 0)).bind fun h12 =>
        (hz_gI h12 a0 9 29).bind fun v14 =>
        (hz_pF h12 a0 9 29 (.int (v14 - (nI 1)))).bind fun h16 =>
        (hz_gR h16 a0 9 1).bind fun r18 =>
        (hz_aI h16 r18 0 a2).bind fun v20 =>
        if v20 = 0 then
          (hz_gR h16 a0 9 23).bind fun r22 =>
          (hz_aI h16 r22 0 p7.1).bind fun v24 =>
          if hz_ob h16 a0 9 = true then
          (f_X9_keepLetter a0 p7.1 h16).bind fun p26 =>
          if hz_ob p26 a0 9 = true then
          (f_X9_come a0 (nI 500) p26).bind fun p29 =>
          some (v24, p29)
          else none
          else none
        else
          (hz_gI h16 a0 9 31).bind fun v32 =>
          (hz_pF h16 a0 9 31 (.int (v32 + (nI 1)))).bind fun h34 =>
          (hz_gR h34 a0 9 23).bind fun r36 =>
          (hz_aI h34 r36 0 p7.1).bind fun v38 =>
          some (((nI 20) + v38), h34)
      else none
    else none
  else none
abbrev rm_X9_deliver : Room := { frames := 9, cells := 0, slots := 0, locals := 209 }
set_option maxRecDepth 100000 in
set_option maxHeartbeats 4000000 in
theorem k_X9_deliver_16 {G : GX} {v' : Int32} {h' : HP} (hn : G.2.2.2.2.2.2.2.2.2.2.2.2 = 5) (C : Cx G cX9_deliver RX9 "deliver" (some .int) rm_X9_deliver (some (.int v')) h') (h : HP) (H : f_X9_deliver_16   h = some (v', h')) : aw G 16 [none, none, none, none, none] [] h 0 0 := by
  unfold f_X9_deliver_16 at H
  refine aw_iconst C dX9_deliver_16 (v := (-1)) (by decide) ?_
  cases H
  exact aw_iret C (Nat.zero_le _) (Nat.zero_le _) dX9_deliver_17
set_option maxRecDepth 100000 in
set_option maxHeartbeats 4000000 in
theorem c_X9_deliver {l : Launch} (a0 : Option Nat) (a1 : Int32) (a2 : Int32) (h : HP) (v' : Int32) (h' : HP) (H : f_X9_deliver a0 a1 a2 h = some (v', h')) : Ct l yX9_deliver cX9_deliver 5 (some .int) rm_X9_deliver [va_rf a0, .int a1, .int a2] (some (.int v')) h h' := by
  refine Ct.of (plainFor_of_name (by decide)) (hz_s1c (hz_s1c (hz_s1c hz_s1n rfl) rfl) (hz_cr _)) (Nat.le_of_ble_eq_true rfl) (fun G hl hn C0 => ?_)
  have C : Cx G cX9_deliver RX9 "deliver" (some .int) rm_X9_deliver (some (.int v')) h' := C0
  subst hl
  show aw G 0 [some (va_rf a0), some (.int a1), some (.int a2), none, none] [] h 0 0
  unfold f_X9_deliver at H
  refine aw_aload_n C dX9_deliver_0 rfl ?_
  refine aw_iload_n C dX9_deliver_1 rfl ?_
  obtain ⟨g3, H⟩ := hz_wn H
  obtain ⟨p1, e2, H⟩ := hz_bd H
  refine aw_V (As := [.int a1]) (rest := []) C hy_X9_isNode hv_X9_isNode wd_773 cl_9.1 g3 (c_X9_isNode _ _ _ _ _  e2) (hz_roi _) rfl rfl (Nat.le_of_ble_eq_true rfl) (by decide) (kc := 0) (ks := 0) rfl rfl (by decide) dX9_deliver_2 ?_
  refine aw_if_eq (tgt := 16) C dX9_deliver_5 (by decide) (fun c40 => ?_) (fun c40 => ?_)
  · replace H := hz_it c40 H
    exact aw_loc (hz_sub_n (hz_sub_n (hz_sub_n (hz_sub_n (hz_sub_n hz_sub_0))))) (k_X9_deliver_16 hn C  _ H)
  · replace H := hz_if c40 H
    refine aw_aload_n C dX9_deliver_8 rfl ?_
    refine aw_iload_n C dX9_deliver_9 rfl ?_
    obtain ⟨g6, H⟩ := hz_wn H
    obtain ⟨p4, e5, H⟩ := hz_bd H
    refine aw_V (As := [.int a2]) (rest := []) C hy_X9_isNode hv_X9_isNode wd_773 cl_9.1 g6 (c_X9_isNode _ _ _ _ _  e5) (hz_roi _) rfl rfl (Nat.le_of_ble_eq_true rfl) (by decide) (kc := 0) (ks := 0) rfl rfl (by decide) dX9_deliver_10 ?_
    refine aw_if_ne (tgt := 18) C dX9_deliver_13 (by decide) (fun c41 => ?_) (fun c41 => ?_)
    · replace H := hz_if c41 H
      refine aw_aload_n C dX9_deliver_18 rfl ?_
      refine aw_iload_n C dX9_deliver_19 rfl ?_
      refine aw_iload_n C dX9_deliver_20 rfl ?_
      obtain ⟨g9, H⟩ := hz_wn H
      obtain ⟨p7, e8, H⟩ := hz_bd H
      refine aw_V (As := [.int a1, .int a2]) (rest := []) C hy_X9_oldest hv_X9_oldest wd_823 cl_9.1 g9 (c_X9_oldest _ _ _ _ _ _  e8) (hz_roi _) rfl rfl (Nat.le_of_ble_eq_true rfl) (by decide) (kc := 0) (ks := 0) rfl rfl (by decide) dX9_deliver_21 ?_
      refine aw_istore_n C dX9_deliver_24 (by rw [hn]; decide) rfl ?_
      refine aw_iload_n C dX9_deliver_25 rfl ?_
      refine aw_iconst C dX9_deliver_26 (v := (-1)) (by decide) ?_
      refine aw_icmp_ne (tgt := 32) C dX9_deliver_27 (by decide) (fun c42 => ?_) (fun c42 => ?_)
      · replace H := hz_if c42 H
        refine aw_aload_n C dX9_deliver_32 rfl ?_
        obtain ⟨r10, e11, H⟩ := hz_bd H
        refine aw_gR (k := 20) C cl_9 (by decide) wd_682 e11 dX9_deliver_33 ?_
        refine aw_iload_n C dX9_deliver_36 rfl ?_
        refine aw_iconst C dX9_deliver_37 (v := (nI 0)) (by decide) ?_
        obtain ⟨h12, e13, H⟩ := hz_bd H
        refine aw_bast C e13 dX9_deliver_38 ?_
        refine aw_aload_n C dX9_deliver_39 rfl ?_
        refine aw_dup C dX9_deliver_40 ?_
        obtain ⟨v14, e15, H⟩ := hz_bd H
        refine aw_gI (k := 29) C cl_9 (by decide) wd_691 e15 dX9_deliver_41 ?_
        refine aw_iconst C dX9_deliver_44 (v := (nI 1)) (by decide) ?_
        refine aw_isub C dX9_deliver_45 ?_
        obtain ⟨h16, e17, H⟩ := hz_bd H
        refine aw_pF (k := 29) C cl_9 (by decide) rfl wd_691 (hz_fiti _) e17 dX9_deliver_46 ?_
        refine aw_aload_n C dX9_deliver_49 rfl ?_
        obtain ⟨r18, e19, H⟩ := hz_bd H
        refine aw_gR (k := 1) C cl_9 (by decide) wd_663 e19 dX9_deliver_50 ?_
        refine aw_iload_n C dX9_deliver_53 rfl ?_
        obtain ⟨v20, e21, H⟩ := hz_bd H
        refine aw_iald C e21 dX9_deliver_54 ?_
        refine aw_if_eq (tgt := 78) C dX9_deliver_55 (by decide) (fun c43 => ?_) (fun c43 => ?_)
        · replace H := hz_it c43 H
          refine aw_aload_n C dX9_deliver_78 rfl ?_
          obtain ⟨r22, e23, H⟩ := hz_bd H
          refine aw_gR (k := 23) C cl_9 (by decide) wd_685 e23 dX9_deliver_79 ?_
          refine aw_iload_n C dX9_deliver_82 rfl ?_
          obtain ⟨v24, e25, H⟩ := hz_bd H
          refine aw_iald C e25 dX9_deliver_83 ?_
          refine aw_istore C dX9_deliver_84 (by rw [hn]; decide) rfl ?_
          refine aw_aload_n C dX9_deliver_86 rfl ?_
          refine aw_iload_n C dX9_deliver_87 rfl ?_
          obtain ⟨g28, H⟩ := hz_wn H
          obtain ⟨p26, e27, H⟩ := hz_bd H
          refine aw_V (As := [.int p7.1]) (rest := []) C hy_X9_keepLetter hv_X9_keepLetter wd_827 cl_9.1 g28 (c_X9_keepLetter _ _ _ _  e27) hz_ron rfl rfl (Nat.le_of_ble_eq_true rfl) (by decide) (kc := 0) (ks := 0) rfl rfl (by decide) dX9_deliver_88 ?_
          refine aw_aload_n C dX9_deliver_91 rfl ?_
          refine aw_sipush C dX9_deliver_92 (v := (nI 500)) (by decide) ?_
          obtain ⟨g31, H⟩ := hz_wn H
          obtain ⟨p29, e30, H⟩ := hz_bd H
          refine aw_V (As := [.int (nI 500)]) (rest := []) C hy_X9_come hv_X9_come wd_831 cl_9.1 g31 (c_X9_come _ _ _ _  e30) hz_ron rfl rfl (Nat.le_of_ble_eq_true rfl) (by decide) (kc := 0) (ks := 0) rfl rfl (by decide) dX9_deliver_95 ?_
          refine aw_iload C dX9_deliver_98 rfl ?_
          cases H
          exact aw_iret C (Nat.zero_le _) (Nat.zero_le _) dX9_deliver_100
        · replace H := hz_if c43 H
          refine aw_aload_n C dX9_deliver_58 rfl ?_
          refine aw_dup C dX9_deliver_59 ?_
          obtain ⟨v32, e33, H⟩ := hz_bd H
          refine aw_gI (k := 31) C cl_9 (by decide) wd_693 e33 dX9_deliver_60 ?_
          refine aw_iconst C dX9_deliver_63 (v := (nI 1)) (by decide) ?_
          refine aw_iadd C dX9_deliver_64 ?_
          obtain ⟨h34, e35, H⟩ := hz_bd H
          refine aw_pF (k := 31) C cl_9 (by decide) rfl wd_693 (hz_fiti _) e35 dX9_deliver_65 ?_
          refine aw_bipush C dX9_deliver_68 (v := (nI 20)) (by decide) ?_
          refine aw_aload_n C dX9_deliver_70 rfl ?_
          obtain ⟨r36, e37, H⟩ := hz_bd H
          refine aw_gR (k := 23) C cl_9 (by decide) wd_685 e37 dX9_deliver_71 ?_
          refine aw_iload_n C dX9_deliver_74 rfl ?_
          obtain ⟨v38, e39, H⟩ := hz_bd H
          refine aw_iald C e39 dX9_deliver_75 ?_
          refine aw_iadd C dX9_deliver_76 ?_
          cases H
          exact aw_iret C (Nat.zero_le _) (Nat.zero_le _) dX9_deliver_77
      · replace H := hz_it c42 H
        refine aw_iconst C dX9_deliver_30 (v := (nI 0)) (by decide) ?_
        cases H
        exact aw_iret C (Nat.zero_le _) (Nat.zero_le _) dX9_deliver_31
    · replace H := hz_it c41 H
      exact aw_loc (hz_sub_n (hz_sub_n (hz_sub_n (hz_sub_n (hz_sub_n hz_sub_0))))) (k_X9_deliver_16 hn C  _ H)
theorem hy_X9_suspect : hz_Y yX9_suspect cX9_suspect 3 (some .int) 2 := ⟨wd_866, wd_66, by decide +kernel, by decide +kernel, by decide +kernel⟩
theorem hv_X9_suspect : hz_YV yX9_suspect := ⟨wd_864, wd_865⟩
def f_X9_suspect_16 (h : HP) : Option (Int32 × HP) :=
  some ((-1 : Int32), h)
def f_X9_suspect_45 (h : HP) : Option (Int32 × HP) :=
  some ((nI 0), h)
def f_X9_suspect_161 (h : HP) : Option (Int32 × HP) :=
  some ((nI 1), h)
def f_X9_suspect_147 (l0 : Option Nat) (l1 : Int32) (h : HP) : Option (Int32 × HP) :=
  (hz_gR h l0 9 10).bind fun r58 =>
  (hz_aI h r58 0 l1).bind fun v60 =>
  if v60 = 0 then
    if hz_ob h l0 9 = true then
    (f_X9_ask l0 l1 h).bind fun p62 =>
    f_X9_suspect_161   p62
    else none
  else
    f_X9_suspect_161   h
def f_X9_suspect_128 (l0 : Option Nat) (l1 : Int32) (l2 : Int32) (h : HP) : Option (Int32 × HP) :=
  if hz_ob h l0 9 = true then
  (f_X9_leader l0 l1 h).bind fun p51 =>
  if p51.1 = l2 then
    f_X9_suspect_147  l0 l1 p51.2
  else
    (hz_gR p51.2 l0 9 12).bind fun r54 =>
    (hz_aI p51.2 r54 0 l1).bind fun v56 =>
    if v56 = l2 then
      f_X9_suspect_147  l0 l1 p51.2
    else
      f_X9_suspect_161   p51.2
  else none
def f_X9_suspect_90 (l0 : Option Nat) (l1 : Int32) (l2 : Int32) (h : HP) : Option (Int32 × HP) :=
  if hz_ob h l0 9 = true then
  (f_X9_isBlocked l0 l1 h).bind fun p36 =>
  if p36.1 = 0 then
    if hz_ob p36.2 l0 9 = true then
    (f_X9_leader l0 l1 p36.2).bind fun p39 =>
    if p39.1 = l1 then
      (hz_gR p39.2 l0 9 3).bind fun r42 =>
      (hz_aI p39.2 r42 0 l1).bind fun v44 =>
      (f_X9_has v44 l2 p39.2).bind fun p46 =>
      if p46.1 = 0 then
        f_X9_suspect_128  l0 l1 l2 p46.2
      else
        if hz_ob p46.2 l0 9 = true then
        (f_X9_flush l0 l1 p46.2).bind fun p48 =>
        f_X9_suspect_161   p48
        else none
    else
      f_X9_suspect_128  l0 l1 l2 p39.2
    else none
  else
    f_X9_suspect_128  l0 l1 l2 p36.2
  else none
def f_X9_suspect (a0 : Option Nat) (a1 : Int32) (a2 : Int32) (h : HP) : Option (Int32 × HP) :=
  if hz_ob h a0 9 = true then
  (f_X9_isNode a0 a1 h).bind fun p1 =>
  if p1.1 = 0 then
    f_X9_suspect_16   p1.2
  else
    if hz_ob p1.2 a0 9 = true then
    (f_X9_isNode a0 a2 p1.2).bind fun p4 =>
    if p4.1 = 0 then
      f_X9_suspect_16   p4.2
    else
      (hz_gR p4.2 a0 9 1).bind fun r7 =>
      (hz_aI p4.2 r7 0 a1).bind fun v9 =>
      if v9 = 0 then
        if a1 = a2 then
          f_X9_suspect_45   p4.2
        else
          (hz_gR p4.2 a0 9 9).bind fun r11 =>
          (hz_aI p4.2 r11 0 a1).bind fun v13 =>
          (f_X9_has v13 a2 p4.2).bind fun p15 =>
          if p15.1 = 0 then
            (hz_gR p15.2 a0 9 9).bind fun r17 =>
            (hz_aI p15.2 r17 0 a1).bind fun v19 =>
            (hz_aS p15.2 r17 0 a1 (v19 ||| ((nI 1) <<< (a2 &&& 31)))).bind fun h21 =>
            (hz_gR h21 a0 9 10).bind fun r23 =>
            (hz_aI h21 r23 0 a1).bind fun v25 =>
            if v25 < (nI 3) then
              f_X9_suspect_90  a0 a1 a2 h21
            else
              (hz_gR h21 a0 9 11).bind fun r27 =>
              (hz_aI h21 r27 0 a1).bind fun v29 =>
              (f_X9_has v29 a2 h21).bind fun p31 =>
              if p31.1 = 0 then
                f_X9_suspect_90  a0 a1 a2 p31.2
              else
                if hz_ob p31.2 a0 9 = true then
                (f_X9_flush a0 a1 p31.2).bind fun p33 =>
                f_X9_suspect_161   p33
                else none
          else
            f_X9_suspect_45   p15.2
      else
        f_X9_suspect_45   p4.2
    else none
  else none
abbrev rm_X9_suspect : Room := { frames := 8, cells := 0, slots := 0, locals := 186 }
set_option maxRecDepth 100000 in
set_option maxHeartbeats 4000000 in
theorem k_X9_suspect_16 {G : GX} {v' : Int32} {h' : HP} (hn : G.2.2.2.2.2.2.2.2.2.2.2.2 = 3) (C : Cx G cX9_suspect RX9 "suspect" (some .int) rm_X9_suspect (some (.int v')) h') (h : HP) (H : f_X9_suspect_16   h = some (v', h')) : aw G 16 [none, none, none] [] h 0 0 := by
  unfold f_X9_suspect_16 at H
  refine aw_iconst C dX9_suspect_16 (v := (-1)) (by decide) ?_
  cases H
  exact aw_iret C (Nat.zero_le _) (Nat.zero_le _) dX9_suspect_17
set_option maxRecDepth 100000 in
set_option maxHeartbeats 4000000 in
theorem k_X9_suspect_45 {G : GX} {v' : Int32} {h' : HP} (hn : G.2.2.2.2.2.2.2.2.2.2.2.2 = 3) (C : Cx G cX9_suspect RX9 "suspect" (some .int) rm_X9_suspect (some (.int v')) h') (h : HP) (H : f_X9_suspect_45   h = some (v', h')) : aw G 45 [none, none, none] [] h 0 0 := by
  unfold f_X9_suspect_45 at H
  refine aw_iconst C dX9_suspect_45 (v := (nI 0)) (by decide) ?_
  cases H
  exact aw_iret C (Nat.zero_le _) (Nat.zero_le _) dX9_suspect_46
set_option maxRecDepth 100000 in
set_option maxHeartbeats 4000000 in
theorem k_X9_suspect_161 {G : GX} {v' : Int32} {h' : HP} (hn : G.2.2.2.2.2.2.2.2.2.2.2.2 = 3) (C : Cx G cX9_suspect RX9 "suspect" (some .int) rm_X9_suspect (some (.int v')) h') (h : HP) (H : f_X9_suspect_161   h = some (v', h')) : aw G 161 [none, none, none] [] h 0 0 := by
  unfold f_X9_suspect_161 at H
  refine aw_iconst C dX9_suspect_161 (v := (nI 1)) (by decide) ?_
  cases H
  exact aw_iret C (Nat.zero_le _) (Nat.zero_le _) dX9_suspect_162
set_option maxRecDepth 100000 in
set_option maxHeartbeats 4000000 in
theorem k_X9_suspect_147 {G : GX} {v' : Int32} {h' : HP} (hn : G.2.2.2.2.2.2.2.2.2.2.2.2 = 3) (C : Cx G cX9_suspect RX9 "suspect" (some .int) rm_X9_suspect (some (.int v')) h') (l0 : Option Nat) (l1 : Int32) (h : HP) (H : f_X9_suspect_147  l0 l1 h = some (v', h')) : aw G 147 [some (va_rf l0), some (.int l1), none] [] h 0 0 := by
  unfold f_X9_suspect_147 at H
  refine aw_aload_n C dX9_suspect_147 rfl ?_
  obtain ⟨r58, e59, H⟩ := hz_bd H
  refine aw_gR (k := 10) C cl_9 (by decide) wd_672 e59 dX9_suspect_148 ?_
  refine aw_iload_n C dX9_suspect_151 rfl ?_
  obtain ⟨v60, e61, H⟩ := hz_bd H
  refine aw_iald C e61 dX9_suspect_152 ?_
  refine aw_if_ne (tgt := 161) C dX9_suspect_153 (by decide) (fun c65 => ?_) (fun c65 => ?_)
  · replace H := hz_if c65 H
    exact aw_loc (hz_sub_n (hz_sub_n (hz_sub_n hz_sub_0))) (k_X9_suspect_161 hn C  _ H)
  · replace H := hz_it c65 H
    refine aw_aload_n C dX9_suspect_156 rfl ?_
    refine aw_iload_n C dX9_suspect_157 rfl ?_
    obtain ⟨g64, H⟩ := hz_wn H
    obtain ⟨p62, e63, H⟩ := hz_bd H
    refine aw_V (As := [.int l1]) (rest := []) C hy_X9_ask hv_X9_ask wd_835 cl_9.1 g64 (c_X9_ask _ _ _ _  e63) hz_ron rfl rfl (Nat.le_of_ble_eq_true rfl) (by decide) (kc := 0) (ks := 0) rfl rfl (by decide) dX9_suspect_158 ?_
    exact aw_loc (hz_sub_n (hz_sub_n (hz_sub_n hz_sub_0))) (k_X9_suspect_161 hn C  _ H)
set_option maxRecDepth 100000 in
set_option maxHeartbeats 4000000 in
theorem k_X9_suspect_128 {G : GX} {v' : Int32} {h' : HP} (hn : G.2.2.2.2.2.2.2.2.2.2.2.2 = 3) (C : Cx G cX9_suspect RX9 "suspect" (some .int) rm_X9_suspect (some (.int v')) h') (l0 : Option Nat) (l1 : Int32) (l2 : Int32) (h : HP) (H : f_X9_suspect_128  l0 l1 l2 h = some (v', h')) : aw G 128 [some (va_rf l0), some (.int l1), some (.int l2)] [] h 0 0 := by
  unfold f_X9_suspect_128 at H
  refine aw_aload_n C dX9_suspect_128 rfl ?_
  refine aw_iload_n C dX9_suspect_129 rfl ?_
  obtain ⟨g53, H⟩ := hz_wn H
  obtain ⟨p51, e52, H⟩ := hz_bd H
  refine aw_V (As := [.int l1]) (rest := []) C hy_X9_leader hv_X9_leader wd_784 cl_9.1 g53 (c_X9_leader _ _ _ _ _  e52) (hz_roi _) rfl rfl (Nat.le_of_ble_eq_true rfl) (by decide) (kc := 0) (ks := 0) rfl rfl (by decide) dX9_suspect_130 ?_
  refine aw_iload_n C dX9_suspect_133 rfl ?_
  refine aw_icmp_eq (tgt := 147) C dX9_suspect_134 (by decide) (fun c66 => ?_) (fun c66 => ?_)
  · replace H := hz_it c66 H
    exact aw_loc (hz_sub_s (hz_sub_s (hz_sub_n hz_sub_0))) (k_X9_suspect_147 hn C  _ _ _ H)
  · replace H := hz_if c66 H
    refine aw_aload_n C dX9_suspect_137 rfl ?_
    obtain ⟨r54, e55, H⟩ := hz_bd H
    refine aw_gR (k := 12) C cl_9 (by decide) wd_674 e55 dX9_suspect_138 ?_
    refine aw_iload_n C dX9_suspect_141 rfl ?_
    obtain ⟨v56, e57, H⟩ := hz_bd H
    refine aw_iald C e57 dX9_suspect_142 ?_
    refine aw_iload_n C dX9_suspect_143 rfl ?_
    refine aw_icmp_ne (tgt := 161) C dX9_suspect_144 (by decide) (fun c67 => ?_) (fun c67 => ?_)
    · replace H := hz_if c67 H
      exact aw_loc (hz_sub_n (hz_sub_n (hz_sub_n hz_sub_0))) (k_X9_suspect_161 hn C  _ H)
    · replace H := hz_it c67 H
      exact aw_loc (hz_sub_s (hz_sub_s (hz_sub_n hz_sub_0))) (k_X9_suspect_147 hn C  _ _ _ H)
set_option maxRecDepth 100000 in
set_option maxHeartbeats 4000000 in
theorem k_X9_suspect_90 {G : GX} {v' : Int32} {h' : HP} (hn : G.2.2.2.2.2.2.2.2.2.2.2.2 = 3) (C : Cx G cX9_suspect RX9 "suspect" (some .int) rm_X9_suspect (some (.int v')) h') (l0 : Option Nat) (l1 : Int32) (l2 : Int32) (h : HP) (H : f_X9_suspect_90  l0 l1 l2 h = some (v', h')) : aw G 90 [some (va_rf l0), some (.int l1), some (.int l2)] [] h 0 0 := by
  unfold f_X9_suspect_90 at H
  refine aw_aload_n C dX9_suspect_90 rfl ?_
  refine aw_iload_n C dX9_suspect_91 rfl ?_
  obtain ⟨g38, H⟩ := hz_wn H
  obtain ⟨p36, e37, H⟩ := hz_bd H
  refine aw_V (As := [.int l1]) (rest := []) C hy_X9_isBlocked hv_X9_isBlocked wd_780 cl_9.1 g38 (c_X9_isBlocked _ _ _ _ _  e37) (hz_roi _) rfl rfl (Nat.le_of_ble_eq_true rfl) (by decide) (kc := 0) (ks := 0) rfl rfl (by decide) dX9_suspect_92 ?_
  refine aw_if_ne (tgt := 128) C dX9_suspect_95 (by decide) (fun c68 => ?_) (fun c68 => ?_)
  · replace H := hz_if c68 H
    exact k_X9_suspect_128 hn C  _ _ _ _ H
  · replace H := hz_it c68 H
    refine aw_aload_n C dX9_suspect_98 rfl ?_
    refine aw_iload_n C dX9_suspect_99 rfl ?_
    obtain ⟨g41, H⟩ := hz_wn H
    obtain ⟨p39, e40, H⟩ := hz_bd H
    refine aw_V (As := [.int l1]) (rest := []) C hy_X9_leader hv_X9_leader wd_784 cl_9.1 g41 (c_X9_leader _ _ _ _ _  e40) (hz_roi _) rfl rfl (Nat.le_of_ble_eq_true rfl) (by decide) (kc := 0) (ks := 0) rfl rfl (by decide) dX9_suspect_100 ?_
    refine aw_iload_n C dX9_suspect_103 rfl ?_
    refine aw_icmp_ne (tgt := 128) C dX9_suspect_104 (by decide) (fun c69 => ?_) (fun c69 => ?_)
    · replace H := hz_if c69 H
      exact k_X9_suspect_128 hn C  _ _ _ _ H
    · replace H := hz_it c69 H
      refine aw_aload_n C dX9_suspect_107 rfl ?_
      obtain ⟨r42, e43, H⟩ := hz_bd H
      refine aw_gR (k := 3) C cl_9 (by decide) wd_665 e43 dX9_suspect_108 ?_
      refine aw_iload_n C dX9_suspect_111 rfl ?_
      obtain ⟨v44, e45, H⟩ := hz_bd H
      refine aw_iald C e45 dX9_suspect_112 ?_
      refine aw_iload_n C dX9_suspect_113 rfl ?_
      obtain ⟨p46, e47, H⟩ := hz_bd H
      refine aw_S (As := [.int v44, .int l2]) (rest := []) C hy_X9_has wd_789 wd_788 (c_X9_has _ _ _ _ _  e47) (hz_roi _) rfl rfl (Nat.le_of_ble_eq_true rfl) (by decide) (kc := 0) (ks := 0) rfl rfl (by decide) dX9_suspect_114 ?_
      refine aw_if_eq (tgt := 128) C dX9_suspect_117 (by decide) (fun c70 => ?_) (fun c70 => ?_)
      · replace H := hz_it c70 H
        exact k_X9_suspect_128 hn C  _ _ _ _ H
      · replace H := hz_if c70 H
        refine aw_aload_n C dX9_suspect_120 rfl ?_
        refine aw_iload_n C dX9_suspect_121 rfl ?_
        obtain ⟨g50, H⟩ := hz_wn H
        obtain ⟨p48, e49, H⟩ := hz_bd H
        refine aw_V (As := [.int l1]) (rest := []) C hy_X9_flush hv_X9_flush wd_839 cl_9.1 g50 (c_X9_flush _ _ _ _  e49) hz_ron rfl rfl (Nat.le_of_ble_eq_true rfl) (by decide) (kc := 0) (ks := 0) rfl rfl (by decide) dX9_suspect_122 ?_
        refine aw_goto (tgt := 161) C dX9_suspect_125 (by decide) ?_
        exact aw_loc (hz_sub_n (hz_sub_n (hz_sub_n hz_sub_0))) (k_X9_suspect_161 hn C  _ H)
set_option maxRecDepth 100000 in
set_option maxHeartbeats 4000000 in
theorem c_X9_suspect {l : Launch} (a0 : Option Nat) (a1 : Int32) (a2 : Int32) (h : HP) (v' : Int32) (h' : HP) (H : f_X9_suspect a0 a1 a2 h = some (v', h')) : Ct l yX9_suspect cX9_suspect 3 (some .int) rm_X9_suspect [va_rf a0, .int a1, .int a2] (some (.int v')) h h' := by
  refine Ct.of (plainFor_of_name (by decide)) (hz_s1c (hz_s1c (hz_s1c hz_s1n rfl) rfl) (hz_cr _)) (Nat.le_of_ble_eq_true rfl) (fun G hl hn C0 => ?_)
  have C : Cx G cX9_suspect RX9 "suspect" (some .int) rm_X9_suspect (some (.int v')) h' := C0
  subst hl
  show aw G 0 [some (va_rf a0), some (.int a1), some (.int a2)] [] h 0 0
  unfold f_X9_suspect at H
  refine aw_aload_n C dX9_suspect_0 rfl ?_
  refine aw_iload_n C dX9_suspect_1 rfl ?_
  obtain ⟨g3, H⟩ := hz_wn H
  obtain ⟨p1, e2, H⟩ := hz_bd H
  refine aw_V (As := [.int a1]) (rest := []) C hy_X9_isNode hv_X9_isNode wd_773 cl_9.1 g3 (c_X9_isNode _ _ _ _ _  e2) (hz_roi _) rfl rfl (Nat.le_of_ble_eq_true rfl) (by decide) (kc := 0) (ks := 0) rfl rfl (by decide) dX9_suspect_2 ?_
  refine aw_if_eq (tgt := 16) C dX9_suspect_5 (by decide) (fun c71 => ?_) (fun c71 => ?_)
  · replace H := hz_it c71 H
    exact aw_loc (hz_sub_n (hz_sub_n (hz_sub_n hz_sub_0))) (k_X9_suspect_16 hn C  _ H)
  · replace H := hz_if c71 H
    refine aw_aload_n C dX9_suspect_8 rfl ?_
    refine aw_iload_n C dX9_suspect_9 rfl ?_
    obtain ⟨g6, H⟩ := hz_wn H
    obtain ⟨p4, e5, H⟩ := hz_bd H
    refine aw_V (As := [.int a2]) (rest := []) C hy_X9_isNode hv_X9_isNode wd_773 cl_9.1 g6 (c_X9_isNode _ _ _ _ _  e5) (hz_roi _) rfl rfl (Nat.le_of_ble_eq_true rfl) (by decide) (kc := 0) (ks := 0) rfl rfl (by decide) dX9_suspect_10 ?_
    refine aw_if_ne (tgt := 18) C dX9_suspect_13 (by decide) (fun c72 => ?_) (fun c72 => ?_)
    · replace H := hz_if c72 H
      refine aw_aload_n C dX9_suspect_18 rfl ?_
      obtain ⟨r7, e8, H⟩ := hz_bd H
      refine aw_gR (k := 1) C cl_9 (by decide) wd_663 e8 dX9_suspect_19 ?_
      refine aw_iload_n C dX9_suspect_22 rfl ?_
      obtain ⟨v9, e10, H⟩ := hz_bd H
      refine aw_iald C e10 dX9_suspect_23 ?_
      refine aw_if_ne (tgt := 45) C dX9_suspect_24 (by decide) (fun c73 => ?_) (fun c73 => ?_)
      · replace H := hz_if c73 H
        exact aw_loc (hz_sub_n (hz_sub_n (hz_sub_n hz_sub_0))) (k_X9_suspect_45 hn C  _ H)
      · replace H := hz_it c73 H
        refine aw_iload_n C dX9_suspect_27 rfl ?_
        refine aw_iload_n C dX9_suspect_28 rfl ?_
        refine aw_icmp_eq (tgt := 45) C dX9_suspect_29 (by decide) (fun c74 => ?_) (fun c74 => ?_)
        · replace H := hz_it c74 H
          exact aw_loc (hz_sub_n (hz_sub_n (hz_sub_n hz_sub_0))) (k_X9_suspect_45 hn C  _ H)
        · replace H := hz_if c74 H
          refine aw_aload_n C dX9_suspect_32 rfl ?_
          obtain ⟨r11, e12, H⟩ := hz_bd H
          refine aw_gR (k := 9) C cl_9 (by decide) wd_671 e12 dX9_suspect_33 ?_
          refine aw_iload_n C dX9_suspect_36 rfl ?_
          obtain ⟨v13, e14, H⟩ := hz_bd H
          refine aw_iald C e14 dX9_suspect_37 ?_
          refine aw_iload_n C dX9_suspect_38 rfl ?_
          obtain ⟨p15, e16, H⟩ := hz_bd H
          refine aw_S (As := [.int v13, .int a2]) (rest := []) C hy_X9_has wd_789 wd_788 (c_X9_has _ _ _ _ _  e16) (hz_roi _) rfl rfl (Nat.le_of_ble_eq_true rfl) (by decide) (kc := 0) (ks := 0) rfl rfl (by decide) dX9_suspect_39 ?_
          refine aw_if_eq (tgt := 47) C dX9_suspect_42 (by decide) (fun c75 => ?_) (fun c75 => ?_)
          · replace H := hz_it c75 H
            refine aw_aload_n C dX9_suspect_47 rfl ?_
            obtain ⟨r17, e18, H⟩ := hz_bd H
            refine aw_gR (k := 9) C cl_9 (by decide) wd_671 e18 dX9_suspect_48 ?_
            refine aw_iload_n C dX9_suspect_51 rfl ?_
            refine aw_dup2 C dX9_suspect_52 ?_
            obtain ⟨v19, e20, H⟩ := hz_bd H
            refine aw_iald C e20 dX9_suspect_53 ?_
            refine aw_iconst C dX9_suspect_54 (v := (nI 1)) (by decide) ?_
            refine aw_iload_n C dX9_suspect_55 rfl ?_
            refine aw_ishl C dX9_suspect_56 ?_
            refine aw_ior C dX9_suspect_57 ?_
            obtain ⟨h21, e22, H⟩ := hz_bd H
            refine aw_iast C e22 dX9_suspect_58 ?_
            refine aw_aload_n C dX9_suspect_59 rfl ?_
            obtain ⟨r23, e24, H⟩ := hz_bd H
            refine aw_gR (k := 10) C cl_9 (by decide) wd_672 e24 dX9_suspect_60 ?_
            refine aw_iload_n C dX9_suspect_63 rfl ?_
            obtain ⟨v25, e26, H⟩ := hz_bd H
            refine aw_iald C e26 dX9_suspect_64 ?_
            refine aw_iconst C dX9_suspect_65 (v := (nI 3)) (by decide) ?_
            refine aw_icmp_lt (tgt := 90) C dX9_suspect_66 (by decide) (fun c76 => ?_) (fun c76 => ?_)
            · replace H := hz_it c76 H
              exact k_X9_suspect_90 hn C  _ _ _ _ H
            · replace H := hz_if c76 H
              refine aw_aload_n C dX9_suspect_69 rfl ?_
              obtain ⟨r27, e28, H⟩ := hz_bd H
              refine aw_gR (k := 11) C cl_9 (by decide) wd_673 e28 dX9_suspect_70 ?_
              refine aw_iload_n C dX9_suspect_73 rfl ?_
              obtain ⟨v29, e30, H⟩ := hz_bd H
              refine aw_iald C e30 dX9_suspect_74 ?_
              refine aw_iload_n C dX9_suspect_75 rfl ?_
              obtain ⟨p31, e32, H⟩ := hz_bd H
              refine aw_S (As := [.int v29, .int a2]) (rest := []) C hy_X9_has wd_789 wd_788 (c_X9_has _ _ _ _ _  e32) (hz_roi _) rfl rfl (Nat.le_of_ble_eq_true rfl) (by decide) (kc := 0) (ks := 0) rfl rfl (by decide) dX9_suspect_76 ?_
              refine aw_if_eq (tgt := 90) C dX9_suspect_79 (by decide) (fun c77 => ?_) (fun c77 => ?_)
              · replace H := hz_it c77 H
                exact k_X9_suspect_90 hn C  _ _ _ _ H
              · replace H := hz_if c77 H
                refine aw_aload_n C dX9_suspect_82 rfl ?_
                refine aw_iload_n C dX9_suspect_83 rfl ?_
                obtain ⟨g35, H⟩ := hz_wn H
                obtain ⟨p33, e34, H⟩ := hz_bd H
                refine aw_V (As := [.int a1]) (rest := []) C hy_X9_flush hv_X9_flush wd_839 cl_9.1 g35 (c_X9_flush _ _ _ _  e34) hz_ron rfl rfl (Nat.le_of_ble_eq_true rfl) (by decide) (kc := 0) (ks := 0) rfl rfl (by decide) dX9_suspect_84 ?_
                refine aw_goto (tgt := 161) C dX9_suspect_87 (by decide) ?_
                exact aw_loc (hz_sub_n (hz_sub_n (hz_sub_n hz_sub_0))) (k_X9_suspect_161 hn C  _ H)
          · replace H := hz_if c75 H
            exact aw_loc (hz_sub_n (hz_sub_n (hz_sub_n hz_sub_0))) (k_X9_suspect_45 hn C  _ H)
    · replace H := hz_it c72 H
      exact aw_loc (hz_sub_n (hz_sub_n (hz_sub_n hz_sub_0))) (k_X9_suspect_16 hn C  _ H)
theorem hy_X9_crash : hz_Y yX9_crash cX9_crash 2 (some .boolean) 1 := ⟨wd_870, wd_66, by decide +kernel, by decide +kernel, by decide +kernel⟩
theorem hv_X9_crash : hz_YV yX9_crash := ⟨wd_868, wd_869⟩
def f_X9_crash_17 (h : HP) : Option (Int32 × HP) :=
  some ((nI 0), h)
def f_X9_crash (a0 : Option Nat) (a1 : Int32) (h : HP) : Option (Int32 × HP) :=
  if hz_ob h a0 9 = true then
  (f_X9_isNode a0 a1 h).bind fun p1 =>
  if p1.1 = 0 then
    f_X9_crash_17   p1.2
  else
    (hz_gR p1.2 a0 9 1).bind fun r4 =>
    (hz_aI p1.2 r4 0 a1).bind fun v6 =>
    if v6 = 0 then
      (hz_gR p1.2 a0 9 1).bind fun r8 =>
      (hz_aS p1.2 r8 0 a1 (nI 1)).bind fun h10 =>
      some ((nI 1), h10)
    else
      f_X9_crash_17   p1.2
  else none
abbrev rm_X9_crash : Room := { frames := 1, cells := 0, slots := 0, locals := 21 }
set_option maxRecDepth 100000 in
set_option maxHeartbeats 4000000 in
theorem k_X9_crash_17 {G : GX} {v' : Int32} {h' : HP} (hn : G.2.2.2.2.2.2.2.2.2.2.2.2 = 2) (C : Cx G cX9_crash RX9 "crash" (some .boolean) rm_X9_crash (some (.int v')) h') (h : HP) (H : f_X9_crash_17   h = some (v', h')) : aw G 17 [none, none] [] h 0 0 := by
  unfold f_X9_crash_17 at H
  refine aw_iconst C dX9_crash_17 (v := (nI 0)) (by decide) ?_
  cases H
  exact aw_zret C (by decide) (Nat.zero_le _) (Nat.zero_le _) dX9_crash_18
set_option maxRecDepth 100000 in
set_option maxHeartbeats 4000000 in
theorem c_X9_crash {l : Launch} (a0 : Option Nat) (a1 : Int32) (h : HP) (v' : Int32) (h' : HP) (H : f_X9_crash a0 a1 h = some (v', h')) : Ct l yX9_crash cX9_crash 2 (some .boolean) rm_X9_crash [va_rf a0, .int a1] (some (.int v')) h h' := by
  refine Ct.of (plainFor_of_name (by decide)) (hz_s1c (hz_s1c hz_s1n rfl) (hz_cr _)) (Nat.le_of_ble_eq_true rfl) (fun G hl hn C0 => ?_)
  have C : Cx G cX9_crash RX9 "crash" (some .boolean) rm_X9_crash (some (.int v')) h' := C0
  subst hl
  show aw G 0 [some (va_rf a0), some (.int a1)] [] h 0 0
  unfold f_X9_crash at H
  refine aw_aload_n C dX9_crash_0 rfl ?_
  refine aw_iload_n C dX9_crash_1 rfl ?_
  obtain ⟨g3, H⟩ := hz_wn H
  obtain ⟨p1, e2, H⟩ := hz_bd H
  refine aw_V (As := [.int a1]) (rest := []) C hy_X9_isNode hv_X9_isNode wd_773 cl_9.1 g3 (c_X9_isNode _ _ _ _ _  e2) (hz_roi _) rfl rfl (Nat.le_of_ble_eq_true rfl) (by decide) (kc := 0) (ks := 0) rfl rfl (by decide) dX9_crash_2 ?_
  refine aw_if_eq (tgt := 17) C dX9_crash_5 (by decide) (fun c12 => ?_) (fun c12 => ?_)
  · replace H := hz_it c12 H
    exact aw_loc (hz_sub_n (hz_sub_n hz_sub_0)) (k_X9_crash_17 hn C  _ H)
  · replace H := hz_if c12 H
    refine aw_aload_n C dX9_crash_8 rfl ?_
    obtain ⟨r4, e5, H⟩ := hz_bd H
    refine aw_gR (k := 1) C cl_9 (by decide) wd_663 e5 dX9_crash_9 ?_
    refine aw_iload_n C dX9_crash_12 rfl ?_
    obtain ⟨v6, e7, H⟩ := hz_bd H
    refine aw_iald C e7 dX9_crash_13 ?_
    refine aw_if_eq (tgt := 19) C dX9_crash_14 (by decide) (fun c13 => ?_) (fun c13 => ?_)
    · replace H := hz_it c13 H
      refine aw_aload_n C dX9_crash_19 rfl ?_
      obtain ⟨r8, e9, H⟩ := hz_bd H
      refine aw_gR (k := 1) C cl_9 (by decide) wd_663 e9 dX9_crash_20 ?_
      refine aw_iload_n C dX9_crash_23 rfl ?_
      refine aw_iconst C dX9_crash_24 (v := (nI 1)) (by decide) ?_
      obtain ⟨h10, e11, H⟩ := hz_bd H
      refine aw_iast C e11 dX9_crash_25 ?_
      refine aw_iconst C dX9_crash_26 (v := (nI 1)) (by decide) ?_
      cases H
      exact aw_zret C (by decide) (Nat.zero_le _) (Nat.zero_le _) dX9_crash_27
    · replace H := hz_if c13 H
      exact aw_loc (hz_sub_n (hz_sub_n hz_sub_0)) (k_X9_crash_17 hn C  _ H)
theorem hy_X9_timeout : hz_Y yX9_timeout cX9_timeout 2 (some .int) 1 := ⟨wd_874, wd_66, by decide +kernel, by decide +kernel, by decide +kernel⟩
theorem hv_X9_timeout : hz_YV yX9_timeout := ⟨wd_872, wd_873⟩
def f_X9_timeout_28 (h : HP) : Option (Int32 × HP) :=
  some ((nI 0), h)
def f_X9_timeout_53 (h : HP) : Option (Int32 × HP) :=
  some ((nI 1), h)
def f_X9_timeout (a0 : Option Nat) (a1 : Int32) (h : HP) : Option (Int32 × HP) :=
  if hz_ob h a0 9 = true then
  (f_X9_isNode a0 a1 h).bind fun p1 =>
  if p1.1 = 0 then
    some ((-1 : Int32), p1.2)
  else
    (hz_gR p1.2 a0 9 1).bind fun r4 =>
    (hz_aI p1.2 r4 0 a1).bind fun v6 =>
    if v6 = 0 then
      (hz_gR p1.2 a0 9 10).bind fun r8 =>
      (hz_aI p1.2 r8 0 a1).bind fun v10 =>
      if v10 = 0 then
        f_X9_timeout_28   p1.2
      else
        (hz_gR p1.2 a0 9 10).bind fun r12 =>
        (hz_aI p1.2 r12 0 a1).bind fun v14 =>
        if v14 = (nI 2) then
          if hz_ob p1.2 a0 9 = true then
          (f_X9_ask a0 a1 p1.2).bind fun p19 =>
          f_X9_timeout_53   p19
          else none
        else
          if hz_ob p1.2 a0 9 = true then
          (f_X9_flush a0 a1 p1.2).bind fun p16 =>
          f_X9_timeout_53   p16
          else none
    else
      f_X9_timeout_28   p1.2
  else none
abbrev rm_X9_timeout : Room := { frames := 8, cells := 0, slots := 0, locals := 186 }
set_option maxRecDepth 100000 in
set_option maxHeartbeats 4000000 in
theorem k_X9_timeout_28 {G : GX} {v' : Int32} {h' : HP} (hn : G.2.2.2.2.2.2.2.2.2.2.2.2 = 2) (C : Cx G cX9_timeout RX9 "timeout" (some .int) rm_X9_timeout (some (.int v')) h') (h : HP) (H : f_X9_timeout_28   h = some (v', h')) : aw G 28 [none, none] [] h 0 0 := by
  unfold f_X9_timeout_28 at H
  refine aw_iconst C dX9_timeout_28 (v := (nI 0)) (by decide) ?_
  cases H
  exact aw_iret C (Nat.zero_le _) (Nat.zero_le _) dX9_timeout_29
set_option maxRecDepth 100000 in
set_option maxHeartbeats 4000000 in
theorem k_X9_timeout_53 {G : GX} {v' : Int32} {h' : HP} (hn : G.2.2.2.2.2.2.2.2.2.2.2.2 = 2) (C : Cx G cX9_timeout RX9 "timeout" (some .int) rm_X9_timeout (some (.int v')) h') (h : HP) (H : f_X9_timeout_53   h = some (v', h')) : aw G 53 [none, none] [] h 0 0 := by
  unfold f_X9_timeout_53 at H
  refine aw_iconst C dX9_timeout_53 (v := (nI 1)) (by decide) ?_
  cases H
  exact aw_iret C (Nat.zero_le _) (Nat.zero_le _) dX9_timeout_54
set_option maxRecDepth 100000 in
set_option maxHeartbeats 4000000 in
theorem c_X9_timeout {l : Launch} (a0 : Option Nat) (a1 : Int32) (h : HP) (v' : Int32) (h' : HP) (H : f_X9_timeout a0 a1 h = some (v', h')) : Ct l yX9_timeout cX9_timeout 2 (some .int) rm_X9_timeout [va_rf a0, .int a1] (some (.int v')) h h' := by
  refine Ct.of (plainFor_of_name (by decide)) (hz_s1c (hz_s1c hz_s1n rfl) (hz_cr _)) (Nat.le_of_ble_eq_true rfl) (fun G hl hn C0 => ?_)
  have C : Cx G cX9_timeout RX9 "timeout" (some .int) rm_X9_timeout (some (.int v')) h' := C0
  subst hl
  show aw G 0 [some (va_rf a0), some (.int a1)] [] h 0 0
  unfold f_X9_timeout at H
  refine aw_aload_n C dX9_timeout_0 rfl ?_
  refine aw_iload_n C dX9_timeout_1 rfl ?_
  obtain ⟨g3, H⟩ := hz_wn H
  obtain ⟨p1, e2, H⟩ := hz_bd H
  refine aw_V (As := [.int a1]) (rest := []) C hy_X9_isNode hv_X9_isNode wd_773 cl_9.1 g3 (c_X9_isNode _ _ _ _ _  e2) (hz_roi _) rfl rfl (Nat.le_of_ble_eq_true rfl) (by decide) (kc := 0) (ks := 0) rfl rfl (by decide) dX9_timeout_2 ?_
  refine aw_if_ne (tgt := 10) C dX9_timeout_5 (by decide) (fun c22 => ?_) (fun c22 => ?_)
  · replace H := hz_if c22 H
    refine aw_aload_n C dX9_timeout_10 rfl ?_
    obtain ⟨r4, e5, H⟩ := hz_bd H
    refine aw_gR (k := 1) C cl_9 (by decide) wd_663 e5 dX9_timeout_11 ?_
    refine aw_iload_n C dX9_timeout_14 rfl ?_
    obtain ⟨v6, e7, H⟩ := hz_bd H
    refine aw_iald C e7 dX9_timeout_15 ?_
    refine aw_if_ne (tgt := 28) C dX9_timeout_16 (by decide) (fun c23 => ?_) (fun c23 => ?_)
    · replace H := hz_if c23 H
      exact aw_loc (hz_sub_n (hz_sub_n hz_sub_0)) (k_X9_timeout_28 hn C  _ H)
    · replace H := hz_it c23 H
      refine aw_aload_n C dX9_timeout_19 rfl ?_
      obtain ⟨r8, e9, H⟩ := hz_bd H
      refine aw_gR (k := 10) C cl_9 (by decide) wd_672 e9 dX9_timeout_20 ?_
      refine aw_iload_n C dX9_timeout_23 rfl ?_
      obtain ⟨v10, e11, H⟩ := hz_bd H
      refine aw_iald C e11 dX9_timeout_24 ?_
      refine aw_if_ne (tgt := 30) C dX9_timeout_25 (by decide) (fun c24 => ?_) (fun c24 => ?_)
      · replace H := hz_if c24 H
        refine aw_aload_n C dX9_timeout_30 rfl ?_
        obtain ⟨r12, e13, H⟩ := hz_bd H
        refine aw_gR (k := 10) C cl_9 (by decide) wd_672 e13 dX9_timeout_31 ?_
        refine aw_iload_n C dX9_timeout_34 rfl ?_
        obtain ⟨v14, e15, H⟩ := hz_bd H
        refine aw_iald C e15 dX9_timeout_35 ?_
        refine aw_iconst C dX9_timeout_36 (v := (nI 2)) (by decide) ?_
        refine aw_icmp_ne (tgt := 48) C dX9_timeout_37 (by decide) (fun c25 => ?_) (fun c25 => ?_)
        · replace H := hz_if c25 H
          refine aw_aload_n C dX9_timeout_48 rfl ?_
          refine aw_iload_n C dX9_timeout_49 rfl ?_
          obtain ⟨g18, H⟩ := hz_wn H
          obtain ⟨p16, e17, H⟩ := hz_bd H
          refine aw_V (As := [.int a1]) (rest := []) C hy_X9_flush hv_X9_flush wd_839 cl_9.1 g18 (c_X9_flush _ _ _ _  e17) hz_ron rfl rfl (Nat.le_of_ble_eq_true rfl) (by decide) (kc := 0) (ks := 0) rfl rfl (by decide) dX9_timeout_50 ?_
          exact aw_loc (hz_sub_n (hz_sub_n hz_sub_0)) (k_X9_timeout_53 hn C  _ H)
        · replace H := hz_it c25 H
          refine aw_aload_n C dX9_timeout_40 rfl ?_
          refine aw_iload_n C dX9_timeout_41 rfl ?_
          obtain ⟨g21, H⟩ := hz_wn H
          obtain ⟨p19, e20, H⟩ := hz_bd H
          refine aw_V (As := [.int a1]) (rest := []) C hy_X9_ask hv_X9_ask wd_835 cl_9.1 g21 (c_X9_ask _ _ _ _  e20) hz_ron rfl rfl (Nat.le_of_ble_eq_true rfl) (by decide) (kc := 0) (ks := 0) rfl rfl (by decide) dX9_timeout_42 ?_
          refine aw_goto (tgt := 53) C dX9_timeout_45 (by decide) ?_
          exact aw_loc (hz_sub_n (hz_sub_n hz_sub_0)) (k_X9_timeout_53 hn C  _ H)
      · replace H := hz_it c24 H
        exact aw_loc (hz_sub_n (hz_sub_n hz_sub_0)) (k_X9_timeout_28 hn C  _ H)
  · replace H := hz_it c22 H
    refine aw_iconst C dX9_timeout_8 (v := (-1)) (by decide) ?_
    cases H
    exact aw_iret C (Nat.zero_le _) (Nat.zero_le _) dX9_timeout_9
theorem hy_X9_node : hz_Y yX9_node cX9_node 3 (some .int) 2 := ⟨wd_878, wd_66, by decide +kernel, by decide +kernel, by decide +kernel⟩
theorem hv_X9_node : hz_YV yX9_node := ⟨wd_876, wd_877⟩
def f_X9_node_154 (s0 : Int32) (h : HP) : Option (Int32 × HP) :=
  some (s0, h)
def f_X9_node_175 (s0 : Int32) (h : HP) : Option (Int32 × HP) :=
  some (s0, h)
def f_X9_node (a0 : Option Nat) (a1 : Int32) (a2 : Int32) (h : HP) : Option (Int32 × HP) :=
  if hz_ob h a0 9 = true then
  (f_X9_isNode a0 a1 h).bind fun p1 =>
  if p1.1 = 0 then
    some ((-1 : Int32), p1.2)
  else
    if a2 = nI 0 then
      (hz_gR p1.2 a0 9 1).bind fun r4 =>
      (hz_aI p1.2 r4 0 a1).bind fun v6 =>
      some (v6, p1.2)
    else
    if a2 = nI 1 then
      (hz_gR p1.2 a0 9 10).bind fun r8 =>
      (hz_aI p1.2 r8 0 a1).bind fun v10 =>
      some (v10, p1.2)
    else
    if a2 = nI 2 then
      (hz_gR p1.2 a0 9 2).bind fun r12 =>
      (hz_aI p1.2 r12 0 a1).bind fun v14 =>
      some (v14, p1.2)
    else
    if a2 = nI 3 then
      (hz_gR p1.2 a0 9 3).bind fun r16 =>
      (hz_aI p1.2 r16 0 a1).bind fun v18 =>
      some (v18, p1.2)
    else
    if a2 = nI 4 then
      if hz_ob p1.2 a0 9 = true then
      (f_X9_leader a0 a1 p1.2).bind fun p20 =>
      some (p20.1, p20.2)
      else none
    else
    if a2 = nI 5 then
      (hz_gR p1.2 a0 9 8).bind fun r23 =>
      (hz_aI p1.2 r23 0 a1).bind fun v25 =>
      some (v25, p1.2)
    else
    if a2 = nI 6 then
      (hz_gR p1.2 a0 9 9).bind fun r27 =>
      (hz_aI p1.2 r27 0 a1).bind fun v29 =>
      some (v29, p1.2)
    else
    if a2 = nI 7 then
      (hz_gR p1.2 a0 9 5).bind fun r31 =>
      (hz_aI p1.2 r31 0 a1).bind fun v33 =>
      some (v33, p1.2)
    else
    if a2 = nI 8 then
      (hz_gR p1.2 a0 9 6).bind fun r35 =>
      (hz_aI p1.2 r35 0 a1).bind fun v37 =>
      some (v37, p1.2)
    else
    if a2 = nI 9 then
      (hz_gR p1.2 a0 9 7).bind fun r39 =>
      (hz_aI p1.2 r39 0 a1).bind fun v41 =>
      some (v41, p1.2)
    else
    if a2 = nI 10 then
      if hz_ob p1.2 a0 9 = true then
      (f_X9_isBlocked a0 a1 p1.2).bind fun p43 =>
      if p43.1 = 0 then
        f_X9_node_154  (nI 0) p43.2
      else
        f_X9_node_154  (nI 1) p43.2
      else none
    else
    if a2 = nI 11 then
      (hz_gR p1.2 a0 9 10).bind fun r46 =>
      (hz_aI p1.2 r46 0 a1).bind fun v48 =>
      if v48 < (nI 3) then
        f_X9_node_175  (nI 0) p1.2
      else
        (hz_gR p1.2 a0 9 11).bind fun r50 =>
        (hz_aI p1.2 r50 0 a1).bind fun v52 =>
        f_X9_node_175  v52 p1.2
    else
      some ((-1 : Int32), p1.2)
  else none
abbrev rm_X9_node : Room := { frames := 2, cells := 0, slots := 0, locals := 43 }
set_option maxRecDepth 100000 in
set_option maxHeartbeats 4000000 in
theorem k_X9_node_154 {G : GX} {v' : Int32} {h' : HP} (hn : G.2.2.2.2.2.2.2.2.2.2.2.2 = 3) (C : Cx G cX9_node RX9 "node" (some .int) rm_X9_node (some (.int v')) h') (s0 : Int32) (h : HP) (H : f_X9_node_154  s0 h = some (v', h')) : aw G 154 [none, none, none] [.int s0] h 0 0 := by
  unfold f_X9_node_154 at H
  cases H
  exact aw_iret C (Nat.zero_le _) (Nat.zero_le _) dX9_node_154
set_option maxRecDepth 100000 in
set_option maxHeartbeats 4000000 in
theorem k_X9_node_175 {G : GX} {v' : Int32} {h' : HP} (hn : G.2.2.2.2.2.2.2.2.2.2.2.2 = 3) (C : Cx G cX9_node RX9 "node" (some .int) rm_X9_node (some (.int v')) h') (s0 : Int32) (h : HP) (H : f_X9_node_175  s0 h = some (v', h')) : aw G 175 [none, none, none] [.int s0] h 0 0 := by
  unfold f_X9_node_175 at H
  cases H
  exact aw_iret C (Nat.zero_le _) (Nat.zero_le _) dX9_node_175
set_option maxRecDepth 100000 in
set_option maxHeartbeats 4000000 in
theorem c_X9_node {l : Launch} (a0 : Option Nat) (a1 : Int32) (a2 : Int32) (h : HP) (v' : Int32) (h' : HP) (H : f_X9_node a0 a1 a2 h = some (v', h')) : Ct l yX9_node cX9_node 3 (some .int) rm_X9_node [va_rf a0, .int a1, .int a2] (some (.int v')) h h' := by
  refine Ct.of (plainFor_of_name (by decide)) (hz_s1c (hz_s1c (hz_s1c hz_s1n rfl) rfl) (hz_cr _)) (Nat.le_of_ble_eq_true rfl) (fun G hl hn C0 => ?_)
  have C : Cx G cX9_node RX9 "node" (some .int) rm_X9_node (some (.int v')) h' := C0
  subst hl
  show aw G 0 [some (va_rf a0), some (.int a1), some (.int a2)] [] h 0 0
  unfold f_X9_node at H
  refine aw_aload_n C dX9_node_0 rfl ?_
  refine aw_iload_n C dX9_node_1 rfl ?_
  obtain ⟨g3, H⟩ := hz_wn H
  obtain ⟨p1, e2, H⟩ := hz_bd H
  refine aw_V (As := [.int a1]) (rest := []) C hy_X9_isNode hv_X9_isNode wd_773 cl_9.1 g3 (c_X9_isNode _ _ _ _ _  e2) (hz_roi _) rfl rfl (Nat.le_of_ble_eq_true rfl) (by decide) (kc := 0) (ks := 0) rfl rfl (by decide) dX9_node_2 ?_
  refine aw_if_ne (tgt := 10) C dX9_node_5 (by decide) (fun c54 => ?_) (fun c54 => ?_)
  · replace H := hz_if c54 H
    refine aw_iload_n C dX9_node_10 rfl ?_
    by_cases c55 : a2 = nI 0
    · replace H := hz_it c55 H
      refine aw_tabI (a := 0) (off := 61) (tgt := 72) C dX9_node_11 (by rw [c55]; decide) (by decide) (by decide) rfl (by decide) ?_
      refine aw_aload_n C dX9_node_72 rfl ?_
      obtain ⟨r4, e5, H⟩ := hz_bd H
      refine aw_gR (k := 1) C cl_9 (by decide) wd_663 e5 dX9_node_73 ?_
      refine aw_iload_n C dX9_node_76 rfl ?_
      obtain ⟨v6, e7, H⟩ := hz_bd H
      refine aw_iald C e7 dX9_node_77 ?_
      cases H
      exact aw_iret C (Nat.zero_le _) (Nat.zero_le _) dX9_node_78
    replace H := hz_if c55 H
    by_cases c56 : a2 = nI 1
    · replace H := hz_it c56 H
      refine aw_tabI (a := 1) (off := 68) (tgt := 79) C dX9_node_11 (by rw [c56]; decide) (by decide) (by decide) rfl (by decide) ?_
      refine aw_aload_n C dX9_node_79 rfl ?_
      obtain ⟨r8, e9, H⟩ := hz_bd H
      refine aw_gR (k := 10) C cl_9 (by decide) wd_672 e9 dX9_node_80 ?_
      refine aw_iload_n C dX9_node_83 rfl ?_
      obtain ⟨v10, e11, H⟩ := hz_bd H
      refine aw_iald C e11 dX9_node_84 ?_
      cases H
      exact aw_iret C (Nat.zero_le _) (Nat.zero_le _) dX9_node_85
    replace H := hz_if c56 H
    by_cases c57 : a2 = nI 2
    · replace H := hz_it c57 H
      refine aw_tabI (a := 2) (off := 75) (tgt := 86) C dX9_node_11 (by rw [c57]; decide) (by decide) (by decide) rfl (by decide) ?_
      refine aw_aload_n C dX9_node_86 rfl ?_
      obtain ⟨r12, e13, H⟩ := hz_bd H
      refine aw_gR (k := 2) C cl_9 (by decide) wd_664 e13 dX9_node_87 ?_
      refine aw_iload_n C dX9_node_90 rfl ?_
      obtain ⟨v14, e15, H⟩ := hz_bd H
      refine aw_iald C e15 dX9_node_91 ?_
      cases H
      exact aw_iret C (Nat.zero_le _) (Nat.zero_le _) dX9_node_92
    replace H := hz_if c57 H
    by_cases c58 : a2 = nI 3
    · replace H := hz_it c58 H
      refine aw_tabI (a := 3) (off := 82) (tgt := 93) C dX9_node_11 (by rw [c58]; decide) (by decide) (by decide) rfl (by decide) ?_
      refine aw_aload_n C dX9_node_93 rfl ?_
      obtain ⟨r16, e17, H⟩ := hz_bd H
      refine aw_gR (k := 3) C cl_9 (by decide) wd_665 e17 dX9_node_94 ?_
      refine aw_iload_n C dX9_node_97 rfl ?_
      obtain ⟨v18, e19, H⟩ := hz_bd H
      refine aw_iald C e19 dX9_node_98 ?_
      cases H
      exact aw_iret C (Nat.zero_le _) (Nat.zero_le _) dX9_node_99
    replace H := hz_if c58 H
    by_cases c59 : a2 = nI 4
    · replace H := hz_it c59 H
      refine aw_tabI (a := 4) (off := 89) (tgt := 100) C dX9_node_11 (by rw [c59]; decide) (by decide) (by decide) rfl (by decide) ?_
      refine aw_aload_n C dX9_node_100 rfl ?_
      refine aw_iload_n C dX9_node_101 rfl ?_
      obtain ⟨g22, H⟩ := hz_wn H
      obtain ⟨p20, e21, H⟩ := hz_bd H
      refine aw_V (As := [.int a1]) (rest := []) C hy_X9_leader hv_X9_leader wd_784 cl_9.1 g22 (c_X9_leader _ _ _ _ _  e21) (hz_roi _) rfl rfl (Nat.le_of_ble_eq_true rfl) (by decide) (kc := 0) (ks := 0) rfl rfl (by decide) dX9_node_102 ?_
      cases H
      exact aw_iret C (Nat.zero_le _) (Nat.zero_le _) dX9_node_105
    replace H := hz_if c59 H
    by_cases c60 : a2 = nI 5
    · replace H := hz_it c60 H
      refine aw_tabI (a := 5) (off := 95) (tgt := 106) C dX9_node_11 (by rw [c60]; decide) (by decide) (by decide) rfl (by decide) ?_
      refine aw_aload_n C dX9_node_106 rfl ?_
      obtain ⟨r23, e24, H⟩ := hz_bd H
      refine aw_gR (k := 8) C cl_9 (by decide) wd_670 e24 dX9_node_107 ?_
      refine aw_iload_n C dX9_node_110 rfl ?_
      obtain ⟨v25, e26, H⟩ := hz_bd H
      refine aw_iald C e26 dX9_node_111 ?_
      cases H
      exact aw_iret C (Nat.zero_le _) (Nat.zero_le _) dX9_node_112
    replace H := hz_if c60 H
    by_cases c61 : a2 = nI 6
    · replace H := hz_it c61 H
      refine aw_tabI (a := 6) (off := 102) (tgt := 113) C dX9_node_11 (by rw [c61]; decide) (by decide) (by decide) rfl (by decide) ?_
      refine aw_aload_n C dX9_node_113 rfl ?_
      obtain ⟨r27, e28, H⟩ := hz_bd H
      refine aw_gR (k := 9) C cl_9 (by decide) wd_671 e28 dX9_node_114 ?_
      refine aw_iload_n C dX9_node_117 rfl ?_
      obtain ⟨v29, e30, H⟩ := hz_bd H
      refine aw_iald C e30 dX9_node_118 ?_
      cases H
      exact aw_iret C (Nat.zero_le _) (Nat.zero_le _) dX9_node_119
    replace H := hz_if c61 H
    by_cases c62 : a2 = nI 7
    · replace H := hz_it c62 H
      refine aw_tabI (a := 7) (off := 109) (tgt := 120) C dX9_node_11 (by rw [c62]; decide) (by decide) (by decide) rfl (by decide) ?_
      refine aw_aload_n C dX9_node_120 rfl ?_
      obtain ⟨r31, e32, H⟩ := hz_bd H
      refine aw_gR (k := 5) C cl_9 (by decide) wd_667 e32 dX9_node_121 ?_
      refine aw_iload_n C dX9_node_124 rfl ?_
      obtain ⟨v33, e34, H⟩ := hz_bd H
      refine aw_iald C e34 dX9_node_125 ?_
      cases H
      exact aw_iret C (Nat.zero_le _) (Nat.zero_le _) dX9_node_126
    replace H := hz_if c62 H
    by_cases c63 : a2 = nI 8
    · replace H := hz_it c63 H
      refine aw_tabI (a := 8) (off := 116) (tgt := 127) C dX9_node_11 (by rw [c63]; decide) (by decide) (by decide) rfl (by decide) ?_
      refine aw_aload_n C dX9_node_127 rfl ?_
      obtain ⟨r35, e36, H⟩ := hz_bd H
      refine aw_gR (k := 6) C cl_9 (by decide) wd_668 e36 dX9_node_128 ?_
      refine aw_iload_n C dX9_node_131 rfl ?_
      obtain ⟨v37, e38, H⟩ := hz_bd H
      refine aw_iald C e38 dX9_node_132 ?_
      cases H
      exact aw_iret C (Nat.zero_le _) (Nat.zero_le _) dX9_node_133
    replace H := hz_if c63 H
    by_cases c64 : a2 = nI 9
    · replace H := hz_it c64 H
      refine aw_tabI (a := 9) (off := 123) (tgt := 134) C dX9_node_11 (by rw [c64]; decide) (by decide) (by decide) rfl (by decide) ?_
      refine aw_aload_n C dX9_node_134 rfl ?_
      obtain ⟨r39, e40, H⟩ := hz_bd H
      refine aw_gR (k := 7) C cl_9 (by decide) wd_669 e40 dX9_node_135 ?_
      refine aw_iload_n C dX9_node_138 rfl ?_
      obtain ⟨v41, e42, H⟩ := hz_bd H
      refine aw_iald C e42 dX9_node_139 ?_
      cases H
      exact aw_iret C (Nat.zero_le _) (Nat.zero_le _) dX9_node_140
    replace H := hz_if c64 H
    by_cases c65 : a2 = nI 10
    · replace H := hz_it c65 H
      refine aw_tabI (a := 10) (off := 130) (tgt := 141) C dX9_node_11 (by rw [c65]; decide) (by decide) (by decide) rfl (by decide) ?_
      refine aw_aload_n C dX9_node_141 rfl ?_
      refine aw_iload_n C dX9_node_142 rfl ?_
      obtain ⟨g45, H⟩ := hz_wn H
      obtain ⟨p43, e44, H⟩ := hz_bd H
      refine aw_V (As := [.int a1]) (rest := []) C hy_X9_isBlocked hv_X9_isBlocked wd_780 cl_9.1 g45 (c_X9_isBlocked _ _ _ _ _  e44) (hz_roi _) rfl rfl (Nat.le_of_ble_eq_true rfl) (by decide) (kc := 0) (ks := 0) rfl rfl (by decide) dX9_node_143 ?_
      refine aw_if_eq (tgt := 153) C dX9_node_146 (by decide) (fun c66 => ?_) (fun c66 => ?_)
      · replace H := hz_it c66 H
        refine aw_iconst C dX9_node_153 (v := (nI 0)) (by decide) ?_
        exact aw_loc (hz_sub_n (hz_sub_n (hz_sub_n hz_sub_0))) (k_X9_node_154 hn C  _ _ H)
      · replace H := hz_if c66 H
        refine aw_iconst C dX9_node_149 (v := (nI 1)) (by decide) ?_
        refine aw_goto (tgt := 154) C dX9_node_150 (by decide) ?_
        exact aw_loc (hz_sub_n (hz_sub_n (hz_sub_n hz_sub_0))) (k_X9_node_154 hn C  _ _ H)
    replace H := hz_if c65 H
    by_cases c67 : a2 = nI 11
    · replace H := hz_it c67 H
      refine aw_tabI (a := 11) (off := 144) (tgt := 155) C dX9_node_11 (by rw [c67]; decide) (by decide) (by decide) rfl (by decide) ?_
      refine aw_aload_n C dX9_node_155 rfl ?_
      obtain ⟨r46, e47, H⟩ := hz_bd H
      refine aw_gR (k := 10) C cl_9 (by decide) wd_672 e47 dX9_node_156 ?_
      refine aw_iload_n C dX9_node_159 rfl ?_
      obtain ⟨v48, e49, H⟩ := hz_bd H
      refine aw_iald C e49 dX9_node_160 ?_
      refine aw_iconst C dX9_node_161 (v := (nI 3)) (by decide) ?_
      refine aw_icmp_lt (tgt := 174) C dX9_node_162 (by decide) (fun c68 => ?_) (fun c68 => ?_)
      · replace H := hz_it c68 H
        refine aw_iconst C dX9_node_174 (v := (nI 0)) (by decide) ?_
        exact aw_loc (hz_sub_n (hz_sub_n (hz_sub_n hz_sub_0))) (k_X9_node_175 hn C  _ _ H)
      · replace H := hz_if c68 H
        refine aw_aload_n C dX9_node_165 rfl ?_
        obtain ⟨r50, e51, H⟩ := hz_bd H
        refine aw_gR (k := 11) C cl_9 (by decide) wd_673 e51 dX9_node_166 ?_
        refine aw_iload_n C dX9_node_169 rfl ?_
        obtain ⟨v52, e53, H⟩ := hz_bd H
        refine aw_iald C e53 dX9_node_170 ?_
        refine aw_goto (tgt := 175) C dX9_node_171 (by decide) ?_
        exact aw_loc (hz_sub_n (hz_sub_n (hz_sub_n hz_sub_0))) (k_X9_node_175 hn C  _ _ H)
    replace H := hz_if c67 H
    refine aw_tabO (tgt := 176) C dX9_node_11 (by have z0 := lv_neT (a := 0) c55 rfl; have z1 := lv_neT (a := 1) c56 rfl; have z2 := lv_neT (a := 2) c57 rfl; have z3 := lv_neT (a := 3) c58 rfl; have z4 := lv_neT (a := 4) c59 rfl; have z5 := lv_neT (a := 5) c60 rfl; have z6 := lv_neT (a := 6) c61 rfl; have z7 := lv_neT (a := 7) c62 rfl; have z8 := lv_neT (a := 8) c63 rfl; have z9 := lv_neT (a := 9) c64 rfl; have z10 := lv_neT (a := 10) c65 rfl; have z11 := lv_neT (a := 11) c67 rfl; omega) (by decide) ?_
    refine aw_iconst C dX9_node_176 (v := (-1)) (by decide) ?_
    cases H
    exact aw_iret C (Nat.zero_le _) (Nat.zero_le _) dX9_node_177
  · replace H := hz_it c54 H
    refine aw_iconst C dX9_node_8 (v := (-1)) (by decide) ?_
    cases H
    exact aw_iret C (Nat.zero_le _) (Nat.zero_le _) dX9_node_9
theorem hy_X9_held : hz_Y yX9_held cX9_held 3 (some .int) 2 := ⟨wd_882, wd_66, by decide +kernel, by decide +kernel, by decide +kernel⟩
theorem hv_X9_held : hz_YV yX9_held := ⟨wd_880, wd_881⟩
def f_X9_held_38 (s0 : Int32) (h : HP) : Option (Int32 × HP) :=
  some (s0, h)
def f_X9_held_36 (h : HP) : Option (Int32 × HP) :=
  f_X9_held_38  (-100001 : Int32) h
def f_X9_held (a0 : Option Nat) (a1 : Int32) (a2 : Int32) (h : HP) : Option (Int32 × HP) :=
  if hz_ob h a0 9 = true then
  (f_X9_isNode a0 a1 h).bind fun p1 =>
  if p1.1 = 0 then
    f_X9_held_36   p1.2
  else
    if a2 < 0 then
      f_X9_held_36   p1.2
    else
      (hz_gR p1.2 a0 9 5).bind fun r4 =>
      (hz_aI p1.2 r4 0 a1).bind fun v6 =>
      if v6 ≤ a2 then
        f_X9_held_36   p1.2
      else
        (hz_gR p1.2 a0 9 4).bind fun r8 =>
        (hz_aI p1.2 r8 0 (((nI 60) * a1) + a2)).bind fun v10 =>
        f_X9_held_38  v10 p1.2
  else none
abbrev rm_X9_held : Room := { frames := 1, cells := 0, slots := 0, locals := 21 }
set_option maxRecDepth 100000 in
set_option maxHeartbeats 4000000 in
theorem k_X9_held_38 {G : GX} {v' : Int32} {h' : HP} (hn : G.2.2.2.2.2.2.2.2.2.2.2.2 = 3) (C : Cx G cX9_held RX9 "held" (some .int) rm_X9_held (some (.int v')) h') (s0 : Int32) (h : HP) (H : f_X9_held_38  s0 h = some (v', h')) : aw G 38 [none, none, none] [.int s0] h 0 0 := by
  unfold f_X9_held_38 at H
  cases H
  exact aw_iret C (Nat.zero_le _) (Nat.zero_le _) dX9_held_38
set_option maxRecDepth 100000 in
set_option maxHeartbeats 4000000 in
theorem k_X9_held_36 {G : GX} {v' : Int32} {h' : HP} (hn : G.2.2.2.2.2.2.2.2.2.2.2.2 = 3) (C : Cx G cX9_held RX9 "held" (some .int) rm_X9_held (some (.int v')) h') (h : HP) (H : f_X9_held_36   h = some (v', h')) : aw G 36 [none, none, none] [] h 0 0 := by
  unfold f_X9_held_36 at H
  refine aw_ldc C wd_883 dX9_held_36 ?_
  exact k_X9_held_38 hn C  _ _ H
set_option maxRecDepth 100000 in
set_option maxHeartbeats 4000000 in
theorem c_X9_held {l : Launch} (a0 : Option Nat) (a1 : Int32) (a2 : Int32) (h : HP) (v' : Int32) (h' : HP) (H : f_X9_held a0 a1 a2 h = some (v', h')) : Ct l yX9_held cX9_held 3 (some .int) rm_X9_held [va_rf a0, .int a1, .int a2] (some (.int v')) h h' := by
  refine Ct.of (plainFor_of_name (by decide)) (hz_s1c (hz_s1c (hz_s1c hz_s1n rfl) rfl) (hz_cr _)) (Nat.le_of_ble_eq_true rfl) (fun G hl hn C0 => ?_)
  have C : Cx G cX9_held RX9 "held" (some .int) rm_X9_held (some (.int v')) h' := C0
  subst hl
  show aw G 0 [some (va_rf a0), some (.int a1), some (.int a2)] [] h 0 0
  unfold f_X9_held at H
  refine aw_aload_n C dX9_held_0 rfl ?_
  refine aw_iload_n C dX9_held_1 rfl ?_
  obtain ⟨g3, H⟩ := hz_wn H
  obtain ⟨p1, e2, H⟩ := hz_bd H
  refine aw_V (As := [.int a1]) (rest := []) C hy_X9_isNode hv_X9_isNode wd_773 cl_9.1 g3 (c_X9_isNode _ _ _ _ _  e2) (hz_roi _) rfl rfl (Nat.le_of_ble_eq_true rfl) (by decide) (kc := 0) (ks := 0) rfl rfl (by decide) dX9_held_2 ?_
  refine aw_if_eq (tgt := 36) C dX9_held_5 (by decide) (fun c12 => ?_) (fun c12 => ?_)
  · replace H := hz_it c12 H
    exact aw_loc (hz_sub_n (hz_sub_n (hz_sub_n hz_sub_0))) (k_X9_held_36 hn C  _ H)
  · replace H := hz_if c12 H
    refine aw_iload_n C dX9_held_8 rfl ?_
    refine aw_if_lt (tgt := 36) C dX9_held_9 (by decide) (fun c13 => ?_) (fun c13 => ?_)
    · replace H := hz_it c13 H
      exact aw_loc (hz_sub_n (hz_sub_n (hz_sub_n hz_sub_0))) (k_X9_held_36 hn C  _ H)
    · replace H := hz_if c13 H
      refine aw_iload_n C dX9_held_12 rfl ?_
      refine aw_aload_n C dX9_held_13 rfl ?_
      obtain ⟨r4, e5, H⟩ := hz_bd H
      refine aw_gR (k := 5) C cl_9 (by decide) wd_667 e5 dX9_held_14 ?_
      refine aw_iload_n C dX9_held_17 rfl ?_
      obtain ⟨v6, e7, H⟩ := hz_bd H
      refine aw_iald C e7 dX9_held_18 ?_
      refine aw_icmp_ge (tgt := 36) C dX9_held_19 (by decide) (fun c14 => ?_) (fun c14 => ?_)
      · replace H := hz_it c14 H
        exact aw_loc (hz_sub_n (hz_sub_n (hz_sub_n hz_sub_0))) (k_X9_held_36 hn C  _ H)
      · replace H := hz_if c14 H
        refine aw_aload_n C dX9_held_22 rfl ?_
        obtain ⟨r8, e9, H⟩ := hz_bd H
        refine aw_gR (k := 4) C cl_9 (by decide) wd_666 e9 dX9_held_23 ?_
        refine aw_bipush C dX9_held_26 (v := (nI 60)) (by decide) ?_
        refine aw_iload_n C dX9_held_28 rfl ?_
        refine aw_imul C dX9_held_29 ?_
        refine aw_iload_n C dX9_held_30 rfl ?_
        refine aw_iadd C dX9_held_31 ?_
        obtain ⟨v10, e11, H⟩ := hz_bd H
        refine aw_iald C e11 dX9_held_32 ?_
        refine aw_goto (tgt := 38) C dX9_held_33 (by decide) ?_
        exact aw_loc (hz_sub_n (hz_sub_n (hz_sub_n hz_sub_0))) (k_X9_held_38 hn C  _ _ H)
theorem hy_X9_depth : hz_Y yX9_depth cX9_depth 2 (some .int) 1 := ⟨wd_887, wd_66, by decide +kernel, by decide +kernel, by decide +kernel⟩
theorem hv_X9_depth : hz_YV yX9_depth := ⟨wd_885, wd_886⟩
def f_X9_depth_18 (s0 : Int32) (h : HP) : Option (Int32 × HP) :=
  some (s0, h)
def f_X9_depth (a0 : Option Nat) (a1 : Int32) (h : HP) : Option (Int32 × HP) :=
  if hz_ob h a0 9 = true then
  (f_X9_isNode a0 a1 h).bind fun p1 =>
  if p1.1 = 0 then
    f_X9_depth_18  (-1 : Int32) p1.2
  else
    (hz_gR p1.2 a0 9 19).bind fun r4 =>
    (hz_aI p1.2 r4 0 a1).bind fun v6 =>
    f_X9_depth_18  v6 p1.2
  else none
abbrev rm_X9_depth : Room := { frames := 1, cells := 0, slots := 0, locals := 21 }
set_option maxRecDepth 100000 in
set_option maxHeartbeats 4000000 in
theorem k_X9_depth_18 {G : GX} {v' : Int32} {h' : HP} (hn : G.2.2.2.2.2.2.2.2.2.2.2.2 = 2) (C : Cx G cX9_depth RX9 "depth" (some .int) rm_X9_depth (some (.int v')) h') (s0 : Int32) (h : HP) (H : f_X9_depth_18  s0 h = some (v', h')) : aw G 18 [none, none] [.int s0] h 0 0 := by
  unfold f_X9_depth_18 at H
  cases H
  exact aw_iret C (Nat.zero_le _) (Nat.zero_le _) dX9_depth_18
set_option maxRecDepth 100000 in
set_option maxHeartbeats 4000000 in
theorem c_X9_depth {l : Launch} (a0 : Option Nat) (a1 : Int32) (h : HP) (v' : Int32) (h' : HP) (H : f_X9_depth a0 a1 h = some (v', h')) : Ct l yX9_depth cX9_depth 2 (some .int) rm_X9_depth [va_rf a0, .int a1] (some (.int v')) h h' := by
  refine Ct.of (plainFor_of_name (by decide)) (hz_s1c (hz_s1c hz_s1n rfl) (hz_cr _)) (Nat.le_of_ble_eq_true rfl) (fun G hl hn C0 => ?_)
  have C : Cx G cX9_depth RX9 "depth" (some .int) rm_X9_depth (some (.int v')) h' := C0
  subst hl
  show aw G 0 [some (va_rf a0), some (.int a1)] [] h 0 0
  unfold f_X9_depth at H
  refine aw_aload_n C dX9_depth_0 rfl ?_
  refine aw_iload_n C dX9_depth_1 rfl ?_
  obtain ⟨g3, H⟩ := hz_wn H
  obtain ⟨p1, e2, H⟩ := hz_bd H
  refine aw_V (As := [.int a1]) (rest := []) C hy_X9_isNode hv_X9_isNode wd_773 cl_9.1 g3 (c_X9_isNode _ _ _ _ _  e2) (hz_roi _) rfl rfl (Nat.le_of_ble_eq_true rfl) (by decide) (kc := 0) (ks := 0) rfl rfl (by decide) dX9_depth_2 ?_
  refine aw_if_eq (tgt := 17) C dX9_depth_5 (by decide) (fun c8 => ?_) (fun c8 => ?_)
  · replace H := hz_it c8 H
    refine aw_iconst C dX9_depth_17 (v := (-1)) (by decide) ?_
    exact aw_loc (hz_sub_n (hz_sub_n hz_sub_0)) (k_X9_depth_18 hn C  _ _ H)
  · replace H := hz_if c8 H
    refine aw_aload_n C dX9_depth_8 rfl ?_
    obtain ⟨r4, e5, H⟩ := hz_bd H
    refine aw_gR (k := 19) C cl_9 (by decide) wd_681 e5 dX9_depth_9 ?_
    refine aw_iload_n C dX9_depth_12 rfl ?_
    obtain ⟨v6, e7, H⟩ := hz_bd H
    refine aw_iald C e7 dX9_depth_13 ?_
    refine aw_goto (tgt := 18) C dX9_depth_14 (by decide) ?_
    exact aw_loc (hz_sub_n (hz_sub_n hz_sub_0)) (k_X9_depth_18 hn C  _ _ H)
theorem hy_X9_top : hz_Y yX9_top cX9_top 3 (some .int) 2 := ⟨wd_891, wd_66, by decide +kernel, by decide +kernel, by decide +kernel⟩
theorem hv_X9_top : hz_YV yX9_top := ⟨wd_889, wd_890⟩
def f_X9_top_46 (s0 : Int32) (h : HP) : Option (Int32 × HP) :=
  some (s0, h)
def f_X9_top_45 (h : HP) : Option (Int32 × HP) :=
  f_X9_top_46  (nI 0) h
def f_X9_top (a0 : Option Nat) (a1 : Int32) (a2 : Int32) (h : HP) : Option (Int32 × HP) :=
  if hz_ob h a0 9 = true then
  (f_X9_isNode a0 a1 h).bind fun p1 =>
  if p1.1 = 0 then
    f_X9_top_45   p1.2
  else
    if a2 < 0 then
      f_X9_top_45   p1.2
    else
      (hz_gR p1.2 a0 9 19).bind fun r4 =>
      (hz_aI p1.2 r4 0 a1).bind fun v6 =>
      if v6 ≤ a2 then
        f_X9_top_45   p1.2
      else
        (hz_gR p1.2 a0 9 18).bind fun r8 =>
        (hz_gR p1.2 a0 9 19).bind fun r10 =>
        (hz_aI p1.2 r10 0 a1).bind fun v12 =>
        (hz_aI p1.2 r8 0 (((((nI 20) * a1) + v12) - (nI 1)) - a2)).bind fun v14 =>
        f_X9_top_46  v14 p1.2
  else none
abbrev rm_X9_top : Room := { frames := 1, cells := 0, slots := 0, locals := 21 }
set_option maxRecDepth 100000 in
set_option maxHeartbeats 4000000 in
theorem k_X9_top_46 {G : GX} {v' : Int32} {h' : HP} (hn : G.2.2.2.2.2.2.2.2.2.2.2.2 = 3) (C : Cx G cX9_top RX9 "top" (some .int) rm_X9_top (some (.int v')) h') (s0 : Int32) (h : HP) (H : f_X9_top_46  s0 h = some (v', h')) : aw G 46 [none, none, none] [.int s0] h 0 0 := by
  unfold f_X9_top_46 at H
  cases H
  exact aw_iret C (Nat.zero_le _) (Nat.zero_le _) dX9_top_46
set_option maxRecDepth 100000 in
set_option maxHeartbeats 4000000 in
theorem k_X9_top_45 {G : GX} {v' : Int32} {h' : HP} (hn : G.2.2.2.2.2.2.2.2.2.2.2.2 = 3) (C : Cx G cX9_top RX9 "top" (some .int) rm_X9_top (some (.int v')) h') (h : HP) (H : f_X9_top_45   h = some (v', h')) : aw G 45 [none, none, none] [] h 0 0 := by
  unfold f_X9_top_45 at H
  refine aw_iconst C dX9_top_45 (v := (nI 0)) (by decide) ?_
  exact k_X9_top_46 hn C  _ _ H
set_option maxRecDepth 100000 in
set_option maxHeartbeats 4000000 in
theorem c_X9_top {l : Launch} (a0 : Option Nat) (a1 : Int32) (a2 : Int32) (h : HP) (v' : Int32) (h' : HP) (H : f_X9_top a0 a1 a2 h = some (v', h')) : Ct l yX9_top cX9_top 3 (some .int) rm_X9_top [va_rf a0, .int a1, .int a2] (some (.int v')) h h' := by
  refine Ct.of (plainFor_of_name (by decide)) (hz_s1c (hz_s1c (hz_s1c hz_s1n rfl) rfl) (hz_cr _)) (Nat.le_of_ble_eq_true rfl) (fun G hl hn C0 => ?_)
  have C : Cx G cX9_top RX9 "top" (some .int) rm_X9_top (some (.int v')) h' := C0
  subst hl
  show aw G 0 [some (va_rf a0), some (.int a1), some (.int a2)] [] h 0 0
  unfold f_X9_top at H
  refine aw_aload_n C dX9_top_0 rfl ?_
  refine aw_iload_n C dX9_top_1 rfl ?_
  obtain ⟨g3, H⟩ := hz_wn H
  obtain ⟨p1, e2, H⟩ := hz_bd H
  refine aw_V (As := [.int a1]) (rest := []) C hy_X9_isNode hv_X9_isNode wd_773 cl_9.1 g3 (c_X9_isNode _ _ _ _ _  e2) (hz_roi _) rfl rfl (Nat.le_of_ble_eq_true rfl) (by decide) (kc := 0) (ks := 0) rfl rfl (by decide) dX9_top_2 ?_
  refine aw_if_eq (tgt := 45) C dX9_top_5 (by decide) (fun c16 => ?_) (fun c16 => ?_)
  · replace H := hz_it c16 H
    exact aw_loc (hz_sub_n (hz_sub_n (hz_sub_n hz_sub_0))) (k_X9_top_45 hn C  _ H)
  · replace H := hz_if c16 H
    refine aw_iload_n C dX9_top_8 rfl ?_
    refine aw_if_lt (tgt := 45) C dX9_top_9 (by decide) (fun c17 => ?_) (fun c17 => ?_)
    · replace H := hz_it c17 H
      exact aw_loc (hz_sub_n (hz_sub_n (hz_sub_n hz_sub_0))) (k_X9_top_45 hn C  _ H)
    · replace H := hz_if c17 H
      refine aw_iload_n C dX9_top_12 rfl ?_
      refine aw_aload_n C dX9_top_13 rfl ?_
      obtain ⟨r4, e5, H⟩ := hz_bd H
      refine aw_gR (k := 19) C cl_9 (by decide) wd_681 e5 dX9_top_14 ?_
      refine aw_iload_n C dX9_top_17 rfl ?_
      obtain ⟨v6, e7, H⟩ := hz_bd H
      refine aw_iald C e7 dX9_top_18 ?_
      refine aw_icmp_ge (tgt := 45) C dX9_top_19 (by decide) (fun c18 => ?_) (fun c18 => ?_)
      · replace H := hz_it c18 H
        exact aw_loc (hz_sub_n (hz_sub_n (hz_sub_n hz_sub_0))) (k_X9_top_45 hn C  _ H)
      · replace H := hz_if c18 H
        refine aw_aload_n C dX9_top_22 rfl ?_
        obtain ⟨r8, e9, H⟩ := hz_bd H
        refine aw_gR (k := 18) C cl_9 (by decide) wd_680 e9 dX9_top_23 ?_
        refine aw_bipush C dX9_top_26 (v := (nI 20)) (by decide) ?_
        refine aw_iload_n C dX9_top_28 rfl ?_
        refine aw_imul C dX9_top_29 ?_
        refine aw_aload_n C dX9_top_30 rfl ?_
        obtain ⟨r10, e11, H⟩ := hz_bd H
        refine aw_gR (k := 19) C cl_9 (by decide) wd_681 e11 dX9_top_31 ?_
        refine aw_iload_n C dX9_top_34 rfl ?_
        obtain ⟨v12, e13, H⟩ := hz_bd H
        refine aw_iald C e13 dX9_top_35 ?_
        refine aw_iadd C dX9_top_36 ?_
        refine aw_iconst C dX9_top_37 (v := (nI 1)) (by decide) ?_
        refine aw_isub C dX9_top_38 ?_
        refine aw_iload_n C dX9_top_39 rfl ?_
        refine aw_isub C dX9_top_40 ?_
        obtain ⟨v14, e15, H⟩ := hz_bd H
        refine aw_iald C e15 dX9_top_41 ?_
        refine aw_goto (tgt := 46) C dX9_top_42 (by decide) ?_
        exact aw_loc (hz_sub_n (hz_sub_n (hz_sub_n hz_sub_0))) (k_X9_top_46 hn C  _ _ H)
theorem hy_X9_flying : hz_Y yX9_flying cX9_flying 5 (some .int) 2 := ⟨wd_895, wd_66, by decide +kernel, by decide +kernel, by decide +kernel⟩
theorem hv_X9_flying : hz_YV yX9_flying := ⟨wd_893, wd_894⟩
def f_X9_flying_26 (h : HP) : Option (Int32 × HP) :=
  some ((-1 : Int32), h)
def f_X9_flying_79 (K33 : Option Nat → Int32 → Int32 → Int32 → Int32 → HP → Option (Int32 × HP)) (l0 : Option Nat) (l1 : Int32) (l2 : Int32) (l4 : Int32) (s0 : Int32) (s1 : Int32) (h : HP) : Option (Int32 × HP) :=
  K33 l0 l1 l2 (s0 + s1) (l4 + (nI 1)) h
def f_X9_flying_78 (K33 : Option Nat → Int32 → Int32 → Int32 → Int32 → HP → Option (Int32 × HP)) (l0 : Option Nat) (l1 : Int32) (l2 : Int32) (l4 : Int32) (s0 : Int32) (h : HP) : Option (Int32 × HP) :=
  f_X9_flying_79 K33 l0 l1 l2 l4 s0 (nI 0) h
def f_X9_flying_33 : Nat → Option Nat → Int32 → Int32 → Int32 → Int32 → HP → Option (Int32 × HP)
  | 0, _, _, _, _, _, _ => none
  | n + 1, l0, l1, l2, l3, l4, h =>
    if (nI 500) ≤ l4 then
      some (l3, h)
    else
      (hz_gR h l0 9 20).bind fun r9 =>
      (hz_aI h r9 1 l4).bind fun v11 =>
      if v11 = 0 then
        f_X9_flying_78 (f_X9_flying_33  n) l0 l1 l2 l4 l3 h
      else
        (hz_gR h l0 9 21).bind fun r13 =>
        (hz_aI h r13 0 l4).bind fun v15 =>
        if v15 = l1 then
          (hz_gR h l0 9 22).bind fun r17 =>
          (hz_aI h r17 0 l4).bind fun v19 =>
          if v19 = l2 then
            f_X9_flying_79 (f_X9_flying_33  n) l0 l1 l2 l4 l3 (nI 1) h
          else
            f_X9_flying_78 (f_X9_flying_33  n) l0 l1 l2 l4 l3 h
        else
          f_X9_flying_78 (f_X9_flying_33  n) l0 l1 l2 l4 l3 h
def f_X9_flying (a0 : Option Nat) (a1 : Int32) (a2 : Int32) (h : HP) : Option (Int32 × HP) :=
  if a1 = (-1 : Int32) then
    (hz_gI h a0 9 29).bind fun v7 =>
    some (v7, h)
  else
    if hz_ob h a0 9 = true then
    (f_X9_isNode a0 a1 h).bind fun p1 =>
    if p1.1 = 0 then
      f_X9_flying_26   p1.2
    else
      if hz_ob p1.2 a0 9 = true then
      (f_X9_isNode a0 a2 p1.2).bind fun p4 =>
      if p4.1 = 0 then
        f_X9_flying_26   p4.2
      else
        f_X9_flying_33  600 a0 a1 a2 (nI 0) (nI 0) p4.2
      else none
    else none
abbrev rm_X9_flying : Room := { frames := 1, cells := 0, slots := 0, locals := 21 }
set_option maxRecDepth 100000 in
set_option maxHeartbeats 4000000 in
theorem k_X9_flying_26 {G : GX} {v' : Int32} {h' : HP} (hn : G.2.2.2.2.2.2.2.2.2.2.2.2 = 5) (C : Cx G cX9_flying RX9 "flying" (some .int) rm_X9_flying (some (.int v')) h') (h : HP) (H : f_X9_flying_26   h = some (v', h')) : aw G 26 [none, none, none, none, none] [] h 0 0 := by
  unfold f_X9_flying_26 at H
  refine aw_iconst C dX9_flying_26 (v := (-1)) (by decide) ?_
  cases H
  exact aw_iret C (Nat.zero_le _) (Nat.zero_le _) dX9_flying_27
set_option maxRecDepth 100000 in
set_option maxHeartbeats 4000000 in
theorem k_X9_flying_79 {G : GX} {v' : Int32} {h' : HP} (hn : G.2.2.2.2.2.2.2.2.2.2.2.2 = 5) (C : Cx G cX9_flying RX9 "flying" (some .int) rm_X9_flying (some (.int v')) h') {K33 : Option Nat → Int32 → Int32 → Int32 → Int32 → HP → Option (Int32 × HP)} (hK33 : ∀ (l0 : Option Nat) (l1 : Int32) (l2 : Int32) (l3 : Int32) (l4 : Int32) (h : HP), K33 l0 l1 l2 l3 l4 h = some (v', h') → aw G 33 [some (va_rf l0), some (.int l1), some (.int l2), some (.int l3), some (.int l4)] [] h 0 0) (l0 : Option Nat) (l1 : Int32) (l2 : Int32) (l4 : Int32) (s0 : Int32) (s1 : Int32) (h : HP) (H : f_X9_flying_79 K33 l0 l1 l2 l4 s0 s1 h = some (v', h')) : aw G 79 [some (va_rf l0), some (.int l1), some (.int l2), none, some (.int l4)] [.int s1, .int s0] h 0 0 := by
  unfold f_X9_flying_79 at H
  refine aw_iadd C dX9_flying_79 ?_
  refine aw_istore_n C dX9_flying_80 (by rw [hn]; decide) rfl ?_
  refine aw_iinc (d := (nI 1)) C dX9_flying_81 (by rw [hn]; decide) rfl (by decide) rfl ?_
  refine aw_goto (tgt := 33) C dX9_flying_84 (by decide) ?_
  exact hK33 _ _ _ _ _ _ H
set_option maxRecDepth 100000 in
set_option maxHeartbeats 4000000 in
theorem k_X9_flying_78 {G : GX} {v' : Int32} {h' : HP} (hn : G.2.2.2.2.2.2.2.2.2.2.2.2 = 5) (C : Cx G cX9_flying RX9 "flying" (some .int) rm_X9_flying (some (.int v')) h') {K33 : Option Nat → Int32 → Int32 → Int32 → Int32 → HP → Option (Int32 × HP)} (hK33 : ∀ (l0 : Option Nat) (l1 : Int32) (l2 : Int32) (l3 : Int32) (l4 : Int32) (h : HP), K33 l0 l1 l2 l3 l4 h = some (v', h') → aw G 33 [some (va_rf l0), some (.int l1), some (.int l2), some (.int l3), some (.int l4)] [] h 0 0) (l0 : Option Nat) (l1 : Int32) (l2 : Int32) (l4 : Int32) (s0 : Int32) (h : HP) (H : f_X9_flying_78 K33 l0 l1 l2 l4 s0 h = some (v', h')) : aw G 78 [some (va_rf l0), some (.int l1), some (.int l2), none, some (.int l4)] [.int s0] h 0 0 := by
  unfold f_X9_flying_78 at H
  refine aw_iconst C dX9_flying_78 (v := (nI 0)) (by decide) ?_
  exact k_X9_flying_79 hn C hK33 _ _ _ _ _ _ _ H
set_option maxRecDepth 100000 in
set_option maxHeartbeats 4000000 in
theorem k_X9_flying_33 {G : GX} {v' : Int32} {h' : HP} (hn : G.2.2.2.2.2.2.2.2.2.2.2.2 = 5) (C : Cx G cX9_flying RX9 "flying" (some .int) rm_X9_flying (some (.int v')) h') : ∀ (n : Nat) (l0 : Option Nat) (l1 : Int32) (l2 : Int32) (l3 : Int32) (l4 : Int32) (h : HP), f_X9_flying_33  n l0 l1 l2 l3 l4 h = some (v', h') → aw G 33 [some (va_rf l0), some (.int l1), some (.int l2), some (.int l3), some (.int l4)] [] h 0 0 := by
  intro n
  induction n with
  | zero => intro l0 l1 l2 l3 l4 h H; cases H
  | succ n ih =>
    intro l0 l1 l2 l3 l4 h H
    rw [f_X9_flying_33] at H
    refine aw_iload C dX9_flying_33 rfl ?_
    refine aw_sipush C dX9_flying_35 (v := (nI 500)) (by decide) ?_
    refine aw_icmp_ge (tgt := 87) C dX9_flying_38 (by decide) (fun c21 => ?_) (fun c21 => ?_)
    · replace H := hz_it c21 H
      refine aw_iload_n C dX9_flying_87 rfl ?_
      cases H
      exact aw_iret C (Nat.zero_le _) (Nat.zero_le _) dX9_flying_88
    · replace H := hz_if c21 H
      refine aw_iload_n C dX9_flying_41 rfl ?_
      refine aw_aload_n C dX9_flying_42 rfl ?_
      obtain ⟨r9, e10, H⟩ := hz_bd H
      refine aw_gR (k := 20) C cl_9 (by decide) wd_682 e10 dX9_flying_43 ?_
      refine aw_iload C dX9_flying_46 rfl ?_
      obtain ⟨v11, e12, H⟩ := hz_bd H
      refine aw_bald C e12 dX9_flying_48 ?_
      refine aw_if_eq (tgt := 78) C dX9_flying_49 (by decide) (fun c22 => ?_) (fun c22 => ?_)
      · replace H := hz_it c22 H
        exact aw_loc (hz_sub_s (hz_sub_s (hz_sub_s (hz_sub_n (hz_sub_s hz_sub_0))))) (k_X9_flying_78 hn C (fun _ _ _ _ _ _ H => ih _ _ _ _ _ _ H) _ _ _ _ _ _ H)
      · replace H := hz_if c22 H
        refine aw_aload_n C dX9_flying_52 rfl ?_
        obtain ⟨r13, e14, H⟩ := hz_bd H
        refine aw_gR (k := 21) C cl_9 (by decide) wd_683 e14 dX9_flying_53 ?_
        refine aw_iload C dX9_flying_56 rfl ?_
        obtain ⟨v15, e16, H⟩ := hz_bd H
        refine aw_iald C e16 dX9_flying_58 ?_
        refine aw_iload_n C dX9_flying_59 rfl ?_
        refine aw_icmp_ne (tgt := 78) C dX9_flying_60 (by decide) (fun c23 => ?_) (fun c23 => ?_)
        · replace H := hz_if c23 H
          exact aw_loc (hz_sub_s (hz_sub_s (hz_sub_s (hz_sub_n (hz_sub_s hz_sub_0))))) (k_X9_flying_78 hn C (fun _ _ _ _ _ _ H => ih _ _ _ _ _ _ H) _ _ _ _ _ _ H)
        · replace H := hz_it c23 H
          refine aw_aload_n C dX9_flying_63 rfl ?_
          obtain ⟨r17, e18, H⟩ := hz_bd H
          refine aw_gR (k := 22) C cl_9 (by decide) wd_684 e18 dX9_flying_64 ?_
          refine aw_iload C dX9_flying_67 rfl ?_
          obtain ⟨v19, e20, H⟩ := hz_bd H
          refine aw_iald C e20 dX9_flying_69 ?_
          refine aw_iload_n C dX9_flying_70 rfl ?_
          refine aw_icmp_ne (tgt := 78) C dX9_flying_71 (by decide) (fun c24 => ?_) (fun c24 => ?_)
          · replace H := hz_if c24 H
            exact aw_loc (hz_sub_s (hz_sub_s (hz_sub_s (hz_sub_n (hz_sub_s hz_sub_0))))) (k_X9_flying_78 hn C (fun _ _ _ _ _ _ H => ih _ _ _ _ _ _ H) _ _ _ _ _ _ H)
          · replace H := hz_it c24 H
            refine aw_iconst C dX9_flying_74 (v := (nI 1)) (by decide) ?_
            refine aw_goto (tgt := 79) C dX9_flying_75 (by decide) ?_
            exact aw_loc (hz_sub_s (hz_sub_s (hz_sub_s (hz_sub_n (hz_sub_s hz_sub_0))))) (k_X9_flying_79 hn C (fun _ _ _ _ _ _ H => ih _ _ _ _ _ _ H) _ _ _ _ _ _ _ H)
set_option maxRecDepth 100000 in
set_option maxHeartbeats 4000000 in
theorem c_X9_flying {l : Launch} (a0 : Option Nat) (a1 : Int32) (a2 : Int32) (h : HP) (v' : Int32) (h' : HP) (H : f_X9_flying a0 a1 a2 h = some (v', h')) : Ct l yX9_flying cX9_flying 5 (some .int) rm_X9_flying [va_rf a0, .int a1, .int a2] (some (.int v')) h h' := by
  refine Ct.of (plainFor_of_name (by decide)) (hz_s1c (hz_s1c (hz_s1c hz_s1n rfl) rfl) (hz_cr _)) (Nat.le_of_ble_eq_true rfl) (fun G hl hn C0 => ?_)
  have C : Cx G cX9_flying RX9 "flying" (some .int) rm_X9_flying (some (.int v')) h' := C0
  subst hl
  show aw G 0 [some (va_rf a0), some (.int a1), some (.int a2), none, none] [] h 0 0
  unfold f_X9_flying at H
  refine aw_iload_n C dX9_flying_0 rfl ?_
  refine aw_iconst C dX9_flying_1 (v := (-1)) (by decide) ?_
  refine aw_icmp_ne (tgt := 10) C dX9_flying_2 (by decide) (fun c25 => ?_) (fun c25 => ?_)
  · replace H := hz_if c25 H
    refine aw_aload_n C dX9_flying_10 rfl ?_
    refine aw_iload_n C dX9_flying_11 rfl ?_
    obtain ⟨g3, H⟩ := hz_wn H
    obtain ⟨p1, e2, H⟩ := hz_bd H
    refine aw_V (As := [.int a1]) (rest := []) C hy_X9_isNode hv_X9_isNode wd_773 cl_9.1 g3 (c_X9_isNode _ _ _ _ _  e2) (hz_roi _) rfl rfl (Nat.le_of_ble_eq_true rfl) (by decide) (kc := 0) (ks := 0) rfl rfl (by decide) dX9_flying_12 ?_
    refine aw_if_eq (tgt := 26) C dX9_flying_15 (by decide) (fun c26 => ?_) (fun c26 => ?_)
    · replace H := hz_it c26 H
      exact aw_loc (hz_sub_n (hz_sub_n (hz_sub_n (hz_sub_n (hz_sub_n hz_sub_0))))) (k_X9_flying_26 hn C  _ H)
    · replace H := hz_if c26 H
      refine aw_aload_n C dX9_flying_18 rfl ?_
      refine aw_iload_n C dX9_flying_19 rfl ?_
      obtain ⟨g6, H⟩ := hz_wn H
      obtain ⟨p4, e5, H⟩ := hz_bd H
      refine aw_V (As := [.int a2]) (rest := []) C hy_X9_isNode hv_X9_isNode wd_773 cl_9.1 g6 (c_X9_isNode _ _ _ _ _  e5) (hz_roi _) rfl rfl (Nat.le_of_ble_eq_true rfl) (by decide) (kc := 0) (ks := 0) rfl rfl (by decide) dX9_flying_20 ?_
      refine aw_if_ne (tgt := 28) C dX9_flying_23 (by decide) (fun c27 => ?_) (fun c27 => ?_)
      · replace H := hz_if c27 H
        refine aw_iconst C dX9_flying_28 (v := (nI 0)) (by decide) ?_
        refine aw_istore_n C dX9_flying_29 (by rw [hn]; decide) rfl ?_
        refine aw_iconst C dX9_flying_30 (v := (nI 0)) (by decide) ?_
        refine aw_istore C dX9_flying_31 (by rw [hn]; decide) rfl ?_
        exact k_X9_flying_33 hn C  600 _ _ _ _ _ _ H
      · replace H := hz_it c27 H
        exact aw_loc (hz_sub_n (hz_sub_n (hz_sub_n (hz_sub_n (hz_sub_n hz_sub_0))))) (k_X9_flying_26 hn C  _ H)
  · replace H := hz_it c25 H
    refine aw_aload_n C dX9_flying_5 rfl ?_
    obtain ⟨v7, e8, H⟩ := hz_bd H
    refine aw_gI (k := 29) C cl_9 (by decide) wd_691 e8 dX9_flying_6 ?_
    cases H
    exact aw_iret C (Nat.zero_le _) (Nat.zero_le _) dX9_flying_9
theorem hy_X9_letter : hz_Y yX9_letter cX9_letter 5 (some .int) 3 := ⟨wd_899, wd_66, by decide +kernel, by decide +kernel, by decide +kernel⟩
theorem hv_X9_letter : hz_YV yX9_letter := ⟨wd_897, wd_898⟩
def f_X9_letter_16 (h : HP) : Option (Int32 × HP) :=
  some ((-1 : Int32), h)
def f_X9_letter (a0 : Option Nat) (a1 : Int32) (a2 : Int32) (a3 : Int32) (h : HP) : Option (Int32 × HP) :=
  if hz_ob h a0 9 = true then
  (f_X9_isNode a0 a1 h).bind fun p1 =>
  if p1.1 = 0 then
    f_X9_letter_16   p1.2
  else
    if hz_ob p1.2 a0 9 = true then
    (f_X9_isNode a0 a2 p1.2).bind fun p4 =>
    if p4.1 = 0 then
      f_X9_letter_16   p4.2
    else
      if hz_ob p4.2 a0 9 = true then
      (f_X9_oldest a0 a1 a2 p4.2).bind fun p7 =>
      if p7.1 = (-1 : Int32) then
        some ((-1 : Int32), p7.2)
      else
        if a3 = nI 0 then
          (hz_gR p7.2 a0 9 23).bind fun r10 =>
          (hz_aI p7.2 r10 0 p7.1).bind fun v12 =>
          some (v12, p7.2)
        else
        if a3 = nI 1 then
          (hz_gR p7.2 a0 9 24).bind fun r14 =>
          (hz_aI p7.2 r14 0 p7.1).bind fun v16 =>
          some (v16, p7.2)
        else
        if a3 = nI 2 then
          (hz_gR p7.2 a0 9 25).bind fun r18 =>
          (hz_aI p7.2 r18 0 p7.1).bind fun v20 =>
          some (v20, p7.2)
        else
        if a3 = nI 3 then
          (hz_gR p7.2 a0 9 26).bind fun r22 =>
          (hz_aI p7.2 r22 0 p7.1).bind fun v24 =>
          some (v24, p7.2)
        else
          some ((-1 : Int32), p7.2)
      else none
    else none
  else none
abbrev rm_X9_letter : Room := { frames := 1, cells := 0, slots := 0, locals := 24 }
set_option maxRecDepth 100000 in
set_option maxHeartbeats 4000000 in
theorem k_X9_letter_16 {G : GX} {v' : Int32} {h' : HP} (hn : G.2.2.2.2.2.2.2.2.2.2.2.2 = 5) (C : Cx G cX9_letter RX9 "letter" (some .int) rm_X9_letter (some (.int v')) h') (h : HP) (H : f_X9_letter_16   h = some (v', h')) : aw G 16 [none, none, none, none, none] [] h 0 0 := by
  unfold f_X9_letter_16 at H
  refine aw_iconst C dX9_letter_16 (v := (-1)) (by decide) ?_
  cases H
  exact aw_iret C (Nat.zero_le _) (Nat.zero_le _) dX9_letter_17
set_option maxRecDepth 100000 in
set_option maxHeartbeats 4000000 in
theorem c_X9_letter {l : Launch} (a0 : Option Nat) (a1 : Int32) (a2 : Int32) (a3 : Int32) (h : HP) (v' : Int32) (h' : HP) (H : f_X9_letter a0 a1 a2 a3 h = some (v', h')) : Ct l yX9_letter cX9_letter 5 (some .int) rm_X9_letter [va_rf a0, .int a1, .int a2, .int a3] (some (.int v')) h h' := by
  refine Ct.of (plainFor_of_name (by decide)) (hz_s1c (hz_s1c (hz_s1c (hz_s1c hz_s1n rfl) rfl) rfl) (hz_cr _)) (Nat.le_of_ble_eq_true rfl) (fun G hl hn C0 => ?_)
  have C : Cx G cX9_letter RX9 "letter" (some .int) rm_X9_letter (some (.int v')) h' := C0
  subst hl
  show aw G 0 [some (va_rf a0), some (.int a1), some (.int a2), some (.int a3), none] [] h 0 0
  unfold f_X9_letter at H
  refine aw_aload_n C dX9_letter_0 rfl ?_
  refine aw_iload_n C dX9_letter_1 rfl ?_
  obtain ⟨g3, H⟩ := hz_wn H
  obtain ⟨p1, e2, H⟩ := hz_bd H
  refine aw_V (As := [.int a1]) (rest := []) C hy_X9_isNode hv_X9_isNode wd_773 cl_9.1 g3 (c_X9_isNode _ _ _ _ _  e2) (hz_roi _) rfl rfl (Nat.le_of_ble_eq_true rfl) (by decide) (kc := 0) (ks := 0) rfl rfl (by decide) dX9_letter_2 ?_
  refine aw_if_eq (tgt := 16) C dX9_letter_5 (by decide) (fun c26 => ?_) (fun c26 => ?_)
  · replace H := hz_it c26 H
    exact aw_loc (hz_sub_n (hz_sub_n (hz_sub_n (hz_sub_n (hz_sub_n hz_sub_0))))) (k_X9_letter_16 hn C  _ H)
  · replace H := hz_if c26 H
    refine aw_aload_n C dX9_letter_8 rfl ?_
    refine aw_iload_n C dX9_letter_9 rfl ?_
    obtain ⟨g6, H⟩ := hz_wn H
    obtain ⟨p4, e5, H⟩ := hz_bd H
    refine aw_V (As := [.int a2]) (rest := []) C hy_X9_isNode hv_X9_isNode wd_773 cl_9.1 g6 (c_X9_isNode _ _ _ _ _  e5) (hz_roi _) rfl rfl (Nat.le_of_ble_eq_true rfl) (by decide) (kc := 0) (ks := 0) rfl rfl (by decide) dX9_letter_10 ?_
    refine aw_if_ne (tgt := 18) C dX9_letter_13 (by decide) (fun c27 => ?_) (fun c27 => ?_)
    · replace H := hz_if c27 H
      refine aw_aload_n C dX9_letter_18 rfl ?_
      refine aw_iload_n C dX9_letter_19 rfl ?_
      refine aw_iload_n C dX9_letter_20 rfl ?_
      obtain ⟨g9, H⟩ := hz_wn H
      obtain ⟨p7, e8, H⟩ := hz_bd H
      refine aw_V (As := [.int a1, .int a2]) (rest := []) C hy_X9_oldest hv_X9_oldest wd_823 cl_9.1 g9 (c_X9_oldest _ _ _ _ _ _  e8) (hz_roi _) rfl rfl (Nat.le_of_ble_eq_true rfl) (by decide) (kc := 0) (ks := 0) rfl rfl (by decide) dX9_letter_21 ?_
      refine aw_istore C dX9_letter_24 (by rw [hn]; decide) rfl ?_
      refine aw_iload C dX9_letter_26 rfl ?_
      refine aw_iconst C dX9_letter_28 (v := (-1)) (by decide) ?_
      refine aw_icmp_ne (tgt := 34) C dX9_letter_29 (by decide) (fun c28 => ?_) (fun c28 => ?_)
      · replace H := hz_if c28 H
        refine aw_iload_n C dX9_letter_34 rfl ?_
        by_cases c29 : a3 = nI 0
        · replace H := hz_it c29 H
          refine aw_tabI (a := 0) (off := 29) (tgt := 64) C dX9_letter_35 (by rw [c29]; decide) (by decide) (by decide) rfl (by decide) ?_
          refine aw_aload_n C dX9_letter_64 rfl ?_
          obtain ⟨r10, e11, H⟩ := hz_bd H
          refine aw_gR (k := 23) C cl_9 (by decide) wd_685 e11 dX9_letter_65 ?_
          refine aw_iload C dX9_letter_68 rfl ?_
          obtain ⟨v12, e13, H⟩ := hz_bd H
          refine aw_iald C e13 dX9_letter_70 ?_
          cases H
          exact aw_iret C (Nat.zero_le _) (Nat.zero_le _) dX9_letter_71
        replace H := hz_if c29 H
        by_cases c30 : a3 = nI 1
        · replace H := hz_it c30 H
          refine aw_tabI (a := 1) (off := 37) (tgt := 72) C dX9_letter_35 (by rw [c30]; decide) (by decide) (by decide) rfl (by decide) ?_
          refine aw_aload_n C dX9_letter_72 rfl ?_
          obtain ⟨r14, e15, H⟩ := hz_bd H
          refine aw_gR (k := 24) C cl_9 (by decide) wd_686 e15 dX9_letter_73 ?_
          refine aw_iload C dX9_letter_76 rfl ?_
          obtain ⟨v16, e17, H⟩ := hz_bd H
          refine aw_iald C e17 dX9_letter_78 ?_
          cases H
          exact aw_iret C (Nat.zero_le _) (Nat.zero_le _) dX9_letter_79
        replace H := hz_if c30 H
        by_cases c31 : a3 = nI 2
        · replace H := hz_it c31 H
          refine aw_tabI (a := 2) (off := 45) (tgt := 80) C dX9_letter_35 (by rw [c31]; decide) (by decide) (by decide) rfl (by decide) ?_
          refine aw_aload_n C dX9_letter_80 rfl ?_
          obtain ⟨r18, e19, H⟩ := hz_bd H
          refine aw_gR (k := 25) C cl_9 (by decide) wd_687 e19 dX9_letter_81 ?_
          refine aw_iload C dX9_letter_84 rfl ?_
          obtain ⟨v20, e21, H⟩ := hz_bd H
          refine aw_iald C e21 dX9_letter_86 ?_
          cases H
          exact aw_iret C (Nat.zero_le _) (Nat.zero_le _) dX9_letter_87
        replace H := hz_if c31 H
        by_cases c32 : a3 = nI 3
        · replace H := hz_it c32 H
          refine aw_tabI (a := 3) (off := 53) (tgt := 88) C dX9_letter_35 (by rw [c32]; decide) (by decide) (by decide) rfl (by decide) ?_
          refine aw_aload_n C dX9_letter_88 rfl ?_
          obtain ⟨r22, e23, H⟩ := hz_bd H
          refine aw_gR (k := 26) C cl_9 (by decide) wd_688 e23 dX9_letter_89 ?_
          refine aw_iload C dX9_letter_92 rfl ?_
          obtain ⟨v24, e25, H⟩ := hz_bd H
          refine aw_iald C e25 dX9_letter_94 ?_
          cases H
          exact aw_iret C (Nat.zero_le _) (Nat.zero_le _) dX9_letter_95
        replace H := hz_if c32 H
        refine aw_tabO (tgt := 96) C dX9_letter_35 (by have z0 := lv_neT (a := 0) c29 rfl; have z1 := lv_neT (a := 1) c30 rfl; have z2 := lv_neT (a := 2) c31 rfl; have z3 := lv_neT (a := 3) c32 rfl; omega) (by decide) ?_
        refine aw_iconst C dX9_letter_96 (v := (-1)) (by decide) ?_
        cases H
        exact aw_iret C (Nat.zero_le _) (Nat.zero_le _) dX9_letter_97
      · replace H := hz_it c28 H
        refine aw_iconst C dX9_letter_32 (v := (-1)) (by decide) ?_
        cases H
        exact aw_iret C (Nat.zero_le _) (Nat.zero_le _) dX9_letter_33
    · replace H := hz_it c27 H
      exact aw_loc (hz_sub_n (hz_sub_n (hz_sub_n (hz_sub_n (hz_sub_n hz_sub_0))))) (k_X9_letter_16 hn C  _ H)
theorem hy_X9_count : hz_Y yX9_count cX9_count 2 (some .int) 1 := ⟨wd_903, wd_66, by decide +kernel, by decide +kernel, by decide +kernel⟩
theorem hv_X9_count : hz_YV yX9_count := ⟨wd_901, wd_902⟩
def f_X9_count (a0 : Option Nat) (a1 : Int32) (h : HP) : Option (Int32 × HP) :=
  if a1 = nI 0 then
    (hz_gI h a0 9 30).bind fun v1 =>
    some (v1, h)
  else
  if a1 = nI 1 then
    (hz_gI h a0 9 31).bind fun v3 =>
    some (v3, h)
  else
  if a1 = nI 2 then
    (hz_gI h a0 9 32).bind fun v5 =>
    some (v5, h)
  else
  if a1 = nI 3 then
    (hz_gI h a0 9 33).bind fun v7 =>
    some (v7, h)
  else
  if a1 = nI 4 then
    (hz_gI h a0 9 34).bind fun v9 =>
    some (v9, h)
  else
    some ((-1 : Int32), h)
abbrev rm_X9_count : Room := { frames := 0, cells := 0, slots := 0, locals := 0 }
set_option maxRecDepth 100000 in
set_option maxHeartbeats 4000000 in
theorem c_X9_count {l : Launch} (a0 : Option Nat) (a1 : Int32) (h : HP) (v' : Int32) (h' : HP) (H : f_X9_count a0 a1 h = some (v', h')) : Ct l yX9_count cX9_count 2 (some .int) rm_X9_count [va_rf a0, .int a1] (some (.int v')) h h' := by
  refine Ct.of (plainFor_of_name (by decide)) (hz_s1c (hz_s1c hz_s1n rfl) (hz_cr _)) (Nat.le_of_ble_eq_true rfl) (fun G hl hn C0 => ?_)
  have C : Cx G cX9_count RX9 "count" (some .int) rm_X9_count (some (.int v')) h' := C0
  subst hl
  show aw G 0 [some (va_rf a0), some (.int a1)] [] h 0 0
  unfold f_X9_count at H
  refine aw_iload_n C dX9_count_0 rfl ?_
  by_cases c11 : a1 = nI 0
  · replace H := hz_it c11 H
    refine aw_tabI (a := 0) (off := 35) (tgt := 36) C dX9_count_1 (by rw [c11]; decide) (by decide) (by decide) rfl (by decide) ?_
    refine aw_aload_n C dX9_count_36 rfl ?_
    obtain ⟨v1, e2, H⟩ := hz_bd H
    refine aw_gI (k := 30) C cl_9 (by decide) wd_692 e2 dX9_count_37 ?_
    cases H
    exact aw_iret C (Nat.zero_le _) (Nat.zero_le _) dX9_count_40
  replace H := hz_if c11 H
  by_cases c12 : a1 = nI 1
  · replace H := hz_it c12 H
    refine aw_tabI (a := 1) (off := 40) (tgt := 41) C dX9_count_1 (by rw [c12]; decide) (by decide) (by decide) rfl (by decide) ?_
    refine aw_aload_n C dX9_count_41 rfl ?_
    obtain ⟨v3, e4, H⟩ := hz_bd H
    refine aw_gI (k := 31) C cl_9 (by decide) wd_693 e4 dX9_count_42 ?_
    cases H
    exact aw_iret C (Nat.zero_le _) (Nat.zero_le _) dX9_count_45
  replace H := hz_if c12 H
  by_cases c13 : a1 = nI 2
  · replace H := hz_it c13 H
    refine aw_tabI (a := 2) (off := 45) (tgt := 46) C dX9_count_1 (by rw [c13]; decide) (by decide) (by decide) rfl (by decide) ?_
    refine aw_aload_n C dX9_count_46 rfl ?_
    obtain ⟨v5, e6, H⟩ := hz_bd H
    refine aw_gI (k := 32) C cl_9 (by decide) wd_694 e6 dX9_count_47 ?_
    cases H
    exact aw_iret C (Nat.zero_le _) (Nat.zero_le _) dX9_count_50
  replace H := hz_if c13 H
  by_cases c14 : a1 = nI 3
  · replace H := hz_it c14 H
    refine aw_tabI (a := 3) (off := 50) (tgt := 51) C dX9_count_1 (by rw [c14]; decide) (by decide) (by decide) rfl (by decide) ?_
    refine aw_aload_n C dX9_count_51 rfl ?_
    obtain ⟨v7, e8, H⟩ := hz_bd H
    refine aw_gI (k := 33) C cl_9 (by decide) wd_695 e8 dX9_count_52 ?_
    cases H
    exact aw_iret C (Nat.zero_le _) (Nat.zero_le _) dX9_count_55
  replace H := hz_if c14 H
  by_cases c15 : a1 = nI 4
  · replace H := hz_it c15 H
    refine aw_tabI (a := 4) (off := 55) (tgt := 56) C dX9_count_1 (by rw [c15]; decide) (by decide) (by decide) rfl (by decide) ?_
    refine aw_aload_n C dX9_count_56 rfl ?_
    obtain ⟨v9, e10, H⟩ := hz_bd H
    refine aw_gI (k := 34) C cl_9 (by decide) wd_696 e10 dX9_count_57 ?_
    cases H
    exact aw_iret C (Nat.zero_le _) (Nat.zero_le _) dX9_count_60
  replace H := hz_if c15 H
  refine aw_tabO (tgt := 61) C dX9_count_1 (by have z0 := lv_neT (a := 0) c11 rfl; have z1 := lv_neT (a := 1) c12 rfl; have z2 := lv_neT (a := 2) c13 rfl; have z3 := lv_neT (a := 3) c14 rfl; have z4 := lv_neT (a := 4) c15 rfl; omega) (by decide) ?_
  refine aw_iconst C dX9_count_61 (v := (-1)) (by decide) ?_
  cases H
  exact aw_iret C (Nat.zero_le _) (Nat.zero_le _) dX9_count_62
