/-! the law's loop -/
set_option maxHeartbeats 4000000 in
set_option maxRecDepth 100000 in
theorem law_loop {p : Program} {e : Env} {s : State} {m : MethodId} {below : List Frame} {meth : Method} {c : Code} (l : Launch) {b L : Nat} {xs : Nat → Int32} {D : va_G} {cA : Nat → ClassId} {n0 : Nat} {adC adM : Nat → Nat} (hL : L ≤ 2049) (C0 : lw_At p s m meth c b L xs) (F : LF D cA n0 s adC adM) : ∀ (d j : Nat), j + d = 512 → ∀ (H : Heap) (locs : List Jvm.Loc) (ls : Array Slot) (hc hm : HP), LI D cA adC adM H hc hm → Btx (200 + 14 * j) (40 * j) hc hm → va_S (lA s) s.heap H locs → lv_has ls 4 [(0, .ref b), (1, .ref (adC 1)), (2, .ref (adM 1)), (3, .int (nI (4 * j + 1)))] → W p l e room_1 s m #[Value.ref b] below meth c H locs (400 + 50 * j) (50000 + 300 * j) (lw_Z below #[Value.ref b] s) (F0 m 28 ls []) := by
  obtain ⟨hx, hb, hr, hml, hown, hts, hX, hbl, hlocks, hgv⟩ := id C0
  have C : LX p s m #[Value.ref b] c := ⟨hx, hb, hml, hown, fun w hw => hts w (List.mem_filter.mp hw).1⟩
  intro d
  induction d with
  | zero =>
    intro j hj H locs ls hc hm I bt hS hl
    refine lv_iload_n hx hb dL_law_28 rfl (lv_at hl 3 rfl) ?_
    refine lv_aload_n hx hb dL_law_29 rfl (lv_at hl 0 rfl) ?_
    refine va_slen hx hb hX hbl (A := lA s) (Nat.not_le.mpr hbl) hS dL_law_30 ?_
    refine lv_iconst (v := 4) hx hb dL_law_31 (by decide) ?_
    refine lv_isub hx hb dL_law_32 ?_
    refine lv_icmp_gt (tgt := 476) hx hb dL_law_33 (by decide) (fun q => ?_) (fun q => ?_)
    · refine lv_iconst (v := 1) hx hb dL_law_476 (by decide) ?_
      refine va_forget (fun q hq => hS.2.2 q hq) ?_
      refine W.widen (k := 600000) (n := 7302250) (by omega) (by omega) ?_
      exact lw_ret hx hb hr hlocks dL_law_477
    · exact absurd ((lw_lt (by omega) hL).mpr (by omega)) q
  | succ d ih =>
    intro j hj H locs ls hc hm I bt hS hl
    refine lv_iload_n hx hb dL_law_28 rfl (lv_at hl 3 rfl) ?_
    refine lv_aload_n hx hb dL_law_29 rfl (lv_at hl 0 rfl) ?_
    refine va_slen hx hb hX hbl (A := lA s) (Nat.not_le.mpr hbl) hS dL_law_30 ?_
    refine lv_iconst (v := 4) hx hb dL_law_31 (by decide) ?_
    refine lv_isub hx hb dL_law_32 ?_
    refine lv_icmp_gt (tgt := 476) hx hb dL_law_33 (by decide) (fun q => ?_) (fun q => ?_)
    · refine lv_iconst (v := 1) hx hb dL_law_476 (by decide) ?_
      refine va_forget (fun q hq => hS.2.2 q hq) ?_
      refine W.widen (k := 600000) (n := 7302250) (by omega) (by omega) ?_
      exact lw_ret hx hb hr hlocks dL_law_477
    have hin : 4 * j + 1 + 4 ≤ L := Nat.not_lt.mp (fun z => q ((lw_lt (by omega) hL).mpr z))
    clear q
    have next : ∀ (H : Heap) (locs : List Jvm.Loc) (hc' hm' : HP), LI D cA adC adM H hc' hm' → Btx (200 + 14 * j + 14) (40 * j + 40) hc' hm' → va_S (lA s) s.heap H locs → W p l e room_1 s m #[Value.ref b] below meth c H locs (400 + 50 * (j + 1)) (50000 + 300 * (j + 1)) (lw_Z below #[Value.ref b] s) (F0 m 470 ls []) := fun H locs hc' hm' I' b' hS' => by
      refine lv_iinc (v := nI (4 * (j + 1) + 1)) (lv' := [(3, .int (nI (4 * (j + 1) + 1))), (0, .ref b), (1, .ref (adC 1)), (2, .ref (adM 1))]) hx hb dL_law_470 hl (k := 3) rfl (by rw [show Int32.ofInt 4 = nI 4 by decide, nI_add, show 4 * j + 1 + 4 = 4 * (j + 1) + 1 by omega]) (by decide) rfl (fun ls hl => ?_)
      refine lv_goto (tgt := 28) hx hb dL_law_473 (by decide) ?_
      exact ih (j + 1) (by omega) H locs ls hc' hm' I' (by rw [show 200 + 14 * (j + 1) = 200 + 14 * j + 14 by omega, show 40 * (j + 1) = 40 * j + 40 by omega]; exact b') hS' (lv_sub hl [1, 2, 3, 0] rfl)
    have bup := bt.up (show 200 + 14 * j + 14 < 2 ^ 29 by omega)
    obtain ⟨rk0, r29, ob9, ob8⟩ := bt.rk
    refine lv_aload_n hx hb dL_law_36 rfl (lv_at hl 0 rfl) ?_
    refine lv_iload_n hx hb dL_law_37 rfl (lv_at hl 3 rfl) ?_
    refine va_sld hx hb hX hbl (A := lA s) (Nat.not_le.mpr hbl) hS (vp_in_nI (show 4 * j + 1 < L by omega) (by omega)) dL_law_38 ?_
    refine lv_bipush (v := 15) hx hb dL_law_39 (by decide) ?_
    refine lv_iand hx hb dL_law_41 ?_
    obtain ⟨v0, hv16, hv0⟩ := and15 (xs (nI (4 * j + 1)).toNatClampNeg)
    generalize xs (nI (4 * j + 1)).toNatClampNeg &&& 15 = sw0 at hv0 ⊢
    by_cases c12 : 12 ≤ v0
    · refine lv_tableOut (tgt := 470) hx hb dL_law_42 (Or.inr (by rw [hv0]; omega)) (by decide) ?_
      exact W.widen (by omega) (by omega) (next H locs hc hm I bup hS)
    have hcs : v0 = 0 ∨ v0 = 1 ∨ v0 = 2 ∨ v0 = 3 ∨ v0 = 4 ∨ v0 = 5 ∨ v0 = 6 ∨ v0 = 7 ∨ v0 = 8 ∨ v0 = 9 ∨ v0 = 10 ∨ v0 = 11 := by omega
    rcases hcs with rfl | rfl | rfl | rfl | rfl | rfl | rfl | rfl | rfl | rfl | rfl | rfl
    · -- submit
      refine lv_tableIn (off := 62) (tgt := 104) hx hb dL_law_42 (by rw [hv0]; decide) (by rw [hv0]; decide) (by rw [hv0]; rfl) (by decide) ?_
      obtain ⟨v, hc', hm', e1, e2, b'⟩ := B_sub bt (by omega) (by omega) (xs (4 * j + 1 + 1)) (xs (4 * j + 1 + 2))
      obtain ⟨rk1, r291, -, -⟩ := b'.rk
      refine lv_aload_n hx hb dL_law_104 rfl (lv_at hl 1 rfl) ?_
      refine lw_arg C hX hbl hL hS hl (k := 1) (by decide) (by omega) dL_law_105 dL_law_106 dL_law_107 dL_law_108 dL_law_109 ?_
      refine lw_arg C hX hbl hL hS hl (k := 2) (by decide) (by omega) dL_law_110 dL_law_111 dL_law_112 dL_law_113 dL_law_114 ?_
      refine lw_VC C F I hS (As := [.int (xs (4 * j + 1 + 1)), .int (xs (4 * j + 1 + 2))]) (rest := []) hy_X8_submit hv_X8_submit lq_ml21 (ci := 8) rfl ob8 (c_X8_submit (some 1) (xs (4 * j + 1 + 1)) (xs (4 * j + 1 + 2)) hc v hc' e1) rfl rfl (by decide) ⟨by decide, by decide⟩ ⟨by show _ ≤ 600000; simp only [rm_X8_submit]; omega, by show _ ≤ 7302250; simp only [rm_X8_submit]; omega⟩ hl.1 dL_law_115 (fun H1 locs1 I1 hS1 => ?_)
      refine lv_aload_n hx hb dL_law_118 rfl (lv_at hl 2 rfl) ?_
      refine lw_arg C hX hbl hL hS1 hl (k := 1) (by decide) (by omega) dL_law_119 dL_law_120 dL_law_121 dL_law_122 dL_law_123 ?_
      refine lw_arg C hX hbl hL hS1 hl (k := 2) (by decide) (by omega) dL_law_124 dL_law_125 dL_law_126 dL_law_127 dL_law_128 ?_
      refine lw_VM C F I1 rk0 ⟨rk1, r291⟩ hS1 (As := [.int (xs (4 * j + 1 + 1)), .int (xs (4 * j + 1 + 2))]) (rest := [.int v]) hy_X9_submit hv_X9_submit lq_ml25 (ci := 9) rfl ob9 (c_X9_submit (some 1) (xs (4 * j + 1 + 1)) (xs (4 * j + 1 + 2)) hm v hm' e2) rfl rfl (Nat.le_of_ble_eq_true rfl) ⟨by decide, by decide⟩ ⟨by show _ ≤ 600000; simp only [rm_X8_submit, rm_X9_submit]; omega, by show _ ≤ 7302250; simp only [rm_X8_submit, rm_X9_submit]; omega⟩ hl.1 dL_law_129 (fun H2 locs2 I2 hS2 => ?_)
      refine lv_icmp_eq (tgt := 470) hx hb dL_law_132 (by decide) (fun _ => ?_) (fun q => absurd rfl q)
      exact W.widen (by simp only [rm_X8_submit, rm_X9_submit]; omega) (by simp only [rm_X8_submit, rm_X9_submit]; omega) (next H2 locs2 hc' hm' I2 b' hS2)
    · -- deliver
      refine lv_tableIn (off := 95) (tgt := 137) hx hb dL_law_42 (by rw [hv0]; decide) (by rw [hv0]; decide) (by rw [hv0]; rfl) (by decide) ?_
      obtain ⟨v, hc', hm', e1, e2, b'⟩ := B_del bt (by omega) (by omega) (xs (4 * j + 1 + 1)) (xs (4 * j + 1 + 2))
      obtain ⟨rk1, r291, -, -⟩ := b'.rk
      refine lv_aload_n hx hb dL_law_137 rfl (lv_at hl 1 rfl) ?_
      refine lw_arg C hX hbl hL hS hl (k := 1) (by decide) (by omega) dL_law_138 dL_law_139 dL_law_140 dL_law_141 dL_law_142 ?_
      refine lw_arg C hX hbl hL hS hl (k := 2) (by decide) (by omega) dL_law_143 dL_law_144 dL_law_145 dL_law_146 dL_law_147 ?_
      refine lw_VC C F I hS (As := [.int (xs (4 * j + 1 + 1)), .int (xs (4 * j + 1 + 2))]) (rest := []) hy_X8_deliver hv_X8_deliver lq_ml26 (ci := 8) rfl ob8 (c_X8_deliver (some 1) (xs (4 * j + 1 + 1)) (xs (4 * j + 1 + 2)) hc v hc' e1) rfl rfl (by decide) ⟨by decide, by decide⟩ ⟨by show _ ≤ 600000; simp only [rm_X8_deliver]; omega, by show _ ≤ 7302250; simp only [rm_X8_deliver]; omega⟩ hl.1 dL_law_148 (fun H1 locs1 I1 hS1 => ?_)
      refine lv_aload_n hx hb dL_law_151 rfl (lv_at hl 2 rfl) ?_
      refine lw_arg C hX hbl hL hS1 hl (k := 1) (by decide) (by omega) dL_law_152 dL_law_153 dL_law_154 dL_law_155 dL_law_156 ?_
      refine lw_arg C hX hbl hL hS1 hl (k := 2) (by decide) (by omega) dL_law_157 dL_law_158 dL_law_159 dL_law_160 dL_law_161 ?_
      refine lw_VM C F I1 rk0 ⟨rk1, r291⟩ hS1 (As := [.int (xs (4 * j + 1 + 1)), .int (xs (4 * j + 1 + 2))]) (rest := [.int v]) hy_X9_deliver hv_X9_deliver lq_ml29 (ci := 9) rfl ob9 (c_X9_deliver (some 1) (xs (4 * j + 1 + 1)) (xs (4 * j + 1 + 2)) hm v hm' e2) rfl rfl (Nat.le_of_ble_eq_true rfl) ⟨by decide, by decide⟩ ⟨by show _ ≤ 600000; simp only [rm_X8_deliver, rm_X9_deliver]; omega, by show _ ≤ 7302250; simp only [rm_X8_deliver, rm_X9_deliver]; omega⟩ hl.1 dL_law_162 (fun H2 locs2 I2 hS2 => ?_)
      refine lv_icmp_eq (tgt := 470) hx hb dL_law_165 (by decide) (fun _ => ?_) (fun q => absurd rfl q)
      exact W.widen (by simp only [rm_X8_deliver, rm_X9_deliver]; omega) (by simp only [rm_X8_deliver, rm_X9_deliver]; omega) (next H2 locs2 hc' hm' I2 b' hS2)
    · -- suspect
      refine lv_tableIn (off := 128) (tgt := 170) hx hb dL_law_42 (by rw [hv0]; decide) (by rw [hv0]; decide) (by rw [hv0]; rfl) (by decide) ?_
      obtain ⟨v, hc', hm', e1, e2, b'⟩ := B_sus bt (by omega) (by omega) (xs (4 * j + 1 + 1)) (xs (4 * j + 1 + 2))
      obtain ⟨rk1, r291, -, -⟩ := b'.rk
      refine lv_aload_n hx hb dL_law_170 rfl (lv_at hl 1 rfl) ?_
      refine lw_arg C hX hbl hL hS hl (k := 1) (by decide) (by omega) dL_law_171 dL_law_172 dL_law_173 dL_law_174 dL_law_175 ?_
      refine lw_arg C hX hbl hL hS hl (k := 2) (by decide) (by omega) dL_law_176 dL_law_177 dL_law_178 dL_law_179 dL_law_180 ?_
      refine lw_VC C F I hS (As := [.int (xs (4 * j + 1 + 1)), .int (xs (4 * j + 1 + 2))]) (rest := []) hy_X8_suspect hv_X8_suspect lq_ml30 (ci := 8) rfl ob8 (c_X8_suspect (some 1) (xs (4 * j + 1 + 1)) (xs (4 * j + 1 + 2)) hc v hc' e1) rfl rfl (by decide) ⟨by decide, by decide⟩ ⟨by show _ ≤ 600000; simp only [rm_X8_suspect]; omega, by show _ ≤ 7302250; simp only [rm_X8_suspect]; omega⟩ hl.1 dL_law_181 (fun H1 locs1 I1 hS1 => ?_)
      refine lv_aload_n hx hb dL_law_184 rfl (lv_at hl 2 rfl) ?_
      refine lw_arg C hX hbl hL hS1 hl (k := 1) (by decide) (by omega) dL_law_185 dL_law_186 dL_law_187 dL_law_188 dL_law_189 ?_
      refine lw_arg C hX hbl hL hS1 hl (k := 2) (by decide) (by omega) dL_law_190 dL_law_191 dL_law_192 dL_law_193 dL_law_194 ?_
      refine lw_VM C F I1 rk0 ⟨rk1, r291⟩ hS1 (As := [.int (xs (4 * j + 1 + 1)), .int (xs (4 * j + 1 + 2))]) (rest := [.int v]) hy_X9_suspect hv_X9_suspect lq_ml33 (ci := 9) rfl ob9 (c_X9_suspect (some 1) (xs (4 * j + 1 + 1)) (xs (4 * j + 1 + 2)) hm v hm' e2) rfl rfl (Nat.le_of_ble_eq_true rfl) ⟨by decide, by decide⟩ ⟨by show _ ≤ 600000; simp only [rm_X8_suspect, rm_X9_suspect]; omega, by show _ ≤ 7302250; simp only [rm_X8_suspect, rm_X9_suspect]; omega⟩ hl.1 dL_law_195 (fun H2 locs2 I2 hS2 => ?_)
      refine lv_icmp_eq (tgt := 470) hx hb dL_law_198 (by decide) (fun _ => ?_) (fun q => absurd rfl q)
      exact W.widen (by simp only [rm_X8_suspect, rm_X9_suspect]; omega) (by simp only [rm_X8_suspect, rm_X9_suspect]; omega) (next H2 locs2 hc' hm' I2 b' hS2)
    · -- crash
      refine lv_tableIn (off := 161) (tgt := 203) hx hb dL_law_42 (by rw [hv0]; decide) (by rw [hv0]; decide) (by rw [hv0]; rfl) (by decide) ?_
      obtain ⟨v, hc', hm', e1, e2, b'⟩ := B_cra bt (by omega) (xs (4 * j + 1 + 1))
      obtain ⟨rk1, r291, -, -⟩ := b'.rk
      refine lv_aload_n hx hb dL_law_203 rfl (lv_at hl 1 rfl) ?_
      refine lw_arg C hX hbl hL hS hl (k := 1) (by decide) (by omega) dL_law_204 dL_law_205 dL_law_206 dL_law_207 dL_law_208 ?_
      refine lw_VC C F I hS (As := [.int (xs (4 * j + 1 + 1))]) (rest := []) hy_X8_crash hv_X8_crash lq_ml34 (ci := 8) rfl ob8 (c_X8_crash (some 1) (xs (4 * j + 1 + 1)) hc v hc' e1) rfl rfl (by decide) ⟨by decide, by decide⟩ ⟨by show _ ≤ 600000; simp only [rm_X8_crash]; omega, by show _ ≤ 7302250; simp only [rm_X8_crash]; omega⟩ hl.1 dL_law_209 (fun H1 locs1 I1 hS1 => ?_)
      refine lv_aload_n hx hb dL_law_212 rfl (lv_at hl 2 rfl) ?_
      refine lw_arg C hX hbl hL hS1 hl (k := 1) (by decide) (by omega) dL_law_213 dL_law_214 dL_law_215 dL_law_216 dL_law_217 ?_
      refine lw_VM C F I1 rk0 ⟨rk1, r291⟩ hS1 (As := [.int (xs (4 * j + 1 + 1))]) (rest := [.int v]) hy_X9_crash hv_X9_crash lq_ml38 (ci := 9) rfl ob9 (c_X9_crash (some 1) (xs (4 * j + 1 + 1)) hm v hm' e2) rfl rfl (Nat.le_of_ble_eq_true rfl) ⟨by decide, by decide⟩ ⟨by show _ ≤ 600000; simp only [rm_X8_crash, rm_X9_crash]; omega, by show _ ≤ 7302250; simp only [rm_X8_crash, rm_X9_crash]; omega⟩ hl.1 dL_law_218 (fun H2 locs2 I2 hS2 => ?_)
      refine lv_icmp_eq (tgt := 470) hx hb dL_law_221 (by decide) (fun _ => ?_) (fun q => absurd rfl q)
      exact W.widen (by simp only [rm_X8_crash, rm_X9_crash]; omega) (by simp only [rm_X8_crash, rm_X9_crash]; omega) (next H2 locs2 hc' hm' I2 b' hS2)
    · -- timeout
      refine lv_tableIn (off := 184) (tgt := 226) hx hb dL_law_42 (by rw [hv0]; decide) (by rw [hv0]; decide) (by rw [hv0]; rfl) (by decide) ?_
      obtain ⟨v, hc', hm', e1, e2, b'⟩ := B_tim bt (by omega) (by omega) (xs (4 * j + 1 + 1))
      obtain ⟨rk1, r291, -, -⟩ := b'.rk
      refine lv_aload_n hx hb dL_law_226 rfl (lv_at hl 1 rfl) ?_
      refine lw_arg C hX hbl hL hS hl (k := 1) (by decide) (by omega) dL_law_227 dL_law_228 dL_law_229 dL_law_230 dL_law_231 ?_
      refine lw_VC C F I hS (As := [.int (xs (4 * j + 1 + 1))]) (rest := []) hy_X8_timeout hv_X8_timeout lq_ml39 (ci := 8) rfl ob8 (c_X8_timeout (some 1) (xs (4 * j + 1 + 1)) hc v hc' e1) rfl rfl (by decide) ⟨by decide, by decide⟩ ⟨by show _ ≤ 600000; simp only [rm_X8_timeout]; omega, by show _ ≤ 7302250; simp only [rm_X8_timeout]; omega⟩ hl.1 dL_law_232 (fun H1 locs1 I1 hS1 => ?_)
      refine lv_aload_n hx hb dL_law_235 rfl (lv_at hl 2 rfl) ?_
      refine lw_arg C hX hbl hL hS1 hl (k := 1) (by decide) (by omega) dL_law_236 dL_law_237 dL_law_238 dL_law_239 dL_law_240 ?_
      refine lw_VM C F I1 rk0 ⟨rk1, r291⟩ hS1 (As := [.int (xs (4 * j + 1 + 1))]) (rest := [.int v]) hy_X9_timeout hv_X9_timeout lq_ml43 (ci := 9) rfl ob9 (c_X9_timeout (some 1) (xs (4 * j + 1 + 1)) hm v hm' e2) rfl rfl (Nat.le_of_ble_eq_true rfl) ⟨by decide, by decide⟩ ⟨by show _ ≤ 600000; simp only [rm_X8_timeout, rm_X9_timeout]; omega, by show _ ≤ 7302250; simp only [rm_X8_timeout, rm_X9_timeout]; omega⟩ hl.1 dL_law_241 (fun H2 locs2 I2 hS2 => ?_)
      refine lv_icmp_eq (tgt := 470) hx hb dL_law_244 (by decide) (fun _ => ?_) (fun q => absurd rfl q)
      exact W.widen (by simp only [rm_X8_timeout, rm_X9_timeout]; omega) (by simp only [rm_X8_timeout, rm_X9_timeout]; omega) (next H2 locs2 hc' hm' I2 b' hS2)
    · -- node
      refine lv_tableIn (off := 207) (tgt := 249) hx hb dL_law_42 (by rw [hv0]; decide) (by rw [hv0]; decide) (by rw [hv0]; rfl) (by decide) ?_
      obtain ⟨v, e1, e2⟩ := B_node bt (xs (4 * j + 1 + 1)) (xs (4 * j + 1 + 2))
      obtain ⟨rk1, r291, -, -⟩ := bup.rk
      refine lv_aload_n hx hb dL_law_249 rfl (lv_at hl 1 rfl) ?_
      refine lw_arg C hX hbl hL hS hl (k := 1) (by decide) (by omega) dL_law_250 dL_law_251 dL_law_252 dL_law_253 dL_law_254 ?_
      refine lw_arg C hX hbl hL hS hl (k := 2) (by decide) (by omega) dL_law_255 dL_law_256 dL_law_257 dL_law_258 dL_law_259 ?_
      refine lw_VC C F I hS (As := [.int (xs (4 * j + 1 + 1)), .int (xs (4 * j + 1 + 2))]) (rest := []) hy_X8_node hv_X8_node lq_ml44 (ci := 8) rfl ob8 (c_X8_node (some 1) (xs (4 * j + 1 + 1)) (xs (4 * j + 1 + 2)) hc v hc e1) rfl rfl (by decide) ⟨by decide, by decide⟩ ⟨by show _ ≤ 600000; simp only [rm_X8_node]; omega, by show _ ≤ 7302250; simp only [rm_X8_node]; omega⟩ hl.1 dL_law_260 (fun H1 locs1 I1 hS1 => ?_)
      refine lv_aload_n hx hb dL_law_263 rfl (lv_at hl 2 rfl) ?_
      refine lw_arg C hX hbl hL hS1 hl (k := 1) (by decide) (by omega) dL_law_264 dL_law_265 dL_law_266 dL_law_267 dL_law_268 ?_
      refine lw_arg C hX hbl hL hS1 hl (k := 2) (by decide) (by omega) dL_law_269 dL_law_270 dL_law_271 dL_law_272 dL_law_273 ?_
      refine lw_VM C F I1 rk0 ⟨rk1, r291⟩ hS1 (As := [.int (xs (4 * j + 1 + 1)), .int (xs (4 * j + 1 + 2))]) (rest := [.int v]) hy_X9_node hv_X9_node lq_ml47 (ci := 9) rfl ob9 (c_X9_node (some 1) (xs (4 * j + 1 + 1)) (xs (4 * j + 1 + 2)) hm v hm e2) rfl rfl (Nat.le_of_ble_eq_true rfl) ⟨by decide, by decide⟩ ⟨by show _ ≤ 600000; simp only [rm_X8_node, rm_X9_node]; omega, by show _ ≤ 7302250; simp only [rm_X8_node, rm_X9_node]; omega⟩ hl.1 dL_law_274 (fun H2 locs2 I2 hS2 => ?_)
      refine lv_icmp_eq (tgt := 470) hx hb dL_law_277 (by decide) (fun _ => ?_) (fun q => absurd rfl q)
      exact W.widen (by simp only [rm_X8_node, rm_X9_node]; omega) (by simp only [rm_X8_node, rm_X9_node]; omega) (next H2 locs2 hc hm I2 bup hS2)
    · -- held
      refine lv_tableIn (off := 240) (tgt := 282) hx hb dL_law_42 (by rw [hv0]; decide) (by rw [hv0]; decide) (by rw [hv0]; rfl) (by decide) ?_
      obtain ⟨v, e1, e2⟩ := B_held bt (xs (4 * j + 1 + 1)) (xs (4 * j + 1 + 2))
      obtain ⟨rk1, r291, -, -⟩ := bup.rk
      refine lv_aload_n hx hb dL_law_282 rfl (lv_at hl 1 rfl) ?_
      refine lw_arg C hX hbl hL hS hl (k := 1) (by decide) (by omega) dL_law_283 dL_law_284 dL_law_285 dL_law_286 dL_law_287 ?_
      refine lw_arg C hX hbl hL hS hl (k := 2) (by decide) (by omega) dL_law_288 dL_law_289 dL_law_290 dL_law_291 dL_law_292 ?_
      refine lw_VC C F I hS (As := [.int (xs (4 * j + 1 + 1)), .int (xs (4 * j + 1 + 2))]) (rest := []) hy_X8_held hv_X8_held lq_ml48 (ci := 8) rfl ob8 (c_X8_held (some 1) (xs (4 * j + 1 + 1)) (xs (4 * j + 1 + 2)) hc v hc e1) rfl rfl (by decide) ⟨by decide, by decide⟩ ⟨by show _ ≤ 600000; simp only [rm_X8_held]; omega, by show _ ≤ 7302250; simp only [rm_X8_held]; omega⟩ hl.1 dL_law_293 (fun H1 locs1 I1 hS1 => ?_)
      refine lv_aload_n hx hb dL_law_296 rfl (lv_at hl 2 rfl) ?_
      refine lw_arg C hX hbl hL hS1 hl (k := 1) (by decide) (by omega) dL_law_297 dL_law_298 dL_law_299 dL_law_300 dL_law_301 ?_
      refine lw_arg C hX hbl hL hS1 hl (k := 2) (by decide) (by omega) dL_law_302 dL_law_303 dL_law_304 dL_law_305 dL_law_306 ?_
      refine lw_VM C F I1 rk0 ⟨rk1, r291⟩ hS1 (As := [.int (xs (4 * j + 1 + 1)), .int (xs (4 * j + 1 + 2))]) (rest := [.int v]) hy_X9_held hv_X9_held lq_ml51 (ci := 9) rfl ob9 (c_X9_held (some 1) (xs (4 * j + 1 + 1)) (xs (4 * j + 1 + 2)) hm v hm e2) rfl rfl (Nat.le_of_ble_eq_true rfl) ⟨by decide, by decide⟩ ⟨by show _ ≤ 600000; simp only [rm_X8_held, rm_X9_held]; omega, by show _ ≤ 7302250; simp only [rm_X8_held, rm_X9_held]; omega⟩ hl.1 dL_law_307 (fun H2 locs2 I2 hS2 => ?_)
      refine lv_icmp_eq (tgt := 470) hx hb dL_law_310 (by decide) (fun _ => ?_) (fun q => absurd rfl q)
      exact W.widen (by simp only [rm_X8_held, rm_X9_held]; omega) (by simp only [rm_X8_held, rm_X9_held]; omega) (next H2 locs2 hc hm I2 bup hS2)
    · -- depth
      refine lv_tableIn (off := 273) (tgt := 315) hx hb dL_law_42 (by rw [hv0]; decide) (by rw [hv0]; decide) (by rw [hv0]; rfl) (by decide) ?_
      obtain ⟨v, e1, e2⟩ := B_depth bt (xs (4 * j + 1 + 1))
      obtain ⟨rk1, r291, -, -⟩ := bup.rk
      refine lv_aload_n hx hb dL_law_315 rfl (lv_at hl 1 rfl) ?_
      refine lw_arg C hX hbl hL hS hl (k := 1) (by decide) (by omega) dL_law_316 dL_law_317 dL_law_318 dL_law_319 dL_law_320 ?_
      refine lw_VC C F I hS (As := [.int (xs (4 * j + 1 + 1))]) (rest := []) hy_X8_depth hv_X8_depth lq_ml52 (ci := 8) rfl ob8 (c_X8_depth (some 1) (xs (4 * j + 1 + 1)) hc v hc e1) rfl rfl (by decide) ⟨by decide, by decide⟩ ⟨by show _ ≤ 600000; simp only [rm_X8_depth]; omega, by show _ ≤ 7302250; simp only [rm_X8_depth]; omega⟩ hl.1 dL_law_321 (fun H1 locs1 I1 hS1 => ?_)
      refine lv_aload_n hx hb dL_law_324 rfl (lv_at hl 2 rfl) ?_
      refine lw_arg C hX hbl hL hS1 hl (k := 1) (by decide) (by omega) dL_law_325 dL_law_326 dL_law_327 dL_law_328 dL_law_329 ?_
      refine lw_VM C F I1 rk0 ⟨rk1, r291⟩ hS1 (As := [.int (xs (4 * j + 1 + 1))]) (rest := [.int v]) hy_X9_depth hv_X9_depth lq_ml55 (ci := 9) rfl ob9 (c_X9_depth (some 1) (xs (4 * j + 1 + 1)) hm v hm e2) rfl rfl (Nat.le_of_ble_eq_true rfl) ⟨by decide, by decide⟩ ⟨by show _ ≤ 600000; simp only [rm_X8_depth, rm_X9_depth]; omega, by show _ ≤ 7302250; simp only [rm_X8_depth, rm_X9_depth]; omega⟩ hl.1 dL_law_330 (fun H2 locs2 I2 hS2 => ?_)
      refine lv_icmp_eq (tgt := 470) hx hb dL_law_333 (by decide) (fun _ => ?_) (fun q => absurd rfl q)
      exact W.widen (by simp only [rm_X8_depth, rm_X9_depth]; omega) (by simp only [rm_X8_depth, rm_X9_depth]; omega) (next H2 locs2 hc hm I2 bup hS2)
    · -- top
      refine lv_tableIn (off := 296) (tgt := 338) hx hb dL_law_42 (by rw [hv0]; decide) (by rw [hv0]; decide) (by rw [hv0]; rfl) (by decide) ?_
      obtain ⟨v, e1, e2⟩ := B_top bt (xs (4 * j + 1 + 1)) (xs (4 * j + 1 + 2))
      obtain ⟨rk1, r291, -, -⟩ := bup.rk
      refine lv_aload_n hx hb dL_law_338 rfl (lv_at hl 1 rfl) ?_
      refine lw_arg C hX hbl hL hS hl (k := 1) (by decide) (by omega) dL_law_339 dL_law_340 dL_law_341 dL_law_342 dL_law_343 ?_
      refine lw_arg C hX hbl hL hS hl (k := 2) (by decide) (by omega) dL_law_344 dL_law_345 dL_law_346 dL_law_347 dL_law_348 ?_
      refine lw_VC C F I hS (As := [.int (xs (4 * j + 1 + 1)), .int (xs (4 * j + 1 + 2))]) (rest := []) hy_X8_top hv_X8_top lq_ml56 (ci := 8) rfl ob8 (c_X8_top (some 1) (xs (4 * j + 1 + 1)) (xs (4 * j + 1 + 2)) hc v hc e1) rfl rfl (by decide) ⟨by decide, by decide⟩ ⟨by show _ ≤ 600000; simp only [rm_X8_top]; omega, by show _ ≤ 7302250; simp only [rm_X8_top]; omega⟩ hl.1 dL_law_349 (fun H1 locs1 I1 hS1 => ?_)
      refine lv_aload_n hx hb dL_law_352 rfl (lv_at hl 2 rfl) ?_
      refine lw_arg C hX hbl hL hS1 hl (k := 1) (by decide) (by omega) dL_law_353 dL_law_354 dL_law_355 dL_law_356 dL_law_357 ?_
      refine lw_arg C hX hbl hL hS1 hl (k := 2) (by decide) (by omega) dL_law_358 dL_law_359 dL_law_360 dL_law_361 dL_law_362 ?_
      refine lw_VM C F I1 rk0 ⟨rk1, r291⟩ hS1 (As := [.int (xs (4 * j + 1 + 1)), .int (xs (4 * j + 1 + 2))]) (rest := [.int v]) hy_X9_top hv_X9_top lq_ml59 (ci := 9) rfl ob9 (c_X9_top (some 1) (xs (4 * j + 1 + 1)) (xs (4 * j + 1 + 2)) hm v hm e2) rfl rfl (Nat.le_of_ble_eq_true rfl) ⟨by decide, by decide⟩ ⟨by show _ ≤ 600000; simp only [rm_X8_top, rm_X9_top]; omega, by show _ ≤ 7302250; simp only [rm_X8_top, rm_X9_top]; omega⟩ hl.1 dL_law_363 (fun H2 locs2 I2 hS2 => ?_)
      refine lv_icmp_eq (tgt := 470) hx hb dL_law_366 (by decide) (fun _ => ?_) (fun q => absurd rfl q)
      exact W.widen (by simp only [rm_X8_top, rm_X9_top]; omega) (by simp only [rm_X8_top, rm_X9_top]; omega) (next H2 locs2 hc hm I2 bup hS2)
    · -- flying
      refine lv_tableIn (off := 329) (tgt := 371) hx hb dL_law_42 (by rw [hv0]; decide) (by rw [hv0]; decide) (by rw [hv0]; rfl) (by decide) ?_
      obtain ⟨v, e1, e2⟩ := B_fly bt (xs (4 * j + 1 + 1)) (xs (4 * j + 1 + 2))
      obtain ⟨rk1, r291, -, -⟩ := bup.rk
      refine lv_aload_n hx hb dL_law_371 rfl (lv_at hl 1 rfl) ?_
      refine lw_arg C hX hbl hL hS hl (k := 1) (by decide) (by omega) dL_law_372 dL_law_373 dL_law_374 dL_law_375 dL_law_376 ?_
      refine lw_arg C hX hbl hL hS hl (k := 2) (by decide) (by omega) dL_law_377 dL_law_378 dL_law_379 dL_law_380 dL_law_381 ?_
      refine lw_VC C F I hS (As := [.int (xs (4 * j + 1 + 1)), .int (xs (4 * j + 1 + 2))]) (rest := []) hy_X8_flying hv_X8_flying lq_ml60 (ci := 8) rfl ob8 (c_X8_flying (some 1) (xs (4 * j + 1 + 1)) (xs (4 * j + 1 + 2)) hc v hc e1) rfl rfl (by decide) ⟨by decide, by decide⟩ ⟨by show _ ≤ 600000; simp only [rm_X8_flying]; omega, by show _ ≤ 7302250; simp only [rm_X8_flying]; omega⟩ hl.1 dL_law_382 (fun H1 locs1 I1 hS1 => ?_)
      refine lv_aload_n hx hb dL_law_385 rfl (lv_at hl 2 rfl) ?_
      refine lw_arg C hX hbl hL hS1 hl (k := 1) (by decide) (by omega) dL_law_386 dL_law_387 dL_law_388 dL_law_389 dL_law_390 ?_
      refine lw_arg C hX hbl hL hS1 hl (k := 2) (by decide) (by omega) dL_law_391 dL_law_392 dL_law_393 dL_law_394 dL_law_395 ?_
      refine lw_VM C F I1 rk0 ⟨rk1, r291⟩ hS1 (As := [.int (xs (4 * j + 1 + 1)), .int (xs (4 * j + 1 + 2))]) (rest := [.int v]) hy_X9_flying hv_X9_flying lq_ml63 (ci := 9) rfl ob9 (c_X9_flying (some 1) (xs (4 * j + 1 + 1)) (xs (4 * j + 1 + 2)) hm v hm e2) rfl rfl (Nat.le_of_ble_eq_true rfl) ⟨by decide, by decide⟩ ⟨by show _ ≤ 600000; simp only [rm_X8_flying, rm_X9_flying]; omega, by show _ ≤ 7302250; simp only [rm_X8_flying, rm_X9_flying]; omega⟩ hl.1 dL_law_396 (fun H2 locs2 I2 hS2 => ?_)
      refine lv_icmp_eq (tgt := 470) hx hb dL_law_399 (by decide) (fun _ => ?_) (fun q => absurd rfl q)
      exact W.widen (by simp only [rm_X8_flying, rm_X9_flying]; omega) (by simp only [rm_X8_flying, rm_X9_flying]; omega) (next H2 locs2 hc hm I2 bup hS2)
    · -- letter
      refine lv_tableIn (off := 362) (tgt := 404) hx hb dL_law_42 (by rw [hv0]; decide) (by rw [hv0]; decide) (by rw [hv0]; rfl) (by decide) ?_
      obtain ⟨v, e1, e2⟩ := B_let bt (by omega) (xs (4 * j + 1 + 1)) (xs (4 * j + 1 + 2)) (xs (4 * j + 1 + 3))
      obtain ⟨rk1, r291, -, -⟩ := bup.rk
      refine lv_aload_n hx hb dL_law_404 rfl (lv_at hl 1 rfl) ?_
      refine lw_arg C hX hbl hL hS hl (k := 1) (by decide) (by omega) dL_law_405 dL_law_406 dL_law_407 dL_law_408 dL_law_409 ?_
      refine lw_arg C hX hbl hL hS hl (k := 2) (by decide) (by omega) dL_law_410 dL_law_411 dL_law_412 dL_law_413 dL_law_414 ?_
      refine lw_arg C hX hbl hL hS hl (k := 3) (by decide) (by omega) dL_law_415 dL_law_416 dL_law_417 dL_law_418 dL_law_419 ?_
      refine lw_VC C F I hS (As := [.int (xs (4 * j + 1 + 1)), .int (xs (4 * j + 1 + 2)), .int (xs (4 * j + 1 + 3))]) (rest := []) hy_X8_letter hv_X8_letter lq_ml64 (ci := 8) rfl ob8 (c_X8_letter (some 1) (xs (4 * j + 1 + 1)) (xs (4 * j + 1 + 2)) (xs (4 * j + 1 + 3)) hc v hc e1) rfl rfl (by decide) ⟨by decide, by decide⟩ ⟨by show _ ≤ 600000; simp only [rm_X8_letter]; omega, by show _ ≤ 7302250; simp only [rm_X8_letter]; omega⟩ hl.1 dL_law_420 (fun H1 locs1 I1 hS1 => ?_)
      refine lv_aload_n hx hb dL_law_423 rfl (lv_at hl 2 rfl) ?_
      refine lw_arg C hX hbl hL hS1 hl (k := 1) (by decide) (by omega) dL_law_424 dL_law_425 dL_law_426 dL_law_427 dL_law_428 ?_
      refine lw_arg C hX hbl hL hS1 hl (k := 2) (by decide) (by omega) dL_law_429 dL_law_430 dL_law_431 dL_law_432 dL_law_433 ?_
      refine lw_arg C hX hbl hL hS1 hl (k := 3) (by decide) (by omega) dL_law_434 dL_law_435 dL_law_436 dL_law_437 dL_law_438 ?_
      refine lw_VM C F I1 rk0 ⟨rk1, r291⟩ hS1 (As := [.int (xs (4 * j + 1 + 1)), .int (xs (4 * j + 1 + 2)), .int (xs (4 * j + 1 + 3))]) (rest := [.int v]) hy_X9_letter hv_X9_letter lq_ml68 (ci := 9) rfl ob9 (c_X9_letter (some 1) (xs (4 * j + 1 + 1)) (xs (4 * j + 1 + 2)) (xs (4 * j + 1 + 3)) hm v hm e2) rfl rfl (Nat.le_of_ble_eq_true rfl) ⟨by decide, by decide⟩ ⟨by show _ ≤ 600000; simp only [rm_X8_letter, rm_X9_letter]; omega, by show _ ≤ 7302250; simp only [rm_X8_letter, rm_X9_letter]; omega⟩ hl.1 dL_law_439 (fun H2 locs2 I2 hS2 => ?_)
      refine lv_icmp_eq (tgt := 470) hx hb dL_law_442 (by decide) (fun _ => ?_) (fun q => absurd rfl q)
      exact W.widen (by simp only [rm_X8_letter, rm_X9_letter]; omega) (by simp only [rm_X8_letter, rm_X9_letter]; omega) (next H2 locs2 hc hm I2 bup hS2)
    · -- count
      refine lv_tableIn (off := 405) (tgt := 447) hx hb dL_law_42 (by rw [hv0]; decide) (by rw [hv0]; decide) (by rw [hv0]; rfl) (by decide) ?_
      obtain ⟨v, e1, e2⟩ := B_count bt (xs (4 * j + 1 + 1))
      obtain ⟨rk1, r291, -, -⟩ := bup.rk
      refine lv_aload_n hx hb dL_law_447 rfl (lv_at hl 1 rfl) ?_
      refine lw_arg C hX hbl hL hS hl (k := 1) (by decide) (by omega) dL_law_448 dL_law_449 dL_law_450 dL_law_451 dL_law_452 ?_
      refine lw_VC C F I hS (As := [.int (xs (4 * j + 1 + 1))]) (rest := []) hy_X8_count hv_X8_count lq_ml69 (ci := 8) rfl ob8 (c_X8_count (some 1) (xs (4 * j + 1 + 1)) hc v hc e1) rfl rfl (by decide) ⟨by decide, by decide⟩ ⟨by show _ ≤ 600000; simp only [rm_X8_count]; omega, by show _ ≤ 7302250; simp only [rm_X8_count]; omega⟩ hl.1 dL_law_453 (fun H1 locs1 I1 hS1 => ?_)
      refine lv_aload_n hx hb dL_law_456 rfl (lv_at hl 2 rfl) ?_
      refine lw_arg C hX hbl hL hS1 hl (k := 1) (by decide) (by omega) dL_law_457 dL_law_458 dL_law_459 dL_law_460 dL_law_461 ?_
      refine lw_VM C F I1 rk0 ⟨rk1, r291⟩ hS1 (As := [.int (xs (4 * j + 1 + 1))]) (rest := [.int v]) hy_X9_count hv_X9_count lq_ml72 (ci := 9) rfl ob9 (c_X9_count (some 1) (xs (4 * j + 1 + 1)) hm v hm e2) rfl rfl (Nat.le_of_ble_eq_true rfl) ⟨by decide, by decide⟩ ⟨by show _ ≤ 600000; simp only [rm_X8_count, rm_X9_count]; omega, by show _ ≤ 7302250; simp only [rm_X8_count, rm_X9_count]; omega⟩ hl.1 dL_law_462 (fun H2 locs2 I2 hS2 => ?_)
      refine lv_icmp_eq (tgt := 470) hx hb dL_law_465 (by decide) (fun _ => ?_) (fun q => absurd rfl q)
      exact W.widen (by simp only [rm_X8_count, rm_X9_count]; omega) (by simp only [rm_X8_count, rm_X9_count]; omega) (next H2 locs2 hc hm I2 bup hS2)
