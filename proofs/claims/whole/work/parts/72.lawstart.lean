/-! the law from its entry -/
theorem hy_cell : hz_Y yL_cell cL_cell 2 (some .int) 2 := ⟨lq_ccell, lq_iRL, by decide +kernel, by decide +kernel, by decide +kernel⟩
abbrev rm_cell : Room := { frames := 0, cells := 0, slots := 0, locals := 0 }
set_option maxHeartbeats 4000000 in
theorem c_cell (l : Launch) (b L : Nat) (xs : Nat → Int32) (hL : L ≤ 2049) : Met l yL_cell (.code yL_cell cL_cell 2 (some .int) :: hz_T) rm_cell (va_Pc [.ref b, .int 0] (fun U => va_X b L xs U U.heap)) (fun _ st oc t => oc = .returned (some (.int (if 0 < L then xs 0 else 0))) ∧ t.heap = st.heap) 0 0 (fun _ => False) := by
  refine hz_ofW (cc := cL_cell) (maxL := 2) (ret := some .int) (by decide) rfl ?_
  intro p e s m args below meth c s₁ B hml hv
  obtain ⟨rfl, hX⟩ := hv
  have hx := B.exec
  have hb := B.bytes
  have hr := B.returns
  have hlocks := B.notSynchronized
  have hbl : b < s.heap.size := by
    obtain ⟨scr, h1, -⟩ := hX
    exact (Array.getElem?_eq_some_iff.mp h1).1
  have hS : va_S (fun _ : Nat => False) s.heap s.heap [] := va_S.rf
  have hl := lv_entry ([.ref b, .int 0]) (n := 2) (Nat.le_of_ble_eq_true rfl)
  rw [lg_entry_eq]
  generalize (lg_sl ([.ref b, .int 0]) ++ List.replicate (2 - (lg_sl ([.ref b, .int 0])).length) Slot.unset).toArray = ls at hl ⊢
  have hl : lv_has ls 2 [(0, .ref b), (1, .int 0)] := hl
  refine lv_iload_n hx hb dL_cell_0 rfl (lv_at hl 1 rfl) ?_
  refine lv_aload_n hx hb dL_cell_1 rfl (lv_at hl 0 rfl) ?_
  refine va_slen hx hb hX hbl (A := fun _ : Nat => False) (fun h => h) hS dL_cell_2 ?_
  refine lv_icmp_ge (tgt := 12) hx hb dL_cell_3 (by decide) (fun q => ?_) (fun q => ?_)
  · have hz : ¬ 0 < L := fun h => by
      have q2 : nI L ≤ nI 0 := by rw [nI_0]; exact q
      have := (nI_leI (by omega) (by omega)).mp q2
      omega
    refine lv_iconst (v := 0) hx hb dL_cell_12 (by decide) ?_
    exact W.iret hx hb hr (fun t ht _ => ⟨by rw [if_neg hz], ht⟩) (fun q hq => by cases hq) dL_cell_13 hlocks
  · have hz : 0 < L := by
      rcases Nat.eq_zero_or_pos L with h | h
      · exact absurd (by rw [h]; exact Int32.le_refl _) q
      · exact h
    refine lv_aload_n hx hb dL_cell_6 rfl (lv_at hl 0 rfl) ?_
    refine lv_iload_n hx hb dL_cell_7 rfl (lv_at hl 1 rfl) ?_
    refine va_sld hx hb hX hbl (A := fun _ : Nat => False) (fun h => h) hS (by rw [← nI_0]; exact vp_in_nI hz (by omega)) dL_cell_8 ?_
    refine lv_goto (tgt := 13) hx hb dL_cell_9 (by decide) ?_
    exact W.iret hx hb hr (fun t ht _ => ⟨by rw [if_pos hz]; rfl, ht⟩) (fun q hq => by cases hq) dL_cell_13 hlocks
section LS
variable {p : Program} {l : Launch} {e : Env} {s : State} {m : MethodId} {args : Array Value} {below : List Frame} {meth : Method} {c : Code} {H : Heap} {locs : List Jvm.Loc} {cells slots : Nat} {Q : State → Prop}
theorem lw_cell (C : LX p s m args c) {b L : Nat} {xs : Nat → Int32} (hX : va_X b L xs s s.heap) (hbl : b < s.heap.size) (hL : L ≤ 2049) (hS : va_S (lA s) s.heap H locs) (hf : cells ≤ room_1.cells ∧ slots ≤ room_1.slots) {pc : Nat} {ls : Array Slot} {rest : List Value} (hrl : (rest.map fun v => v.category).sum ≤ 8) (hls : ls.size = 4) (hd : decode code pc = .ok (.invokestatic 9, 3))
    (kk : W p l e room_1 s m args below meth c H locs cells slots Q (F0 m (pc + 3) ls (.int (if 0 < L then xs 0 else 0) :: rest))) : W p l e room_1 s m args below meth c H locs cells slots Q (F0 m pc ls (.int 0 :: .ref b :: rest)) := by
  obtain ⟨hx, hb, hml, hown, hts⟩ := C
  have cw := va_cwS (R := room_1) (s := s) (args := args) (own := RL) (index := 9) (ws := Cond.code yL_cell cL_cell 2 (some .int) :: hz_T) (rm := rm_cell) 2 hts (hz_goodIn (fun w hw => by
    unfold va_wsS at hw
    rcases List.mem_append.mp hw with hw | hw
    · rcases List.mem_cons.mp hw with rfl | hw
      · exact lq_ml9
      · rcases List.mem_cons.mp hw with rfl | hw
        · exact lq_scell
        · rw [List.mem_singleton.mp hw]; exact lq_iRL
    · exact hz_ysT hy_cell w hw)) rfl rfl rfl hy_cell.2.2 ⟨by decide, by decide⟩
  have hr := va_runS (H := H) (e := e) (below := below) (meth := meth) (locs := locs) (cells := cells) (slots := slots) (g := F0 m pc ls (.int 0 :: .ref b :: rest)) (As := [.ref b, .int 0]) (rest := rest) ⟨hx, hb, hml, hown, hts⟩ (c_cell l b L xs hL) cw ⟨fun a U g mk q => ⟨q.1, va_X.moved (Vm.Alike.refl U.vm) q.2⟩, fun U hU hWU => ⟨rfl, va_X.moved hWU.alike (va_X.kept hX (by rw [hU]; exact hS.2.1 b hbl (Nat.not_le.mpr hbl)))⟩⟩ rfl rfl hls rfl (lv_room hrl) hd ⟨hf.1, hf.2⟩
  intro T hT X
  obtain ⟨v, st₀, t, T', L', h0, X', hL', e1, e2, ⟨hv, hw⟩, st⟩ := hr T hT X
  injection hv with hv
  subst hv
  have hn : L' = [] := List.eq_nil_iff_forall_not_mem.mpr (fun q hq => hL' q hq)
  subst hn
  rw [List.append_nil] at X'
  obtain ⟨t2, a1, b1⟩ := kk T' (by rw [e1, hw, h0]) X'
  exact ⟨t2, st t2 a1, b1⟩
end LS
set_option maxHeartbeats 4000000 in
set_option maxRecDepth 100000 in
/-- the law comes to its end with true -/
theorem whole_start {p : Program} {e : Env} {s : State} {m : MethodId} {below : List Frame} {meth : Method} {c : Code} (l : Launch) {b L : Nat} {xs : Nat → Int32} (hL : L ≤ 2049) (C0 : lw_At p s m meth c b L xs) : W p l e room_1 s m #[Value.ref b] below meth c s.heap [] 0 0 (lw_Z below #[Value.ref b] s) (entryFrame m ([Value.ref b] : List Value).toArray 4) := by
  obtain ⟨hx, hb, hr, hml, hown, hts, hX, hbl, hlocks, hgv⟩ := id C0
  have C : LX p s m #[Value.ref b] c := ⟨hx, hb, hml, hown, fun w hw => hts w (List.mem_filter.mp hw).1⟩
  obtain ⟨D, cA, n0, K⟩ := lw_KL C0
  obtain ⟨a0, ha0⟩ : ∃ a0 : Int32, a0 = if 0 < L then xs 0 else 0 := ⟨_, rfl⟩
  obtain ⟨hc, hm, e1, e2, R, hc1, bt⟩ := B_new a0
  obtain ⟨ad0, had0⟩ : ∃ ad0 : Nat → Nat, ad0 = fun k => if k = 0 then n0 else s.heap.size + (k - 1) := ⟨_, rfl⟩
  have ad0z : ad0 0 = n0 := by rw [had0]; rfl
  have ad0p : ∀ k : Nat, 1 ≤ k → ad0 k = s.heap.size + (k - 1) := fun k hk => by rw [had0]; exact if_neg (by omega)
  have in0 : hz_In (D, cA, ad0) := fun i j h1 h2 he => by
    have he2 : ad0 i = ad0 j := he
    rw [ad0p i h1, ad0p j h2] at he2
    omega
  have out0 : ∀ q : Nat, hz_R (D, cA, ad0) q → lA s q := by
    rintro q ⟨k, h1, rfl⟩
    show s.heap.size ≤ ad0 k
    rw [ad0p k h1]
    omega
  have hW0 : hz_W (D, cA, ad0) (hk 0 (KD (nOf a0)) (LN (nOf a0)) (fun _ _ => 0) (fun _ _ => none) A0) s.heap := by
    refine ⟨fun k q hq => ?_, fun k hk => ?_⟩
    · obtain ⟨h1, -⟩ := hz_wof hq
      exact absurd h1 (Nat.not_lt_zero _)
    · have hk2 : 0 < k := hk
      show ad0 k = s.heap.size + (k - 0 - 1)
      rw [ad0p k hk2]
      omega
  have hl := lv_entry ([.ref b]) (n := 4) (Nat.le_of_ble_eq_true rfl)
  rw [lg_entry_eq]
  generalize (lg_sl ([.ref b]) ++ List.replicate (4 - (lg_sl ([.ref b])).length) Slot.unset).toArray = ls at hl ⊢
  have hl : lv_has ls 4 [(0, .ref b)] := hl
  refine lw_new C K (ad := ad0) (fs := [.null, .null, .null]) va_S.rf hW0 cl_8 lq_cl7 lq_inX8 wd_58 df_8 (by decide) (by decide) dL_law_0 (x := ad0 1) rfl (fun H1 x1 hW1 z1 o1 hS1 => ?_)
  refine lv_dup hx hb dL_law_3 rfl ?_
  refine lv_aload_n hx hb dL_law_4 rfl (lv_at hl 0 rfl) ?_
  refine lv_iconst (v := 0) hx hb dL_law_5 (by decide) ?_
  refine lw_cell C hX hbl hL hS1 ⟨by decide, by decide⟩ (Nat.le_of_ble_eq_true rfl) hl.1 dL_law_6 ?_
  rw [← ha0]
  refine lw_I C K ad0z in0 out0 (As := [.int a0]) (rest := [.ref (ad0 1)]) hS1 hW1 hy_X8_init rfl lq_imX8 lq_ml15 (c_X8_init (some 1) a0 _ hc e1) rfl (Nat.le_of_ble_eq_true rfl) ⟨by decide, by decide⟩ ⟨by decide, by decide⟩ hl.1 dL_law_9 (fun H2 locs2 hW2 z2 o2 hS2 => ?_)
  refine lv_astore_n (lv' := [(1, .ref (ad0 1)), (0, .ref b)]) hx hb dL_law_12 rfl hl (by decide) rfl (fun ls hl => ?_)
  have hH2 : s.heap.size + hc.1 = H2.size := by
    have q : ad0 (hc.1 + 1) = H2.size + (hc.1 + 1 - hc.1 - 1) := hW2.2 (hc.1 + 1) (by omega)
    rw [ad0p _ (by omega)] at q
    omega
  obtain ⟨ad1, had1⟩ : ∃ ad1 : Nat → Nat, ad1 = fun k => if k = 0 then n0 else H2.size + (k - 1) := ⟨_, rfl⟩
  have ad1z : ad1 0 = n0 := by rw [had1]; rfl
  have ad1p : ∀ k : Nat, 1 ≤ k → ad1 k = H2.size + (k - 1) := fun k hk => by rw [had1]; exact if_neg (by omega)
  have in1 : hz_In (D, cA, ad1) := fun i j h1 h2 he => by
    have he2 : ad1 i = ad1 j := he
    rw [ad1p i h1, ad1p j h2] at he2
    omega
  have out1 : ∀ q : Nat, hz_R (D, cA, ad1) q → H2.size ≤ q := by
    rintro q ⟨k, h1, rfl⟩
    show H2.size ≤ ad1 k
    rw [ad1p k h1]
    omega
  have out1' : ∀ q : Nat, hz_R (D, cA, ad1) q → lA s q := fun q hq => Nat.le_trans hS2.1 (out1 q hq)
  have hWm : hz_W (D, cA, ad1) (hk 0 KM LM Z00 (PK 0) A0) H2 := by
    refine ⟨fun k q hq => ?_, fun k hk => ?_⟩
    · obtain ⟨h1, -⟩ := hz_wof hq
      exact absurd h1 (Nat.not_lt_zero _)
    · have hk2 : 0 < k := hk
      show ad1 k = H2.size + (k - 0 - 1)
      rw [ad1p k hk2]
      omega
  refine lw_new C K (ad := ad1) (fs := hm_fl 9 (Z00 1) (PK 0 1)) hS2 hWm cl_9 lq_cl18 lq_inX9 wd_66 df_9 (by decide) (by decide) dL_law_13 (x := ad1 1) rfl (fun H3 x3 hW3 z3 o3 hS3 => ?_)
  have e3 : hz_nO (hk 0 KM LM Z00 (PK 0) A0) 9 (hm_fl 9 (Z00 1) (PK 0 1)) = hk 1 KM LM Z00 (PK 0) A0 := k0_O (c := 0) rfl (by decide) rfl
  rw [e3] at hW3
  refine lv_dup hx hb dL_law_16 rfl ?_
  refine lv_aload_n hx hb dL_law_17 rfl (lv_at hl 1 rfl) ?_
  refine lv_iconst (v := 0) hx hb dL_law_18 (by decide) ?_
  refine lw_cell C hX hbl hL hS3 ⟨by decide, by decide⟩ (Nat.le_of_ble_eq_true rfl) hl.1 dL_law_19 ?_
  rw [← ha0]
  refine lw_I C K ad1z in1 out1' (As := [.int a0]) (rest := [.ref (ad1 1)]) hS3 hW3 hy_X9_init rfl lq_imX9 lq_ml20 (c_X9_init (some 1) a0 _ hm e2) rfl (Nat.le_of_ble_eq_true rfl) ⟨by decide, by decide⟩ ⟨by decide, by decide⟩ hl.1 dL_law_22 (fun H4 locs4 hW4 z4 o4 hS4 => ?_)
  refine lv_astore_n (lv' := [(2, .ref (ad1 1)), (1, .ref (ad0 1)), (0, .ref b)]) hx hb dL_law_25 rfl hl (by decide) rfl (fun ls hl => ?_)
  refine lv_iconst (v := nI 1) hx hb dL_law_26 (by decide) ?_
  refine lv_istore_n (lv' := [(3, .int (nI 1)), (2, .ref (ad1 1)), (1, .ref (ad0 1)), (0, .ref b)]) hx hb dL_law_27 rfl hl (by decide) rfl (fun ls hl => ?_)
  obtain ⟨rkm, hm29, -, -⟩ := bt.rk
  have hH4 : H4.size = H2.size + 29 := by
    have q : ad1 30 = H4.size + (30 - hm.1 - 1) := hW4.2 30 (by omega)
    rw [ad1p _ (by omega), hm29] at q
    omega
  have hc0 : 1 ≤ hc.1 := by
    unfold bsA at hc1
    omega
  obtain ⟨adC, hadC⟩ : ∃ adC : Nat → Nat, adC = fun k => if k ≤ hc.1 then ad0 k else H4.size + (k - hc.1 - 1) := ⟨_, rfl⟩
  have adCl : ∀ k : Nat, k ≤ hc.1 → adC k = ad0 k := fun k hk => by rw [hadC]; exact if_pos hk
  have adCg : ∀ k : Nat, hc.1 < k → adC k = H4.size + (k - hc.1 - 1) := fun k hk => by rw [hadC]; exact if_neg (by omega)
  have hkeep : ∀ (k : Nat) (q : Nat × va_E), (hz_w (D, cA, ad0) hc)[k]? = some q → H4[q.1]? = H2[q.1]? := fun k q hq => by
    obtain ⟨hk2, rfl⟩ := hz_wof hq
    have h1 : ad0 (k + 1) < H2.size := by
      rw [ad0p _ (by omega)]
      omega
    show H4[ad0 (k + 1)]? = H2[ad0 (k + 1)]?
    rw [o4 _ (by omega) (fun z => by have := out1 _ z; omega), o3 _ h1]
  have F : LF D cA n0 s adC ad1 := by
    refine ⟨K, ⟨(adCl 0 (by omega)).trans ad0z, ad1z⟩, fun i j h1 h2 he => ?_, ?_, fun i j h1 _ h2 _ he => ?_, fun j h1 h2 => ⟨?_, ?_⟩⟩
    · have he2 : adC i = adC j := he
      by_cases ci : i ≤ hc.1
      · rw [adCl i ci, ad0p i h1] at he2
        by_cases cj : j ≤ hc.1
        · rw [adCl j cj, ad0p j h2] at he2
          omega
        · rw [adCg j (by omega)] at he2
          omega
      · rw [adCg i (by omega)] at he2
        by_cases cj : j ≤ hc.1
        · rw [adCl j cj, ad0p j h2] at he2
          omega
        · rw [adCg j (by omega)] at he2
          omega
    · rintro q ⟨k, h1, rfl⟩
      show s.heap.size ≤ adC k
      by_cases ck : k ≤ hc.1
      · rw [adCl k ck, ad0p k h1]
        omega
      · rw [adCg k (by omega)]
        omega
    · rw [ad1p i h1, ad1p j h2] at he
      omega
    · show s.heap.size ≤ ad1 j
      rw [ad1p j h1]
      omega
    · rintro ⟨k, h3, h4⟩
      have h5 : ad1 j = adC k := h4
      rw [ad1p j h1] at h5
      by_cases ck : k ≤ hc.1
      · rw [adCl k ck, ad0p k h3] at h5
        omega
      · rw [adCg k (by omega)] at h5
        omega
  have I : LI D cA adC ad1 H4 hc hm := by
    refine ⟨⟨hz_move (D := D) (cA := cA) (ad := ad0) (rk_c R hc1) adCl (hW2.1.kept hkeep), fun k hk => adCg k hk⟩, hW4.1, hm29, fun j h1 h2 => ?_⟩
    rw [ad1p j h1]
    omega
  refine W.widen (k := 400 + 50 * 0) (n := 50000 + 300 * 0) (by decide) (by decide) ?_
  refine law_loop l hL C0 F 512 0 (by omega) H4 locs4 ls hc hm I bt hS4 ?_
  rw [adCl 1 hc0]
  exact lv_sub hl [3, 2, 1, 0] rfl
