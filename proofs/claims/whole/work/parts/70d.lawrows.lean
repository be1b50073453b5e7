/-! the law's calls of methods -/
section LR
variable {p : Program} {l : Launch} {e : Env} {s : State} {m : MethodId} {args : Array Value} {below : List Frame} {meth : Method} {c : Code} {H : Heap} {locs : List Jvm.Loc} {cells slots : Nat} {Q : State → Prop}
theorem lw_V (C : LX p s m args c) {D : va_G} {cA : Nat → ClassId} {n0 : Nat} {ad : Nat → Nat} (K : KL D cA n0 s) (h0 : ad 0 = n0) (hi : hz_In (D, cA, ad)) (hA : ∀ q : Nat, hz_R (D, cA, ad) q → lA s q) {pc : Nat} {ls : Array Slot} {rest : List Value} {h h1 : HP} {y : MethodName} {yc : ByteArray} {maxL n ix : Nat} {yret : Option FieldType} {yrm : Room} {As : List Value} {ro1 : Option Value} {ci N : Nat} {T : u_T} (hS : va_S (lA s) s.heap H locs) (hW : hz_W (D, cA, ad) h H) (hy : hz_Y y yc maxL yret n) (hyv : hz_YV y) (hl : Cond.methodLink RL ix y ∈ hz_T) (hvw : vwCl[ci]? = some (y.cls, T, N)) (hob : hz_ob h (some 1) ci = true) (ct : Ct l y yc maxL yret yrm (va_rf (some 1) :: As) ro1 h h1) (hn : As.length = n) (hrl : (rest.map fun v => v.category).sum ≤ 8) (hR : yrm.frames + 1 ≤ room_1.frames ∧ 8 + (maxL + 11) + yrm.locals ≤ room_1.locals) (hf : cells + yrm.cells ≤ room_1.cells ∧ slots + yrm.slots ≤ room_1.slots) (hls : ls.size = 4) (hd : decode code pc = .ok (.invokevirtual ix, 3))
    (kk : ∀ (H1 : Heap) (locs1 : List Jvm.Loc), hz_W (D, cA, ad) h1 H1 → H.size ≤ H1.size → (∀ q : Nat, q < H.size → ¬ hz_R (D, cA, ad) q → H1[q]? = H[q]?) → va_S (lA s) s.heap H1 locs1 → W p l e room_1 s m args below meth c H1 locs1 (cells + yrm.cells) (slots + yrm.slots) Q (F0 m (pc + 3) ls ((ro1.map (hz_v (D, cA, ad))).toList ++ rest))) : W p l e room_1 s m args below meth c H locs cells slots Q (F0 m pc ls ((As.map (hz_v (D, cA, ad))).reverse ++ .ref (ad 1) :: rest)) := by
  obtain ⟨hx, hb, hml, hown, hts⟩ := C
  obtain ⟨a, fs, ha, g1, g2, g3⟩ := hz_ob_of hob
  cases ha
  have hw := hz_wget (E := (D, cA, ad)) g1 g2
  rw [g3, hz_CO] at hw
  have cw := cwV (R := room_1) (s := s) (args := args) (C := y.cls) (own := RL) (index := ix) (ws := Cond.code y yc maxL yret :: hz_T) (rm := yrm) n hts (hz_goodIn (fun w hw => by
    unfold wsV at hw
    rcases List.mem_append.mp hw with hw | hw
    · rcases List.mem_cons.mp hw with rfl | hw
      · exact hl
      · rcases List.mem_cons.mp hw with rfl | hw
        · exact hyv.1
        · rcases List.mem_cons.mp hw with rfl | hw
          · exact hyv.2
          · rw [List.mem_singleton.mp hw]; exact hy.2.1
    · exact hz_ysT hy w hw)) rfl rfl rfl ⟨rfl, hy.2.2⟩ hR
  exact lw_go (va_runV (b := ad 1) (As := As.map (hz_v (D, cA, ad))) (rest := rest) ⟨hx, hb, hml, hown, hts⟩ (ct (D, cA, ad)) cw ⟨hz_blind, va_recv K.1 hW.1 hvw hw, fun U hU hWU => ⟨rfl, by rw [hU]; exact hW, lw_K K h0 hi hA hWU (by rw [hU]; exact hS)⟩⟩ rfl (by rw [List.length_map]; exact hn) hls rfl (lv_room hrl) hd hf) hA hS kk
end LR
