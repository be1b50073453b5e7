/-! the law's objects -/
section LR
variable {p : Program} {l : Launch} {e : Env} {s : State} {m : MethodId} {args : Array Value} {below : List Frame} {meth : Method} {c : Code} {H : Heap} {locs : List Jvm.Loc} {cells slots : Nat} {Q : State → Prop}
theorem lw_I (C : LX p s m args c) {D : va_G} {cA : Nat → ClassId} {n0 : Nat} {ad : Nat → Nat} (K : KL D cA n0 s) (h0 : ad 0 = n0) (hi : hz_In (D, cA, ad)) (hA : ∀ q : Nat, hz_R (D, cA, ad) q → lA s q) {pc : Nat} {ls : Array Slot} {rest : List Value} {h h1 : HP} {y : MethodName} {yc : ByteArray} {maxL n ix : Nat} {yrm : Room} {As : List Value} (hS : va_S (lA s) s.heap H locs) (hW : hz_W (D, cA, ad) h H) (hy : hz_Y y yc maxL none n) (hyi : y.name = "<init>") (hyv : Cond.instanceMethod y ∈ hz_T) (hl : Cond.methodLink RL ix y ∈ hz_T) (ct : Ct l y yc maxL none yrm (va_rf (some 1) :: As) none h h1) (hn : As.length = n) (hrl : (rest.map fun v => v.category).sum ≤ 8) (hR : yrm.frames + 1 ≤ room_1.frames ∧ 8 + (maxL + 11) + yrm.locals ≤ room_1.locals) (hf : cells + yrm.cells ≤ room_1.cells ∧ slots + yrm.slots ≤ room_1.slots) (hls : ls.size = 4) (hd : decode code pc = .ok (.invokespecial ix, 3))
    (kk : ∀ (H1 : Heap) (locs1 : List Jvm.Loc), hz_W (D, cA, ad) h1 H1 → H.size ≤ H1.size → (∀ q : Nat, q < H.size → ¬ hz_R (D, cA, ad) q → H1[q]? = H[q]?) → va_S (lA s) s.heap H1 locs1 → W p l e room_1 s m args below meth c H1 locs1 (cells + yrm.cells) (slots + yrm.slots) Q (F0 m (pc + 3) ls rest)) : W p l e room_1 s m args below meth c H locs cells slots Q (F0 m pc ls ((As.map (hz_v (D, cA, ad))).reverse ++ .ref (ad 1) :: rest)) := by
  obtain ⟨hx, hb, hml, hown, hts⟩ := C
  have cw := cwI (R := room_1) (s := s) (args := args) (own := RL) (index := ix) (ws := Cond.code y yc maxL none :: hz_T) (rm := yrm) n hts (hz_goodIn (hz_ysT hy)) rfl rfl rfl (hts _ hy.2.1) (hts _ hl) (hts _ hyv) hyi hy.2.2 hR
  exact lw_go (va_runI (b := ad 1) (As := As.map (hz_v (D, cA, ad))) (rest := rest) ⟨hx, hb, hml, hown, hts⟩ (ct (D, cA, ad)) cw ⟨hz_blind, fun U hU hWU => ⟨rfl, by rw [hU]; exact hW, lw_K K h0 hi hA hWU (by rw [hU]; exact hS)⟩⟩ rfl (by rw [List.length_map]; exact hn) hls rfl (lv_room hrl) hd hf) hA hS kk
/-- a new object -/
theorem lw_new (C : LX p s m args c) {D : va_G} {cA : Nat → ClassId} {n0 : Nat} {ad : Nat → Nat} (K : KL D cA n0 s) {pc ci N ix : Nat} {ls : Array Slot} {rest : List Value} {h : HP} {KC : String} {T : u_T} {ty : Nat → FieldType} {fs : List Value} (hS : va_S (lA s) s.heap H locs) (hW : hz_W (D, cA, ad) h H) (hc : hz_Cl ci KC T ty N) (hl : Cond.classLink RL ix KC ∈ hz_T) (hin : Cond.instantiable KC N ∈ hz_T) (hini : Cond.initialized KC ∈ hz_T) (hfs : ∀ E : EV, ∀ j, j < N → defaultValue (ty j) = vp_V (fs.map (hz_v E)) j) (hcs : cells + 1 ≤ room_1.cells) (hsl : slots + N ≤ room_1.slots) (hd : decode code pc = .ok (.new ix, 3)) {x : Nat} (hx1 : ad (h.1 + 1) = x)
    (kk : ∀ H1 : Heap, ad (h.1 + 1) = H.size → hz_W (D, cA, ad) (hz_nO h ci fs) H1 → H1.size = H.size + 1 → (∀ q : Nat, q < H.size → H1[q]? = H[q]?) → va_S (lA s) s.heap H1 locs → W p l e room_1 s m args below meth c H1 locs (cells + 1) (slots + N) Q (F0 m (pc + 3) ls (.ref x :: rest))) : W p l e room_1 s m args below meth c H locs cells slots Q (F0 m pc ls rest) := by
  obtain ⟨hx, hb, hml, hown, hts⟩ := C
  have hKn := K.1.1 ci _ hc.1
  refine W.newcK hx hb hown (hts _ hl) (hts _ hin) (hts _ hini) rfl hd hcs hsl hKn.2.1 rfl fun H1 kC hkC e1 z1 o1 => ?_
  obtain ⟨ha, hW1, -⟩ := hz_new (E := (D, cA, ad)) (c := .inr (ci, fs)) (H0 := H) (locs := []) hW va_S.rf ⟨_, hc.1, (u_born ty hts hc.2.1 hKn hkC e1 hc.2.2.1).to (hfs (D, cA, ad))⟩ z1 o1
  have k2 := kk H1 ha hW1 z1 o1 ⟨Nat.le_trans hS.1 (by omega), fun q h1 h2 => (o1 q (Nat.lt_of_lt_of_le h1 hS.1)).trans (hS.2.1 q h1 h2), hS.2.2⟩
  have ha2 : ad (h.1 + 1) = H.size := ha
  rw [← hx1, ha2] at k2
  exact k2
end LR
