/-! calls, returns, and a contract out of a walk -/
theorem hz_goodIn {ws : List Cond} (h : ∀ w ∈ ws, w ∈ hz_T) : GoodIn hz_T ws := fun w hw => ⟨h w hw, good_of_word (List.mem_filter.mp (h w hw)).2⟩
/-- what the tables say of a method of ours -/
def hz_Y (y : MethodName) (yc : ByteArray) (maxL : Nat) (yret : Option FieldType) (n : Nat) : Prop := Cond.code y yc maxL yret ∈ hz_T ∧ Cond.initialized y.cls ∈ hz_T ∧ (y.cls ≠ "java/lang/invoke/MethodHandle" ∧ y.cls ≠ "java/lang/invoke/VarHandle" ∧ (parseMethodDescriptor y.desc).map (fun d => d.parameters.length) = some n)
def hz_YV (y : MethodName) : Prop := Cond.instanceMethod y ∈ hz_T ∧ Cond.selects y.cls y y ∈ hz_T
theorem hz_ysT {y : MethodName} {yc : ByteArray} {maxL n : Nat} {yret : Option FieldType} (hy : hz_Y y yc maxL yret n) : ∀ w ∈ Cond.code y yc maxL yret :: hz_T, w ∈ hz_T := fun w hw => (List.mem_cons.mp hw).elim (fun e => e ▸ hy.1) id
section CR
variable {p : Program} {l : Launch} {e : Env} {R : Room} {s : State} {m : MethodId} {args : Array Value} {below : List Frame} {meth : Method} {c : Code} {H : Heap} {locs : List Loc} {cells slots : Nat} {Q : State → Prop}
theorem hz_go {E : EV} {mc ms pc : Nat} {ls : Array Slot} {st0 rest : List Value} {a : Array Value} {ro1 : Option Value} {h1 : HP} (hr : va_Run p l e R s m args below meth c H locs cells slots mc ms (F0 m pc ls st0) rest (hz_Q E ro1 h1 a) (hz_R E)) (hS : va_S (hz_R E) s.heap H locs)
    (kk : ∀ (H1 : Heap) (locs1 : List Loc), hz_W E h1 H1 → va_S (hz_R E) s.heap H1 locs1 → W p l e R s m args below meth c H1 locs1 (cells + mc) (slots + ms) Q (F0 m (pc + 3) ls ((ro1.map (hz_v E)).toList ++ rest))) : W p l e R s m args below meth c H locs cells slots Q (F0 m pc ls st0) := by
  intro T hT X
  obtain ⟨v, st₀, t, T', L, h0, X', hL, e1, e2, ⟨hv, hw, hz, hk⟩, st⟩ := hr T hT X
  injection hv with hv
  subst hv
  rw [h0] at hz hk
  obtain ⟨t2, a1, b1⟩ := kk T'.heap (locs ++ L) (by rw [e1]; exact hw)
    ⟨Nat.le_trans hS.1 (by rw [e1]; exact hz), fun q h1 h2 => by rw [e1, hk q (Nat.lt_of_lt_of_le h1 hS.1) h2]; exact hS.2.1 q h1 h2, fun q hq => by
      rcases List.mem_append.mp hq with h | h
      · exact hS.2.2 q h
      · exact hL q h⟩ T' rfl X'
  exact ⟨t2, st t2 a1, b1⟩
end CR
theorem hz_blind {E : EV} {avs : List Value} {h : HP} : FrameBlind (va_Pc avs (fun U => hz_W E h U.heap ∧ hz_K E U)) := fun a U g mk q => ⟨q.1, q.2.1, hz_Kcall q.2.2 rfl rfl⟩
theorem hz_cats (E : EV) : ∀ {rest : List Value}, hz_s1 rest → ((rest.map (hz_v E)).map fun v => v.category).sum = rest.length
  | [], _ => rfl
  | v :: r, h => by
    have ih := hz_cats E (hz_s1t h)
    simp only [List.map_cons, List.sum_cons, List.length_cons, hz_vc, hz_s1h h] at ih ⊢
    omega
theorem hz_ron : ∀ v : Value, (none : Option Value) = some v → v.category = 1 := fun _ h => by cases h
theorem hz_roi (x : Int32) : ∀ v : Value, some (Value.int x) = some v → v.category = 1 := fun _ h => by cases h; rfl
theorem hz_ror (r : Option Nat) : ∀ v : Value, some (va_rf r) = some v → v.category = 1 := fun _ h => by cases h; exact hz_cr r
theorem hz_s1app : ∀ {a b : List Value}, hz_s1 (a ++ b) → hz_s1 b := fun {a b} h v hv => h v (List.mem_append_right a hv)
theorem hz_s1ro {ro1 : Option Value} {rest : List Value} (h : hz_s1 rest) (hro : ∀ v : Value, ro1 = some v → v.category = 1) : hz_s1 (ro1.toList ++ rest) := by
  intro v hv
  rcases List.mem_append.mp hv with h1 | h1
  · cases ro1 with
    | none => cases h1
    | some w => rw [List.mem_singleton.mp h1]; exact hro w rfl
  · exact h v h1
theorem hz_rmap (E : EV) (ro1 : Option Value) (rest : List Value) : (ro1.map (hz_v E)).toList ++ rest.map (hz_v E) = (ro1.toList ++ rest).map (hz_v E) := by cases ro1 <;> rfl
section CA
variable {G : GX} {cc : ByteArray} {own nm : String} {ret : Option FieldType} {rm : Room} {ro : Option Value} {h' : HP} {pc : Nat} {L : List (Option Value)} {st : List Value} {h : HP} {cs sl : Nat}
variable {y : MethodName} {yc : ByteArray} {maxL n ix : Nat} {yret : Option FieldType} {yrm : Room} {As rest : List Value} {ro1 : Option Value} {h1 : HP}
theorem aw_V (C : Cx G cc own nm ret rm ro h') {r : Option Nat} {ci N : Nat} {T : u_T} (hy : hz_Y y yc maxL yret n) (hyv : hz_YV y) (hl : Cond.methodLink own ix y ∈ hz_T) (hvw : vwCl[ci]? = some (y.cls, T, N)) (hob : hz_ob h r ci = true) (ct : Ct G.2.1 y yc maxL yret yrm (va_rf r :: As) ro1 h h1) (hro : ∀ v : Value, ro1 = some v → v.category = 1) (hn : As.length = n) (hst : st = As.reverse ++ va_rf r :: rest) (hrl : rest.length ≤ 8) (hR : yrm.frames + 1 ≤ rm.frames ∧ 8 + (maxL + 11) + yrm.locals ≤ rm.locals) {kc ks : Nat} (hkc : yrm.cells = kc) (hks : yrm.slots = ks) (hf : cs + kc ≤ rm.cells ∧ sl + ks ≤ rm.slots) (hd : decode cc pc = .ok (.invokevirtual ix, 3)) (kk : aw G (pc + 3) L (ro1.toList ++ rest) h1 (cs + kc) (sl + ks)) : aw G pc L st h cs sl := by
  subst hkc
  subst hks
  subst hst
  obtain ⟨p, l, e, R, s, m, args, below, meth, c, Q, E, nL⟩ := G
  obtain ⟨hx, hb, hml, hown, hts, hK, -, -, -, rfl, -⟩ := C
  obtain ⟨a, fs, rfl, g1, g2, g3⟩ := hz_ob_of hob
  intro c1 s1 H locs ls hW hS hls
  have hw := hz_wget (E := E) g1 g2
  rw [g3, hz_CO] at hw
  have s2 : hz_s1 rest := hz_s1t (hz_s1app s1)
  have cw := cwV (R := R) (s := s) (args := args) (C := y.cls) (own := own) (index := ix) (ws := Cond.code y yc maxL yret :: hz_T) (rm := yrm) n hts (hz_goodIn (fun w hw => by
    unfold wsV at hw
    rcases List.mem_append.mp hw with hw | hw
    · rcases List.mem_cons.mp hw with rfl | hw
      · exact hl
      · rcases List.mem_cons.mp hw with rfl | hw
        · exact hyv.1
        · rcases List.mem_cons.mp hw with rfl | hw
          · exact hyv.2
          · rw [List.mem_singleton.mp hw]; exact hy.2.1
    · exact hz_ysT hy w hw)) rfl rfl rfl ⟨rfl, hy.2.2⟩ hR
  refine hz_go (va_runV (b := E.2.2 a) (As := As.map (hz_v E)) (rest := rest.map (hz_v E)) ⟨hx, hb, hml, hown, hts⟩ (ct E) cw ⟨hz_blind, va_recv hK.2.1 hW.1 hvw hw, fun U hU hWU => ⟨rfl, by rw [hU]; exact hW, hz_Kmove hK hWU (by rw [hU]; exact hS)⟩⟩ rfl (by rw [List.length_map]; exact hn) hls.1 (by show List.map _ _ = _; rw [List.map_append, List.map_reverse]; rfl) (lv_room (by rw [hz_cats E s2]; exact hrl)) hd hf) hS (fun H1 locs1 hW1 hS1 => ?_)
  have k2 := kk c1 (hz_s1ro s2 hro) H1 locs1 ls hW1 hS1 hls
  rw [← hz_rmap] at k2
  exact k2
theorem aw_VN (C : Cx G cc own nm ret rm ro h') {r : Option Nat} {ci N : Nat} {T : u_T} {host : String} (hy : hz_Y y yc maxL yret n) (hyv : hz_YV y) (hl : Cond.methodLinkNest own ix y host ∈ hz_N) (hvw : vwCl[ci]? = some (y.cls, T, N)) (hob : hz_ob h r ci = true) (ct : Ct G.2.1 y yc maxL yret yrm (va_rf r :: As) ro1 h h1) (hro : ∀ v : Value, ro1 = some v → v.category = 1) (hn : As.length = n) (hst : st = As.reverse ++ va_rf r :: rest) (hrl : rest.length ≤ 8) (hR : yrm.frames + 1 ≤ rm.frames ∧ 8 + (maxL + 11) + yrm.locals ≤ rm.locals) {kc ks : Nat} (hkc : yrm.cells = kc) (hks : yrm.slots = ks) (hf : cs + kc ≤ rm.cells ∧ sl + ks ≤ rm.slots) (hd : decode cc pc = .ok (.invokevirtual ix, 3)) (kk : aw G (pc + 3) L (ro1.toList ++ rest) h1 (cs + kc) (sl + ks)) : aw G pc L st h cs sl := by
  subst hkc
  subst hks
  subst hst
  obtain ⟨p, l, e, R, s, m, args, below, meth, c, Q, E, nL⟩ := G
  obtain ⟨hx, hb, hml, hown, hts, hK, -, -, -, rfl, -⟩ := C
  obtain ⟨a, fs, rfl, g1, g2, g3⟩ := hz_ob_of hob
  intro c1 s1 H locs ls hW hS hls
  have hw := hz_wget (E := E) g1 g2
  rw [g3, hz_CO] at hw
  have s2 : hz_s1 rest := hz_s1t (hz_s1app s1)
  have cw := va_cnB (R := R) (s := s) (args := args) (own := own) (index := ix) (host := host) (ws := Cond.code y yc maxL yret :: hz_T) (rm := yrm) n hts (hz_goodIn (hz_ysT hy)) rfl rfl rfl (hK.2.2.1 _ hl) (hts _ hy.2.1) hy.2.2 hR
  refine hz_go (va_runVN (C := y.cls) (b := E.2.2 a) (As := As.map (hz_v E)) (rest := rest.map (hz_v E)) ⟨hx, hb, hml, hown, hts⟩ (ct E) ⟨cw, hts _ hyv.1, hts _ hyv.2⟩ ⟨hz_blind, va_recv hK.2.1 hW.1 hvw hw, fun U hU hWU => ⟨rfl, by rw [hU]; exact hW, hz_Kmove hK hWU (by rw [hU]; exact hS)⟩⟩ rfl (by rw [List.length_map]; exact hn) hls.1 (by show List.map _ _ = _; rw [List.map_append, List.map_reverse]; rfl) (lv_room (by rw [hz_cats E s2]; exact hrl)) hd hf) hS (fun H1 locs1 hW1 hS1 => ?_)
  have k2 := kk c1 (hz_s1ro s2 hro) H1 locs1 ls hW1 hS1 hls
  rw [← hz_rmap] at k2
  exact k2
theorem aw_S (C : Cx G cc own nm ret rm ro h') (hy : hz_Y y yc maxL yret n) (hys : Cond.static y ∈ hz_T) (hl : Cond.methodLink own ix y ∈ hz_T) (ct : Ct G.2.1 y yc maxL yret yrm As ro1 h h1) (hro : ∀ v : Value, ro1 = some v → v.category = 1) (hn : As.length = n) (hst : st = As.reverse ++ rest) (hrl : rest.length ≤ 8) (hR : yrm.frames + 1 ≤ rm.frames ∧ 8 + (maxL + 11) + yrm.locals ≤ rm.locals) {kc ks : Nat} (hkc : yrm.cells = kc) (hks : yrm.slots = ks) (hf : cs + kc ≤ rm.cells ∧ sl + ks ≤ rm.slots) (hd : decode cc pc = .ok (.invokestatic ix, 3)) (kk : aw G (pc + 3) L (ro1.toList ++ rest) h1 (cs + kc) (sl + ks)) : aw G pc L st h cs sl := by
  subst hkc
  subst hks
  subst hst
  obtain ⟨p, l, e, R, s, m, args, below, meth, c, Q, E, nL⟩ := G
  obtain ⟨hx, hb, hml, hown, hts, hK, -, -, -, rfl, -⟩ := C
  intro c1 s1 H locs ls hW hS hls
  have s2 : hz_s1 rest := hz_s1app s1
  have cw := va_cwS (R := R) (s := s) (args := args) (own := own) (index := ix) (ws := Cond.code y yc maxL yret :: hz_T) (rm := yrm) n hts (hz_goodIn (fun w hw => by
    unfold va_wsS at hw
    rcases List.mem_append.mp hw with hw | hw
    · rcases List.mem_cons.mp hw with rfl | hw
      · exact hl
      · rcases List.mem_cons.mp hw with rfl | hw
        · exact hys
        · rw [List.mem_singleton.mp hw]; exact hy.2.1
    · exact hz_ysT hy w hw)) rfl rfl rfl hy.2.2 hR
  refine hz_go (va_runS (As := As.map (hz_v E)) (rest := rest.map (hz_v E)) ⟨hx, hb, hml, hown, hts⟩ (ct E) cw ⟨hz_blind, fun U hU hWU => ⟨rfl, by rw [hU]; exact hW, hz_Kmove hK hWU (by rw [hU]; exact hS)⟩⟩ rfl (by rw [List.length_map]; exact hn) hls.1 (by show List.map _ _ = _; rw [List.map_append, List.map_reverse]) (lv_room (by rw [hz_cats E s2]; exact hrl)) hd hf) hS (fun H1 locs1 hW1 hS1 => ?_)
  have k2 := kk c1 (hz_s1ro s2 hro) H1 locs1 ls hW1 hS1 hls
  rw [← hz_rmap] at k2
  exact k2
theorem aw_SN (C : Cx G cc own nm ret rm ro h') {host : String} (hy : hz_Y y yc maxL yret n) (hys : Cond.static y ∈ hz_T) (hl : Cond.methodLinkNest own ix y host ∈ hz_N) (ct : Ct G.2.1 y yc maxL yret yrm As ro1 h h1) (hro : ∀ v : Value, ro1 = some v → v.category = 1) (hn : As.length = n) (hst : st = As.reverse ++ rest) (hrl : rest.length ≤ 8) (hR : yrm.frames + 1 ≤ rm.frames ∧ 8 + (maxL + 11) + yrm.locals ≤ rm.locals) {kc ks : Nat} (hkc : yrm.cells = kc) (hks : yrm.slots = ks) (hf : cs + kc ≤ rm.cells ∧ sl + ks ≤ rm.slots) (hd : decode cc pc = .ok (.invokestatic ix, 3)) (kk : aw G (pc + 3) L (ro1.toList ++ rest) h1 (cs + kc) (sl + ks)) : aw G pc L st h cs sl := by
  subst hkc
  subst hks
  subst hst
  obtain ⟨p, l, e, R, s, m, args, below, meth, c, Q, E, nL⟩ := G
  obtain ⟨hx, hb, hml, hown, hts, hK, -, -, -, rfl, -⟩ := C
  intro c1 s1 H locs ls hW hS hls
  have s2 : hz_s1 rest := hz_s1app s1
  have cw := va_cnB (R := R) (s := s) (args := args) (own := own) (index := ix) (host := host) (ws := Cond.code y yc maxL yret :: hz_T) (rm := yrm) n hts (hz_goodIn (hz_ysT hy)) rfl rfl rfl (hK.2.2.1 _ hl) (hts _ hy.2.1) hy.2.2 hR
  refine hz_go (va_runSN (As := As.map (hz_v E)) (rest := rest.map (hz_v E)) ⟨hx, hb, hml, hown, hts⟩ (ct E) ⟨cw, hts _ hys, trivial⟩ ⟨hz_blind, fun U hU hWU => ⟨rfl, by rw [hU]; exact hW, hz_Kmove hK hWU (by rw [hU]; exact hS)⟩⟩ rfl (by rw [List.length_map]; exact hn) hls.1 (by show List.map _ _ = _; rw [List.map_append, List.map_reverse]) (lv_room (by rw [hz_cats E s2]; exact hrl)) hd hf) hS (fun H1 locs1 hW1 hS1 => ?_)
  have k2 := kk c1 (hz_s1ro s2 hro) H1 locs1 ls hW1 hS1 hls
  rw [← hz_rmap] at k2
  exact k2
theorem aw_I (C : Cx G cc own nm ret rm ro h') {a : Nat} (hy : hz_Y y yc maxL none n) (hyi : y.name = "<init>") (hyv : Cond.instanceMethod y ∈ hz_T) (hl : Cond.methodLink own ix y ∈ hz_T) (ct : Ct G.2.1 y yc maxL none yrm (va_rf (some a) :: As) none h h1) (hn : As.length = n) (hst : st = As.reverse ++ va_rf (some a) :: rest) (hrl : rest.length ≤ 8) (hR : yrm.frames + 1 ≤ rm.frames ∧ 8 + (maxL + 11) + yrm.locals ≤ rm.locals) {kc ks : Nat} (hkc : yrm.cells = kc) (hks : yrm.slots = ks) (hf : cs + kc ≤ rm.cells ∧ sl + ks ≤ rm.slots) (hd : decode cc pc = .ok (.invokespecial ix, 3)) (kk : aw G (pc + 3) L rest h1 (cs + kc) (sl + ks)) : aw G pc L st h cs sl := by
  subst hkc
  subst hks
  subst hst
  obtain ⟨p, l, e, R, s, m, args, below, meth, c, Q, E, nL⟩ := G
  obtain ⟨hx, hb, hml, hown, hts, hK, -, -, -, rfl, -⟩ := C
  intro c1 s1 H locs ls hW hS hls
  have s2 : hz_s1 rest := hz_s1t (hz_s1app s1)
  have cw := cwI (R := R) (s := s) (args := args) (own := own) (index := ix) (ws := Cond.code y yc maxL none :: hz_T) (rm := yrm) n hts (hz_goodIn (hz_ysT hy)) rfl rfl rfl (hts _ hy.2.1) (hts _ hl) (hts _ hyv) hyi hy.2.2 hR
  exact hz_go (va_runI (b := E.2.2 a) (As := As.map (hz_v E)) (rest := rest.map (hz_v E)) ⟨hx, hb, hml, hown, hts⟩ (ct E) cw ⟨hz_blind, fun U hU hWU => ⟨rfl, by rw [hU]; exact hW, hz_Kmove hK hWU (by rw [hU]; exact hS)⟩⟩ rfl (by rw [List.length_map]; exact hn) hls.1 (by show List.map _ _ = _; rw [List.map_append, List.map_reverse]; rfl) (lv_room (by rw [hz_cats E s2]; exact hrl)) hd hf) hS (fun H1 locs1 hW1 hS1 => kk c1 s2 H1 locs1 ls hW1 hS1 hls)
theorem aw_IN (C : Cx G cc own nm ret rm ro h') {a : Nat} {host : String} (hy : hz_Y y yc maxL none n) (hyi : y.name = "<init>") (hyv : Cond.instanceMethod y ∈ hz_T) (hl : Cond.methodLinkNest own ix y host ∈ hz_N) (ct : Ct G.2.1 y yc maxL none yrm (va_rf (some a) :: As) none h h1) (hn : As.length = n) (hst : st = As.reverse ++ va_rf (some a) :: rest) (hrl : rest.length ≤ 8) (hR : yrm.frames + 1 ≤ rm.frames ∧ 8 + (maxL + 11) + yrm.locals ≤ rm.locals) {kc ks : Nat} (hkc : yrm.cells = kc) (hks : yrm.slots = ks) (hf : cs + kc ≤ rm.cells ∧ sl + ks ≤ rm.slots) (hd : decode cc pc = .ok (.invokespecial ix, 3)) (kk : aw G (pc + 3) L rest h1 (cs + kc) (sl + ks)) : aw G pc L st h cs sl := by
  subst hkc
  subst hks
  subst hst
  obtain ⟨p, l, e, R, s, m, args, below, meth, c, Q, E, nL⟩ := G
  obtain ⟨hx, hb, hml, hown, hts, hK, -, -, -, rfl, -⟩ := C
  intro c1 s1 H locs ls hW hS hls
  have s2 : hz_s1 rest := hz_s1t (hz_s1app s1)
  have cw := va_cnB (R := R) (s := s) (args := args) (own := own) (index := ix) (host := host) (ws := Cond.code y yc maxL none :: hz_T) (rm := yrm) n hts (hz_goodIn (hz_ysT hy)) rfl rfl rfl (hK.2.2.1 _ hl) (hts _ hy.2.1) hy.2.2 hR
  exact hz_go (va_runIN (b := E.2.2 a) (As := As.map (hz_v E)) (rest := rest.map (hz_v E)) ⟨hx, hb, hml, hown, hts⟩ (ct E) ⟨cw, hyi, hts _ hyv⟩ ⟨hz_blind, fun U hU hWU => ⟨rfl, by rw [hU]; exact hW, hz_Kmove hK hWU (by rw [hU]; exact hS)⟩⟩ rfl (by rw [List.length_map]; exact hn) hls.1 (by show List.map _ _ = _; rw [List.map_append, List.map_reverse]; rfl) (lv_room (by rw [hz_cats E s2]; exact hrl)) hd hf) hS (fun H1 locs1 hW1 hS1 => kk c1 s2 H1 locs1 ls hW1 hS1 hls)
theorem aw_objI (C : Cx G cc own nm ret rm ro h') {r : Option Nat} (hr : ¬ r = none) (hl : Cond.methodLink own ix Lib.objectInit ∈ hz_T) (hin : Cond.instanceMethod Lib.objectInit ∈ hz_T) (hco : Cond.code Lib.objectInit ⟨#[0xb1]⟩ 1 none ∈ hz_T) (hrl : rest.length ≤ 8) (hR : 1 ≤ rm.frames ∧ 20 ≤ rm.locals) (hd : decode cc pc = .ok (.invokespecial ix, 3)) (kk : aw G (pc + 3) L rest h cs sl) : aw G pc L (va_rf r :: rest) h cs sl := by
  obtain ⟨a, rfl⟩ := Option.ne_none_iff_exists'.mp hr
  obtain ⟨p, l, e, R, s, m, args, below, meth, c, Q, E, nL⟩ := G
  obtain ⟨hx, hb, hml, hown, hts, hK, -, -, -, rfl, -⟩ := C
  intro c1 s1 H locs ls hW hS hls
  have s2 : hz_s1 rest := hz_s1t s1
  refine W.objInit hx hb hown (hts _ hl) (hts _ hin) (hts _ hco) rfl (hls.1.trans hml.symm) (a := E.2.2 a) (rest := rest.map (hz_v E)) rfl hd hR.1 ?_ (kk c1 s2 H locs ls hW hS hls)
  have := lv_room (m := m) (pc := pc) (ls := ls) (rest := (va_rf (some a) :: rest).map (hz_v E)) (st := rest.map (hz_v E)) (by rw [hz_cats E s2]; exact hrl)
  omega
theorem aw_vret (C : Cx G cc own nm none rm none h) (hcs : cs ≤ rm.cells) (hsl : sl ≤ rm.slots) (hd : decode cc pc = .ok (.return_, 1)) : aw G pc L [] h cs sl := by
  obtain ⟨p, l, e, R, s, m, args, below, meth, c, Q, E, nL⟩ := G
  obtain ⟨hx, hb, hml, hown, hts, hK, hlk, hr, -, rfl, rfl⟩ := C
  intro c1 s1 H locs ls hW hS hls
  refine W.widen hcs hsl ?_
  exact W.vret hx hb hr (fun t ht _ => ⟨rfl, by rw [ht]; exact hW, hS.F ht⟩) (fun q hq => hS.2.2 q hq) hd hlk
theorem aw_iret {v : Int32} (C : Cx G cc own nm (some .int) rm (some (.int v)) h) (hcs : cs ≤ rm.cells) (hsl : sl ≤ rm.slots) (hd : decode cc pc = .ok (.ireturn, 1)) : aw G pc L [.int v] h cs sl := by
  obtain ⟨p, l, e, R, s, m, args, below, meth, c, Q, E, nL⟩ := G
  obtain ⟨hx, hb, hml, hown, hts, hK, hlk, hr, -, rfl, rfl⟩ := C
  intro c1 s1 H locs ls hW hS hls
  refine W.widen hcs hsl ?_
  exact W.iret hx hb hr (fun t ht _ => ⟨rfl, by rw [ht]; exact hW, hS.F ht⟩) (fun q hq => hS.2.2 q hq) hd hlk
theorem aw_zret {v : Int32} (C : Cx G cc own nm (some .boolean) rm (some (.int v)) h) (hv : v &&& 1 = v) (hcs : cs ≤ rm.cells) (hsl : sl ≤ rm.slots) (hd : decode cc pc = .ok (.ireturn, 1)) : aw G pc L [.int v] h cs sl := by
  obtain ⟨p, l, e, R, s, m, args, below, meth, c, Q, E, nL⟩ := G
  obtain ⟨hx, hb, hml, hown, hts, hK, hlk, hr, -, rfl, rfl⟩ := C
  intro c1 s1 H locs ls hW hS hls
  refine W.widen hcs hsl ?_
  exact W.zret hx hb hr (by show Value.int (v &&& 1) = _; rw [hv]) (fun t ht _ => ⟨rfl, by rw [ht]; exact hW, hS.F ht⟩) (fun q hq => hS.2.2 q hq) hd hlk
theorem aw_aret {v : Option Nat} {rt : FieldType} (C : Cx G cc own nm (some rt) rm (some (va_rf v)) h) (hrt : (∃ n, rt = .object n) ∨ ∃ t, rt = .array t) (hcs : cs ≤ rm.cells) (hsl : sl ≤ rm.slots) (hd : decode cc pc = .ok (.areturn, 1)) : aw G pc L [va_rf v] h cs sl := by
  obtain ⟨p, l, e, R, s, m, args, below, meth, c, Q, E, nL⟩ := G
  obtain ⟨hx, hb, hml, hown, hts, hK, hlk, hr, -, rfl, rfl⟩ := C
  intro c1 s1 H locs ls hW hS hls
  refine W.widen hcs hsl ?_
  refine W.aret hx hb hr hrt ?_ (fun t ht _ => ⟨rfl, by rw [ht]; exact hW, hS.F ht⟩) (fun q hq => hS.2.2 q hq) hd hlk
  rw [hz_vr]
  exact va_rf_or _
end CA
theorem hz_args (E : EV) : ∀ (i : Nat) (avs : List Value), hz_s1 avs → lv_args i (avs.map (hz_v E)) = hz_L E i (avs.map some)
  | i, [], _ => rfl
  | i, v :: r, h => by
    have hc : (hz_v E v).category = 1 := (hz_vc E v).trans (hz_s1h h)
    have ih := hz_args E (i + 1) r (hz_s1t h)
    simp only [List.map_cons, lv_args, hz_L, hc]
    rw [if_neg (by decide), ih]
theorem hz_Lapp (E : EV) : ∀ (i : Nat) (a : List (Option Value)) (k : Nat), hz_L E i (a ++ List.replicate k none) = hz_L E i a
  | i, [], 0 => rfl
  | i, [], k + 1 => hz_Lapp E (i + 1) [] k
  | i, none :: r, k => hz_Lapp E (i + 1) r k
  | i, some v :: r, k => by
    show (i, hz_v E v) :: hz_L E (i + 1) (r ++ List.replicate k none) = _
    rw [hz_Lapp E (i + 1) r k]
    rfl
theorem hz_sl (E : EV) : ∀ (avs : List Value), hz_s1 avs → (lg_sl (avs.map (hz_v E))).length = avs.length
  | [], _ => rfl
  | v :: r, h => by
    have hc : (hz_v E v).category = 1 := (hz_vc E v).trans (hz_s1h h)
    have ih := hz_sl E r (hz_s1t h)
    simp only [lg_sl, List.map_cons, List.flatMap_cons, hc, List.length_append, List.length_cons] at ih ⊢
    rw [if_neg (by decide)]
    simp only [List.length_cons, List.length_nil]
    omega
theorem hz_ofW {l : Launch} {y : MethodName} {ws ws' : List Cond} {rm : Room} {Pc : Array Value → State → Prop} {Qc : Array Value → State → Outcome → State → Prop} {mc ms : Nat} {free : Addr → Prop} {cc : ByteArray} {maxL : Nat} {ret : Option FieldType}
    (hy : plainFor y = true) (hw : ws = Cond.code y cc maxL ret :: ws')
    (body : ∀ p e s m args below meth c s₁, BodyLoose p l y (headSpec ws rm) cc maxL ret e s m args below meth c s₁ → c.maxLocals = maxL → Pc args s →
      W p l e (headSpec ws rm).room s m args below meth c s.heap [] 0 0 (MQ below Qc args s mc ms free) (entryFrame m args maxL)) : Met l y ws rm Pc Qc mc ms free := by
  refine MetFree.of_bodySF (code := cc) (maxLocals := maxL) (ret := ret) hy ?_ ?_
  · intro args s m h hn
    obtain ⟨meth, c, h1, h2, h3, h4, h5, h6, -, -⟩ := Cond.code_spec hn (atoms_spec (ws := ws) h _ (by rw [hw]; exact List.mem_cons_self))
    exact ⟨meth, c, h1, h2, h3, h4, h5, h6⟩
  · intro p e s m args below meth c s₁ B hml hP _
    have hh0 : s₁.heap = s.heap := by rw [B.state]; rfl
    obtain ⟨t, a1, o, b1, b2, b3⟩ := body p e s m args below meth c s₁ B hml hP s₁ hh0 (Stand.of_body B)
    exact ⟨t, o, a1, b1, b2, ⟨b3.1, b3.2⟩⟩
/-- a contract out of a walk -/
theorem Ct.of {l : Launch} {y : MethodName} {cc : ByteArray} {maxL : Nat} {ret : Option FieldType} {rm : Room} {avs : List Value} {ro : Option Value} {h h' : HP} (hy : plainFor y = true) (hs : hz_s1 avs) (hlen : avs.length ≤ maxL)
    (body : ∀ G : GX, G.2.1 = l → G.2.2.2.2.2.2.2.2.2.2.2.2 = maxL → Cx G cc y.cls y.name ret rm ro h' → aw G 0 (avs.map some ++ List.replicate (maxL - avs.length) none) [] h 0 0) : Ct l y cc maxL ret rm avs ro h h' := by
  intro E
  refine hz_ofW (cc := cc) (maxL := maxL) (ret := ret) hy rfl ?_
  intro p e s m args below meth c s₁ B hml hv
  obtain ⟨rfl, hW, hK⟩ := hv
  have hts := atoms_spec (ws := Cond.code y cc maxL ret :: hz_T) B.pre
  have hown : s.vm.findClass y.cls = some m.cls := findClass_of_methodNamed B.named
  have hnm : meth.name = y.name := (name_of_methodNamed B.named B.method).1
  have K := body (p, l, e, rm, s, m, (avs.map (hz_v E)).toArray, below, meth, c, MQ below (hz_Q E ro h') (avs.map (hz_v E)).toArray s rm.cells rm.slots (hz_R E), E, maxL) rfl rfl
    ⟨B.exec, B.bytes, hml, hown, fun w hw => hts w (List.mem_cons_of_mem _ hw), hK, B.notSynchronized, B.returns, hnm, rfl, rfl⟩
  have hl := lv_entry (avs.map (hz_v E)) (n := maxL) (by rw [hz_sl E avs hs]; exact hlen)
  rw [lg_entry_eq]
  refine K ?_ (fun v hv => by cases hv) s.heap [] _ hW va_S.rf ?_
  · intro k v hk
    by_cases hkl : k < avs.length
    · rw [List.getElem?_append_left (by simpa using hkl), List.getElem?_map] at hk
      have hkk : avs[k]? = some v := by
        cases hq : avs[k]? with
        | none => rw [hq] at hk; simp at hk
        | some w => rw [hq] at hk; simp at hk; rw [hk]
      exact hs v (List.mem_of_getElem? hkk)
    · rw [List.getElem?_append_right (by simpa using Nat.not_lt.mp hkl)] at hk
      have := List.mem_of_getElem? hk
      rw [List.mem_replicate] at this
      cases this.2
  · rw [hz_Lapp, ← hz_args E 0 avs hs]
    exact hl
