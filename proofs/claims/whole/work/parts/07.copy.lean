/-! System.arraycopy of ints -/
theorem hz_nn (z : Int32) (hz : ¬ z < 0) : z.toInt = (z.toNatClampNeg : Int) := by
  have hz0 : (0 : Int) ≤ z.toInt := by
    have := Int32.not_lt.mp hz
    simpa using Int32.le_iff_toInt_le.mp this
  show z.toInt = ((z.toInt.toNat : Nat) : Int)
  omega
section CP
variable {G : GX} {cc : ByteArray} {own nm : String} {ret : Option FieldType} {rm : Room} {ro : Option Value} {h' : HP} {pc : Nat} {L : List (Option Value)} {h : HP} {cs sl : Nat}
theorem aw_cp (C : Cx G cc own nm ret rm ro h') {ix : Nat} {rest : List Value} {r0 r1 : Option Nat} {sp dp n : Int32} {h1 : HP} (hl : Cond.methodLink own ix arraycopyName ∈ hz_T) (hna : Cond.native arraycopyName ∈ hz_T) (hst : Cond.static arraycopyName ∈ hz_T) (hini : Cond.initialized "java/lang/System" ∈ hz_T) (hg : hz_cp h r0 sp r1 dp n = some h1) (hR : 1 ≤ rm.frames ∧ rest.length + (nativeFrameWords "java/lang/System" "arraycopy" 5 + 11) ≤ rm.locals) (hd : decode cc pc = .ok (.invokestatic ix, 3)) (kk : aw G (pc + 3) L rest h1 cs sl) : aw G pc L (.int n :: .int dp :: va_rf r1 :: .int sp :: va_rf r0 :: rest) h cs sl := by
  obtain ⟨p, l, e, R, s, m, args, below, meth, c, Q, E, nL⟩ := G
  obtain ⟨hx, hb, hml, hown, hts, ⟨hi, hK, hN, hZ, hT0, -⟩, -, -, -, rfl, -⟩ := C
  obtain ⟨a0, n0, f, a, n1, g, rfl, hsrc, rfl, d1, d2, d3, h1, h2, h3, h4, h5, rfl⟩ := hz_cp_of hg
  intro c1 s1 H locs ls hW hS hls
  have s2 : hz_s1 rest := hz_s1t (hz_s1t (hz_s1t (hz_s1t (hz_s1t s1))))
  have hw1 := hz_wget (E := E) d1 d2
  rw [d3, hz_CI] at hw1
  obtain ⟨csrc, hc0, hof, hkn, hsz, hval⟩ : ∃ csrc : Cell, H[E.2.2 a0]? = some csrc ∧ s.isArrayOf csrc .int ∧ csrc.vm ≠ .unknown ∧ n0 ≤ csrc.slots.size ∧ ∀ j : Nat, j < n0 → csrc.slots[j]? = some (.int (f j)) := by
    rcases hsrc with ⟨rfl, rfl⟩ | ⟨b1, b2, b3⟩
    · obtain ⟨cell, q1, q2, q3, q4, q5, q6, q7⟩ := hT0
      exact ⟨cell, by rw [hS.2.1 _ (Array.getElem?_eq_some_iff.mp q1).1 q7]; exact q1, q2, q3, q4, fun j hj => absurd hj (by omega)⟩
    · have hw0 := hz_wget (E := E) b1 b2
      rw [b3, hz_CI] at hw0
      exact ⟨_, hW.1 _ _ hw0, (hK.2 0 _ rfl).1 n0 (fun j => .int (f j)), (fun h => by cases h), (by show n0 ≤ (arrV (E.2.1 0) n0 (fun j => .int (f j))).slots.size; rw [arrV_size]; exact Nat.le_refl _), fun j hj => arrV_read _ _ hj⟩
  intro T hT X
  have hc1 : H[E.2.2 a]? = some (vp_cell (E.2.1 0) (n1, .inl g)) := hW.1 _ _ hw1
  obtain ⟨hst0, k0, hk0, cm0, hkk0⟩ := hof
  obtain ⟨-, k1, hk1, cm1, hkk1⟩ := (hK.2 0 _ rfl).1 n1 (fun j => .int (g j))
  obtain ⟨vm', X', step⟩ := X.arraycopy hx hown (hts _ hl) (hts _ hna) (hts _ hst) (hts _ hini) (src := E.2.2 a0) (dst := E.2.2 a) (cs := csrc) (cd := vp_cell (E.2.1 0) (n1, .inl g)) (srcPos := sp) (destPos := dp) (n := n) (by rw [hT]; exact hc0) (by rw [hT]; exact hc1)
    hst0 (fun _ h => by cases h) hkn (fun h => by cases h) hk0 hk1 hkk0 hkk1 (by simp [hz_ty, refKind]) h1 h2 h3
    (by rw [hz_nn sp h1, hz_nn n h3]; omega)
    (by rw [hz_nn dp h2, hz_nn n h3]; show ¬ _ > ((arrV _ n1 (fun j => .int (g j))).slots.size : Int); rw [arrV_size]; omega)
    (fun vm₁ _ i hi => by
      have e : csrc.slots.getD (sp.toNatClampNeg + i) .null = .int (f (sp.toNatClampNeg + i)) := by
        rw [Array.getD_eq_getD_getElem?, hval _ (by omega)]
        rfl
      refine ⟨?_, ?_⟩
      · rw [e]
        rfl
      · rw [e]
        exact trivial)
    (g := F0 m pc ls ((.int n :: .int dp :: va_rf (some a) :: .int sp :: va_rf (some a0) :: rest).map (hz_v E))) rfl (by rw [hml]; exact hls.1) (rest := rest.map (hz_v E)) rfl (by rw [hb]; exact hd) hR.1 (by
      show 2 * 0 + _ + _ ≤ _
      rw [hz_cats E s2]
      omega)
  have e1 : copied csrc (vp_cell (E.2.1 0) (n1, .inl g)) sp dp n = vp_cell (E.2.1 0) (n1, .inl (va_cpy f g sp.toNatClampNeg dp.toNatClampNeg n.toNatClampNeg)) := va_copiedX (fun z => .int z) csrc (E.2.1 0) f g hval h4
  rw [e1] at X' step
  have hlt : E.2.2 a < H.size := (Array.getElem?_eq_some_iff.mp hc1).1
  have hheap : ((T.setVm vm').setCell (E.2.2 a) (vp_cell (E.2.1 0) (n1, .inl (va_cpy f g sp.toNatClampNeg dp.toNatClampNeg n.toNatClampNeg)))).heap = H.setIfInBounds (E.2.2 a) (vp_cell (E.2.1 0) (n1, .inl (va_cpy f g sp.toNatClampNeg dp.toNatClampNeg n.toNatClampNeg))) := by rw [← hT]; rfl
  have oq : ∀ q : Nat, q ≠ E.2.2 a → (H.setIfInBounds (E.2.2 a) (vp_cell (E.2.1 0) (n1, .inl (va_cpy f g sp.toNatClampNeg dp.toNatClampNeg n.toNatClampNeg))))[q]? = H[q]? := fun q hq => by simp [Array.getElem?_setIfInBounds, Ne.symm hq]
  obtain ⟨hW1, hS1⟩ := hz_upd (k := 0) (c := .inl (0, n1, .inl (va_cpy f g sp.toNatClampNeg dp.toNatClampNeg n.toNatClampNeg))) (H1 := H.setIfInBounds (E.2.2 a) (vp_cell (E.2.1 0) (n1, .inl (va_cpy f g sp.toNatClampNeg dp.toNatClampNeg n.toNatClampNeg)))) hi hW hS d1 d2 (show (H.setIfInBounds (E.2.2 a) _)[E.2.2 a]? = some _ by simp [Array.getElem?_setIfInBounds, hlt]; rfl) (by simp) oq
  obtain ⟨t, a1, b1⟩ := kk c1 s2 _ _ ls hW1 ⟨hS1.1, hS1.2.1, fun q hq => by
      rcases List.mem_append.mp hq with h | h
      · exact hS.2.2 q h
      · obtain ⟨z, -, hz⟩ := List.mem_map.mp h
        rw [← hz]
        exact ⟨a, d1, rfl⟩⟩ hls _ hheap X'
  exact ⟨t, step t a1, b1⟩
end CP
/-! clone of an int array, and the cast behind it -/
def hz_cl (h : HP) (r : Option Nat) (cap : Nat) : Option HP := match hz_ar h r 0 with
  | none => none
  | some x => if x.1 ≤ cap then some (h.1 + 1, va_up h.2 (h.1 + 1) (.inl (0, x.1, .inl x.2))) else none
theorem hz_cl_of {h h1 : HP} {r : Option Nat} {cap : Nat} (H : hz_cl h r cap = some h1) : ∃ (a n : Nat) (f : Nat → Int32), r = some a ∧ 1 ≤ a ∧ a ≤ h.1 ∧ h.2 a = .inl (0, n, .inl f) ∧ n ≤ cap ∧ h1 = (h.1 + 1, va_up h.2 (h.1 + 1) (.inl (0, n, .inl f))) := by
  unfold hz_cl at H
  split at H
  · cases H
  · rename_i x hx
    obtain ⟨a, e1, e2, e3, e4⟩ := hz_ar_of hx
    split at H
    · rename_i hi
      exact ⟨a, x.1, x.2, e1, e2, e3, e4, hi, (Option.some.inj H).symm⟩
    · cases H
section CLN
variable {G : GX} {cc : ByteArray} {own nm : String} {ret : Option FieldType} {rm : Room} {ro : Option Value} {h' : HP} {pc : Nat} {L : List (Option Value)} {st : List Value} {h : HP} {cs sl : Nat}
theorem hz_iname {E : EV} {s : State} (hK : va_K E.1 vwCl (hz_tys E) s) : s.vm.findClass "[I" = some (E.2.1 0) := (hK.2 0 _ rfl).2
theorem aw_cl (C : Cx G cc own nm ret rm ro h') {ix cap : Nat} {rest : List Value} {r : Option Nat} {h1 : HP} (hl : Cond.methodLink own ix ⟨"[I", "clone", "()Ljava/lang/Object;"⟩ ∈ hz_T) (hsa : Cond.sameMethod "[I" "java/lang/Object" "clone" "()Ljava/lang/Object;" ∈ hz_T) (hna : Cond.native ⟨"java/lang/Object", "clone", "()Ljava/lang/Object;"⟩ ∈ hz_T) (hin : Cond.instanceMethod ⟨"java/lang/Object", "clone", "()Ljava/lang/Object;"⟩ ∈ hz_T) (hse : Cond.selects "[I" ⟨"[I", "clone", "()Ljava/lang/Object;"⟩ ⟨"java/lang/Object", "clone", "()Ljava/lang/Object;"⟩ ∈ hz_T) (hca : Cond.castable "[I" "java/lang/Cloneable" ∈ hz_N) (hg : hz_cl h r cap = some h1) (hR : 1 ≤ rm.frames ∧ rest.length + 14 ≤ rm.locals) (hcs : cs + 1 ≤ rm.cells) (hsl : sl + cap ≤ rm.slots) (hd : decode cc pc = .ok (.invokevirtual ix, 3)) (kk : aw G (pc + 3) L (va_rf (some (h.1 + 1)) :: rest) h1 (cs + 1) (sl + cap)) : aw G pc L (va_rf r :: rest) h cs sl := by
  obtain ⟨p, l, e, R, s, m, args, below, meth, c, Q, E, nL⟩ := G
  obtain ⟨hx, hb, hml, hown, hts, ⟨hi, hK, hN, -⟩, -, -, -, rfl, -⟩ := C
  obtain ⟨a, n, f, rfl, b1, b2, b3, hcap, rfl⟩ := hz_cl_of hg
  intro c1 s1 H locs ls hW hS hls
  have s2 : hz_s1 rest := hz_s1t s1
  have hw := hz_wget (E := E) b1 b2
  rw [b3, hz_CI] at hw
  have hsz : (vp_cell (E.2.1 0) (n, .inl f)).slots.size = n := arrV_size _ _ _
  obtain ⟨c0, t0', f1, f2, f3⟩ := Cond.castable_spec (va_Nw.use (A := args) rfl (hN _ hca))
  have hnm := hz_iname hK
  cases hnm.symm.trans f1
  intro T hT X
  have hcellT : T.heap[E.2.2 a]? = some (vp_cell (E.2.1 0) (n, .inl f)) := by rw [hT]; exact hW.1 _ _ hw
  obtain ⟨-, kA, hkA, comp, hkind⟩ := State.isArrayOf_alike X.warmed.alike ((hK.2 0 _ rfl).1 0 (fun _ => .null))
  obtain ⟨-, kS, hkS, compS, hkindS⟩ := (hK.2 0 _ rfl).1 0 (fun _ => .null)
  obtain ⟨vm', X', st⟩ := X.cloneArray hx hown (hts _ hl) (hts _ hsa) (hts _ hna) (hts _ hin) (hts _ hse) (a := E.2.2 a) (cell := vp_cell (E.2.1 0) (n, .inl f)) hcellT (fun k h => by cases h) (fun h => by cases h) hnm f2 f3
    (fun i v hv => by
      have hk' : T.vm.classes[E.2.1 0]? = some kA := hkA
      have hcl0 : (vp_cell (E.2.1 0) (n, .inl f)).cls = E.2.1 0 := rfl
      rw [hcl0]
      have hft : fits .int v = true := va_fit (cA := E.2.1 0) (n := n) (F := fun j => .int (f j)) (fun _ _ => rfl) i v hv
      simpa [State.fitsSlot, State.slotType?, hk', hkind, hz_ty] using hft)
    (g := F0 m pc ls ((va_rf (some a) :: rest).map (hz_v E))) rfl (by rw [hml]; exact hls.1) rfl (by rw [hb]; exact hd) hR.1 (by
      show 2 * 0 + _ + 14 ≤ _
      rw [hz_cats E s2]
      omega) hcs (by rw [hsz]; omega) (hloader := Vm.clonesLoader_of_array hkS hkindS)
  rw [hsz] at X'
  generalize hH1 : H.push (vp_cell (E.2.1 0) (n, .inl f)) = H1
  have z1 : H1.size = H.size + 1 := by rw [← hH1, Array.size_push]
  have e1 : H1[H.size]? = some (vp_cell (E.2.1 0) (n, .inl f)) := by rw [← hH1, Array.getElem?_push_size]
  have o1 : ∀ q : Nat, q < H.size → H1[q]? = H[q]? := fun q hq => by rw [← hH1, Array.getElem?_push, if_neg (Nat.ne_of_lt hq)]
  obtain ⟨ha, hW1, hS1⟩ := hz_new (c := .inl (0, n, .inl f)) hW hS e1 z1 o1
  have k2 := kk c1 (hz_s1c s2 rfl) H1 locs ls hW1 hS1 hls
  rw [List.map_cons, hz_vr, Option.map_some, ha] at k2
  have k3 := W.widen (Nat.le_refl _) (Nat.add_le_add_left hcap _) k2
  obtain ⟨t, d1, d2⟩ := k3 ((T.setVm vm').pushCell (vp_cell (E.2.1 0) (n, .inl f))) (by rw [← hH1, ← hT]; rfl) X'
  refine ⟨t, st t ?_, d2⟩
  rw [hT]
  exact d1
theorem aw_castI (C : Cx G cc own nm ret rm ro h') {ix : Nat} {r : Option Nat} {x : Nat × (Nat → Int32)} (hl : Cond.classLink own ix "[I" ∈ hz_T) (hg : hz_ar h r 0 = some x) (hd : decode cc pc = .ok (.checkcast ix, 3)) (kk : aw G (pc + 3) L (va_rf r :: st) h cs sl) : aw G pc L (va_rf r :: st) h cs sl := by
  obtain ⟨p, l, e, R, s, m, args, below, meth, c, Q, E, nL⟩ := G
  obtain ⟨hx, hb, hml, hown, hts, ⟨hi, hK, hN, -⟩, -⟩ := C
  obtain ⟨a, rfl, b1, b2, b3⟩ := hz_ar_of hg
  intro c1 s1 H locs ls hW hS hls
  have hw := hz_wget (E := E) b1 b2
  rw [b3, hz_CI] at hw
  exact va_castA hx hb hown (hts _ hl) hW.1 _ hw (hz_iname hK) hd (kk c1 s1 H locs ls hW hS hls)
end CLN
