/-! heap instructions over abstract heaps -/
theorem hz_sameF {s : State} {C n d : String} : ∀ x, s.fieldFound? C n d = some x → s.fieldFound? C n d = some x := fun _ h => h
theorem hz_cwl (E : EV) (t : Nat) (ht : t < 4) : (hz_tys E)[t]? = some (E.2.1 t, hz_ty t) := by
  match t, ht with
  | 0, _ => rfl
  | 1, _ => rfl
  | 2, _ => rfl
  | 3, _ => rfl
theorem hz_CI (E : EV) (t n : Nat) (f : Nat → Int32) : hz_C E (.inl (t, n, .inl f)) = .inl (E.2.1 t, n, .inl f) := rfl
theorem hz_CQ (E : EV) (t n : Nat) (f : Nat → Option Nat) : hz_C E (.inl (t, n, .inr (.inr (.inr (.inr f))))) = .inl (E.2.1 t, n, .inr (.inr (.inr (.inr (fun j => (f j).map E.2.2))))) := rfl
theorem hz_CO (E : EV) (c : Nat) (fs : List Value) : hz_C E (.inr (c, fs)) = .inr (c, fs.map (hz_v E)) := rfl
/-- what a putfield asks of a value -/
def hz_fit (ty : FieldType) (v : Value) : Prop := ∀ E : EV, narrow ty (hz_v E v) = hz_v E v ∧ fits ty (hz_v E v) = true
theorem hz_fiti (x : Int32) : hz_fit .int (.int x) := fun _ => ⟨rfl, rfl⟩
theorem hz_fito (C : String) (r : Option Nat) : hz_fit (.object C) (va_rf r) := fun E => by cases r <;> exact ⟨rfl, rfl⟩
theorem hz_fita (t : FieldType) (r : Option Nat) : hz_fit (.array t) (va_rf r) := fun E => by cases r <;> exact ⟨rfl, rfl⟩
/-- a class of ours as the tables have it -/
def hz_Cl (ci : Nat) (C : String) (T : u_T) (ty : Nat → FieldType) (N : Nat) : Prop := vwCl[ci]? = some (C, T, N) ∧ (∀ w ∈ u_ws C T N, w ∈ hz_T) ∧ (∀ k, k < N → parseFieldDescriptor (T k).2.2.1 = some (ty k)) ∧ (∀ a, a < N → ∀ b, b < N → a ≠ b → (T a).2.1 ≠ (T b).2.1) ∧ (∀ k, k < N → (T k).1 = C)
theorem hz_upd {E : EV} {h : HP} {H H1 : Heap} {a k : Nat} {c : HC} {locs : List Loc} {H0 : Heap} (hi : hz_In E) (hW : hz_W E h H) (hS : va_S (hz_R E) H0 H locs) (g1 : 1 ≤ a) (g2 : a ≤ h.1) (he : va_at E.1 vwCl (E.2.2 a, hz_C E c) H1) (z : H1.size = H.size) (oq : ∀ q : Nat, q ≠ E.2.2 a → H1[q]? = H[q]?) : hz_W E (h.1, va_up h.2 a c) H1 ∧ va_S (hz_R E) H0 H1 (locs ++ [⟨E.2.2 a, k⟩]) :=
  ⟨hz_Wset hW g1 g2 (hW.1.set (hz_wD hi) (hz_wget g1 g2) he oq) z, hS.put z oq ⟨a, g1, rfl⟩⟩
theorem hz_new {E : EV} {h : HP} {H H1 : Heap} {c : HC} {locs : List Loc} {H0 : Heap} (hW : hz_W E h H) (hS : va_S (hz_R E) H0 H locs) (he : va_at E.1 vwCl (H.size, hz_C E c) H1) (z : H1.size = H.size + 1) (oq : ∀ q : Nat, q < H.size → H1[q]? = H[q]?) : E.2.2 (h.1 + 1) = H.size ∧ hz_W E (h.1 + 1, va_up h.2 (h.1 + 1) c) H1 ∧ va_S (hz_R E) H0 H1 locs := by
  have ha : E.2.2 (h.1 + 1) = H.size := by
    rw [hW.2 _ (by omega)]
    omega
  refine ⟨ha, ⟨?_, fun k hk => ?_⟩, Nat.le_trans hS.1 (by omega), fun q h1 h2 => (oq q (Nat.lt_of_lt_of_le h1 hS.1)).trans (hS.2.1 q h1 h2), hS.2.2⟩
  · rw [hz_wpush, ha]
    refine va_P.app (hW.1.kept (fun k q hq => oq q.1 ((hW.1 k q hq).lt))) (fun k q hq => ?_)
    have hz : k < 1 := (List.getElem?_eq_some_iff.mp hq).1
    rw [show k = 0 by omega] at hq
    cases hq
    exact he
  · have hk : h.1 + 1 < k := hk
    rw [hW.2 k (by omega), z]
    show _ = H.size + 1 + (k - (h.1 + 1) - 1)
    omega
/-- what a store of a field does, as the kit tells it of a cell -/
theorem hz_fobj {E : EV} {H1 : Heap} {s : State} {args : Array Value} {own K : String} {T : u_T} {ty : Nat → FieldType} {N ci k a : Nat} {fs : List Value} {v : Value} {cell : Cell} (hts : ∀ w ∈ hz_T, w.before args s = true) (hc : hz_Cl ci K T ty N) (hK : va_K E.1 vwCl (hz_tys E) s) (hk : k < N) (hl : k < fs.length) (q2 : cell.cls = E.1.1 ci) (q3 : cell.vm = .none) (q4 : ∀ j : Nat, j < N → cell.slots[E.1.2 ci j]? = some (vp_V (fs.map (hz_v E)) j)) (e1 : H1[E.2.2 a]? = some (cell.setSlot (E.1.2 ci k) (hz_v E v))) : va_at E.1 vwCl (E.2.2 a, hz_C E (.inr (ci, fs.set k v))) H1 := by
  have hap := va_apart (own := own) hts hc.2.1 ty hc.2.2.1 hc.2.2.2.1 hK hc.1
  refine ⟨_, hc.1, ?_⟩
  show t_OB _ _ _ _ _ (vp_V ((fs.set k v).map (hz_v E)))
  rw [List.map_set]
  exact t_OB.to (V := updV (vp_V (fs.map (hz_v E))) k (hz_v E v)) ⟨_, e1, q2, q3, t_set q4 hap hk (hz_v E v)⟩ (fun j _ => vp_updV_set (by rw [List.length_map]; exact hl) (hz_v E v) j)
section HR
variable {G : GX} {cc : ByteArray} {own nm : String} {ret : Option FieldType} {rm : Room} {ro : Option Value} {h' : HP} {pc : Nat} {L : List (Option Value)} {st : List Value} {h : HP} {cs sl : Nat}
theorem aw_gF (C : Cx G cc own nm ret rm ro h') {ci k N ix : Nat} {K : String} {T : u_T} {ty : Nat → FieldType} (hc : hz_Cl ci K T ty N) (hk : k < N) (hl : Cond.fieldLink own ix K (T k).2.1 (T k).2.2.1 ∈ hz_T) {r : Option Nat} {v : Value} (hv : v.category = 1) (hg : hz_gF h r ci k = some v) (hd : decode cc pc = .ok (.getfield ix, 3)) (kk : aw G (pc + 3) L (v :: st) h cs sl) : aw G pc L (va_rf r :: st) h cs sl := by
  obtain ⟨p, l, e, R, s, m, args, below, meth, c, Q, E, nL⟩ := G
  obtain ⟨a, fs, rfl, h1, h2, h3, h4⟩ := hz_gF_of hg
  intro c1 s1 H locs ls hW hS hls
  have hw := hz_wget (E := E) h1 h2
  rw [h3, hz_CO] at hw
  exact va_get C.1 C.2.1 C.2.2.2.2.1 hc.2.1 C.2.2.2.1 C.2.2.2.2.2.1.2.1 hW.1 _ hw hc.1 k hk (C.2.2.2.2.1 _ hl) (by rw [hc.2.2.2.2 k hk]; exact hz_sameF) (v := hz_v E v) (by rw [List.getElem?_map, h4]; rfl) hd (kk c1 (hz_s1c (hz_s1t s1) hv) H locs ls hW hS hls)
theorem aw_gI (C : Cx G cc own nm ret rm ro h') {ci k N ix : Nat} {K : String} {T : u_T} {ty : Nat → FieldType} (hc : hz_Cl ci K T ty N) (hk : k < N) (hl : Cond.fieldLink own ix K (T k).2.1 (T k).2.2.1 ∈ hz_T) {r : Option Nat} {v : Int32} (hg : hz_gI h r ci k = some v) (hd : decode cc pc = .ok (.getfield ix, 3)) (kk : aw G (pc + 3) L (.int v :: st) h cs sl) : aw G pc L (va_rf r :: st) h cs sl := aw_gF C hc hk hl rfl (hz_gI_of hg) hd kk
theorem aw_gR (C : Cx G cc own nm ret rm ro h') {ci k N ix : Nat} {K : String} {T : u_T} {ty : Nat → FieldType} (hc : hz_Cl ci K T ty N) (hk : k < N) (hl : Cond.fieldLink own ix K (T k).2.1 (T k).2.2.1 ∈ hz_T) {r v : Option Nat} (hg : hz_gR h r ci k = some v) (hd : decode cc pc = .ok (.getfield ix, 3)) (kk : aw G (pc + 3) L (va_rf v :: st) h cs sl) : aw G pc L (va_rf r :: st) h cs sl := aw_gF C hc hk hl (hz_cr v) (hz_gR_of hg) hd kk
theorem aw_pF (C : Cx G cc own nm ret rm ro h') {ci k N ix : Nat} {K : String} {T : u_T} {ty : Nat → FieldType} (hc : hz_Cl ci K T ty N) (hk : k < N) (hfin : (T k).2.2.2 = false) (hl : Cond.fieldLink own ix K (T k).2.1 (T k).2.2.1 ∈ hz_T) {r : Option Nat} {v : Value} {h1 : HP} (hf : hz_fit (ty k) v) (hg : hz_pF h r ci k v = some h1) (hd : decode cc pc = .ok (.putfield ix, 3)) (kk : aw G (pc + 3) L st h1 cs sl) : aw G pc L (v :: va_rf r :: st) h cs sl := by
  obtain ⟨p, l, e, R, s, m, args, below, meth, c, Q, E, nL⟩ := G
  obtain ⟨a, fs, rfl, g1, g2, g3, g4, rfl⟩ := hz_pF_of hg
  obtain ⟨hx, hb, -, hown, hts, ⟨hi, hK, -⟩, -⟩ := C
  intro c1 s1 H locs ls hW hS hls
  have hw := hz_wget (E := E) g1 g2
  rw [g3, hz_CO] at hw
  obtain ⟨r', q1, cell, q2, q3, q4, q5⟩ := hW.1 _ _ hw
  have hr : r' = (K, T, N) := Option.some.inj (q1.symm.trans hc.1)
  subst hr
  obtain ⟨hSl, hfc, kC, hkC, hkind⟩ := hK.1 ci _ hc.1
  obtain ⟨cf, kf, fi, f, hfi, hsl⟩ := hSl k hk
  have hlay := hts _ (hc.2.1 _ (u_in_lay hk))
  unfold u_lay at hlay
  rw [if_neg (by rw [hfin]; decide)] at hlay
  have hst := (u_facts hfc hkC (u_lays hts hc.2.1 hk) hfi).1
  have h6 := u_store hfc hkC hkind hlay hfi (hc.2.2.1 k hk) (hf E).1 (hf E).2
  have hfi' : s.fieldFound? K (T k).2.1 (T k).2.2.1 = some (cf, kf, fi, f) := by
    have := hfi
    rw [hc.2.2.2.2 k hk] at this
    exact this
  refine W.putK hx hb (f := f) ⟨hown, hts _ hl, ⟨_, _, _, hfi'⟩, hst⟩ (by rw [q3]; exact h6) q2 q4 (by rw [hsl]; exact k2_hasslot (q5 k hk)) rfl rfl hd fun H' e1 e2 e3 => ?_
  rw [hsl] at e1 ⊢
  obtain ⟨hW1, hS1⟩ := hz_upd (c := .inr (ci, fs.set k v)) (k := E.1.2 ci k) hi hW hS g1 g2 (hz_fobj (own := own) hts hc hK hk g4 q3 q4 q5 e1) e2 e3
  exact kk c1 (hz_s1t (hz_s1t s1)) H' _ ls hW1 hS1 hls
theorem aw_pFF (C : Cx G cc own "<init>" ret rm ro h') {ci k N ix : Nat} {T : u_T} {ty : Nat → FieldType} (hc : hz_Cl ci own T ty N) (hk : k < N) (hfin : (T k).2.2.2 = true) (hl : Cond.fieldLink own ix own (T k).2.1 (T k).2.2.1 ∈ hz_T) {r : Option Nat} {v : Value} {h1 : HP} (hf : hz_fit (ty k) v) (hg : hz_pF h r ci k v = some h1) (hd : decode cc pc = .ok (.putfield ix, 3)) (kk : aw G (pc + 3) L st h1 cs sl) : aw G pc L (v :: va_rf r :: st) h cs sl := by
  obtain ⟨p, l, e, R, s, m, args, below, meth, c, Q, E, nL⟩ := G
  obtain ⟨a, fs, rfl, g1, g2, g3, g4, rfl⟩ := hz_pF_of hg
  obtain ⟨hx, hb, -, hown, hts, ⟨hi, hK, -⟩, -, -, hin2, -⟩ := C
  intro c1 s1 H locs ls hW hS hls
  have hw := hz_wget (E := E) g1 g2
  rw [g3, hz_CO] at hw
  obtain ⟨r', q1, cell, q2, q3, q4, q5⟩ := hW.1 _ _ hw
  have hr : r' = (own, T, N) := Option.some.inj (q1.symm.trans hc.1)
  subst hr
  obtain ⟨hSl, hfc, kC, hkC, hkind⟩ := hK.1 ci _ hc.1
  obtain ⟨cf, kf, fi, f, hfi, hsl⟩ := hSl k hk
  have hlay := hts _ (hc.2.1 _ (u_in_lay hk))
  unfold u_lay at hlay
  rw [if_pos hfin] at hlay
  have hst := (u_facts hfc hkC (u_lays hts hc.2.1 hk) hfi).1
  have hcf : m.cls = cf := by
    obtain ⟨_, _, c', _, _, _, -, -, hf', -, -, -, hown2, -⟩ := Cond.laysFinal_spec hlay
    have e1 : c' = cf := by have := hfi.symm.trans hf'; simp at this; exact this.1.symm
    rw [hc.2.2.2.2 k hk] at hown2
    rw [← e1]; exact Option.some.inj (hown.symm.trans hown2)
  have h6 := u_fits hfc hkC hkind (Or.inr hlay) hfi (hc.2.2.1 k hk) (hf E).1 (hf E).2
  have hfi' : s.fieldFound? own (T k).2.1 (T k).2.2.1 = some (cf, kf, fi, f) := by
    have := hfi
    rw [hc.2.2.2.2 k hk] at this
    exact this
  refine W.putFinK hx hb hown (hts _ hl) hfi' hst hcf hin2 (by rw [q3]; exact h6) q2 q4 (by rw [hsl]; exact k2_hasslot (q5 k hk)) rfl rfl hd fun H' e1 e2 e3 => ?_
  rw [hsl] at e1 ⊢
  obtain ⟨hW1, hS1⟩ := hz_upd (c := .inr (ci, fs.set k v)) (k := E.1.2 ci k) hi hW hS g1 g2 (hz_fobj (own := own) hts hc hK hk g4 q3 q4 q5 e1) e2 e3
  exact kk c1 (hz_s1t (hz_s1t s1)) H' _ ls hW1 hS1 hls
theorem aw_gets (C : Cx G cc own nm ret rm ro h') {ix : Nat} {host : String} (hl : Cond.fieldLinkNest own ix "GroupCast" "NO_ACTS" "[I" host ∈ hz_N) (hd : decode cc pc = .ok (.getstatic ix, 3)) (kk : aw G (pc + 3) L (va_rf (some 0) :: st) h cs sl) : aw G pc L st h cs sl := by
  obtain ⟨p, l, e, R, s, m, args, below, meth, c, Q, E, nL⟩ := G
  obtain ⟨hx, hb, -, hown, hts, ⟨hi, hK, hN, hZ, hT, -⟩, -⟩ := C
  exact fun c1 s1 H locs ls hW hS hls => va_getsN hx hb hZ hS hown (va_Nw.use rfl (hN _ hl)) hz_sameF hd (kk c1 (hz_s1c s1 rfl) H locs ls hW hS hls)
theorem aw_alen (C : Cx G cc own nm ret rm ro h') {r : Option Nat} {v : Int32} (hg : hz_aL h r = some v) (hd : decode cc pc = .ok (.arraylength, 1)) (kk : aw G (pc + 1) L (.int v :: st) h cs sl) : aw G pc L (va_rf r :: st) h cs sl := by
  obtain ⟨p, l, e, R, s, m, args, below, meth, c, Q, E, nL⟩ := G
  obtain ⟨hx, hb, -, hown, hts, ⟨hi, hK, hN, hZ, hT, -⟩, -⟩ := C
  obtain ⟨a, rfl, ⟨rfl, rfl⟩ | ⟨t, y, ht, g1, g2, g3, rfl⟩⟩ := hz_aL_of hg
  · exact fun c1 s1 H locs ls hW hS hls => va_tlen hx hb hT hS rfl hd (kk c1 (hz_s1c (hz_s1t s1) rfl) H locs ls hW hS hls)
  · intro c1 s1 H locs ls hW hS hls
    have hw := hz_wget (E := E) g1 g2
    rw [g3] at hw
    exact va_alen hx hb hK hW.1 _ t (x := hz_A E y) hw (hz_cwl E t ht) rfl hd (kk c1 (hz_s1c (hz_s1t s1) rfl) H locs ls hW hS hls)
theorem aw_iald (C : Cx G cc own nm ret rm ro h') {r : Option Nat} {i v : Int32} (hg : hz_aI h r 0 i = some v) (hd : decode cc pc = .ok (.iaload, 1)) (kk : aw G (pc + 1) L (.int v :: st) h cs sl) : aw G pc L (.int i :: va_rf r :: st) h cs sl := by
  obtain ⟨p, l, e, R, s, m, args, below, meth, c, Q, E, nL⟩ := G
  obtain ⟨hx, hb, -, hown, hts, ⟨hi, hK, -⟩, -⟩ := C
  obtain ⟨a, n, f, rfl, g1, g2, g3, g4, rfl⟩ := hz_aI_of hg
  intro c1 s1 H locs ls hW hS hls
  have hw := hz_wget (E := E) g1 g2
  rw [g3, hz_CI] at hw
  exact va_iald hx hb hK hW.1 _ 0 hw rfl g4 hd (kk c1 (hz_s1c (hz_s1t (hz_s1t s1)) rfl) H locs ls hW hS hls)
theorem aw_bald (C : Cx G cc own nm ret rm ro h') {r : Option Nat} {i v : Int32} (hg : hz_aI h r 1 i = some v) (hd : decode cc pc = .ok (.baload, 1)) (kk : aw G (pc + 1) L (.int v :: st) h cs sl) : aw G pc L (.int i :: va_rf r :: st) h cs sl := by
  obtain ⟨p, l, e, R, s, m, args, below, meth, c, Q, E, nL⟩ := G
  obtain ⟨hx, hb, -, hown, hts, ⟨hi, hK, -⟩, -⟩ := C
  obtain ⟨a, n, f, rfl, g1, g2, g3, g4, rfl⟩ := hz_aI_of hg
  intro c1 s1 H locs ls hW hS hls
  have hw := hz_wget (E := E) g1 g2
  rw [g3, hz_CI] at hw
  exact va_zald hx hb hK hW.1 _ 1 hw rfl g4 hd (kk c1 (hz_s1c (hz_s1t (hz_s1t s1)) rfl) H locs ls hW hS hls)
theorem aw_iast (C : Cx G cc own nm ret rm ro h') {r : Option Nat} {i v : Int32} {h1 : HP} (hg : hz_aS h r 0 i v = some h1) (hd : decode cc pc = .ok (.iastore, 1)) (kk : aw G (pc + 1) L st h1 cs sl) : aw G pc L (.int v :: .int i :: va_rf r :: st) h cs sl := by
  obtain ⟨p, l, e, R, s, m, args, below, meth, c, Q, E, nL⟩ := G
  obtain ⟨hx, hb, -, hown, hts, ⟨hi, hK, -⟩, -⟩ := C
  obtain ⟨a, n, f, rfl, g1, g2, g3, g4, rfl⟩ := hz_aS_of hg
  intro c1 s1 H locs ls hW hS hls
  have hw := hz_wget (E := E) g1 g2
  rw [g3, hz_CI] at hw
  refine W.iast hx hb (hW.1 _ _ hw) ((hK.2 0 _ rfl).1 n (fun j => .int (f j))) (fun q => by cases q) (by show ¬ (i < 0 ∨ (arrV _ _ _).slots.size ≤ _); rw [arrV_size]; exact g4) rfl rfl hd fun H1 e z oq => ?_
  obtain ⟨hW1, hS1⟩ := hz_upd (c := .inl (0, n, .inl (va_up f i.toNatClampNeg (hz_nar 0 v)))) (k := i.toNatClampNeg) hi hW hS g1 g2 (by
    show H1[E.2.2 a]? = some (vp_cell (E.2.1 0) (n, .inl (va_up f i.toNatClampNeg (hz_nar 0 v))))
    rw [e]
    show some ((vp_cell (E.2.1 0) (n, .inl f)).setSlot _ _) = _
    rw [vp_cell_i, vp_cell_i, arrV_store]
    congr 2
    funext q
    by_cases hq : q = i.toNatClampNeg
    · subst hq
      simp [updV, va_up, hz_nar]
    · simp [updV, va_up, hq]) z oq
  exact kk c1 (hz_s1t (hz_s1t (hz_s1t s1))) H1 _ ls hW1 hS1 hls
theorem aw_bast (C : Cx G cc own nm ret rm ro h') {r : Option Nat} {i v : Int32} {h1 : HP} (hg : hz_aS h r 1 i v = some h1) (hd : decode cc pc = .ok (.bastore, 1)) (kk : aw G (pc + 1) L st h1 cs sl) : aw G pc L (.int v :: .int i :: va_rf r :: st) h cs sl := by
  obtain ⟨p, l, e, R, s, m, args, below, meth, c, Q, E, nL⟩ := G
  obtain ⟨hx, hb, -, hown, hts, ⟨hi, hK, -⟩, -⟩ := C
  obtain ⟨a, n, f, rfl, g1, g2, g3, g4, rfl⟩ := hz_aS_of hg
  intro c1 s1 H locs ls hW hS hls
  have hw := hz_wget (E := E) g1 g2
  rw [g3, hz_CI] at hw
  refine W.zast hx hb (hW.1 _ _ hw) ((hK.2 1 _ rfl).1 n (fun j => .int (f j))) (fun q => by cases q) (by show ¬ (i < 0 ∨ (arrV _ _ _).slots.size ≤ _); rw [arrV_size]; exact g4) rfl rfl hd fun H1 e z oq => ?_
  obtain ⟨hW1, hS1⟩ := hz_upd (c := .inl (1, n, .inl (va_up f i.toNatClampNeg (hz_nar 1 v)))) (k := i.toNatClampNeg) hi hW hS g1 g2 (by
    show H1[E.2.2 a]? = some (vp_cell (E.2.1 1) (n, .inl (va_up f i.toNatClampNeg (hz_nar 1 v))))
    rw [e]
    show some ((vp_cell (E.2.1 1) (n, .inl f)).setSlot _ _) = _
    rw [vp_cell_i, vp_cell_i, arrV_store]
    congr 2
    funext q
    by_cases hq : q = i.toNatClampNeg
    · subst hq
      simp [updV, va_up, hz_nar, narrow]
    · simp [updV, va_up, hq]) z oq
  exact kk c1 (hz_s1t (hz_s1t (hz_s1t s1))) H1 _ ls hW1 hS1 hls
theorem aw_aald (C : Cx G cc own nm ret rm ro h') {t : Nat} {K : String} (ht : t < 4) (hty : hz_ty t = .object K) {r : Option Nat} {i : Int32} {v : Option Nat} (hg : hz_aR h r t i = some v) (hd : decode cc pc = .ok (.aaload, 1)) (kk : aw G (pc + 1) L (va_rf v :: st) h cs sl) : aw G pc L (.int i :: va_rf r :: st) h cs sl := by
  obtain ⟨p, l, e, R, s, m, args, below, meth, c, Q, E, nL⟩ := G
  obtain ⟨hx, hb, -, hown, hts, ⟨hi, hK, -⟩, -⟩ := C
  obtain ⟨a, n, f, rfl, g1, g2, g3, g4, rfl⟩ := hz_aR_of hg
  intro c1 s1 H locs ls hW hS hls
  have hw := hz_wget (E := E) g1 g2
  rw [g3, hz_CQ] at hw
  have k2 := kk c1 (hz_s1c (hz_s1t (hz_s1t s1)) (hz_cr _)) H locs ls hW hS hls
  rw [List.map_cons, hz_vr] at k2
  exact va_aldq hx hb hK hW.1 _ t hw (by rw [hz_cwl E t ht, hty]) g4 hd k2
theorem aw_aast (C : Cx G cc own nm ret rm ro h') {t ci N : Nat} {K : String} {T : u_T} (ht : t < 4) (hty : hz_ty t = .object K) (hc : vwCl[ci]? = some (K, T, N)) {r v : Option Nat} {i : Int32} {h1 : HP} (hg : hz_aT h r t ci i v = some h1) (hd : decode cc pc = .ok (.aastore, 1)) (kk : aw G (pc + 1) L st h1 cs sl) : aw G pc L (va_rf v :: .int i :: va_rf r :: st) h cs sl := by
  obtain ⟨p, l, e, R, s, m, args, below, meth, c, Q, E, nL⟩ := G
  obtain ⟨hx, hb, -, hown, hts, ⟨hi, hK, -⟩, -⟩ := C
  obtain ⟨a, n, f, b, fs, rfl, g1, g2, g3, g4, rfl, b1, b2, b3, rfl⟩ := hz_aT_of hg
  intro c1 s1 H locs ls hW hS hls
  have hw := hz_wget (E := E) g1 g2
  rw [g3, hz_CQ] at hw
  have hwv := hz_wget (E := E) b1 b2
  rw [b3, hz_CO] at hwv
  have hlt : i.toNatClampNeg < n := Nat.not_le.mp fun q => g4 (Or.inr q)
  have h0 : ¬ i < 0 := fun q => g4 (Or.inl q)
  obtain ⟨r', hr', cellV, v1, v2, v3, -⟩ := hW.1 _ _ hwv
  have hcls := (hK.1 ci _ hc).2
  have htt : (hz_tys E)[t]? = some (E.2.1 t, .object K) := by rw [hz_cwl E t ht, hty]
  obtain ⟨kA, comp, k1, k2, k3, -⟩ := (hK.2 t _ htt).2
  have hcomp : comp = E.1.1 ci := Option.some.inj (k3.symm.trans hcls.1)
  subst hcomp
  obtain ⟨kC, hkC, -⟩ := hcls.2
  refine W.aast hx hb (hW.1 _ _ hw) (fun q h => by cases h) (fun h => by cases h) k1 k2 rfl hkC ⟨h0, by show _ < (arrV _ _ _).slots.size; rw [arrV_size]; exact hlt⟩ v1 (fun q h => by rw [v3] at h; cases h) (by rw [v2]; exact hkC) (by rw [v2]; exact va_assign hcls) rfl rfl hd fun H1 e z oq => ?_
  obtain ⟨hW1, hS1⟩ := hz_upd (c := .inl (t, n, .inr (.inr (.inr (.inr (va_up f i.toNatClampNeg (some b))))))) (k := i.toNatClampNeg) hi hW hS g1 g2 (by
    show H1[E.2.2 a]? = some (vp_cell _ _)
    rw [e]
    show some ((vp_cell (E.2.1 t) (n, .inr (.inr (.inr (.inr (fun j => (f j).map E.2.2)))))).setSlot _ _) = some (vp_cell (E.2.1 t) (n, .inr (.inr (.inr (.inr (fun j => (va_up f i.toNatClampNeg (some b) j).map E.2.2))))))
    rw [vp_cell_q, vp_cell_q, arrV_store]
    congr 2
    funext q
    by_cases hq : q = i.toNatClampNeg
    · subst hq
      simp [updV, va_up, va_rf]
    · simp [updV, va_up, hq]) z oq
  exact kk c1 (hz_s1t (hz_s1t (hz_s1t s1))) H1 _ ls hW1 hS1 hls
theorem aw_new (C : Cx G cc own nm ret rm ro h') {ci N ix : Nat} {K : String} {T : u_T} {ty : Nat → FieldType} (hc : hz_Cl ci K T ty N) (hl : Cond.classLink own ix K ∈ hz_T) (hin : Cond.instantiable K N ∈ hz_T) (hini : Cond.initialized K ∈ hz_T) {fs : List Value} (hfs : ∀ E : EV, ∀ j, j < N → defaultValue (ty j) = vp_V (fs.map (hz_v E)) j) (hcs : cs + 1 ≤ rm.cells) (hsl : sl + N ≤ rm.slots) (hd : decode cc pc = .ok (.new ix, 3)) (kk : aw G (pc + 3) L (va_rf (some (h.1 + 1)) :: st) (hz_nO h ci fs) (cs + 1) (sl + N)) : aw G pc L st h cs sl := by
  obtain ⟨p, l, e, R, s, m, args, below, meth, c, Q, E, nL⟩ := G
  obtain ⟨hx, hb, -, hown, hts, ⟨hi, hK, -⟩, -, -, -, rfl, -⟩ := C
  intro c1 s1 H locs ls hW hS hls
  have hKn := hK.1 ci _ hc.1
  refine W.newcK hx hb hown (hts _ hl) (hts _ hin) (hts _ hini) rfl hd hcs hsl hKn.2.1 rfl fun H1 kC hkC e1 z1 o1 => ?_
  obtain ⟨ha, hW1, hS1⟩ := hz_new (c := .inr (ci, fs)) hW hS ⟨_, hc.1, (u_born ty hts hc.2.1 hKn hkC e1 hc.2.2.1).to (hfs E)⟩ z1 o1
  have k2 := kk c1 (hz_s1c s1 rfl) H1 locs ls hW1 hS1 hls
  rw [List.map_cons, hz_vr, Option.map_some, ha] at k2
  exact k2
theorem aw_newa (C : Cx G cc own nm ret rm ro h') {t cap : Nat} {at0 : ArrayType} (ht : t < 2) (hat : newarray.typeOf at0 = hz_ty t) (hl : Cond.arrayClass (hz_ty t) ∈ hz_T) {n : Int32} {h1 : HP} (hg : hz_nA h t cap n = some h1) (hcap : cap ≤ 100000) (hcs : cs + 1 ≤ rm.cells) (hsl : sl + cap ≤ rm.slots) (hd : decode cc pc = .ok (.newarray at0, 2)) (kk : aw G (pc + 2) L (va_rf (some (h.1 + 1)) :: st) h1 (cs + 1) (sl + cap)) : aw G pc L (.int n :: st) h cs sl := by
  obtain ⟨p, l, e, R, s, m, args, below, meth, c, Q, E, nL⟩ := G
  obtain ⟨hx, hb, -, hown, hts, ⟨hi, hK, -⟩, -, -, -, rfl, -⟩ := C
  obtain ⟨g1, g2, rfl⟩ := hz_nA_of hg
  intro c1 s1 H locs ls hW hS hls
  have hdef : defaultValue (hz_ty t) = .int 0 := by
    match t, ht with
    | 0, _ => rfl
    | 1, _ => rfl
  have hbt : n.toNatClampNeg * componentBytes (newarray.typeOf at0) ≤ 536870912 := by
    rw [hat]
    have : componentBytes (hz_ty t) ≤ 8 := by
      match t, ht with
      | 0, _ => decide
      | 1, _ => decide
    calc n.toNatClampNeg * componentBytes (hz_ty t) ≤ 100000 * 8 := Nat.mul_le_mul (Nat.le_trans g2 hcap) this
      _ ≤ 536870912 := by decide
  refine va_newaK hx hb (by rw [hat]; exact hts _ hl) rfl hd rfl g1 rfl hbt hcs (Nat.le_trans (Nat.add_le_add_left g2 _) hsl) rfl fun H1 cA e1 z1 o1 hAr hNm => ?_
  rw [hat] at e1 hNm
  have hcA : cA = E.2.1 t := by
    have := (hK.2 t _ (hz_cwl E t (by omega))).2
    match t, ht with
    | 0, _ => exact Option.some.inj (hNm.symm.trans this)
    | 1, _ => exact Option.some.inj (hNm.symm.trans this)
  subst hcA
  obtain ⟨ha, hW1, hS1⟩ := hz_new (c := .inl (t, n.toNatClampNeg, .inl (fun _ => 0))) hW hS (by
    show H1[H.size]? = some (vp_cell _ (_, .inl _))
    rw [e1, vp_cell_i, hdef]) z1 o1
  refine W.widen (Nat.le_refl _) (Nat.add_le_add_left g2 _) ?_
  have k2 := kk c1 (hz_s1c (hz_s1t s1) rfl) H1 locs ls hW1 hS1 hls
  rw [List.map_cons, hz_vr, Option.map_some, ha] at k2
  exact k2
theorem aw_newq (C : Cx G cc own nm ret rm ro h') {t cap ix : Nat} {K : String} (ht : t < 4) (hty : hz_ty t = .object K) (hao : ∀ E U, hz_K E U → va_AO K U) (hl : Cond.classLink own ix K ∈ hz_T) {n : Int32} {h1 : HP} (hg : hz_nQ h t cap n = some h1) (hcap : cap ≤ 100000) (hcs : cs + 1 ≤ rm.cells) (hsl : sl + cap ≤ rm.slots) (hd : decode cc pc = .ok (.anewarray ix, 3)) (kk : aw G (pc + 3) L (va_rf (some (h.1 + 1)) :: st) h1 (cs + 1) (sl + cap)) : aw G pc L (.int n :: st) h cs sl := by
  obtain ⟨p, l, e, R, s, m, args, below, meth, c, Q, E, nL⟩ := G
  obtain ⟨hx, hb, -, hown, hts, hKK, -, -, -, rfl, -⟩ := C
  have hao := hao E s hKK
  obtain ⟨hi, hK, -⟩ := hKK
  obtain ⟨g1, g2, rfl⟩ := hz_nQ_of hg
  intro c1 s1 H locs ls hW hS hls
  refine W.anew hx hb hown (hts _ hl) (va_AO.use hao) rfl hd rfl g1 (by calc n.toNatClampNeg * 4 ≤ 100000 * 4 := Nat.mul_le_mul (Nat.le_trans g2 hcap) (Nat.le_refl _)
                                                                          _ ≤ 536870912 := by decide) hcs (Nat.le_trans (Nat.add_le_add_left g2 _) hsl) fun cA kA comp f1 f2 f3 f4 => ?_
  generalize hH1 : H.push ({ cls := cA, slots := Array.replicate n.toNatClampNeg .null, vm := .none } : Cell) = H1
  have z1 : H1.size = H.size + 1 := by rw [← hH1, Array.size_push]
  have e1 : H1[H.size]? = some (arrV cA n.toNatClampNeg (fun _ => .null)) := by rw [← hH1, Array.getElem?_push_size, ← arrV_new]
  have o1 : ∀ q : Nat, q < H.size → H1[q]? = H[q]? := fun q hq => by rw [← hH1, Array.getElem?_push, if_neg (Nat.ne_of_lt hq)]
  have htt : (hz_tys E)[t]? = some (E.2.1 t, .object K) := by rw [hz_cwl E t ht, hty]
  obtain ⟨kA', comp', -, -, -, k4⟩ := (hK.2 t _ htt).2
  have hcA : cA = E.2.1 t := Option.some.inj (f1.symm.trans k4)
  subst hcA
  obtain ⟨ha, hW1, hS1⟩ := hz_new (c := .inl (t, n.toNatClampNeg, .inr (.inr (.inr (.inr (fun _ => none)))))) hW hS (by
    show H1[H.size]? = some (vp_cell _ (_, .inr (.inr (.inr (.inr _)))))
    rw [e1, vp_cell_q]
    rfl) z1 o1
  refine W.widen (Nat.le_refl _) (Nat.add_le_add_left g2 _) ?_
  have k2 := kk c1 (hz_s1c (hz_s1t s1) rfl) H1 locs ls hW1 hS1 hls
  rw [List.map_cons, hz_vr, Option.map_some, ha] at k2
  exact k2
end HR
