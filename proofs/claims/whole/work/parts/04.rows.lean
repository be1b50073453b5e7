/-! the machine at an instruction, over an abstract heap -/
abbrev GX : Type := Program × Launch × Env × Room × State × MethodId × Array Value × List Frame × Method × Code × (State → Prop) × EV × Nat
def hz_L (E : EV) : Nat → List (Option Value) → List (Nat × Value)
  | _, [] => []
  | i, some v :: r => (i, hz_v E v) :: hz_L E (i + 1) r
  | i, none :: r => hz_L E (i + 1) r
theorem hz_Lmem {E : EV} : ∀ (L : List (Option Value)) (i k : Nat) (v : Value), L[k]? = some (some v) → (i + k, hz_v E v) ∈ hz_L E i L
  | [], i, k, v, h => by simp at h
  | none :: r, i, 0, v, h => by simp at h
  | some w :: r, i, 0, v, h => by
    simp at h
    subst h
    simp [hz_L]
  | none :: r, i, k + 1, v, h => by
    have := hz_Lmem (E := E) r (i + 1) k v (by simpa using h)
    rw [show i + (k + 1) = i + 1 + k by omega]
    exact this
  | some w :: r, i, k + 1, v, h => by
    have := hz_Lmem (E := E) r (i + 1) k v (by simpa using h)
    rw [show i + (k + 1) = i + 1 + k by omega]
    exact List.mem_cons_of_mem _ this
theorem hz_Lof {E : EV} : ∀ (L : List (Option Value)) (i : Nat) (q : Nat × Value), q ∈ hz_L E i L → ∃ (k : Nat) (v : Value), L[k]? = some (some v) ∧ q = (i + k, hz_v E v)
  | [], i, q, h => by simp [hz_L] at h
  | none :: r, i, q, h => by
    obtain ⟨k, v, h1, h2⟩ := hz_Lof (E := E) r (i + 1) q h
    exact ⟨k + 1, v, by simpa using h1, by rw [h2, show i + 1 + k = i + (k + 1) by omega]⟩
  | some w :: r, i, q, h => by
    rcases List.mem_cons.mp h with h | h
    · exact ⟨0, w, by simp, by rw [h]; rfl⟩
    · obtain ⟨k, v, h1, h2⟩ := hz_Lof (E := E) r (i + 1) q h
      exact ⟨k + 1, v, by simpa using h1, by rw [h2, show i + 1 + k = i + (k + 1) by omega]⟩
def hz_c1 (L : List (Option Value)) : Prop := ∀ (k : Nat) (v : Value), L[k]? = some (some v) → v.category = 1
def hz_s1 (st : List Value) : Prop := ∀ v ∈ st, v.category = 1
def aw (G : GX) (pc : Nat) (L : List (Option Value)) (st : List Value) (h : HP) (cs sl : Nat) : Prop := match G with
  | (p, l, e, R, s, m, args, below, meth, c, Q, E, nL) => hz_c1 L → hz_s1 st → ∀ (H : Heap) (locs : List Loc) (ls : Array Slot), hz_W E h H → va_S (hz_R E) s.heap H locs → lv_has ls nL (hz_L E 0 L) → W p l e R s m args below meth c H locs cs sl Q (F0 m pc ls (st.map (hz_v E)))
def hz_Q (E : EV) (ro : Option Value) (h' : HP) : Array Value → State → Outcome → State → Prop := fun _ st oc t => oc = .returned (ro.map (hz_v E)) ∧ hz_W E h' t.heap ∧ va_F (hz_R E) st t
def Cx (G : GX) (cc : ByteArray) (own nm : String) (ret : Option FieldType) (rm : Room) (ro : Option Value) (h' : HP) : Prop := match G with
  | (p, l, e, R, s, m, args, below, meth, c, Q, E, nL) => p.tables.exec = Jvm.exec ∧ c.code = cc ∧ c.maxLocals = nL ∧ s.vm.findClass own = some m.cls ∧ (∀ w ∈ hz_T, w.before args s = true) ∧ hz_K E s ∧ meth.locks = false ∧ meth.sig.returnType = ret ∧ meth.name = nm ∧ R = rm ∧ Q = MQ below (hz_Q E ro h') args s rm.cells rm.slots (hz_R E)
/-- a method's contract: from a heap h, with these arguments, it returns ro and leaves h' -/
def Ct (l : Launch) (y : MethodName) (cc : ByteArray) (maxL : Nat) (ret : Option FieldType) (rm : Room) (avs : List Value) (ro : Option Value) (h h' : HP) : Prop :=
  ∀ E : EV, Met l y (.code y cc maxL ret :: hz_T) rm (va_Pc (avs.map (hz_v E)) (fun U => hz_W E h U.heap ∧ hz_K E U)) (hz_Q E ro h') rm.cells rm.slots (hz_R E)
theorem hz_ld {E : EV} {ls : Array Slot} {nL k : Nat} {L : List (Option Value)} {v : Value} (hl : lv_has ls nL (hz_L E 0 L)) (hk : L[k]? = some (some v)) : ls[k]? = some (.val (hz_v E v)) := by
  have := hl.2.2 _ (hz_Lmem (E := E) L 0 k v hk)
  simpa using this
theorem hz_set {E : EV} {ls : Array Slot} {nL k : Nat} {L : List (Option Value)} {v : Value} (hc : hz_c1 L) (hl : lv_has ls nL ((k, hz_v E v) :: (hz_L E 0 L).filter (fun q => !(q.1 == k) && !(q.1 + 1 == k && q.2.category == 2)))) : lv_has ls nL (hz_L E 0 (L.set k (some v))) := by
  refine ⟨hl.1, hl.2.1, fun q hq => ?_⟩
  obtain ⟨j, w, h1, h2⟩ := hz_Lof (E := E) _ 0 q hq
  subst h2
  rw [List.getElem?_set] at h1
  by_cases hj : k = j
  · subst hj
    simp at h1
    obtain ⟨-, rfl⟩ := h1
    have := hl.2.2 _ (List.mem_cons_self (a := (k, hz_v E v)))
    simpa using this
  · rw [if_neg hj] at h1
    have hm := hz_Lmem (E := E) L 0 j w h1
    have hcat := hc j w h1
    refine hl.2.2 _ (List.mem_cons_of_mem _ (List.mem_filter.mpr ⟨hm, ?_⟩))
    simp [hz_vc, hcat]
    omega
theorem hz_c1set {L : List (Option Value)} {k : Nat} {v : Value} (h : hz_c1 L) (hv : v.category = 1) : hz_c1 (L.set k (some v)) := by
  intro j w hj
  rw [List.getElem?_set] at hj
  by_cases e : k = j
  · rw [if_pos e] at hj
    split at hj
    · cases hj; exact hv
    · cases hj
  · rw [if_neg e] at hj
    exact h j w hj
theorem hz_s1c {st : List Value} {v : Value} (h : hz_s1 st) (hv : v.category = 1) : hz_s1 (v :: st) := fun w hw => (List.mem_cons.mp hw).elim (fun e => e ▸ hv) (h w)
theorem hz_s1t {st : List Value} {v : Value} (h : hz_s1 (v :: st)) : hz_s1 st := fun w hw => h w (List.mem_cons_of_mem _ hw)
theorem hz_s1h {st : List Value} {v : Value} (h : hz_s1 (v :: st)) : v.category = 1 := h v List.mem_cons_self
def hz_sub : List (Option Value) → List (Option Value) → Prop
  | [], _ => True
  | none :: a, _ :: b => hz_sub a b
  | some v :: a, some w :: b => v = w ∧ hz_sub a b
  | _, _ => False
theorem hz_subat : ∀ (a b : List (Option Value)), hz_sub a b → ∀ (k : Nat) (v : Value), a[k]? = some (some v) → b[k]? = some (some v)
  | [], b, _, k, v, h => by simp at h
  | none :: a, [], hs, k, v, h => by exact absurd hs (by simp [hz_sub])
  | none :: a, w :: b, hs, 0, v, h => by simp at h
  | none :: a, w :: b, hs, k + 1, v, h => by simpa using hz_subat a b hs k v (by simpa using h)
  | some x :: a, [], hs, k, v, h => by exact absurd hs (by simp [hz_sub])
  | some x :: a, none :: b, hs, k, v, h => by exact absurd hs (by simp [hz_sub])
  | some x :: a, some w :: b, hs, 0, v, h => by
    obtain ⟨rfl, -⟩ := hs
    exact h
  | some x :: a, some w :: b, hs, k + 1, v, h => by simpa using hz_subat a b hs.2 k v (by simpa using h)
section RW
variable {G : GX} {cc : ByteArray} {own nm : String} {ret : Option FieldType} {rm : Room} {ro : Option Value} {h' : HP} {pc : Nat} {L : List (Option Value)} {st : List Value} {h : HP} {cs sl : Nat}
theorem aw_loc {L' : List (Option Value)} (hs : hz_sub L' L) (k : aw G pc L' st h cs sl) : aw G pc L st h cs sl := by
  obtain ⟨p, l, e, R, s, m, args, below, meth, c, Q, E, nL⟩ := G
  intro c1 s1 H locs ls hW hS hl
  refine k (fun j v hj => c1 j v (hz_subat _ _ hs j v hj)) s1 H locs ls hW hS ⟨hl.1, hl.2.1, fun q hq => ?_⟩
  obtain ⟨j, w, h1, h2⟩ := hz_Lof (E := E) _ 0 q hq
  subst h2
  exact hl.2.2 _ (hz_Lmem (E := E) L 0 j w (hz_subat _ _ hs j w h1))
theorem aw_wid {cs' sl' : Nat} (k : aw G pc L st h cs' sl') (h1 : cs ≤ cs') (h2 : sl ≤ sl') : aw G pc L st h cs sl := by
  obtain ⟨p, l, e, R, s, m, args, below, meth, c, Q, E, nL⟩ := G
  exact fun c1 s1 H locs ls hW hS hl => W.widen h1 h2 (k c1 s1 H locs ls hW hS hl)
theorem aw_iconst (C : Cx G cc own nm ret rm ro h') {n : Int} {v : Int32} (hd : decode cc pc = .ok (.iconst n, 1)) (hv : Int32.ofInt n = v) (k : aw G (pc + 1) L (.int v :: st) h cs sl) : aw G pc L st h cs sl := by
  obtain ⟨p, l, e, R, s, m, args, below, meth, c, Q, E, nL⟩ := G
  exact fun c1 s1 H locs ls hW hS hl => lv_iconst C.1 C.2.1 hd hv (k c1 (hz_s1c s1 rfl) H locs ls hW hS hl)
theorem aw_bipush (C : Cx G cc own nm ret rm ro h') {n : Int} {v : Int32} (hd : decode cc pc = .ok (.bipush n, 2)) (hv : (Int8.ofInt n).toInt32 = v) (k : aw G (pc + 2) L (.int v :: st) h cs sl) : aw G pc L st h cs sl := by
  obtain ⟨p, l, e, R, s, m, args, below, meth, c, Q, E, nL⟩ := G
  exact fun c1 s1 H locs ls hW hS hl => lv_bipush C.1 C.2.1 hd hv (k c1 (hz_s1c s1 rfl) H locs ls hW hS hl)
theorem aw_sipush (C : Cx G cc own nm ret rm ro h') {n : Int} {v : Int32} (hd : decode cc pc = .ok (.sipush n, 3)) (hv : (Int16.ofInt n).toInt32 = v) (k : aw G (pc + 3) L (.int v :: st) h cs sl) : aw G pc L st h cs sl := by
  obtain ⟨p, l, e, R, s, m, args, below, meth, c, Q, E, nL⟩ := G
  exact fun c1 s1 H locs ls hW hS hl => lv_sipush C.1 C.2.1 hd hv (k c1 (hz_s1c s1 rfl) H locs ls hW hS hl)
theorem aw_ldc (C : Cx G cc own nm ret rm ro h') {ix : Nat} {v : Int32} (hw : Cond.constant own ix v ∈ hz_T) (hd : decode cc pc = .ok (.ldc ix, 2)) (k : aw G (pc + 2) L (.int v :: st) h cs sl) : aw G pc L st h cs sl := by
  obtain ⟨p, l, e, R, s, m, args, below, meth, c, Q, E, nL⟩ := G
  exact fun c1 s1 H locs ls hW hS hl => lv_ldc C.1 C.2.1 C.2.2.2.1 (C.2.2.2.2.1 _ hw) hd (k c1 (hz_s1c s1 rfl) H locs ls hW hS hl)
theorem aw_ldcw (C : Cx G cc own nm ret rm ro h') {ix : Nat} {v : Int32} (hw : Cond.constant own ix v ∈ hz_T) (hd : decode cc pc = .ok (.ldc_w ix, 3)) (k : aw G (pc + 3) L (.int v :: st) h cs sl) : aw G pc L st h cs sl := by
  obtain ⟨p, l, e, R, s, m, args, below, meth, c, Q, E, nL⟩ := G
  exact fun c1 s1 H locs ls hW hS hl => lv_ldcw C.1 C.2.1 C.2.2.2.1 (C.2.2.2.2.1 _ hw) hd (k c1 (hz_s1c s1 rfl) H locs ls hW hS hl)
theorem aw_null (C : Cx G cc own nm ret rm ro h') (hd : decode cc pc = .ok (.aconst_null, 1)) (k : aw G (pc + 1) L (va_rf none :: st) h cs sl) : aw G pc L st h cs sl := by
  obtain ⟨p, l, e, R, s, m, args, below, meth, c, Q, E, nL⟩ := G
  exact fun c1 s1 H locs ls hW hS hl => lv_null C.1 C.2.1 hd (k c1 (hz_s1c s1 rfl) H locs ls hW hS hl)
theorem aw_iload_n (C : Cx G cc own nm ret rm ro h') {i : Fin 4} {x : Int32} (hd : decode cc pc = .ok (.iload_n i, 1)) (hl : L[(i : Nat)]? = some (some (.int x))) (k : aw G (pc + 1) L (.int x :: st) h cs sl) : aw G pc L st h cs sl := by
  obtain ⟨p, l, e, R, s, m, args, below, meth, c, Q, E, nL⟩ := G
  exact fun c1 s1 H locs ls hW hS hls => lv_iload_n C.1 C.2.1 hd rfl (hz_ld hls hl) (k c1 (hz_s1c s1 rfl) H locs ls hW hS hls)
theorem aw_iload (C : Cx G cc own nm ret rm ro h') {i : Nat} {x : Int32} (hd : decode cc pc = .ok (.iload i, 2)) (hl : L[i]? = some (some (.int x))) (k : aw G (pc + 2) L (.int x :: st) h cs sl) : aw G pc L st h cs sl := by
  obtain ⟨p, l, e, R, s, m, args, below, meth, c, Q, E, nL⟩ := G
  exact fun c1 s1 H locs ls hW hS hls => lv_iload C.1 C.2.1 hd (hz_ld hls hl) (k c1 (hz_s1c s1 rfl) H locs ls hW hS hls)
theorem aw_aload_n (C : Cx G cc own nm ret rm ro h') {i : Fin 4} {x : Option Nat} (hd : decode cc pc = .ok (.aload_n i, 1)) (hl : L[(i : Nat)]? = some (some (va_rf x))) (k : aw G (pc + 1) L (va_rf x :: st) h cs sl) : aw G pc L st h cs sl := by
  obtain ⟨p, l, e, R, s, m, args, below, meth, c, Q, E, nL⟩ := G
  cases x with
  | none => exact fun c1 s1 H locs ls hW hS hls => lv_aload_nN C.1 C.2.1 hd rfl (hz_ld hls hl) (k c1 (hz_s1c s1 rfl) H locs ls hW hS hls)
  | some x => exact fun c1 s1 H locs ls hW hS hls => lv_aload_n C.1 C.2.1 hd rfl (hz_ld hls hl) (k c1 (hz_s1c s1 rfl) H locs ls hW hS hls)
theorem aw_aload (C : Cx G cc own nm ret rm ro h') {i : Nat} {x : Option Nat} (hd : decode cc pc = .ok (.aload i, 2)) (hl : L[i]? = some (some (va_rf x))) (k : aw G (pc + 2) L (va_rf x :: st) h cs sl) : aw G pc L st h cs sl := by
  obtain ⟨p, l, e, R, s, m, args, below, meth, c, Q, E, nL⟩ := G
  cases x with
  | none => exact fun c1 s1 H locs ls hW hS hls => lv_aloadN C.1 C.2.1 hd (hz_ld hls hl) (k c1 (hz_s1c s1 rfl) H locs ls hW hS hls)
  | some x => exact fun c1 s1 H locs ls hW hS hls => lv_aload C.1 C.2.1 hd (hz_ld hls hl) (k c1 (hz_s1c s1 rfl) H locs ls hW hS hls)
theorem aw_istore_n (C : Cx G cc own nm ret rm ro h') {L' : List (Option Value)} {i : Fin 4} {x : Int32} (hd : decode cc pc = .ok (.istore_n i, 1)) (hn : (i : Nat) < G.2.2.2.2.2.2.2.2.2.2.2.2) (hL : L.set i (some (.int x)) = L') (k : aw G (pc + 1) L' st h cs sl) : aw G pc L (.int x :: st) h cs sl := by
  subst hL
  obtain ⟨p, l, e, R, s, m, args, below, meth, c, Q, E, nL⟩ := G
  exact fun c1 s1 H locs ls hW hS hls => lv_istore_n C.1 C.2.1 hd rfl hls hn rfl (fun ls hls => k (hz_c1set c1 rfl) (hz_s1t s1) H locs ls hW hS (hz_set (v := .int x) c1 hls))
theorem aw_istore (C : Cx G cc own nm ret rm ro h') {L' : List (Option Value)} {i : Nat} {x : Int32} (hd : decode cc pc = .ok (.istore i, 2)) (hn : i < G.2.2.2.2.2.2.2.2.2.2.2.2) (hL : L.set i (some (.int x)) = L') (k : aw G (pc + 2) L' st h cs sl) : aw G pc L (.int x :: st) h cs sl := by
  subst hL
  obtain ⟨p, l, e, R, s, m, args, below, meth, c, Q, E, nL⟩ := G
  exact fun c1 s1 H locs ls hW hS hls => lv_istore C.1 C.2.1 hd hls hn rfl (fun ls hls => k (hz_c1set c1 rfl) (hz_s1t s1) H locs ls hW hS (hz_set (v := .int x) c1 hls))
theorem aw_astore_n (C : Cx G cc own nm ret rm ro h') {L' : List (Option Value)} {i : Fin 4} {x : Option Nat} (hd : decode cc pc = .ok (.astore_n i, 1)) (hn : (i : Nat) < G.2.2.2.2.2.2.2.2.2.2.2.2) (hL : L.set i (some (va_rf x)) = L') (k : aw G (pc + 1) L' st h cs sl) : aw G pc L (va_rf x :: st) h cs sl := by
  subst hL
  obtain ⟨p, l, e, R, s, m, args, below, meth, c, Q, E, nL⟩ := G
  cases x with
  | none => exact fun c1 s1 H locs ls hW hS hls => lv_astore_nN C.1 C.2.1 hd rfl hls hn rfl (fun ls hls => k (hz_c1set c1 rfl) (hz_s1t s1) H locs ls hW hS (hz_set (v := .null) c1 hls))
  | some x => exact fun c1 s1 H locs ls hW hS hls => lv_astore_n C.1 C.2.1 hd rfl hls hn rfl (fun ls hls => k (hz_c1set c1 rfl) (hz_s1t s1) H locs ls hW hS (hz_set (v := .ref x) c1 hls))
theorem aw_astore (C : Cx G cc own nm ret rm ro h') {L' : List (Option Value)} {i : Nat} {x : Option Nat} (hd : decode cc pc = .ok (.astore i, 2)) (hn : i < G.2.2.2.2.2.2.2.2.2.2.2.2) (hL : L.set i (some (va_rf x)) = L') (k : aw G (pc + 2) L' st h cs sl) : aw G pc L (va_rf x :: st) h cs sl := by
  subst hL
  obtain ⟨p, l, e, R, s, m, args, below, meth, c, Q, E, nL⟩ := G
  cases x with
  | none => exact fun c1 s1 H locs ls hW hS hls => lv_astoreN C.1 C.2.1 hd hls hn rfl (fun ls hls => k (hz_c1set c1 rfl) (hz_s1t s1) H locs ls hW hS (hz_set (v := .null) c1 hls))
  | some x => exact fun c1 s1 H locs ls hW hS hls => lv_astore C.1 C.2.1 hd hls hn rfl (fun ls hls => k (hz_c1set c1 rfl) (hz_s1t s1) H locs ls hW hS (hz_set (v := .ref x) c1 hls))
theorem aw_iinc (C : Cx G cc own nm ret rm ro h') {L' : List (Option Value)} {i : Nat} {n : Int} {x d : Int32} (hd : decode cc pc = .ok (.iinc i n, 3)) (hn : i < G.2.2.2.2.2.2.2.2.2.2.2.2) (hx : L[i]? = some (some (.int x))) (hv : Int32.ofInt n = d) (hL : L.set i (some (.int (x + d))) = L') (k : aw G (pc + 3) L' st h cs sl) : aw G pc L st h cs sl := by
  subst hL
  subst hv
  obtain ⟨p, l, e, R, s, m, args, below, meth, c, Q, E, nL⟩ := G
  intro c1 s1 H locs ls hW hS hls
  have hm := hz_Lmem (E := E) L 0 i _ hx
  rw [Nat.zero_add] at hm
  obtain ⟨j, hj⟩ := List.getElem?_of_mem hm
  exact lv_iinc C.1 C.2.1 hd hls hj rfl hn rfl (fun ls hls => k (hz_c1set c1 rfl) s1 H locs ls hW hS (hz_set (v := .int _) c1 hls))
theorem aw_dup (C : Cx G cc own nm ret rm ro h') {v : Value} (hd : decode cc pc = .ok (.dup, 1)) (k : aw G (pc + 1) L (v :: v :: st) h cs sl) : aw G pc L (v :: st) h cs sl := by
  obtain ⟨p, l, e, R, s, m, args, below, meth, c, Q, E, nL⟩ := G
  exact fun c1 s1 H locs ls hW hS hls => lv_dup C.1 C.2.1 hd ((hz_vc E v).trans (hz_s1h s1)) (k c1 (hz_s1c s1 (hz_s1h s1)) H locs ls hW hS hls)
theorem aw_pop (C : Cx G cc own nm ret rm ro h') {v : Value} (hd : decode cc pc = .ok (.pop, 1)) (k : aw G (pc + 1) L st h cs sl) : aw G pc L (v :: st) h cs sl := by
  obtain ⟨p, l, e, R, s, m, args, below, meth, c, Q, E, nL⟩ := G
  exact fun c1 s1 H locs ls hW hS hls => lv_pop C.1 C.2.1 hd ((hz_vc E v).trans (hz_s1h s1)) (k c1 (hz_s1t s1) H locs ls hW hS hls)
theorem aw_dup2 (C : Cx G cc own nm ret rm ro h') {v w : Value} (hd : decode cc pc = .ok (.dup2, 1)) (k : aw G (pc + 1) L (v :: w :: v :: w :: st) h cs sl) : aw G pc L (v :: w :: st) h cs sl := by
  obtain ⟨p, l, e, R, s, m, args, below, meth, c, Q, E, nL⟩ := G
  exact fun c1 s1 H locs ls hW hS hls => lv_dup2_11 C.1 C.2.1 hd ((hz_vc E v).trans (hz_s1h s1)) ((hz_vc E w).trans (hz_s1h (hz_s1t s1))) (k c1 (hz_s1c (hz_s1c s1 (hz_s1h (hz_s1t s1))) (hz_s1h s1)) H locs ls hW hS hls)
theorem aw_dup_x1 (C : Cx G cc own nm ret rm ro h') {v w : Value} (hd : decode cc pc = .ok (.dup_x1, 1)) (k : aw G (pc + 1) L (v :: w :: v :: st) h cs sl) : aw G pc L (v :: w :: st) h cs sl := by
  obtain ⟨p, l, e, R, s, m, args, below, meth, c, Q, E, nL⟩ := G
  exact fun c1 s1 H locs ls hW hS hls => lv_dup_x1 C.1 C.2.1 hd ((hz_vc E v).trans (hz_s1h s1)) ((hz_vc E w).trans (hz_s1h (hz_s1t s1))) (k c1 (hz_s1c (hz_s1c (hz_s1c (hz_s1t (hz_s1t s1)) (hz_s1h s1)) (hz_s1h (hz_s1t s1))) (hz_s1h s1)) H locs ls hW hS hls)
theorem aw_dup_x2 (C : Cx G cc own nm ret rm ro h') {v w z : Value} (hd : decode cc pc = .ok (.dup_x2, 1)) (k : aw G (pc + 1) L (v :: w :: z :: v :: st) h cs sl) : aw G pc L (v :: w :: z :: st) h cs sl := by
  obtain ⟨p, l, e, R, s, m, args, below, meth, c, Q, E, nL⟩ := G
  exact fun c1 s1 H locs ls hW hS hls => lv_dup_x2 C.1 C.2.1 hd ((hz_vc E v).trans (hz_s1h s1)) ((hz_vc E w).trans (hz_s1h (hz_s1t s1))) ((hz_vc E z).trans (hz_s1h (hz_s1t (hz_s1t s1)))) (k c1 (hz_s1c (hz_s1c (hz_s1c (hz_s1c (hz_s1t (hz_s1t (hz_s1t s1))) (hz_s1h s1)) (hz_s1h (hz_s1t (hz_s1t s1)))) (hz_s1h (hz_s1t s1))) (hz_s1h s1)) H locs ls hW hS hls)
theorem aw_iadd (C : Cx G cc own nm ret rm ro h') {x y : Int32} (hd : decode cc pc = .ok (.iadd, 1)) (k : aw G (pc + 1) L (.int (x + y) :: st) h cs sl) : aw G pc L (.int y :: .int x :: st) h cs sl := by
  obtain ⟨p, l, e, R, s, m, args, below, meth, c, Q, E, nL⟩ := G
  exact fun c1 s1 H locs ls hW hS hls => lv_iadd C.1 C.2.1 hd (k c1 (hz_s1c (hz_s1t (hz_s1t s1)) rfl) H locs ls hW hS hls)
theorem aw_isub (C : Cx G cc own nm ret rm ro h') {x y : Int32} (hd : decode cc pc = .ok (.isub, 1)) (k : aw G (pc + 1) L (.int (x - y) :: st) h cs sl) : aw G pc L (.int y :: .int x :: st) h cs sl := by
  obtain ⟨p, l, e, R, s, m, args, below, meth, c, Q, E, nL⟩ := G
  exact fun c1 s1 H locs ls hW hS hls => lv_isub C.1 C.2.1 hd (k c1 (hz_s1c (hz_s1t (hz_s1t s1)) rfl) H locs ls hW hS hls)
theorem aw_imul (C : Cx G cc own nm ret rm ro h') {x y : Int32} (hd : decode cc pc = .ok (.imul, 1)) (k : aw G (pc + 1) L (.int (x * y) :: st) h cs sl) : aw G pc L (.int y :: .int x :: st) h cs sl := by
  obtain ⟨p, l, e, R, s, m, args, below, meth, c, Q, E, nL⟩ := G
  exact fun c1 s1 H locs ls hW hS hls => lv_imul C.1 C.2.1 hd (k c1 (hz_s1c (hz_s1t (hz_s1t s1)) rfl) H locs ls hW hS hls)
theorem aw_iand (C : Cx G cc own nm ret rm ro h') {x y : Int32} (hd : decode cc pc = .ok (.iand, 1)) (k : aw G (pc + 1) L (.int (x &&& y) :: st) h cs sl) : aw G pc L (.int y :: .int x :: st) h cs sl := by
  obtain ⟨p, l, e, R, s, m, args, below, meth, c, Q, E, nL⟩ := G
  exact fun c1 s1 H locs ls hW hS hls => lv_iand C.1 C.2.1 hd (k c1 (hz_s1c (hz_s1t (hz_s1t s1)) rfl) H locs ls hW hS hls)
theorem aw_ior (C : Cx G cc own nm ret rm ro h') {x y : Int32} (hd : decode cc pc = .ok (.ior, 1)) (k : aw G (pc + 1) L (.int (x ||| y) :: st) h cs sl) : aw G pc L (.int y :: .int x :: st) h cs sl := by
  obtain ⟨p, l, e, R, s, m, args, below, meth, c, Q, E, nL⟩ := G
  exact fun c1 s1 H locs ls hW hS hls => lv_ior C.1 C.2.1 hd (k c1 (hz_s1c (hz_s1t (hz_s1t s1)) rfl) H locs ls hW hS hls)
theorem aw_ixor (C : Cx G cc own nm ret rm ro h') {x y : Int32} (hd : decode cc pc = .ok (.ixor, 1)) (k : aw G (pc + 1) L (.int (x ^^^ y) :: st) h cs sl) : aw G pc L (.int y :: .int x :: st) h cs sl := by
  obtain ⟨p, l, e, R, s, m, args, below, meth, c, Q, E, nL⟩ := G
  exact fun c1 s1 H locs ls hW hS hls => lv_ixor C.1 C.2.1 hd (k c1 (hz_s1c (hz_s1t (hz_s1t s1)) rfl) H locs ls hW hS hls)
theorem aw_ishl (C : Cx G cc own nm ret rm ro h') {x y : Int32} (hd : decode cc pc = .ok (.ishl, 1)) (k : aw G (pc + 1) L (.int (x <<< (y &&& 31)) :: st) h cs sl) : aw G pc L (.int y :: .int x :: st) h cs sl := by
  obtain ⟨p, l, e, R, s, m, args, below, meth, c, Q, E, nL⟩ := G
  exact fun c1 s1 H locs ls hW hS hls => lv_ishl C.1 C.2.1 hd (k c1 (hz_s1c (hz_s1t (hz_s1t s1)) rfl) H locs ls hW hS hls)
theorem aw_ishr (C : Cx G cc own nm ret rm ro h') {x y : Int32} (hd : decode cc pc = .ok (.ishr, 1)) (k : aw G (pc + 1) L (.int (x >>> (y &&& 31)) :: st) h cs sl) : aw G pc L (.int y :: .int x :: st) h cs sl := by
  obtain ⟨p, l, e, R, s, m, args, below, meth, c, Q, E, nL⟩ := G
  exact fun c1 s1 H locs ls hW hS hls => lv_ishr C.1 C.2.1 hd (k c1 (hz_s1c (hz_s1t (hz_s1t s1)) rfl) H locs ls hW hS hls)
theorem aw_idiv (C : Cx G cc own nm ret rm ro h') {x y : Int32} (hd : decode cc pc = .ok (.idiv, 1)) (hne : ¬ y = 0) (k : aw G (pc + 1) L (.int (x / y) :: st) h cs sl) : aw G pc L (.int y :: .int x :: st) h cs sl := by
  obtain ⟨p, l, e, R, s, m, args, below, meth, c, Q, E, nL⟩ := G
  exact fun c1 s1 H locs ls hW hS hls => lv_idiv C.1 C.2.1 hd hne (k c1 (hz_s1c (hz_s1t (hz_s1t s1)) rfl) H locs ls hW hS hls)
theorem aw_irem (C : Cx G cc own nm ret rm ro h') {x y : Int32} (hd : decode cc pc = .ok (.irem, 1)) (hne : ¬ y = 0) (k : aw G (pc + 1) L (.int (x - x / y * y) :: st) h cs sl) : aw G pc L (.int y :: .int x :: st) h cs sl := by
  obtain ⟨p, l, e, R, s, m, args, below, meth, c, Q, E, nL⟩ := G
  exact fun c1 s1 H locs ls hW hS hls => lv_irem C.1 C.2.1 hd hne (k c1 (hz_s1c (hz_s1t (hz_s1t s1)) rfl) H locs ls hW hS hls)
def hz_ushr (x y : Int32) : Int32 := (x.toUInt32 >>> (y.toUInt32 &&& Int32.toUInt32 31)).toInt32
theorem aw_iushr (C : Cx G cc own nm ret rm ro h') {x y : Int32} (hd : decode cc pc = .ok (.iushr, 1)) (k : aw G (pc + 1) L (.int (hz_ushr x y) :: st) h cs sl) : aw G pc L (.int y :: .int x :: st) h cs sl := by
  obtain ⟨p, l, e, R, s, m, args, below, meth, c, Q, E, nL⟩ := G
  exact fun c1 s1 H locs ls hW hS hls => lv_iushr C.1 C.2.1 hd rfl (k c1 (hz_s1c (hz_s1t (hz_s1t s1)) rfl) H locs ls hW hS hls)
theorem aw_ineg (C : Cx G cc own nm ret rm ro h') {x : Int32} (hd : decode cc pc = .ok (.ineg, 1)) (k : aw G (pc + 1) L (.int (-x) :: st) h cs sl) : aw G pc L (.int x :: st) h cs sl := by
  obtain ⟨p, l, e, R, s, m, args, below, meth, c, Q, E, nL⟩ := G
  exact fun c1 s1 H locs ls hW hS hls => lv_ineg C.1 C.2.1 hd (k c1 (hz_s1c (hz_s1t s1) rfl) H locs ls hW hS hls)
theorem aw_goto (C : Cx G cc own nm ret rm ro h') {off : Int} {tgt : Nat} (hd : decode cc pc = .ok (.goto off, 3)) (ht : (pc : Int) + off = (tgt : Int)) (k : aw G tgt L st h cs sl) : aw G pc L st h cs sl := by
  obtain ⟨p, l, e, R, s, m, args, below, meth, c, Q, E, nL⟩ := G
  exact fun c1 s1 H locs ls hW hS hls => lv_goto C.1 C.2.1 hd ht (k c1 s1 H locs ls hW hS hls)
theorem aw_if_eq (C : Cx G cc own nm ret rm ro h') {x : Int32} {off : Int} {tgt : Nat} (hd : decode cc pc = .ok (.ifCond .eq off, 3)) (ht : (pc : Int) + off = (tgt : Int)) (kt : x = 0 → aw G tgt L st h cs sl) (kf : ¬ x = 0 → aw G (pc + 3) L st h cs sl) : aw G pc L (.int x :: st) h cs sl := by
  obtain ⟨p, l, e, R, s, m, args, below, meth, c, Q, E, nL⟩ := G
  exact fun c1 s1 H locs ls hW hS hls => lv_if_eq C.1 C.2.1 hd ht (fun z => kt z c1 (hz_s1t s1) H locs ls hW hS hls) (fun z => kf z c1 (hz_s1t s1) H locs ls hW hS hls)
theorem aw_icmp_eq (C : Cx G cc own nm ret rm ro h') {x y : Int32} {off : Int} {tgt : Nat} (hd : decode cc pc = .ok (.if_icmp .eq off, 3)) (ht : (pc : Int) + off = (tgt : Int)) (kt : x = y → aw G tgt L st h cs sl) (kf : ¬ x = y → aw G (pc + 3) L st h cs sl) : aw G pc L (.int y :: .int x :: st) h cs sl := by
  obtain ⟨p, l, e, R, s, m, args, below, meth, c, Q, E, nL⟩ := G
  exact fun c1 s1 H locs ls hW hS hls => lv_icmp_eq C.1 C.2.1 hd ht (fun z => kt z c1 (hz_s1t (hz_s1t s1)) H locs ls hW hS hls) (fun z => kf z c1 (hz_s1t (hz_s1t s1)) H locs ls hW hS hls)
theorem aw_if_ne (C : Cx G cc own nm ret rm ro h') {x : Int32} {off : Int} {tgt : Nat} (hd : decode cc pc = .ok (.ifCond .ne off, 3)) (ht : (pc : Int) + off = (tgt : Int)) (kt : ¬ x = 0 → aw G tgt L st h cs sl) (kf : x = 0 → aw G (pc + 3) L st h cs sl) : aw G pc L (.int x :: st) h cs sl := by
  obtain ⟨p, l, e, R, s, m, args, below, meth, c, Q, E, nL⟩ := G
  exact fun c1 s1 H locs ls hW hS hls => lv_if_ne C.1 C.2.1 hd ht (fun z => kt z c1 (hz_s1t s1) H locs ls hW hS hls) (fun z => kf z c1 (hz_s1t s1) H locs ls hW hS hls)
theorem aw_icmp_ne (C : Cx G cc own nm ret rm ro h') {x y : Int32} {off : Int} {tgt : Nat} (hd : decode cc pc = .ok (.if_icmp .ne off, 3)) (ht : (pc : Int) + off = (tgt : Int)) (kt : ¬ x = y → aw G tgt L st h cs sl) (kf : x = y → aw G (pc + 3) L st h cs sl) : aw G pc L (.int y :: .int x :: st) h cs sl := by
  obtain ⟨p, l, e, R, s, m, args, below, meth, c, Q, E, nL⟩ := G
  exact fun c1 s1 H locs ls hW hS hls => lv_icmp_ne C.1 C.2.1 hd ht (fun z => kt z c1 (hz_s1t (hz_s1t s1)) H locs ls hW hS hls) (fun z => kf z c1 (hz_s1t (hz_s1t s1)) H locs ls hW hS hls)
theorem aw_if_lt (C : Cx G cc own nm ret rm ro h') {x : Int32} {off : Int} {tgt : Nat} (hd : decode cc pc = .ok (.ifCond .lt off, 3)) (ht : (pc : Int) + off = (tgt : Int)) (kt : x < 0 → aw G tgt L st h cs sl) (kf : ¬ x < 0 → aw G (pc + 3) L st h cs sl) : aw G pc L (.int x :: st) h cs sl := by
  obtain ⟨p, l, e, R, s, m, args, below, meth, c, Q, E, nL⟩ := G
  exact fun c1 s1 H locs ls hW hS hls => lv_if_lt C.1 C.2.1 hd ht (fun z => kt z c1 (hz_s1t s1) H locs ls hW hS hls) (fun z => kf z c1 (hz_s1t s1) H locs ls hW hS hls)
theorem aw_icmp_lt (C : Cx G cc own nm ret rm ro h') {x y : Int32} {off : Int} {tgt : Nat} (hd : decode cc pc = .ok (.if_icmp .lt off, 3)) (ht : (pc : Int) + off = (tgt : Int)) (kt : x < y → aw G tgt L st h cs sl) (kf : ¬ x < y → aw G (pc + 3) L st h cs sl) : aw G pc L (.int y :: .int x :: st) h cs sl := by
  obtain ⟨p, l, e, R, s, m, args, below, meth, c, Q, E, nL⟩ := G
  exact fun c1 s1 H locs ls hW hS hls => lv_icmp_lt C.1 C.2.1 hd ht (fun z => kt z c1 (hz_s1t (hz_s1t s1)) H locs ls hW hS hls) (fun z => kf z c1 (hz_s1t (hz_s1t s1)) H locs ls hW hS hls)
theorem aw_if_ge (C : Cx G cc own nm ret rm ro h') {x : Int32} {off : Int} {tgt : Nat} (hd : decode cc pc = .ok (.ifCond .ge off, 3)) (ht : (pc : Int) + off = (tgt : Int)) (kt : 0 ≤ x → aw G tgt L st h cs sl) (kf : ¬ 0 ≤ x → aw G (pc + 3) L st h cs sl) : aw G pc L (.int x :: st) h cs sl := by
  obtain ⟨p, l, e, R, s, m, args, below, meth, c, Q, E, nL⟩ := G
  exact fun c1 s1 H locs ls hW hS hls => lv_if_ge C.1 C.2.1 hd ht (fun z => kt z c1 (hz_s1t s1) H locs ls hW hS hls) (fun z => kf z c1 (hz_s1t s1) H locs ls hW hS hls)
theorem aw_icmp_ge (C : Cx G cc own nm ret rm ro h') {x y : Int32} {off : Int} {tgt : Nat} (hd : decode cc pc = .ok (.if_icmp .ge off, 3)) (ht : (pc : Int) + off = (tgt : Int)) (kt : y ≤ x → aw G tgt L st h cs sl) (kf : ¬ y ≤ x → aw G (pc + 3) L st h cs sl) : aw G pc L (.int y :: .int x :: st) h cs sl := by
  obtain ⟨p, l, e, R, s, m, args, below, meth, c, Q, E, nL⟩ := G
  exact fun c1 s1 H locs ls hW hS hls => lv_icmp_ge C.1 C.2.1 hd ht (fun z => kt z c1 (hz_s1t (hz_s1t s1)) H locs ls hW hS hls) (fun z => kf z c1 (hz_s1t (hz_s1t s1)) H locs ls hW hS hls)
theorem aw_if_gt (C : Cx G cc own nm ret rm ro h') {x : Int32} {off : Int} {tgt : Nat} (hd : decode cc pc = .ok (.ifCond .gt off, 3)) (ht : (pc : Int) + off = (tgt : Int)) (kt : 0 < x → aw G tgt L st h cs sl) (kf : ¬ 0 < x → aw G (pc + 3) L st h cs sl) : aw G pc L (.int x :: st) h cs sl := by
  obtain ⟨p, l, e, R, s, m, args, below, meth, c, Q, E, nL⟩ := G
  exact fun c1 s1 H locs ls hW hS hls => lv_if_gt C.1 C.2.1 hd ht (fun z => kt z c1 (hz_s1t s1) H locs ls hW hS hls) (fun z => kf z c1 (hz_s1t s1) H locs ls hW hS hls)
theorem aw_icmp_gt (C : Cx G cc own nm ret rm ro h') {x y : Int32} {off : Int} {tgt : Nat} (hd : decode cc pc = .ok (.if_icmp .gt off, 3)) (ht : (pc : Int) + off = (tgt : Int)) (kt : y < x → aw G tgt L st h cs sl) (kf : ¬ y < x → aw G (pc + 3) L st h cs sl) : aw G pc L (.int y :: .int x :: st) h cs sl := by
  obtain ⟨p, l, e, R, s, m, args, below, meth, c, Q, E, nL⟩ := G
  exact fun c1 s1 H locs ls hW hS hls => lv_icmp_gt C.1 C.2.1 hd ht (fun z => kt z c1 (hz_s1t (hz_s1t s1)) H locs ls hW hS hls) (fun z => kf z c1 (hz_s1t (hz_s1t s1)) H locs ls hW hS hls)
theorem aw_if_le (C : Cx G cc own nm ret rm ro h') {x : Int32} {off : Int} {tgt : Nat} (hd : decode cc pc = .ok (.ifCond .le off, 3)) (ht : (pc : Int) + off = (tgt : Int)) (kt : x ≤ 0 → aw G tgt L st h cs sl) (kf : ¬ x ≤ 0 → aw G (pc + 3) L st h cs sl) : aw G pc L (.int x :: st) h cs sl := by
  obtain ⟨p, l, e, R, s, m, args, below, meth, c, Q, E, nL⟩ := G
  exact fun c1 s1 H locs ls hW hS hls => lv_if_le C.1 C.2.1 hd ht (fun z => kt z c1 (hz_s1t s1) H locs ls hW hS hls) (fun z => kf z c1 (hz_s1t s1) H locs ls hW hS hls)
theorem aw_icmp_le (C : Cx G cc own nm ret rm ro h') {x y : Int32} {off : Int} {tgt : Nat} (hd : decode cc pc = .ok (.if_icmp .le off, 3)) (ht : (pc : Int) + off = (tgt : Int)) (kt : x ≤ y → aw G tgt L st h cs sl) (kf : ¬ x ≤ y → aw G (pc + 3) L st h cs sl) : aw G pc L (.int y :: .int x :: st) h cs sl := by
  obtain ⟨p, l, e, R, s, m, args, below, meth, c, Q, E, nL⟩ := G
  exact fun c1 s1 H locs ls hW hS hls => lv_icmp_le C.1 C.2.1 hd ht (fun z => kt z c1 (hz_s1t (hz_s1t s1)) H locs ls hW hS hls) (fun z => kf z c1 (hz_s1t (hz_s1t s1)) H locs ls hW hS hls)
theorem aw_ifnull (C : Cx G cc own nm ret rm ro h') {x : Option Nat} {off : Int} {tgt : Nat} (hd : decode cc pc = .ok (.ifnull off, 3)) (ht : (pc : Int) + off = (tgt : Int)) (kt : x = none → aw G tgt L st h cs sl) (kf : ¬ x = none → aw G (pc + 3) L st h cs sl) : aw G pc L (va_rf x :: st) h cs sl := by
  obtain ⟨p, l, e, R, s, m, args, below, meth, c, Q, E, nL⟩ := G
  cases x with
  | none => exact fun c1 s1 H locs ls hW hS hls => lv_ifnullN C.1 C.2.1 hd ht (kt rfl c1 (hz_s1t s1) H locs ls hW hS hls)
  | some x => exact fun c1 s1 H locs ls hW hS hls => lv_ifnull C.1 C.2.1 hd (kf (by simp) c1 (hz_s1t s1) H locs ls hW hS hls)
theorem aw_ifnonnull (C : Cx G cc own nm ret rm ro h') {x : Option Nat} {off : Int} {tgt : Nat} (hd : decode cc pc = .ok (.ifnonnull off, 3)) (ht : (pc : Int) + off = (tgt : Int)) (kt : ¬ x = none → aw G tgt L st h cs sl) (kf : x = none → aw G (pc + 3) L st h cs sl) : aw G pc L (va_rf x :: st) h cs sl := by
  obtain ⟨p, l, e, R, s, m, args, below, meth, c, Q, E, nL⟩ := G
  cases x with
  | none => exact fun c1 s1 H locs ls hW hS hls => lv_ifnonnullN C.1 C.2.1 hd (kf rfl c1 (hz_s1t s1) H locs ls hW hS hls)
  | some x => exact fun c1 s1 H locs ls hW hS hls => lv_ifnonnull C.1 C.2.1 hd ht (kt (by simp) c1 (hz_s1t s1) H locs ls hW hS hls)
theorem aw_tabO (C : Cx G cc own nm ret rm ro h') {dflt lo hi : Int} {offs : Array Int} {len : Nat} {x : Int32} {tgt : Nat} (hd : decode cc pc = .ok (.tableswitch dflt lo hi offs, len)) (hx : x.toInt < lo ∨ hi < x.toInt) (ht : (pc : Int) + dflt = (tgt : Int)) (k : aw G tgt L st h cs sl) : aw G pc L (.int x :: st) h cs sl := by
  obtain ⟨p, l, e, R, s, m, args, below, meth, c, Q, E, nL⟩ := G
  exact fun c1 s1 H locs ls hW hS hls => lv_tableOut C.1 C.2.1 hd hx ht (k c1 (hz_s1t s1) H locs ls hW hS hls)
theorem aw_tabI (C : Cx G cc own nm ret rm ro h') {dflt lo hi : Int} {offs : Array Int} {len : Nat} {x : Int32} {off a : Int} {tgt : Nat} (hd : decode cc pc = .ok (.tableswitch dflt lo hi offs, len)) (hx : x.toInt = a) (h1 : ¬ a < lo) (h2 : ¬ hi < a) (ho : offs[(a - lo).toNat]? = some off) (ht : (pc : Int) + off = (tgt : Int)) (k : aw G tgt L st h cs sl) : aw G pc L (.int x :: st) h cs sl := by
  subst hx
  obtain ⟨p, l, e, R, s, m, args, below, meth, c, Q, E, nL⟩ := G
  exact fun c1 s1 H locs ls hW hS hls => lv_tableIn C.1 C.2.1 hd h1 h2 ho ht (k c1 (hz_s1t s1) H locs ls hW hS hls)
end RW
