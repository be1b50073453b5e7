/-! abstract cells and heaps: a heap is how many cells there are (addresses 1, 2, ..) and what each holds; address 0 is the static array NO_ACTS -/
abbrev HC : Type := (Nat × vp_A) ⊕ (Nat × List Value)
abbrev HP : Type := Nat × (Nat → HC)
abbrev EV : Type := va_G × (Nat → ClassId) × (Nat → Nat)
def hz_ty : Nat → FieldType := fun t => match t with
  | 0 => .int
  | 1 => .boolean
  | 2 => .object "GroupCast$Channel"
  | _ => .object "GroupCast$Node"
abbrev hz_tys (E : EV) : List (ClassId × FieldType) := [(E.2.1 0, hz_ty 0), (E.2.1 1, hz_ty 1), (E.2.1 2, hz_ty 2), (E.2.1 3, hz_ty 3)]
def hz_v (E : EV) (v : Value) : Value := match v with
  | .ref a => .ref (E.2.2 a)
  | .int x => .int x
  | .null => .null
  | w => w
def hz_A (E : EV) (a : vp_A) : vp_A := (a.1, match a.2 with
  | .inr (.inr (.inr (.inr f))) => .inr (.inr (.inr (.inr (fun j => (f j).map E.2.2))))
  | w => w)
def hz_C (E : EV) (c : HC) : va_E := match c with
  | .inl a => .inl (E.2.1 a.1, hz_A E a.2)
  | .inr o => .inr (o.1, o.2.map (hz_v E))
def hz_w (E : EV) (h : HP) : va_W := (List.range h.1).map fun k => (E.2.2 (k + 1), hz_C E (h.2 (k + 1)))
theorem hz_vi (E : EV) (x : Int32) : hz_v E (.int x) = .int x := rfl
theorem hz_vr (E : EV) (r : Option Nat) : hz_v E (va_rf r) = va_rf (r.map E.2.2) := by cases r <;> rfl
theorem hz_vc (E : EV) (v : Value) : (hz_v E v).category = v.category := by cases v <;> rfl
theorem hz_cr (r : Option Nat) : (va_rf r).category = 1 := by cases r <;> rfl
theorem hz_wget {E : EV} {h : HP} {a : Nat} (h1 : 1 ≤ a) (h2 : a ≤ h.1) : (hz_w E h)[a - 1]? = some (E.2.2 a, hz_C E (h.2 a)) := by
  unfold hz_w
  rw [List.getElem?_map, List.getElem?_range (by omega)]
  simp only [Option.map_some, Nat.sub_add_cancel h1]
theorem hz_wlen {E : EV} {h : HP} : (hz_w E h).length = h.1 := by simp [hz_w]
theorem hz_wof {E : EV} {h : HP} {k : Nat} {q : Nat × va_E} (hq : (hz_w E h)[k]? = some q) : k < h.1 ∧ q = (E.2.2 (k + 1), hz_C E (h.2 (k + 1))) := by
  have hk : k < (hz_w E h).length := (List.getElem?_eq_some_iff.mp hq).1
  rw [hz_wlen] at hk
  have := hz_wget (E := E) (h := h) (a := k + 1) (by omega) (by omega)
  rw [Nat.add_sub_cancel, hq] at this
  exact ⟨hk, Option.some.inj this⟩
theorem hz_wset {E : EV} {h : HP} {a : Nat} (c : HC) (h1 : 1 ≤ a) (h2 : a ≤ h.1) : hz_w E (h.1, va_up h.2 a c) = (hz_w E h).set (a - 1) (E.2.2 a, hz_C E c) := by
  apply List.ext_getElem?
  intro k
  rw [List.getElem?_set]
  by_cases hk : k < h.1
  · have e1 := hz_wget (E := E) (h := (h.1, va_up h.2 a c)) (a := k + 1) (by omega) (by show k + 1 ≤ h.1; omega)
    have e2 := hz_wget (E := E) (h := h) (a := k + 1) (by omega) (by omega)
    rw [Nat.add_sub_cancel] at e1 e2
    rw [e1, e2, hz_wlen]
    by_cases hka : a - 1 = k
    · have : k + 1 = a := by omega
      subst this
      simp [va_up, hk]
    · have : ¬ k + 1 = a := by omega
      simp [va_up, this, hka]
  · have e1 : (hz_w E (h.1, va_up h.2 a c))[k]? = none := List.getElem?_eq_none (by rw [hz_wlen]; show h.1 ≤ k; omega)
    have e2 : (hz_w E h)[k]? = none := List.getElem?_eq_none (by rw [hz_wlen]; omega)
    rw [e1, e2]
    have : ¬ a - 1 = k := by omega
    simp [this]
theorem hz_wpush {E : EV} {h : HP} (c : HC) : hz_w E (h.1 + 1, va_up h.2 (h.1 + 1) c) = hz_w E h ++ [(E.2.2 (h.1 + 1), hz_C E c)] := by
  unfold hz_w
  rw [List.range_succ, List.map_append]
  congr 1
  · apply List.map_congr_left
    intro k hk
    have : k < h.1 := List.mem_range.mp hk
    have : ¬ k = h.1 := by omega
    simp [va_up, this]
  · simp [va_up]
def hz_In (E : EV) : Prop := ∀ i j : Nat, 1 ≤ i → 1 ≤ j → E.2.2 i = E.2.2 j → i = j
def hz_R (E : EV) : Nat → Prop := fun q => ∃ k : Nat, 1 ≤ k ∧ q = E.2.2 k
theorem hz_wD {E : EV} {h : HP} (hi : hz_In E) : va_D (hz_R E) (hz_w E h) := by
  refine ⟨fun i j p q hp hq e => ?_, fun k q hq => ?_⟩
  · obtain ⟨-, rfl⟩ := hz_wof hp
    obtain ⟨-, rfl⟩ := hz_wof hq
    have := hi (i + 1) (j + 1) (by omega) (by omega) e
    omega
  · obtain ⟨-, rfl⟩ := hz_wof hq
    exact ⟨k + 1, by omega, rfl⟩
/-- the heap holds the world, and what comes next is told -/
def hz_W (E : EV) (h : HP) (H : Heap) : Prop := va_P E.1 vwCl (hz_w E h) H ∧ ∀ k : Nat, h.1 < k → E.2.2 k = H.size + (k - h.1 - 1)
theorem hz_Wset {E : EV} {h : HP} {H H1 : Heap} {a : Nat} {c : HC} (hW : hz_W E h H) (h1 : 1 ≤ a) (h2 : a ≤ h.1) (hP : va_P E.1 vwCl ((hz_w E h).set (a - 1) (E.2.2 a, hz_C E c)) H1) (hz : H1.size = H.size) : hz_W E (h.1, va_up h.2 a c) H1 :=
  ⟨by rw [hz_wset c h1 h2]; exact hP, fun k hk => by rw [hz]; exact hW.2 k hk⟩
theorem hz_all {E : EV} {h : HP} {H : Heap} (hW : hz_W E h H) : ∀ q : Nat, H.size ≤ q → hz_R E q := fun q hq => ⟨h.1 + 1 + (q - H.size), by omega, by rw [hW.2 _ (by omega)]; omega⟩
def hz_isN : Cond → Bool := fun w => match w with
  | .fieldLinkNest .. => true
  | .methodLinkNest .. => true
  | .castable .. => true
  | _ => false
def hz_N : List Cond := lw_tbl.filter hz_isN
def hz_T : List Cond := lw_tbl.filter goodWord
theorem hz_T_good : hz_T.all goodWord = true := by
  unfold hz_T
  rw [List.all_eq_true]
  intro w hw
  exact (List.mem_filter.mp hw).2
theorem hz_Nw {w : Cond} (hw : w ∈ hz_N) {s U : State} (hW : s.WarmedH U.vm) (h : va_Nw w s) : va_Nw w U := by
  have hi : hz_isN w = true := (List.mem_filter.mp hw).2
  unfold hz_isN at hi
  split at hi
  · exact va_Nw.warmF hW h
  · exact va_Nw.warmM hW h
  · exact va_Nw.warmC hW h
  · cases hi
theorem hz_Ns {w : Cond} (hw : w ∈ hz_N) {s U : State} (hv : s.vm = U.vm) (h : va_Nw w s) : va_Nw w U := by
  have hi : hz_isN w = true := (List.mem_filter.mp hw).2
  unfold hz_isN at hi
  split at hi
  · exact va_Nw.same rfl hv h
  · exact va_Nw.same rfl hv h
  · exact va_Nw.same rfl hv h
  · cases hi
/-- what is known of the tables and of what lies outside -/
def hz_K (E : EV) (U : State) : Prop := hz_In E ∧ va_K E.1 vwCl (hz_tys E) U ∧ (∀ w ∈ hz_N, va_Nw w U) ∧ va_Z "GroupCast" "NO_ACTS" "[I" (.ref (E.2.2 0)) (hz_R E) U U.heap ∧ va_T .int (E.2.2 0) 0 (fun _ => .int 0) (hz_R E) U U.heap ∧ va_AO "GroupCast$Channel" U ∧ va_AO "GroupCast$Node" U
theorem hz_Kmove {E : EV} {s U : State} (h : hz_K E s) (hW : s.WarmedH U.vm) {locs : List Loc} (hS : va_S (hz_R E) s.heap U.heap locs) : hz_K E U := by
  obtain ⟨h1, h2, h3, h4, h5, h6, h7⟩ := h
  have kp : ∀ a : Nat, a < s.heap.size → ¬ hz_R E a → U.heap[a]? = s.heap[a]? := hS.2.1
  exact ⟨h1, va_K.moved hW.alike h2, fun w hw => hz_Nw hw hW (h3 w hw), va_Z.moved hW.alike (va_Z.kept h4 kp), va_T.moved hW.alike (va_T.kept h5 kp), va_AO.moved hW.alike h6, va_AO.moved hW.alike h7⟩
theorem hz_Kcall {E : EV} {U V : State} (h : hz_K E U) (hh : V.heap = U.heap) (hv : V.vm = U.vm) : hz_K E V := by
  obtain ⟨h1, h2, h3, h4, h5, h6, h7⟩ := h
  have al : U.vm.Alike V.vm := by rw [hv]; exact Vm.Alike.refl U.vm
  exact ⟨h1, va_K.moved al h2, fun w hw => hz_Ns hw hv.symm (h3 w hw), by rw [hh]; exact va_Z.moved al h4, by rw [hh]; exact va_T.moved al h5, va_AO.moved al h6, va_AO.moved al h7⟩
