/-! the law's calls -/
theorem lw_K {D : va_G} {cA : Nat → ClassId} {n0 : Nat} {s U : State} {ad : Nat → Nat} (K : KL D cA n0 s) (h0 : ad 0 = n0) (hi : hz_In (D, cA, ad)) (hR : ∀ q : Nat, hz_R (D, cA, ad) q → lA s q) (hW : s.WarmedH U.vm) {locs : List Jvm.Loc} (hS : va_S (lA s) s.heap U.heap locs) : hz_K (D, cA, ad) U := by
  obtain ⟨h2, h3, h4, h5, h6, h7⟩ := K
  have kp : ∀ a : Nat, a < s.heap.size → ¬ lA s a → U.heap[a]? = s.heap[a]? := hS.2.1
  subst h0
  exact ⟨hi, va_K.moved hW.alike h2, fun w hw => hz_Nw hw hW (h3 w hw), (va_Z.moved hW.alike (va_Z.kept h4 kp)).narrow hR, (va_T.moved hW.alike (va_T.kept h5 kp)).narrow hR, va_AO.moved hW.alike h6, va_AO.moved hW.alike h7⟩
section LR
variable {p : Program} {l : Launch} {e : Env} {s : State} {m : MethodId} {args : Array Value} {below : List Frame} {meth : Method} {c : Code} {H : Heap} {locs : List Jvm.Loc} {cells slots : Nat} {Q : State → Prop}
theorem lw_go {E : EV} {mc ms pc : Nat} {ls : Array Slot} {st0 rest : List Value} {a : Array Value} {ro1 : Option Value} {h1 : HP} (hr : va_Run p l e room_1 s m args below meth c H locs cells slots mc ms (F0 m pc ls st0) rest (hz_Q E ro1 h1 a) (hz_R E)) (hA : ∀ q : Nat, hz_R E q → lA s q) (hS : va_S (lA s) s.heap H locs)
    (kk : ∀ (H1 : Heap) (locs1 : List Jvm.Loc), hz_W E h1 H1 → H.size ≤ H1.size → (∀ q : Nat, q < H.size → ¬ hz_R E q → H1[q]? = H[q]?) → va_S (lA s) s.heap H1 locs1 → W p l e room_1 s m args below meth c H1 locs1 (cells + mc) (slots + ms) Q (F0 m (pc + 3) ls ((ro1.map (hz_v E)).toList ++ rest))) : W p l e room_1 s m args below meth c H locs cells slots Q (F0 m pc ls st0) := by
  intro T hT X
  obtain ⟨v, st₀, t, T', L, h0, X', hL, e1, e2, ⟨hv, hw, hz, hk⟩, st⟩ := hr T hT X
  injection hv with hv
  subst hv
  rw [h0] at hz hk
  obtain ⟨t2, a1, b1⟩ := kk T'.heap (locs ++ L) (by rw [e1]; exact hw) (by rw [e1]; exact hz) (fun q h1 h2 => by rw [e1]; exact hk q h1 h2)
    ⟨Nat.le_trans hS.1 (by rw [e1]; exact hz), fun q h1 h2 => by rw [e1, hk q (Nat.lt_of_lt_of_le h1 hS.1) (fun z => h2 (hA q z))]; exact hS.2.1 q h1 h2, fun q hq => by
      rcases List.mem_append.mp hq with h | h
      · exact hS.2.2 q h
      · exact hA _ (hL q h)⟩ T' rfl X'
  exact ⟨t2, st t2 a1, b1⟩
/-- what the law has of the machine -/
def LX (p : Program) (s : State) (m : MethodId) (args : Array Value) (c : Code) : Prop := p.tables.exec = Jvm.exec ∧ c.code = code ∧ c.maxLocals = 4 ∧ s.vm.findClass RL = some m.cls ∧ ∀ w ∈ hz_T, w.before args s = true
end LR
