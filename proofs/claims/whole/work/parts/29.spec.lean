/-! what the calls do to a state -/
def sv (f i x : Nat) (s : SS) : SS := (up2 s.1 f i x, s.2)
def sc (t x : Nat) (s : SS) : SS := (s.1, s.2.1, s.2.2.1, s.2.2.2.1, va_up s.2.2.2.2.1 t x, s.2.2.2.2.2)
def inc (t : Nat) (s : SS) : SS := sc t (s.2.2.2.2.1 t + 1) s
def sw (g i : Nat) (f : Nat → Int32) (s : SS) : SS := (s.1, up3 s.2.1 g i f, s.2.2)
def blk (s : SS) (i : Nat) : Bool := s.1 12 i != s.1 10 i
def ldr (m : Nat) : Nat → Nat
  | 0 => 0
  | t + 1 => if m.testBit (t + 1) then t + 1 else ldr m t
def ld (n : Nat) (s : SS) (i : Nat) : Nat := ldr (s.1 11 i) (n - 1)
def lub (n : Nat) (s : SS) (i : Nat) : Bool := ld n s i == i && !blk s i
def oth (s : SS) (i : Nat) : Nat := clr (s.1 11 i) i
def carryN (i : Nat) : Nat → Nat → SS → SS
  | _, 0, s => s
  | p, k + 1, s => carryN i (p + 1) k (inc 2 (sMach s i (mach (s.1 21 i) (s.2.1 1 i) (s.2.1 0 i p))))
def carryTo (i m : Nat) (s : SS) : SS := sv 14 i (max (s.1 14 i) (min m (s.1 20 i))) (carryN i (s.1 14 i) (min m (s.1 20 i) - s.1 14 i) s)
def hld (s : SS) (i j k : Nat) : Bool := (s.1 11 i).testBit j && (if j = i then decide (k ≤ s.1 20 i) else decide (nI k ≤ s.2.1 2 i j))
def hcnt (n : Nat) (s : SS) (i k : Nat) : Nat := (List.range n).countP (fun j => hld s i j k)
def hbm (p : Nat → Bool) : Nat → Nat
  | 0 => 0
  | k + 1 => if p (k + 1) then k + 1 else hbm p k
def lookM (n : Nat) (s : SS) (i : Nat) : Nat := hbm (fun k => decide (n < hcnt n s i k * 2)) (s.1 20 i)
def look (n i : Nat) (s : SS) : SS := if lookM n s i ≤ s.1 14 i then s else sndG i (oth s i) (4, s.1 10 i, lookM n s i, []) 0 n (carryTo i (lookM n s i) s)
def putO (n i : Nat) (act : Int32) (s : SS) : SS := sndG i (oth s i) (2, s.1 10 i, s.1 20 i, [act]) 0 n (sw 0 i (va_up (s.2.1 0 i) (s.1 20 i) act) (sv 20 i (s.1 20 i + 1) s))
def addS (n i : Nat) (act : Int32) (s : SS) : SS := look n i (putO n i act s)
def nxt (n i p : Nat) : Nat := if (p + 1) % n ≤ i then p + 1 + (i - (p + 1) % n) else p + 1 + (i + n - (p + 1) % n)
def beS (s : SS) (i : Nat) : Nat := andn (s.1 11 i) (s.1 15 i)
def flu (n i : Nat) (s : SS) : SS := if most n (beS s i) = false then sv 9 i 0 s else
  sndG i (clr (beS s i) i) (7, nxt n i (s.1 12 i), beS s i, []) 0 n (sb i (rowL (s.2.1 0 i) (s.1 20 i)) (sv 3 i (s.1 13 i) (sv 4 i i (sv 1 i (clr (beS s i) i) (sv 0 i (beS s i) (inc 4 (sv 9 i 3 (sv 12 i (nxt n i (s.1 12 i)) s))))))))
def askS (n i : Nat) (s : SS) : SS := if abv (beS s i) i = 0 then flu n i (sv 9 i 1 s) else sndG i (abv (beS s i) i) (5, 0, 0, []) 0 n (sv 9 i 1 s)
def filF (n : Nat) (x : Int32) (old : Nat → Int32) : Nat → Int32 := fun j => if j < n then x else old j
def begS (n i m : Nat) (s : SS) : SS := inc 3 (carryTo i (s.1 20 i) (sw 2 i (filF n (nI (s.1 20 i)) (s.2.1 2 i)) (sv 9 i 0 (sv 11 i m (sv 10 i (s.1 12 i) s)))))
def becS (i : Nat) (xs : List Int32) (s : SS) : SS := sw 0 i (becF xs (s.2.1 0 i)) (sv 20 i xs.length s)
def givS (n i : Nat) (s : SS) : SS := sndG i (clr (s.1 0 i) i) (9, s.1 12 i, 0, s.2.2.1 i) 0 n (sv 1 i (clr (s.1 0 i) i) (sv 9 i 4 (sv 13 i (s.1 12 i) (becS i (s.2.2.1 i) s))))
def bgnS (n i : Nat) (s : SS) : SS := begS n i (s.1 0 i) (sndG i (andn (s.1 11 i) (s.1 0 i)) (12, 0, 0, []) 0 n (sndG i (clr (s.1 0 i) i) (11, s.1 12 i, s.1 0 i, []) 0 n s))
def go1 (n i : Nat) (s : SS) : SS := if s.1 9 i = 3 ∧ s.1 1 i = 0 then givS n i s else s
def go2 (n i : Nat) (s : SS) : SS := if s.1 9 i = 4 ∧ s.1 1 i = 0 then bgnS n i s else s
def goS (n i : Nat) (s : SS) : SS := go2 n i (go1 n i s)
def rpl (n i y k nr d : Nat) (s : SS) : SS := sndG i (2 ^ y) (k, nr, d, []) 0 n s
def onPassS (n i : Nat) (ℓ : LL) (s : SS) : SS := if lub n s i = true ∧ s.1 20 i < 60 then addS n i (ℓ.2.2.2.headD 0) s else inc 1 s
def onOrderS (n i x : Nat) (ℓ : LL) (s : SS) : SS := if ℓ.2.1 = s.1 10 i ∧ blk s i = false ∧ s.1 20 i = ℓ.2.2.1 ∧ s.1 20 i < 60 then rpl n i x 3 (s.1 10 i) (s.1 20 i + 1) (sw 0 i (va_up (s.2.1 0 i) (s.1 20 i) (ℓ.2.2.2.headD 0)) (sv 20 i (s.1 20 i + 1) s)) else s
def mx32 (a b : Int32) : Int32 := if a < b then b else a
def onHeldS (n i x : Nat) (ℓ : LL) (s : SS) : SS := if ℓ.2.1 = s.1 10 i ∧ lub n s i = true then look n i (sw 2 i (va_up (s.2.1 2 i) x (mx32 (s.2.1 2 i x) (nI ℓ.2.2.1))) s) else s
def onDoS (i : Nat) (ℓ : LL) (s : SS) : SS := if ℓ.2.1 = s.1 10 i ∧ blk s i = false then carryTo i ℓ.2.2.1 s else s
def onElectS (n i x : Nat) (s : SS) : SS := if x < i then (if s.1 9 i = 0 then askS n i (rpl n i x 6 0 0 s) else rpl n i x 6 0 0 s) else s
def onWaitS (i : Nat) (s : SS) : SS := if s.1 9 i = 1 then sv 9 i 2 s else s
def onFlushS (n i x : Nat) (ℓ : LL) (s : SS) : SS := if ℓ.2.1 ≤ s.1 12 i then s else sndG i (2 ^ x) (8, ℓ.2.1, s.1 13 i, rowL (s.2.1 0 i) (s.1 20 i)) 0 n (sv 9 i 0 (sv 16 i (x + 1) (sv 12 i ℓ.2.1 s)))
def bet (s : SS) (i x st len : Nat) : Bool := if st = s.1 3 i then (if len = (s.2.2.1 i).length then decide (x < s.1 4 i) else decide ((s.2.2.1 i).length < len)) else decide (s.1 3 i < st)
def wghS (i x : Nat) (ℓ : LL) (s : SS) : SS := if bet s i x ℓ.2.2.1 ℓ.2.2.2.length = true then sb i ℓ.2.2.2 (sv 3 i ℓ.2.2.1 (sv 4 i x s)) else s
def answ (i x : Nat) (s : SS) : SS := sv 1 i (clr (s.1 1 i) x) s
def onFlushedS (i x : Nat) (ℓ : LL) (s : SS) : SS := if s.1 9 i = 3 ∧ ℓ.2.1 = s.1 12 i then answ i x (wghS i x ℓ s) else s
def onSyncS (n i x : Nat) (ℓ : LL) (s : SS) : SS := if ℓ.2.1 = s.1 12 i then rpl n i x 10 (s.1 12 i) 0 (sv 13 i (s.1 12 i) (becS i ℓ.2.2.2 s)) else s
def onSyncedS (i x : Nat) (ℓ : LL) (s : SS) : SS := if s.1 9 i = 4 ∧ ℓ.2.1 = s.1 12 i then answ i x s else s
def onBeginS (n i : Nat) (ℓ : LL) (s : SS) : SS := if ℓ.2.1 = s.1 12 i then begS n i ℓ.2.2.1 s else s
def recS (n i x : Nat) (ℓ : LL) (s : SS) : SS :=
  if ℓ.1 = 1 then onPassS n i ℓ s else if ℓ.1 = 2 then onOrderS n i x ℓ s else if ℓ.1 = 3 then onHeldS n i x ℓ s else if ℓ.1 = 4 then onDoS i ℓ s else if ℓ.1 = 5 then onElectS n i x s else if ℓ.1 = 6 then onWaitS i s else if ℓ.1 = 7 then onFlushS n i x ℓ s else if ℓ.1 = 8 then onFlushedS i x ℓ s else if ℓ.1 = 9 then onSyncS n i x ℓ s else if ℓ.1 = 10 then onSyncedS i x ℓ s else if ℓ.1 = 11 then onBeginS n i ℓ s else if ℓ.1 = 12 then sv 8 i 2 s else s
/-! bounds -/
def bnd (B f : Nat) : Nat := if f = 20 then 60 else if f = 21 then 20 else if f = 14 then 60 else if f = 11 then 127 else if f = 15 then 127 else if f = 0 then 127 else if f = 1 then 127 else if f = 9 then 4 else if f = 8 then 2 else if f = 4 then 6 else if f = 16 then 7 else B
def LOk (B : Nat) (ℓ : LL) : Prop := ℓ.1 ≤ 12 ∧ ℓ.2.1 ≤ B ∧ ℓ.2.2.1 ≤ B ∧ ℓ.2.2.2.length ≤ 60
def OkS (n B : Nat) (s : SS) : Prop := (200 ≤ B ∧ B < 2 ^ 29) ∧ (∀ f i : Nat, i < n → s.1 f i ≤ bnd B f) ∧ s.2.2.2.2.1 5 ≤ 500 ∧ (∀ i : Nat, i < n → (s.2.2.1 i).length ≤ 60) ∧ ∀ (x y : Nat) (ℓ : LL), x < n → y < n → ℓ ∈ s.2.2.2.1 x y → LOk B ℓ
section OK
variable {n B : Nat} {s : SS}
theorem OkS.b (O : OkS n B s) {i : Nat} (hi : i < n) (f : Nat) : s.1 f i ≤ bnd B f := O.2.1 f i hi
theorem OkS.oV (O : OkS n B s) {f i x : Nat} (hx : x ≤ bnd B f) : OkS n B (sv f i x s) := by
  refine ⟨O.1, fun g j hj => ?_, O.2.2⟩
  show up2 s.1 f i x g j ≤ _
  by_cases e : g = f ∧ j = i
  · obtain ⟨rfl, rfl⟩ := e
    rw [up2_same]
    exact hx
  · simp only [up2, if_neg e]
    exact O.b hj g
theorem OkS.oC (O : OkS n B s) {t x : Nat} (ht : t < 5) : OkS n B (sc t x s) := by
  refine ⟨O.1, O.2.1, ?_, O.2.2.2⟩
  show va_up s.2.2.2.2.1 t x 5 ≤ 500
  have : ¬ 5 = t := by omega
  simp only [va_up, if_neg this]
  exact O.2.2.1
theorem OkS.oI (O : OkS n B s) {t : Nat} (ht : t < 5) : OkS n B (inc t s) := O.oC ht
theorem OkS.oW (O : OkS n B s) {g i : Nat} {f : Nat → Int32} : OkS n B (sw g i f s) := O
theorem OkS.oB (O : OkS n B s) {i : Nat} {xs : List Int32} (hx : xs.length ≤ 60) : OkS n B (sb i xs s) := by
  refine ⟨O.1, O.2.1, O.2.2.1, fun j hj => ?_, O.2.2.2.2⟩
  show (va_up s.2.2.1 i xs j).length ≤ 60
  by_cases e : j = i
  · simp [va_up, e, hx]
  · simp only [va_up, if_neg e]
    exact O.2.2.2.1 j hj
theorem OkS.o1 (O : OkS n B s) {x y : Nat} {ℓ : LL} (hl : LOk B ℓ) : OkS n B (snd1 x y ℓ s) := by
  obtain ⟨v1, -, v3, -⟩ := snd1_V x y ℓ s
  refine ⟨O.1, fun f i hi => by rw [v1]; exact O.b hi f, snd1_fl O.2.2.1, fun i hi => by rw [v3]; exact O.2.2.2.1 i hi, fun x' y' ℓ' hx hy hm => ?_⟩
  unfold snd1 at hm
  split at hm
  · have hm2 : ℓ' ∈ up2 s.2.2.2.1 x y (s.2.2.2.1 x y ++ [ℓ]) x' y' := hm
    by_cases e : x' = x ∧ y' = y
    · obtain ⟨rfl, rfl⟩ := e
      rw [up2_same] at hm2
      rcases List.mem_append.mp hm2 with q | q
      · exact O.2.2.2.2 _ _ _ hx hy q
      · rw [List.mem_singleton.mp q]
        exact hl
    · simp only [up2, if_neg e] at hm2
      exact O.2.2.2.2 _ _ _ hx hy hm2
  · exact O.2.2.2.2 _ _ _ hx hy hm
theorem OkS.oG {x m : Nat} {ℓ : LL} (hl : LOk B ℓ) : ∀ (k t : Nat) {s : SS}, OkS n B s → OkS n B (sndG x m ℓ t k s)
  | 0, _, _, O => O
  | k + 1, t, s, O => by
    show OkS n B (sndG x m ℓ (t + 1) k (if m.testBit t then snd1 x t ℓ s else s))
    refine OkS.oG hl k (t + 1) ?_
    split
    · exact O.o1 hl
    · exact O
theorem OkS.oM (O : OkS n B s) {i : Nat} (hi : i < n) (act : Int32) : OkS n B (sMach s i (mach (s.1 21 i) (s.2.1 1 i) act)) := by
  have h1 : s.1 21 i ≤ 20 := O.b hi 21
  exact (O.oV (f := 21) (i := i) (x := (mach (s.1 21 i) (s.2.1 1 i) act).1) (mach_le h1)).oW (g := 1) (i := i)
end OK
