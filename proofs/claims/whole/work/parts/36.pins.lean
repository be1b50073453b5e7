/-! what is at hand does not matter -/
theorem wX_ite (c : Prop) [Decidable c] (a b : SS) (X : List (Nat × Bool × LL)) : wX (if c then a else b) X = if c then wX a X else wX b X := by
  split <;> rfl
theorem wX_carryN (i : Nat) (X : List (Nat × Bool × LL)) : ∀ (k p : Nat) (s : SS), carryN i p k (wX s X) = wX (carryN i p k s) X
  | 0, _, _ => rfl
  | k + 1, p, s => by
    show carryN i (p + 1) k (wX (inc 2 (sMach s i (mach (s.1 21 i) (s.2.1 1 i) (s.2.1 0 i p)))) X) = _
    exact wX_carryN i X k (p + 1) _
theorem wX_carryTo (i m : Nat) (s : SS) (X : List (Nat × Bool × LL)) : carryTo i m (wX s X) = wX (carryTo i m s) X := by
  show sv 14 i _ (carryN i _ _ (wX s X)) = _
  rw [wX_carryN]
  rfl
theorem wX_look (n i : Nat) (s : SS) (X : List (Nat × Bool × LL)) : look n i (wX s X) = wX (look n i s) X := by
  unfold look
  rw [wX_ite, wX_sndG, ← wX_carryTo]
  rfl
theorem wX_add (n i : Nat) (act : Int32) (s : SS) (X : List (Nat × Bool × LL)) : addS n i act (wX s X) = wX (addS n i act s) X := by
  unfold addS
  rw [← wX_look]
  unfold putO
  rw [wX_sndG]
  rfl
theorem wX_flu (n i : Nat) (s : SS) (X : List (Nat × Bool × LL)) : flu n i (wX s X) = wX (flu n i s) X := by
  unfold flu
  rw [wX_ite, wX_sndG]
  rfl
theorem wX_ask (n i : Nat) (s : SS) (X : List (Nat × Bool × LL)) : askS n i (wX s X) = wX (askS n i s) X := by
  unfold askS
  rw [wX_ite, wX_sndG, ← wX_flu]
  rfl
theorem wX_beg (n i m : Nat) (s : SS) (X : List (Nat × Bool × LL)) : begS n i m (wX s X) = wX (begS n i m s) X := by
  unfold begS
  show _ = inc 3 (wX (carryTo _ _ _) X)
  rw [← wX_carryTo]
  rfl
theorem wX_giv (n i : Nat) (s : SS) (X : List (Nat × Bool × LL)) : givS n i (wX s X) = wX (givS n i s) X := by
  unfold givS
  rw [wX_sndG]
  rfl
theorem wX_bgn (n i : Nat) (s : SS) (X : List (Nat × Bool × LL)) : bgnS n i (wX s X) = wX (bgnS n i s) X := by
  unfold bgnS
  rw [← wX_beg, wX_sndG, wX_sndG]
  rfl
theorem wX_go (n i : Nat) (s : SS) (X : List (Nat × Bool × LL)) : goS n i (wX s X) = wX (goS n i s) X := by
  have h1 : go1 n i (wX s X) = wX (go1 n i s) X := by
    unfold go1
    rw [wX_ite, ← wX_giv]
    rfl
  unfold goS
  rw [h1]
  unfold go2
  rw [wX_ite, ← wX_bgn]
  rfl
theorem wX_rpl (n i y k nr d : Nat) (s : SS) (X : List (Nat × Bool × LL)) : rpl n i y k nr d (wX s X) = wX (rpl n i y k nr d s) X := (wX_sndG _ _ _ _ _ _ _).symm
theorem wX_rec (n i x : Nat) (ℓ : LL) (s : SS) (X : List (Nat × Bool × LL)) : recS n i x ℓ (wX s X) = wX (recS n i x ℓ s) X := by
  have h1 : onPassS n i ℓ (wX s X) = wX (onPassS n i ℓ s) X := by
    unfold onPassS
    rw [wX_ite, ← wX_add]
    rfl
  have h2 : onOrderS n i x ℓ (wX s X) = wX (onOrderS n i x ℓ s) X := by
    unfold onOrderS
    rw [wX_ite, ← wX_rpl]
    rfl
  have h3 : onHeldS n i x ℓ (wX s X) = wX (onHeldS n i x ℓ s) X := by
    unfold onHeldS
    rw [wX_ite, ← wX_look]
    rfl
  have h4 : onDoS i ℓ (wX s X) = wX (onDoS i ℓ s) X := by
    unfold onDoS
    rw [wX_ite, ← wX_carryTo]
    rfl
  have h5 : onElectS n i x (wX s X) = wX (onElectS n i x s) X := by
    unfold onElectS
    rw [wX_ite, wX_ite, ← wX_ask, ← wX_rpl]
    rfl
  have h6 : onWaitS i (wX s X) = wX (onWaitS i s) X := by
    unfold onWaitS
    rw [wX_ite]
    rfl
  have h7 : onFlushS n i x ℓ (wX s X) = wX (onFlushS n i x ℓ s) X := by
    unfold onFlushS
    rw [wX_ite, wX_sndG]
    rfl
  have h8 : onFlushedS i x ℓ (wX s X) = wX (onFlushedS i x ℓ s) X := by
    unfold onFlushedS
    rw [wX_ite, ← wX_wgh]
    rfl
  have h9 : onSyncS n i x ℓ (wX s X) = wX (onSyncS n i x ℓ s) X := by
    unfold onSyncS
    rw [wX_ite, ← wX_rpl]
    rfl
  have h10 : onSyncedS i x ℓ (wX s X) = wX (onSyncedS i x ℓ s) X := by
    unfold onSyncedS
    rw [wX_ite]
    rfl
  have h11 : onBeginS n i ℓ (wX s X) = wX (onBeginS n i ℓ s) X := by
    unfold onBeginS
    rw [wX_ite, ← wX_beg]
    rfl
  unfold recS
  simp only [wX_ite, h1, h2, h3, h4, h5, h6, h7, h8, h9, h10, h11]
  rfl
