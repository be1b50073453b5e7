/-! class and model side by side -/
section C0
variable {n : Nat} {s : SS}
theorem c0_look (i : Nat) : (look n i s).2.2.2.2.1 0 ≤ s.2.2.2.2.1 0 + n := by
  unfold look
  split
  · omega
  · refine Nat.le_trans (sndG_c0 _ _ _ _ _ _) ?_
    rw [(carryTo_co i _ s).2.2.2.2]
    exact Nat.le_refl _
theorem c0_put (i : Nat) (act : Int32) : (putO n i act s).2.2.2.2.1 0 ≤ s.2.2.2.2.1 0 + n := sndG_c0 _ _ _ _ _ _
theorem c0_add (i : Nat) (act : Int32) : (addS n i act s).2.2.2.2.1 0 ≤ s.2.2.2.2.1 0 + n + n := Nat.le_trans (c0_look i) (Nat.add_le_add_right (c0_put i act) n)
theorem c0_rpl (i y k nr d : Nat) : (rpl n i y k nr d s).2.2.2.2.1 0 ≤ s.2.2.2.2.1 0 + n := sndG_c0 _ _ _ _ _ _
theorem c0_flu (i : Nat) : (flu n i s).2.2.2.2.1 0 ≤ s.2.2.2.2.1 0 + n := by
  unfold flu
  split
  · exact Nat.le_add_right _ _
  · exact sndG_c0 _ _ _ _ _ _
theorem c0_ask (i : Nat) : (askS n i s).2.2.2.2.1 0 ≤ s.2.2.2.2.1 0 + n := by
  unfold askS
  split
  · exact c0_flu (s := sv 9 i 1 s) i
  · exact sndG_c0 _ _ _ _ _ _
theorem c0_giv (i : Nat) : (givS n i s).2.2.2.2.1 0 ≤ s.2.2.2.2.1 0 + n := sndG_c0 _ _ _ _ _ _
theorem c0_beg (i m : Nat) : (begS n i m s).2.2.2.2.1 0 = s.2.2.2.2.1 0 := (carryTo_co i _ _).2.2.2.2
theorem c0_bgn (i : Nat) : (bgnS n i s).2.2.2.2.1 0 ≤ s.2.2.2.2.1 0 + n + n := by
  unfold bgnS
  rw [c0_beg]
  exact Nat.le_trans (sndG_c0 _ _ _ _ _ _) (Nat.add_le_add_right (sndG_c0 _ _ _ _ _ _) n)
theorem c0_trn (i p : Nat) : (trnS n i p s).2.2.2.2.1 0 ≤ s.2.2.2.2.1 0 + n := by
  unfold trnS
  split
  · exact c0_flu (s := sv 15 i (setb (s.1 15 i) p) s) i
  · split
    · exact c0_ask (s := sv 15 i (setb (s.1 15 i) p) s) i
    · exact Nat.le_add_right _ _
theorem c0_los (i : Nat) : (losS n i s).2.2.2.2.1 0 ≤ s.2.2.2.2.1 0 + n := by
  unfold losS
  split
  · exact c0_ask i
  · split
    · exact Nat.le_add_right _ _
    · exact c0_flu i
end C0
theorem gFlu_2 (n i : Nat) (s : SS) (G : GG) : (gFlu n i s G).2 = G.2 := by
  unfold gFlu
  split <;> rfl
theorem gAsk_2 (n i : Nat) (s : SS) (G : GG) : (gAsk n i s G).2 = G.2 := by
  unfold gAsk
  split
  · exact gFlu_2 _ _ _ _
  · rfl
theorem gElect_2 (n i x : Nat) (s : SS) (G : GG) : (gElect n i x s G).2 = G.2 := by
  unfold gElect
  split
  · split
    · exact gAsk_2 _ _ _ _
    · rfl
  · rfl
theorem gTrn_2 (n i p : Nat) (s : SS) (G : GG) : (gTrn n i p s G).2 = G.2 := by
  unfold gTrn
  split
  · exact gFlu_2 _ _ _ _
  · split
    · exact gAsk_2 _ _ _ _
    · rfl
theorem gLos_2 (n i : Nat) (s : SS) (G : GG) : (gLos n i s G).2 = G.2 := by
  unfold gLos
  split
  · exact gAsk_2 _ _ _ _
  · split
    · rfl
    · exact gFlu_2 _ _ _ _
theorem sub_lt {a b n : Nat} (hs : ∀ j : Nat, a.testBit j = true → b.testBit j = true) (h : b < 2 ^ n) : a < 2 ^ n := by
  refine Nat.lt_pow_two_of_testBit _ fun j hj => ?_
  cases q : a.testBit j with
  | false => rfl
  | true =>
    have := bit_lt h (hs j q)
    omega
theorem p7 {n : Nat} (hn : n ≤ 7) : 2 ^ n ≤ 128 := Nat.pow_le_pow_right (by omega) hn
theorem lub_b {n : Nat} {s : SS} {i : Nat} (h : lub n s i = true) : s.1 12 i = s.1 10 i := by
  simp only [lub, Bool.and_eq_true, Bool.not_eq_true'] at h
  exact blk_f h.2
/-- one letter comes to a live one, in both -/
theorem come_all {n B C : Nat} {s : SS} {G : GG} {x i : Nat} {ℓ : LL} {rest : List LL} (I : Inv n s G) (O : OkS n B s) (hn : 2 ≤ n ∧ n ≤ 7) (hB : B + 14 < 2 ^ 29) (hC : C + 100 < 2 ^ 31) (hg : ∀ a c : Nat, a < n → c < n → (G.2 a c).1 ≤ B) (hc : s.2.2.2.2.1 0 ≤ C) (hx : x < n) (hi : i < n) (hq : s.2.2.2.1 x i = ℓ :: rest) :
    ∃ G' : GG, (∀ h1 : HP, RepM n h1 (tak x i s) G (some (x, i, ℓ)) → ∃ h', f_X9_come (some 1) (nI 500) h1 = some h' ∧ RepM n h' (goS n i (recS n i x ℓ (tak x i s))) G' (some (x, i, ℓ))) ∧ Inv n (goS n i (recS n i x ℓ (tak x i s))) G' ∧ (∀ a c : Nat, a < n → c < n → (G'.2 a c).1 ≤ B) ∧ (goS n i (recS n i x ℓ (tak x i s))).2.2.2.2.1 0 ≤ C + 40 := by
  have hm : ℓ ∈ s.2.2.2.1 x i := by rw [hq]; exact List.mem_cons_self
  have hL0 : LtA n (s.1 12 x) (s.1 12 i) x i ℓ := (I.2.1 x i hx hi).1 ℓ hm
  have hO : LOk B ℓ := O.2.2.2.2 x i ℓ hx hi hm
  have h7 : s.1 9 x = 3 → ℓ.1 = 7 → ℓ.2.1 = s.1 12 x → (s.1 0 x).testBit i = true := fun t3 k7 e => (((I.2.2 x hx).2 t3).2.2 i hi).2.1 ℓ hm k7 e
  have c38 : s.1 9 i = 3 → ℓ.1 = 8 → ℓ.2.1 = s.1 12 i → (s.1 0 i).testBit x = true := fun t3 k8 e => (((I.2.2 i hi).2 t3).2.2 x hx).2.2 ℓ hm k8 e
  have ng8 : s.1 9 i = 3 → ℓ.1 = 8 → ℓ.2.1 = s.1 12 i → (G.1 i).testBit x = false := fun t3 k8 e => by
    cases q : (G.1 i).testBit x with
    | false => rfl
    | true => exact absurd e (((((I.2.2 i hi).2 t3).2.2 x hx).1 q hL0.1.1).2 ℓ hm k8)
  have hr8 : ℓ.1 = 8 → ∀ k ∈ (tak x i s).2.2.2.1 x i, k.1 = 8 → ℓ.2.1 < k.2.1 := fun k8 k hk e => by
    have hk2 : k ∈ up2 s.2.2.2.1 x i (s.2.2.2.1 x i).tail x i := hk
    rw [up2_same, hq] at hk2
    have hp := (I.2.1 x i hx hi).2
    rw [hq] at hp
    exact (List.pairwise_cons.mp hp).1 k hk2 k8 e
  have It := I.tk x i
  have Ot := tak_ok O x i
  have hct : (tak x i s).2.2.2.2.1 0 ≤ C := hc
  have hLt : LtA n ((tak x i s).1 12 x) ((tak x i s).1 12 i) x i ℓ := hL0
  replace h7 : (tak x i s).1 9 x = 3 → ℓ.1 = 7 → ℓ.2.1 = (tak x i s).1 12 x → ((tak x i s).1 0 x).testBit i = true := h7
  replace c38 : (tak x i s).1 9 i = 3 → ℓ.1 = 8 → ℓ.2.1 = (tak x i s).1 12 i → ((tak x i s).1 0 i).testBit x = true := c38
  replace ng8 : (tak x i s).1 9 i = 3 → ℓ.1 = 8 → ℓ.2.1 = (tak x i s).1 12 i → (G.1 i).testBit x = false := ng8
  clear I hL0 hm hc
  generalize tak x i s = t at *
  have fin : ∀ (S1 : SS) (G' : GG), recS n i x ℓ t = S1 → Inv n S1 G' → (∀ h1 : HP, RepM n h1 t G (some (x, i, ℓ)) → ∃ h', f_X9_come (some 1) (nI 500) h1 = some h' ∧ RepM n h' S1 G' (some (x, i, ℓ))) → (∀ a c : Nat, a < n → c < n → (G'.2 a c).1 ≤ B) → S1.2.2.2.2.1 0 ≤ C + 40 → ∃ G' : GG, (∀ h1 : HP, RepM n h1 t G (some (x, i, ℓ)) → ∃ h', f_X9_come (some 1) (nI 500) h1 = some h' ∧ RepM n h' (goS n i (recS n i x ℓ t)) G' (some (x, i, ℓ))) ∧ Inv n (goS n i (recS n i x ℓ t)) G' ∧ (∀ a c : Nat, a < n → c < n → (G'.2 a c).1 ≤ B) ∧ (goS n i (recS n i x ℓ t)).2.2.2.2.1 0 ≤ C + 40 := fun S1 G' e J M g c => by
    rw [e, go_id J hi]
    exact ⟨G', M, J, g, c⟩
  obtain ⟨a1, a2, a3, a4, a5, a6⟩ := It.nd hi
  have hne : ¬ i = x := fun q => hLt.1.1 q.symm
  have hk0 := hLt.1.2
  have hk1 := hO.1
  have hcase : ℓ.1 = 1 ∨ ℓ.1 = 2 ∨ ℓ.1 = 3 ∨ ℓ.1 = 4 ∨ ℓ.1 = 5 ∨ ℓ.1 = 6 ∨ ℓ.1 = 7 ∨ ℓ.1 = 8 ∨ ℓ.1 = 9 ∨ ℓ.1 = 10 ∨ ℓ.1 = 11 ∨ ℓ.1 = 12 := by omega
  rcases hcase with k | k | k | k | k | k | k | k | k | k | k | k
  · obtain ⟨act, hact⟩ := hLt.2.1 (Or.inl k)
    have ha : isA act = true := hLt.2.2.1 act (by rw [hact]; exact List.mem_cons_self)
    refine fin (onPassS n i ℓ t) G (by simp [recS, k]) ?_ (fun h1 R1 => M_come1 R1 Ot hi a5 k hact ha (by omega)) hg ?_
    · unfold onPassS
      split
      · rename_i c
        rw [hact]
        exact It.iAdd hi (lub_b c.1) c.2 ha
      · exact It.same (fun _ _ _ _ _ => rfl) rfl rfl rfl
    · unfold onPassS
      split
      · have := c0_add (n := n) (s := t) i (ℓ.2.2.2.headD 0)
        omega
      · exact Nat.le_trans hct (by omega)
  · obtain ⟨act, hact⟩ := hLt.2.1 (Or.inr k)
    have ha : isA act = true := hLt.2.2.1 act (by rw [hact]; exact List.mem_cons_self)
    refine fin (onOrderS n i x ℓ t) G (by simp [recS, k]) ?_ (fun h1 R1 => M_come2 R1 Ot hi hx hO k hact (hLt.2.2.2.1 k) (by omega)) hg ?_
    · unfold onOrderS
      split
      · rename_i c
        rw [hact]
        exact (It.iRow hi (blk_f c.2.1) ha).iRep hi hne (by decide)
      · exact It
    · unfold onOrderS
      split
      · have := c0_rpl (n := n) (s := sw 0 i (va_up (t.2.1 0 i) (t.1 20 i) (ℓ.2.2.2.headD 0)) (sv 20 i (t.1 20 i + 1) t)) i x 3 (t.1 10 i) (t.1 20 i + 1)
        have e : (sw 0 i (va_up (t.2.1 0 i) (t.1 20 i) (ℓ.2.2.2.headD 0)) (sv 20 i (t.1 20 i + 1) t)).2.2.2.2.1 0 = t.2.2.2.2.1 0 := rfl
        omega
      · omega
  · refine fin (onHeldS n i x ℓ t) G (by simp [recS, k]) ?_ (fun h1 R1 => M_come3 R1 Ot hi hx hne a5 hO k (by omega)) hg ?_
    · unfold onHeldS
      split
      · exact (It.same (s' := sw 2 i (va_up (t.2.1 2 i) x (mx32 (t.2.1 2 i x) (nI ℓ.2.2.1))) t) (fun _ _ _ _ _ => rfl) (sw_0 (by decide) _ _ _) rfl rfl).iLook hi
      · exact It
    · unfold onHeldS
      split
      · have := c0_look (n := n) (s := sw 2 i (va_up (t.2.1 2 i) x (mx32 (t.2.1 2 i x) (nI ℓ.2.2.1))) t) i
        have e : (sw 2 i (va_up (t.2.1 2 i) x (mx32 (t.2.1 2 i x) (nI ℓ.2.2.1))) t).2.2.2.2.1 0 = t.2.2.2.2.1 0 := rfl
        omega
      · omega
  · refine fin (onDoS i ℓ t) G (by simp [recS, k]) ?_ (fun h1 R1 => M_come4 R1 Ot hi a5 hO k) hg ?_
    · unfold onDoS
      split
      · exact It.iCar i _
      · exact It
    · unfold onDoS
      split
      · rw [(carryTo_co i _ t).2.2.2.2]
        omega
      · omega
  · refine fin (onElectS n i x t) (gElect n i x t G) (by simp [recS, k]) ?_ (fun h1 R1 => M_come5 R1 Ot hi hx hne a1 k (by omega) (by omega)) (by rw [gElect_2]; exact hg) ?_
    · unfold onElectS gElect
      by_cases c1 : x < i
      · rw [if_pos c1, if_pos c1]
        have J : Inv n (rpl n i x 6 0 0 t) G := It.iRep hi hne (by decide)
        by_cases c2 : t.1 9 i = 0
        · rw [if_pos c2, if_pos c2]
          exact J.iAsk hn hi
        · rw [if_neg c2, if_neg c2]
          exact J
      · rw [if_neg c1, if_neg c1]
        exact It
    · unfold onElectS
      have r1 := c0_rpl (n := n) (s := t) i x 6 0 0
      have r2 := c0_ask (n := n) (s := rpl n i x 6 0 0 t) i
      split
      · split <;> omega
      · omega
  · refine fin (onWaitS i t) G (by simp [recS, k]) ?_ (fun h1 R1 => M_come6 R1 Ot hi k) hg ?_
    · unfold onWaitS
      split
      · exact It.t0 hi (by decide)
      · exact It
    · unfold onWaitS
      split
      · exact Nat.le_trans hct (by omega)
      · omega
  · refine fin (onFlushS n i x ℓ t) G (by simp [recS, k]) (It.iFlush hi hx hLt k (fun q => h7 q k)) (fun h1 R1 => M_come7 R1 Ot hi hx hO k (by omega)) hg ?_
    unfold onFlushS
    split
    · omega
    · refine Nat.le_trans (sndG_c0 _ _ _ _ _ _) ?_
      show t.2.2.2.2.1 0 + n ≤ _
      omega
  · by_cases c : t.1 9 i = 3 ∧ ℓ.2.1 = t.1 12 i
    · obtain ⟨c1, c2⟩ := c
      have c3 := c38 c1 k c2
      have hng := ng8 c1 k c2
      obtain ⟨⟨b1, b2⟩, ⟨b3, b4⟩, b5, b6, b7, b8⟩ := (It.2.2 i hi).1 (Or.inl c1)
      have h128 := p7 hn.2
      have hG1 : G.1 i < 128 := by have := sub_lt b4 b8; omega
      have hG31 : ∀ a c : Nat, a < n → c < n → (G.2 a c).1 < 2 ^ 31 := fun a c ha hc2 => by have := hg a c ha hc2; omega
      have hne0 : ¬ t.1 0 i = 2 ^ i := fun q => b7 (by rw [q]; exact andn_self _)
      have erec : recS n i x ℓ t = answ i x (wghS i x ℓ t) := by
        simp only [recS, k, onFlushedS, if_pos (show t.1 9 i = 3 ∧ ℓ.2.1 = t.1 12 i from ⟨c1, c2⟩)]
        rfl
      have hr : ∀ k2 ∈ t.2.2.2.1 x i, k2.1 = 8 → ¬ k2.2.1 = t.1 12 i := fun k2 hk2 e => by
        have := hr8 k k2 hk2 e
        omega
      obtain ⟨w1, w2, w3, w4, w5, w6⟩ := wgh_co i x ℓ t
      obtain ⟨f1, f2⟩ := best8 (ℓ := ℓ) It hi hLt.1.1 c1 hng
      have hv1 : clr (t.1 1 i) x = andn (t.1 0 i) (setb (G.1 i) x) := by rw [b5, clr_andn]
      have hsub : ∀ j : Nat, (setb (G.1 i) x).testBit j = true → (t.1 0 i).testBit j = true := fun j hj => by
        rw [setb_bit] at hj
        rcases Bool.or_eq_true_iff.mp hj with q | q
        · exact b4 j q
        · have : x = j := by simpa using q
          rw [← this]
          exact c3
      have eE : ownE (answ i x (wghS i x ℓ t)) (g8 i x ℓ G) i = up2 (up2 G.2 i x (ℓ.2.2.1, ℓ.2.2.2)) i i (t.1 13 i, rowL (t.2.1 0 i) (t.1 20 i)) i := by
        unfold ownE g8
        rw [w2 13 (by decide) (by decide) (by decide), w2 20 (by decide) (by decide) (by decide), w3]
      have hch : setb (G.1 i) x = t.1 0 i → selS (t.1 0 i).testBit (up2 (up2 G.2 i x (ℓ.2.2.1, ℓ.2.2.2)) i i (t.1 13 i, rowL (t.2.1 0 i) (t.1 20 i)) i) n = some ((answ i x (wghS i x ℓ t)).1 4 i) ∧ (up2 (up2 G.2 i x (ℓ.2.2.1, ℓ.2.2.2)) i i (t.1 13 i, rowL (t.2.1 0 i) (t.1 20 i)) i ((answ i x (wghS i x ℓ t)).1 4 i)).2 = (answ i x (wghS i x ℓ t)).2.2.1 i := fun q => by
        rw [q, eE] at f1
        rw [eE] at f2
        exact ⟨(selB f1 n).2 (bit_lt b8 f1.1), by rw [← f2]⟩
      by_cases c4 : setb (G.1 i) x = t.1 0 i
      · have J : Inv n (givS n i (answ i x (wghS i x ℓ t))) (g8g i x ℓ t G) := It.i8g hi hLt c1
        have hz : clr (t.1 1 i) x = 0 := by rw [hv1, c4, andn_self]
        have ego : goS n i (recS n i x ℓ t) = givS n i (answ i x (wghS i x ℓ t)) := by
          rw [erec]
          have e1 : go1 n i (answ i x (wghS i x ℓ t)) = givS n i (answ i x (wghS i x ℓ t)) := if_pos ⟨by rw [w2 9 (by decide) (by decide) (by decide)]; exact c1, by rw [w4]; exact hz⟩
          unfold goS
          rw [e1]
          exact if_neg (fun q => ((J.2.2 i hi).1 (Or.inr q.1)).2.2.2.1 q.2)
        rw [ego]
        refine ⟨g8g i x ℓ t G, fun h1 R1 => ?_, J, fun a c ha hc2 => ?_, ?_⟩
        · obtain ⟨h', G', e, eG, R'⟩ := M_come8 R1 Ot hi hx hO k c1 c2 c3 hG1 hG31 (b4 i b3) hch hne0 (by omega)
          rw [if_pos c4] at eG R'
          subst eG
          exact ⟨h', e, R'⟩
        · show (up2 (up2 G.2 i x (ℓ.2.2.1, ℓ.2.2.2)) i i (t.1 13 i, rowL (t.2.1 0 i) (t.1 20 i)) a c).1 ≤ B
          have n13 := (Ot.num hi).2.2.1
          have nl := hO.2.2.1
          have ng := hg a c ha hc2
          simp only [up2]
          split
          · exact n13
          · split
            · exact nl
            · exact ng
        · have := c0_giv (n := n) (s := answ i x (wghS i x ℓ t)) i
          rw [w6] at this
          omega
      · have hz : ¬ clr (t.1 1 i) x = 0 := fun q => c4 (andn0 (hv1 ▸ q) hsub)
        refine fin (answ i x (wghS i x ℓ t)) (g8 i x ℓ G) erec (It.i8 hi hx hLt k c1 c2 c3 hng hr hz) (fun h1 R1 => ?_) (fun a c ha hc2 => ?_) (by rw [w6]; omega)
        · obtain ⟨h', G', e, eG, R'⟩ := M_come8 R1 Ot hi hx hO k c1 c2 c3 hG1 hG31 (b4 i b3) hch hne0 (by omega)
          rw [if_neg c4] at eG R'
          subst eG
          exact ⟨h', e, R'⟩
        · show (up2 G.2 i x (ℓ.2.2.1, ℓ.2.2.2) a c).1 ≤ B
          have nl := hO.2.2.1
          have ng := hg a c ha hc2
          simp only [up2]
          split
          · exact nl
          · exact ng
    · have erec : recS n i x ℓ t = t := by
        simp only [recS, k, onFlushedS, if_neg c]
        rfl
      refine fin t G erec It (fun h1 R1 => ⟨h1, M_come8n R1 Ot hi hx hO k ?_, R1⟩) hg (by omega)
      by_cases q : t.1 9 i = 3
      · exact Or.inr (fun e => c ⟨q, e⟩)
      · exact Or.inl q
  · refine fin (onSyncS n i x ℓ t) G (by simp [recS, k]) (It.iSync hi hLt k) (fun h1 R1 => M_come9 R1 Ot hi hx hO k (by omega)) hg ?_
    unfold onSyncS
    split
    · have := c0_rpl (n := n) (s := sv 13 i (t.1 12 i) (becS i ℓ.2.2.2 t)) i x 10 (t.1 12 i) 0
      have e : (sv 13 i (t.1 12 i) (becS i ℓ.2.2.2 t)).2.2.2.2.1 0 = t.2.2.2.2.1 0 := rfl
      omega
    · omega
  · by_cases c : t.1 9 i = 4 ∧ ℓ.2.1 = t.1 12 i
    · obtain ⟨c1, c2⟩ := c
      obtain ⟨⟨b1, b2⟩, ⟨b3, b4⟩, b5, b6, b7, b8⟩ := (It.2.2 i hi).1 (Or.inr c1)
      have erec : recS n i x ℓ t = answ i x t := by
        simp only [recS, k, onSyncedS, if_pos (show t.1 9 i = 4 ∧ ℓ.2.1 = t.1 12 i from ⟨c1, c2⟩)]
        rfl
      cases c3 : (t.1 0 i).testBit x with
      | false =>
        have e : answ i x t = t := by
          unfold answ
          rw [clr_self (by rw [b5, andn_bit, c3]; rfl), sv_id]
        exact fin t G (erec.trans e) It (fun h1 R1 => ⟨h1, M_come10n R1 Ot hi hx hO k (Or.inr (Or.inr c3)), R1⟩) hg (by omega)
      | true =>
        have h128 := p7 hn.2
        have hG1 : G.1 i < 128 := by have := sub_lt b4 b8; omega
        have hv1 : clr (t.1 1 i) x = andn (t.1 0 i) (setb (G.1 i) x) := by rw [b5, clr_andn]
        have hsub : ∀ j : Nat, (setb (G.1 i) x).testBit j = true → (t.1 0 i).testBit j = true := fun j hj => by
          rw [setb_bit] at hj
          rcases Bool.or_eq_true_iff.mp hj with q | q
          · exact b4 j q
          · have : x = j := by simpa using q
            rw [← this]
            exact c3
        by_cases c4 : setb (G.1 i) x = t.1 0 i
        · have J : Inv n (bgnS n i (answ i x t)) (g10 i x G) := It.i10b hi c1
          have hz : clr (t.1 1 i) x = 0 := by rw [hv1, c4, andn_self]
          have ego : goS n i (recS n i x ℓ t) = bgnS n i (answ i x t) := by
            rw [erec]
            have e1 : go1 n i (answ i x t) = answ i x t := if_neg (fun q => by
              have q1 : t.1 9 i = 3 := q.1
              omega)
            unfold goS
            rw [e1]
            exact if_pos ⟨c1, (up2_same t.1 1 i (clr (t.1 1 i) x)).trans hz⟩
          rw [ego]
          refine ⟨g10 i x G, fun h1 R1 => ?_, J, hg, ?_⟩
          · obtain ⟨h', e, R'⟩ := M_come10 R1 Ot hi hx a5 hO k c1 c2 c3 hG1 (b4 i b3) (by omega)
            rw [if_pos c4] at R'
            exact ⟨h', e, R'⟩
          · have := c0_bgn (n := n) (s := answ i x t) i
            have e : (answ i x t).2.2.2.2.1 0 = t.2.2.2.2.1 0 := rfl
            omega
        · have hz : ¬ clr (t.1 1 i) x = 0 := fun q => c4 (andn0 (hv1 ▸ q) hsub)
          refine fin (answ i x t) (g10 i x G) erec (It.i10 hi c1 c3 hz) (fun h1 R1 => ?_) hg (Nat.le_trans hct (by omega))
          obtain ⟨h', e, R'⟩ := M_come10 R1 Ot hi hx a5 hO k c1 c2 c3 hG1 (b4 i b3) (by omega)
          rw [if_neg c4] at R'
          exact ⟨h', e, R'⟩
    · have erec : recS n i x ℓ t = t := by
        simp only [recS, k, onSyncedS, if_neg c]
        rfl
      refine fin t G erec It (fun h1 R1 => ⟨h1, M_come10n R1 Ot hi hx hO k ?_, R1⟩) hg (by omega)
      by_cases q : t.1 9 i = 4
      · exact Or.inr (Or.inl (fun e => c ⟨q, e⟩))
      · exact Or.inl q
  · refine fin (onBeginS n i ℓ t) G (by simp [recS, k]) ?_ (fun h1 R1 => M_come11 R1 Ot hi a5 hO k) hg ?_
    · unfold onBeginS
      split
      · exact It.iBeg hi (hLt.2.2.2.2.1 k).1 (hLt.2.2.2.2.1 k).2
      · exact It
    · unfold onBeginS
      split
      · rw [c0_beg]
        omega
      · omega
  · refine fin (sv 8 i 2 t) G (by simp [recS, k]) (It.same (fun f h8 _ _ _ => ?_) rfl rfl rfl) (fun h1 R1 => M_come12 R1 hi k) hg (Nat.le_trans hct (by omega))
    funext j
    exact up2_a h8
