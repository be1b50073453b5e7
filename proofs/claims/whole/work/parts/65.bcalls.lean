/-! every call answers alike in both, and keeps all -/
def Bt (n B C : Nat) (hc hm : HP) (s : SS) (G : GG) : Prop := RepC n hc s ∧ RepM n hm s G none ∧ OkS n B s ∧ Inv n s G ∧ (∀ a c : Nat, a < n → c < n → (G.2 a c).1 ≤ B) ∧ s.2.2.2.2.1 0 ≤ C
def Btx (B C : Nat) (hc hm : HP) : Prop := ∃ (n : Nat) (s : SS) (G : GG), Bt n B C hc hm s G
section BC
variable {B C : Nat} {hc hm : HP}
theorem Bt.up {n : Nat} {s : SS} {G : GG} (b : Bt n B C hc hm s G) (hB : B + 14 < 2 ^ 29) : Btx (B + 14) (C + 40) hc hm := by
  obtain ⟨R, M, O, I, g, c⟩ := b
  exact ⟨n, s, G, R, M, O.up (by omega) hB, I, fun x y hx hy => Nat.le_trans (g x y hx hy) (by omega), by omega⟩
theorem Btx.up (b : Btx B C hc hm) (hB : B + 14 < 2 ^ 29) : Btx (B + 14) (C + 40) hc hm := by
  obtain ⟨n, s, G, b⟩ := b
  exact b.up hB
theorem B_sub (b : Btx B C hc hm) (hB : B + 14 < 2 ^ 29) (hC : C + 100 < 2 ^ 31) (a w : Int32) : ∃ (v : Int32) (hc' hm' : HP), f_X8_submit (some 1) a w hc = some (v, hc') ∧ f_X9_submit (some 1) a w hm = some (v, hm') ∧ Btx (B + 14) (C + 40) hc' hm' := by
  have b' := b.up hB
  obtain ⟨n, s, G, R, M, O, I, g, c⟩ := b
  have hn := R.rng
  cases hw : isA w with
  | false => exact ⟨-1, hc, hm, C_subN R (Or.inr hw), M_subN M (Or.inr hw), b'⟩
  | true =>
    rcases nI_cs hn.2 a with q | ⟨i, hi, rfl⟩
    · exact ⟨-1, hc, hm, C_subN R (Or.inl q), M_subN M (Or.inl q), b'⟩
    · obtain ⟨h1, e1, R1⟩ := C_sub R O hi hw
      obtain ⟨h2, e2, M1⟩ := M_sub M O hi (I.nd hi).2.2.2.2.1 hw (by omega)
      refine ⟨_, h1, h2, e1, e2, n, (subS n i w s).2, G, R1, M1, ?_, ?_, fun x y hx hy => Nat.le_trans (g x y hx hy) (by omega), ?_⟩
      · unfold subS accS
        split
        · split
          · exact O.up (by omega) hB
          · split
            · split
              · rename_i h60
                exact ((O.oPut hi h60 w).oLook hi).up (by omega) hB
              · exact O.up (by omega) hB
            · exact (OkS.oG ⟨by simp, by simp, by simp, by simp⟩ _ _ O).up (by omega) hB
        · exact O.up (by omega) hB
      · unfold subS accS
        split
        · by_cases cb : blk s i = true
          · rw [if_pos cb]
            exact I
          · rw [if_neg cb]
            by_cases cl : ld n s i = i
            · rw [if_pos cl]
              split
              · rename_i h60
                exact I.iAdd hi (blk_f (by simpa using cb)) h60 hw
              · exact I
            · rw [if_neg cl]
              refine Inv.sG hi (by simp) n 0 I (by omega) (fun y _ hb => ⟨⟨⟨fun q => cl ((two_eq hb).trans q.symm), by simp⟩, fun _ => ⟨w, rfl⟩, ?_, fun q => ?_, fun q => ?_, fun q => ?_, fun q => ?_, fun q => ?_⟩, fun q => ?_⟩)
              · intro a ha
                rw [List.mem_singleton.mp ha]
                exact hw
              all_goals (exfalso; simp only at q; omega)
        · exact I
      · unfold subS accS
        have r1 := c0_add (n := n) (s := s) i w
        have r2 := sndG_c0 i (2 ^ ld n s i) (1, 0, 0, [w]) n 0 s
        split
        · split
          · exact Nat.le_trans c (by omega)
          · split
            · split
              · show (addS n i w s).2.2.2.2.1 0 ≤ _
                omega
              · exact Nat.le_trans c (by omega)
            · show (sndG i (2 ^ ld n s i) (1, 0, 0, [w]) 0 n s).2.2.2.2.1 0 ≤ _
              omega
        · exact Nat.le_trans c (by omega)
theorem B_sus (b : Btx B C hc hm) (hB : B + 14 < 2 ^ 29) (hC : C + 100 < 2 ^ 31) (a w : Int32) : ∃ (v : Int32) (hc' hm' : HP), f_X8_suspect (some 1) a w hc = some (v, hc') ∧ f_X9_suspect (some 1) a w hm = some (v, hm') ∧ Btx (B + 14) (C + 40) hc' hm' := by
  have b' := b.up hB
  obtain ⟨n, s, G, R, M, O, I, g, c⟩ := b
  have hn := R.rng
  rcases nI_cs hn.2 a with q | ⟨i, hi, rfl⟩
  · exact ⟨-1, hc, hm, C_susN R (Or.inl q), M_susN M (Or.inl q), b'⟩
  · rcases nI_cs hn.2 w with q | ⟨p, hp, rfl⟩
    · exact ⟨-1, hc, hm, C_susN R (Or.inr q), M_susN M (Or.inr q), b'⟩
    · obtain ⟨h1, e1, R1⟩ := C_sus R O hB hi hp
      obtain ⟨h2, e2, M1⟩ := M_sus M O hi hp (I.nd hi).1 (by omega) (by omega)
      refine ⟨_, h1, h2, e1, e2, ?_⟩
      unfold susS at R1
      unfold gSus at M1
      by_cases c0 : i = p ∨ ¬ s.1 8 i = 0 ∨ (s.1 15 i).testBit p = true
      · rw [if_pos c0] at R1
        rw [if_pos c0, if_pos c0] at M1
        exact Bt.up ⟨R1, M1, O, I, g, c⟩ hB
      · rw [if_neg c0] at R1
        rw [if_neg c0, if_neg c0] at M1
        have I1 : Inv n (sv 15 i (setb (s.1 15 i) p) s) G := by
          refine I.loc ((Loc.refl i s).v 15 _) (fun _ _ => ⟨rfl, rfl⟩) (Nat.le_refl _) ?_ ⟨(I.2.2 i hi).1, (I.2.2 i hi).2⟩
          obtain ⟨a1, a2, a3, a4, a5, a6⟩ := I.nd hi
          refine ⟨a1, a2, ?_, a4, a5, a6⟩
          show (up2 s.1 15 i (setb (s.1 15 i) p) 15 i).testBit i = false
          rw [up2_same, setb_bit, a3]
          simp [show ¬ p = i from fun q => c0 (Or.inl q.symm)]
        have J : Inv n (trnS n i p s) (gTrn n i p s G) := by
          unfold trnS gTrn
          by_cases c1 : ((s.1 9 i = 3 ∨ s.1 9 i = 4) ∧ (s.1 0 i).testBit p = true) ∨ (lub n s i = true ∧ (s.1 11 i).testBit p = true)
          · rw [if_pos c1, if_pos c1]
            exact I1.iFlu hn hi
          · rw [if_neg c1, if_neg c1]
            by_cases c2 : s.1 9 i = 0 ∧ (p = ld n s i ∨ p + 1 = s.1 16 i)
            · rw [if_pos c2, if_pos c2]
              exact I1.iAsk hn hi
            · rw [if_neg c2, if_neg c2]
              exact I1
        have R2 : RepC n h1 (goS n i (trnS n i p s)) := R1
        rw [go_id J hi] at R2
        have := c0_trn (n := n) (s := s) i p
        exact ⟨n, _, _, R2, M1, (O.oTrn (by omega) hi hp hn.2).up (by omega) hB, J, fun x y hx hy => by rw [gTrn_2]; exact Nat.le_trans (g x y hx hy) (by omega), by omega⟩
theorem B_tim (b : Btx B C hc hm) (hB : B + 14 < 2 ^ 29) (hC : C + 100 < 2 ^ 31) (a : Int32) : ∃ (v : Int32) (hc' hm' : HP), f_X8_timeout (some 1) a hc = some (v, hc') ∧ f_X9_timeout (some 1) a hm = some (v, hm') ∧ Btx (B + 14) (C + 40) hc' hm' := by
  have b' := b.up hB
  obtain ⟨n, s, G, R, M, O, I, g, c⟩ := b
  have hn := R.rng
  rcases nI_cs hn.2 a with q | ⟨i, hi, rfl⟩
  · exact ⟨-1, hc, hm, C_timN R q, M_timN M q, b'⟩
  · obtain ⟨h1, e1, R1⟩ := C_tim R O hB hi
    obtain ⟨h2, e2, M1⟩ := M_tim M O hi (I.nd hi).1 (by omega) (by omega)
    refine ⟨_, h1, h2, e1, e2, ?_⟩
    unfold timS at R1
    unfold gTim at M1
    by_cases c0 : ¬ s.1 8 i = 0 ∨ s.1 9 i = 0
    · rw [if_pos c0] at R1
      rw [if_pos c0, if_pos c0] at M1
      exact Bt.up ⟨R1, M1, O, I, g, c⟩ hB
    · rw [if_neg c0] at R1
      rw [if_neg c0, if_neg c0] at M1
      have J : Inv n (losS n i s) (gLos n i s G) := by
        unfold losS gLos
        by_cases c1 : s.1 9 i = 2
        · rw [if_pos c1, if_pos c1]
          exact I.iAsk hn hi
        · rw [if_neg c1, if_neg c1]
          by_cases c2 : s.1 9 i = 0
          · rw [if_pos c2, if_pos c2]
            exact I
          · rw [if_neg c2, if_neg c2]
            exact I.iFlu hn hi
      have R2 : RepC n h1 (goS n i (losS n i s)) := R1
      rw [go_id J hi] at R2
      have := c0_los (n := n) (s := s) i
      exact ⟨n, _, _, R2, M1, (O.oLos (by omega) hi hn.2).up (by omega) hB, J, fun x y hx hy => by rw [gLos_2]; exact Nat.le_trans (g x y hx hy) (by omega), by omega⟩
theorem B_cra (b : Btx B C hc hm) (hB : B + 14 < 2 ^ 29) (a : Int32) : ∃ (v : Int32) (hc' hm' : HP), f_X8_crash (some 1) a hc = some (v, hc') ∧ f_X9_crash (some 1) a hm = some (v, hm') ∧ Btx (B + 14) (C + 40) hc' hm' := by
  have b' := b.up hB
  obtain ⟨n, s, G, R, M, O, I, g, c⟩ := b
  have hn := R.rng
  rcases nI_cs hn.2 a with q | ⟨i, hi, rfl⟩
  · exact ⟨nI 0, hc, hm, C_craN R q, M_craN M q, b'⟩
  · obtain ⟨h1, e1, R1⟩ := C_cra R O hi
    obtain ⟨h2, e2, M1⟩ := M_cra M O hi
    refine ⟨_, h1, h2, e1, e2, ?_⟩
    unfold craS at R1 M1
    by_cases c0 : s.1 8 i = 0
    · rw [if_pos c0] at R1 M1
      refine Bt.up ⟨R1, M1, O.oV (by simp [bnd]), I.same (fun f h8 _ _ _ => ?_) rfl rfl rfl, g, c⟩ hB
      funext j
      exact up2_a h8
    · rw [if_neg c0] at R1 M1
      exact Bt.up ⟨R1, M1, O, I, g, c⟩ hB
theorem B_del (b : Btx B C hc hm) (hB : B + 14 < 2 ^ 29) (hC : C + 100 < 2 ^ 31) (a w : Int32) : ∃ (v : Int32) (hc' hm' : HP), f_X8_deliver (some 1) a w hc = some (v, hc') ∧ f_X9_deliver (some 1) a w hm = some (v, hm') ∧ Btx (B + 14) (C + 40) hc' hm' := by
  have b' := b.up hB
  obtain ⟨n, s, G, R, M, O, I, g, c⟩ := b
  have hn := R.rng
  rcases nI_cs hn.2 a with q | ⟨x, hx, rfl⟩
  · exact ⟨-1, hc, hm, C_delN R (Or.inl q), M_delN M (Or.inl q), b'⟩
  rcases nI_cs hn.2 w with q | ⟨i, hi, rfl⟩
  · exact ⟨-1, hc, hm, C_delN R (Or.inr q), M_delN M (Or.inr q), b'⟩
  cases hq : s.2.2.2.1 x i with
  | nil => exact ⟨nI 0, hc, hm, C_delE R hx hi hq, M_delE M (by omega) hx hi hq, b'⟩
  | cons ℓ rest =>
    have hmem : ℓ ∈ s.2.2.2.1 x i := by rw [hq]; exact List.mem_cons_self
    have hL : LtA n (s.1 12 x) (s.1 12 i) x i ℓ := (I.2.1 x i hx hi).1 ℓ hmem
    have hO : LOk B ℓ := O.2.2.2.2 x i ℓ hx hi hmem
    have h128 := p7 hn.2
    have hd : ℓ.1 = 11 → ℓ.2.2.1 < 128 := fun q => by have := (hL.2.2.2.2.1 q).1; omega
    obtain ⟨-, -, -, -, -, -, -, -, -, -, -, -, -, -, h5⟩ := M_take M hx hi hq (by omega) O.2.2.1
    obtain ⟨h1, e1, R1⟩ := C_del R O hB hx hi hq h5 hd
    unfold delL at e1 R1
    by_cases c0 : s.1 8 i = 0
    · rw [if_pos c0] at e1 R1
      obtain ⟨G', hcome, J, g', c'⟩ := come_all I O hn hB hC g c hx hi hq
      obtain ⟨h2, e2, M1⟩ := M_delC M O hx hi hq (by omega) c0 hcome
      exact ⟨_, h1, h2, e1, e2, n, _, G', R1, M1, (((tak_ok O x i).oRec (by omega) hi hx hn.2 hO hd).oGo hi hn.2).up (by omega) hB, J, fun x y hx hy => Nat.le_trans (g' x y hx hy) (by omega), c'⟩
    · rw [if_neg c0] at e1 R1
      obtain ⟨h2, e2, M1⟩ := M_delD M O hx hi hq (by omega) c0
      exact ⟨_, h1, h2, e1, e2, Bt.up ⟨R1, M1, (tak_ok O x i).oI (by decide), (I.tk x i).same (fun _ _ _ _ _ => rfl) rfl rfl rfl, g, c⟩ hB⟩
theorem B_node (b : Btx B C hc hm) (a w : Int32) : ∃ v : Int32, f_X8_node (some 1) a w hc = some (v, hc) ∧ f_X9_node (some 1) a w hm = some (v, hm) := by
  obtain ⟨n, s, G, R, M, O, I, g, c⟩ := b
  rcases nI_cs R.rng.2 a with q | ⟨i, hi, rfl⟩
  · exact ⟨-1, C_nodeN R q w, M_nodeN M q w⟩
  · exact ⟨_, C_node R O hi w, M_node M O hi w⟩
theorem B_held (b : Btx B C hc hm) (a w : Int32) : ∃ v : Int32, f_X8_held (some 1) a w hc = some (v, hc) ∧ f_X9_held (some 1) a w hm = some (v, hm) := by
  obtain ⟨n, s, G, R, M, O, I, g, c⟩ := b
  rcases nI_cs R.rng.2 a with q | ⟨i, hi, rfl⟩
  · exact ⟨_, C_heldN R q w, M_heldN M q w⟩
  · exact ⟨_, C_held R O hi w, M_held M O hi w⟩
theorem B_depth (b : Btx B C hc hm) (a : Int32) : ∃ v : Int32, f_X8_depth (some 1) a hc = some (v, hc) ∧ f_X9_depth (some 1) a hm = some (v, hm) := by
  obtain ⟨n, s, G, R, M, O, I, g, c⟩ := b
  rcases nI_cs R.rng.2 a with q | ⟨i, hi, rfl⟩
  · exact ⟨_, C_depthN R q, M_depthN M q⟩
  · exact ⟨_, C_depth R hi, M_depth M hi⟩
theorem B_top (b : Btx B C hc hm) (a w : Int32) : ∃ v : Int32, f_X8_top (some 1) a w hc = some (v, hc) ∧ f_X9_top (some 1) a w hm = some (v, hm) := by
  obtain ⟨n, s, G, R, M, O, I, g, c⟩ := b
  rcases nI_cs R.rng.2 a with q | ⟨i, hi, rfl⟩
  · exact ⟨_, C_topN R q w, M_topN M q w⟩
  · exact ⟨_, C_top R O hi w, M_top M O hi w⟩
theorem B_count (b : Btx B C hc hm) (w : Int32) : ∃ v : Int32, f_X8_count (some 1) w hc = some (v, hc) ∧ f_X9_count (some 1) w hm = some (v, hm) := by
  obtain ⟨n, s, G, R, M, O, I, g, c⟩ := b
  exact ⟨_, C_count R w, M_count M w⟩
theorem B_fly (b : Btx B C hc hm) (a w : Int32) : ∃ v : Int32, f_X8_flying (some 1) a w hc = some (v, hc) ∧ f_X9_flying (some 1) a w hm = some (v, hm) := by
  obtain ⟨n, s, G, R, M, O, I, g, c⟩ := b
  by_cases c0 : a = -1
  · subst c0
    exact ⟨_, C_fly0 R w, M_fly0 M w⟩
  rcases nI_cs R.rng.2 a with q | ⟨x, hx, rfl⟩
  · exact ⟨_, C_flyN R c0 (Or.inl q), M_flyN M c0 (Or.inl q)⟩
  rcases nI_cs R.rng.2 w with q | ⟨i, hi, rfl⟩
  · exact ⟨_, C_flyN R c0 (Or.inr q), M_flyN M c0 (Or.inr q)⟩
  · exact ⟨_, C_fly R hx hi, M_fly M hx hi⟩
theorem B_let (b : Btx B C hc hm) (hC : C + 100 < 2 ^ 31) (a w z : Int32) : ∃ v : Int32, f_X8_letter (some 1) a w z hc = some (v, hc) ∧ f_X9_letter (some 1) a w z hm = some (v, hm) := by
  obtain ⟨n, s, G, R, M, O, I, g, c⟩ := b
  rcases nI_cs R.rng.2 a with q | ⟨x, hx, rfl⟩
  · exact ⟨_, C_letN R (Or.inl q) z, M_letN M (Or.inl q) z⟩
  rcases nI_cs R.rng.2 w with q | ⟨i, hi, rfl⟩
  · exact ⟨_, C_letN R (Or.inr q) z, M_letN M (Or.inr q) z⟩
  · exact ⟨_, C_let R hx hi z, M_let M (by omega) hx hi z⟩
end BC
