/-! words that the rows use, classes and methods as the tables have them; small rows for walks -/
theorem hz_bd {α β : Type} {o : Option α} {f : α → Option β} {b : β} (H : o.bind f = some b) : ∃ a, o = some a ∧ f a = some b := Option.bind_eq_some_iff.mp H
theorem hz_lt {α β : Type} {a : α} {f : α → Option β} {b : β} (H : (some a).bind f = some b) : f a = some b := H
theorem hz_un {β : Type} {c : Prop} [Decidable c] {x : Option β} {b : β} (H : (if c then none else x) = some b) : ¬ c ∧ x = some b := by
  by_cases h : c
  · rw [if_pos h] at H; cases H
  · rw [if_neg h] at H; exact ⟨h, H⟩
theorem hz_wn {β : Type} {c : Prop} [Decidable c] {x : Option β} {b : β} (H : (if c then x else none) = some b) : c ∧ x = some b := by
  by_cases h : c
  · rw [if_pos h] at H; exact ⟨h, H⟩
  · rw [if_neg h] at H; cases H
theorem hz_it {β : Type} {c : Prop} [Decidable c] {x y : Option β} {b : β} (h : c) (H : (if c then x else y) = some b) : x = some b := by rw [if_pos h] at H; exact H
theorem hz_if {β : Type} {c : Prop} [Decidable c] {x y : Option β} {b : β} (h : ¬ c) (H : (if c then x else y) = some b) : y = some b := by rw [if_neg h] at H; exact H
theorem hz_sub_0 : hz_sub [] [] := trivial
theorem hz_sub_s {a b : List (Option Value)} {v : Value} (h : hz_sub a b) : hz_sub (some v :: a) (some v :: b) := ⟨rfl, h⟩
theorem hz_sub_n {a b : List (Option Value)} {w : Option Value} (h : hz_sub a b) : hz_sub (none :: a) (w :: b) := h
theorem hz_s1n : hz_s1 [] := fun v h => by cases h
theorem hz_ao2 : ∀ (E : EV) (U : State), hz_K E U → va_AO "GroupCast$Channel" U := fun _ _ h => h.2.2.2.2.2.1
theorem hz_ao3 : ∀ (E : EV) (U : State), hz_K E U → va_AO "GroupCast$Node" U := fun _ _ h => h.2.2.2.2.2.2
theorem hz_mT {w : Cond} (k : Nat) (h : lw_tbl[k]? = some w) (g : goodWord w = true) : w ∈ hz_T := List.mem_filter.mpr ⟨List.mem_of_getElem? h, g⟩
theorem hz_mN {w : Cond} (k : Nat) (h : lw_tbl[k]? = some w) (g : hz_isN w = true) : w ∈ hz_N := List.mem_filter.mpr ⟨List.mem_of_getElem? h, g⟩
set_option maxRecDepth 100000 in
theorem cl_0 : hz_Cl 0 RX0 TX0 tyX0 5 := ⟨rfl, by decide +kernel, tyX0_ok, nmX0, by decide +kernel⟩
theorem df_0 : ∀ E : EV, ∀ j, j < 5 → defaultValue (tyX0 j) = vp_V (([.int 0, .int 0, .null, .int 0, .int 0] : List Value).map (hz_v E)) j := fun E j hj => by
  match j, hj with
  | 0, _ => rfl
  | 1, _ => rfl
  | 2, _ => rfl
  | 3, _ => rfl
  | 4, _ => rfl
  | j + 5, hj => exact absurd hj (by omega)
set_option maxRecDepth 100000 in
theorem cl_1 : hz_Cl 1 RX1 TX1 tyX1 3 := ⟨rfl, by decide +kernel, tyX1_ok, nmX1, by decide +kernel⟩
theorem df_1 : ∀ E : EV, ∀ j, j < 3 → defaultValue (tyX1 j) = vp_V (([.null, .null, .int 0] : List Value).map (hz_v E)) j := fun E j hj => by
  match j, hj with
  | 0, _ => rfl
  | 1, _ => rfl
  | 2, _ => rfl
  | j + 3, hj => exact absurd hj (by omega)
set_option maxRecDepth 100000 in
theorem cl_2 : hz_Cl 2 RX2 TX2 tyX2 5 := ⟨rfl, by decide +kernel, tyX2_ok, nmX2, by decide +kernel⟩
theorem df_2 : ∀ E : EV, ∀ j, j < 5 → defaultValue (tyX2 j) = vp_V (([.int 0, .int 0, .int 0, .null, .null] : List Value).map (hz_v E)) j := fun E j hj => by
  match j, hj with
  | 0, _ => rfl
  | 1, _ => rfl
  | 2, _ => rfl
  | 3, _ => rfl
  | 4, _ => rfl
  | j + 5, hj => exact absurd hj (by omega)
set_option maxRecDepth 100000 in
theorem cl_3 : hz_Cl 3 RX3 TX3 tyX3 2 := ⟨rfl, by decide +kernel, tyX3_ok, nmX3, by decide +kernel⟩
theorem df_3 : ∀ E : EV, ∀ j, j < 2 → defaultValue (tyX3 j) = vp_V (([.null, .int 0] : List Value).map (hz_v E)) j := fun E j hj => by
  match j, hj with
  | 0, _ => rfl
  | 1, _ => rfl
  | j + 2, hj => exact absurd hj (by omega)
set_option maxRecDepth 100000 in
theorem cl_4 : hz_Cl 4 RX4 TX4 tyX4 17 := ⟨rfl, by decide +kernel, tyX4_ok, nmX4, by decide +kernel⟩
theorem df_4 : ∀ E : EV, ∀ j, j < 17 → defaultValue (tyX4 j) = vp_V (([.int 0, .int 0, .null, .null, .null, .null, .null, .null, .int 0, .int 0, .int 0, .int 0, .int 0, .int 0, .int 0, .int 0, .int 0] : List Value).map (hz_v E)) j := fun E j hj => by
  match j, hj with
  | 0, _ => rfl
  | 1, _ => rfl
  | 2, _ => rfl
  | 3, _ => rfl
  | 4, _ => rfl
  | 5, _ => rfl
  | 6, _ => rfl
  | 7, _ => rfl
  | 8, _ => rfl
  | 9, _ => rfl
  | 10, _ => rfl
  | 11, _ => rfl
  | 12, _ => rfl
  | 13, _ => rfl
  | 14, _ => rfl
  | 15, _ => rfl
  | 16, _ => rfl
  | j + 17, hj => exact absurd hj (by omega)
set_option maxRecDepth 100000 in
theorem cl_5 : hz_Cl 5 RX5 TX5 tyX5 4 := ⟨rfl, by decide +kernel, tyX5_ok, nmX5, by decide +kernel⟩
theorem df_5 : ∀ E : EV, ∀ j, j < 4 → defaultValue (tyX5 j) = vp_V (([.int 0, .null, .null, .int 0] : List Value).map (hz_v E)) j := fun E j hj => by
  match j, hj with
  | 0, _ => rfl
  | 1, _ => rfl
  | 2, _ => rfl
  | 3, _ => rfl
  | j + 4, hj => exact absurd hj (by omega)
set_option maxRecDepth 100000 in
theorem cl_6 : hz_Cl 6 RX6 TX6 tyX6 2 := ⟨rfl, by decide +kernel, tyX6_ok, nmX6, by decide +kernel⟩
theorem df_6 : ∀ E : EV, ∀ j, j < 2 → defaultValue (tyX6 j) = vp_V (([.null, .int 0] : List Value).map (hz_v E)) j := fun E j hj => by
  match j, hj with
  | 0, _ => rfl
  | 1, _ => rfl
  | j + 2, hj => exact absurd hj (by omega)
set_option maxRecDepth 100000 in
theorem cl_7 : hz_Cl 7 RX7 TX7 tyX7 5 := ⟨rfl, by decide +kernel, tyX7_ok, nmX7, by decide +kernel⟩
theorem df_7 : ∀ E : EV, ∀ j, j < 5 → defaultValue (tyX7 j) = vp_V (([.int 0, .int 0, .int 0, .int 0, .int 0] : List Value).map (hz_v E)) j := fun E j hj => by
  match j, hj with
  | 0, _ => rfl
  | 1, _ => rfl
  | 2, _ => rfl
  | 3, _ => rfl
  | 4, _ => rfl
  | j + 5, hj => exact absurd hj (by omega)
set_option maxRecDepth 100000 in
theorem cl_8 : hz_Cl 8 RX8 TX8 tyX8 3 := ⟨rfl, by decide +kernel, tyX8_ok, nmX8, by decide +kernel⟩
theorem df_8 : ∀ E : EV, ∀ j, j < 3 → defaultValue (tyX8 j) = vp_V (([.null, .null, .null] : List Value).map (hz_v E)) j := fun E j hj => by
  match j, hj with
  | 0, _ => rfl
  | 1, _ => rfl
  | 2, _ => rfl
  | j + 3, hj => exact absurd hj (by omega)
set_option maxRecDepth 100000 in
theorem cl_9 : hz_Cl 9 RX9 TX9 tyX9 35 := ⟨rfl, by decide +kernel, tyX9_ok, nmX9, by decide +kernel⟩
theorem df_9 : ∀ E : EV, ∀ j, j < 35 → defaultValue (tyX9 j) = vp_V (([.int 0, .null, .null, .null, .null, .null, .null, .null, .null, .null, .null, .null, .null, .null, .null, .null, .null, .null, .null, .null, .null, .null, .null, .null, .null, .null, .null, .null, .null, .int 0, .int 0, .int 0, .int 0, .int 0, .int 0] : List Value).map (hz_v E)) j := fun E j hj => by
  match j, hj with
  | 0, _ => rfl
  | 1, _ => rfl
  | 2, _ => rfl
  | 3, _ => rfl
  | 4, _ => rfl
  | 5, _ => rfl
  | 6, _ => rfl
  | 7, _ => rfl
  | 8, _ => rfl
  | 9, _ => rfl
  | 10, _ => rfl
  | 11, _ => rfl
  | 12, _ => rfl
  | 13, _ => rfl
  | 14, _ => rfl
  | 15, _ => rfl
  | 16, _ => rfl
  | 17, _ => rfl
  | 18, _ => rfl
  | 19, _ => rfl
  | 20, _ => rfl
  | 21, _ => rfl
  | 22, _ => rfl
  | 23, _ => rfl
  | 24, _ => rfl
  | 25, _ => rfl
  | 26, _ => rfl
  | 27, _ => rfl
  | 28, _ => rfl
  | 29, _ => rfl
  | 30, _ => rfl
  | 31, _ => rfl
  | 32, _ => rfl
  | 33, _ => rfl
  | 34, _ => rfl
  | j + 35, hj => exact absurd hj (by omega)
theorem wd_0 : Cond.selects RX8 yX8_find yX8_find ∈ hz_T := hz_mT 0 (by decide +kernel) (by decide +kernel)
theorem wd_1 : Cond.selects RX4 yX4_isBlocked yX4_isBlocked ∈ hz_T := hz_mT 1 (by decide +kernel) (by decide +kernel)
theorem wd_2 : Cond.selects RX4 yX4_leader yX4_leader ∈ hz_T := hz_mT 2 (by decide +kernel) (by decide +kernel)
theorem wd_3 : Cond.selects RX4 yX4_putInOrder yX4_putInOrder ∈ hz_T := hz_mT 3 (by decide +kernel) (by decide +kernel)
theorem wd_4 : Cond.selects RX4 yX4_others yX4_others ∈ hz_T := hz_mT 4 (by decide +kernel) (by decide +kernel)
theorem wd_5 : Cond.selects RX4 yX4_carryOutWhatMostHold yX4_carryOutWhatMostHold ∈ hz_T := hz_mT 5 (by decide +kernel) (by decide +kernel)
theorem wd_6 : Cond.selects RX4 yX4_heldByMost yX4_heldByMost ∈ hz_T := hz_mT 6 (by decide +kernel) (by decide +kernel)
theorem wd_7 : Cond.selects RX4 yX4_holdersOf yX4_holdersOf ∈ hz_T := hz_mT 7 (by decide +kernel) (by decide +kernel)
theorem wd_8 : Cond.selects RX4 yX4_areMost yX4_areMost ∈ hz_T := hz_mT 8 (by decide +kernel) (by decide +kernel)
theorem wd_9 : Cond.selects RX4 yX4_carryOutUpTo yX4_carryOutUpTo ∈ hz_T := hz_mT 9 (by decide +kernel) (by decide +kernel)
theorem wd_10 : Cond.selects RX3 yX3_add yX3_add ∈ hz_T := hz_mT 10 (by decide +kernel) (by decide +kernel)
theorem wd_11 : Cond.selects RX3 yX3_multiply yX3_multiply ∈ hz_T := hz_mT 11 (by decide +kernel) (by decide +kernel)
theorem wd_12 : Cond.selects RX3 yX3_duplicate yX3_duplicate ∈ hz_T := hz_mT 12 (by decide +kernel) (by decide +kernel)
theorem wd_13 : Cond.selects RX3 yX3_drop yX3_drop ∈ hz_T := hz_mT 13 (by decide +kernel) (by decide +kernel)
theorem wd_14 : Cond.selects RX3 yX3_swap yX3_swap ∈ hz_T := hz_mT 14 (by decide +kernel) (by decide +kernel)
theorem wd_15 : Cond.selects RX3 yX3_push yX3_push ∈ hz_T := hz_mT 15 (by decide +kernel) (by decide +kernel)
theorem wd_16 : Cond.selects RX4 yX4_onPass yX4_onPass ∈ hz_T := hz_mT 16 (by decide +kernel) (by decide +kernel)
theorem wd_17 : Cond.selects RX4 yX4_leadsUnblocked yX4_leadsUnblocked ∈ hz_T := hz_mT 17 (by decide +kernel) (by decide +kernel)
theorem wd_18 : Cond.selects RX4 yX4_onOrder yX4_onOrder ∈ hz_T := hz_mT 18 (by decide +kernel) (by decide +kernel)
theorem wd_19 : Cond.selects RX4 yX4_reply yX4_reply ∈ hz_T := hz_mT 19 (by decide +kernel) (by decide +kernel)
theorem wd_20 : Cond.selects RX4 yX4_onHeld yX4_onHeld ∈ hz_T := hz_mT 20 (by decide +kernel) (by decide +kernel)
theorem wd_21 : Cond.selects RX4 yX4_onDo yX4_onDo ∈ hz_T := hz_mT 21 (by decide +kernel) (by decide +kernel)
theorem wd_22 : Cond.selects RX4 yX4_onElect yX4_onElect ∈ hz_T := hz_mT 22 (by decide +kernel) (by decide +kernel)
theorem wd_23 : Cond.selects RX4 yX4_ask yX4_ask ∈ hz_T := hz_mT 23 (by decide +kernel) (by decide +kernel)
theorem wd_24 : Cond.selects RX4 yX4_flush yX4_flush ∈ hz_T := hz_mT 24 (by decide +kernel) (by decide +kernel)
theorem wd_25 : Cond.selects RX4 yX4_nextOwnNumber yX4_nextOwnNumber ∈ hz_T := hz_mT 25 (by decide +kernel) (by decide +kernel)
theorem wd_26 : Cond.selects RX4 yX4_onWait yX4_onWait ∈ hz_T := hz_mT 26 (by decide +kernel) (by decide +kernel)
theorem wd_27 : Cond.selects RX4 yX4_onFlush yX4_onFlush ∈ hz_T := hz_mT 27 (by decide +kernel) (by decide +kernel)
theorem wd_28 : Cond.selects RX4 yX4_onFlushed yX4_onFlushed ∈ hz_T := hz_mT 28 (by decide +kernel) (by decide +kernel)
theorem wd_29 : Cond.selects RX0 yX0_isBetter yX0_isBetter ∈ hz_T := hz_mT 29 (by decide +kernel) (by decide +kernel)
theorem wd_30 : Cond.selects RX4 yX4_onSync yX4_onSync ∈ hz_T := hz_mT 30 (by decide +kernel) (by decide +kernel)
theorem wd_31 : Cond.selects RX4 yX4_onSynced yX4_onSynced ∈ hz_T := hz_mT 31 (by decide +kernel) (by decide +kernel)
theorem wd_32 : Cond.selects RX4 yX4_onBegin yX4_onBegin ∈ hz_T := hz_mT 32 (by decide +kernel) (by decide +kernel)
theorem wd_33 : Cond.selects RX4 yX4_begin yX4_begin ∈ hz_T := hz_mT 33 (by decide +kernel) (by decide +kernel)
theorem wd_34 : Cond.selects RX4 yX4_giveBest yX4_giveBest ∈ hz_T := hz_mT 34 (by decide +kernel) (by decide +kernel)
theorem wd_35 : Cond.selects RX4 yX4_beginAnew yX4_beginAnew ∈ hz_T := hz_mT 35 (by decide +kernel) (by decide +kernel)
theorem wd_36 : Cond.selects RX4 yX4_isChanging yX4_isChanging ∈ hz_T := hz_mT 36 (by decide +kernel) (by decide +kernel)
theorem wd_37 : Cond.selects RX9 yX9_isNode yX9_isNode ∈ hz_T := hz_mT 37 (by decide +kernel) (by decide +kernel)
theorem wd_38 : Cond.selects RX9 yX9_isBlocked yX9_isBlocked ∈ hz_T := hz_mT 38 (by decide +kernel) (by decide +kernel)
theorem wd_39 : Cond.selects RX9 yX9_leader yX9_leader ∈ hz_T := hz_mT 39 (by decide +kernel) (by decide +kernel)
theorem wd_40 : Cond.selects RX9 yX9_send yX9_send ∈ hz_T := hz_mT 40 (by decide +kernel) (by decide +kernel)
theorem wd_41 : Cond.selects RX9 yX9_add yX9_add ∈ hz_T := hz_mT 41 (by decide +kernel) (by decide +kernel)
theorem wd_42 : Cond.selects RX9 yX9_sendAll yX9_sendAll ∈ hz_T := hz_mT 42 (by decide +kernel) (by decide +kernel)
theorem wd_43 : Cond.selects RX9 yX9_look yX9_look ∈ hz_T := hz_mT 43 (by decide +kernel) (by decide +kernel)
theorem wd_44 : Cond.selects RX9 yX9_carryTo yX9_carryTo ∈ hz_T := hz_mT 44 (by decide +kernel) (by decide +kernel)
theorem wd_45 : Cond.selects RX9 yX9_carry yX9_carry ∈ hz_T := hz_mT 45 (by decide +kernel) (by decide +kernel)
theorem wd_46 : Cond.selects RX9 yX9_push yX9_push ∈ hz_T := hz_mT 46 (by decide +kernel) (by decide +kernel)
theorem wd_47 : Cond.selects RX9 yX9_oldest yX9_oldest ∈ hz_T := hz_mT 47 (by decide +kernel) (by decide +kernel)
theorem wd_48 : Cond.selects RX9 yX9_keepLetter yX9_keepLetter ∈ hz_T := hz_mT 48 (by decide +kernel) (by decide +kernel)
theorem wd_49 : Cond.selects RX9 yX9_come yX9_come ∈ hz_T := hz_mT 49 (by decide +kernel) (by decide +kernel)
theorem wd_50 : Cond.selects RX9 yX9_ask yX9_ask ∈ hz_T := hz_mT 50 (by decide +kernel) (by decide +kernel)
theorem wd_51 : Cond.selects RX9 yX9_flush yX9_flush ∈ hz_T := hz_mT 51 (by decide +kernel) (by decide +kernel)
theorem wd_52 : Cond.selects RX9 yX9_many yX9_many ∈ hz_T := hz_mT 52 (by decide +kernel) (by decide +kernel)
theorem wd_53 : Cond.selects RX9 yX9_choose yX9_choose ∈ hz_T := hz_mT 53 (by decide +kernel) (by decide +kernel)
theorem wd_54 : Cond.selects RX9 yX9_found yX9_found ∈ hz_T := hz_mT 54 (by decide +kernel) (by decide +kernel)
theorem wd_55 : Cond.selects RX9 yX9_begin yX9_begin ∈ hz_T := hz_mT 55 (by decide +kernel) (by decide +kernel)
theorem wd_56 : Cond.selects RX9 yX9_comeOfView yX9_comeOfView ∈ hz_T := hz_mT 56 (by decide +kernel) (by decide +kernel)
theorem wd_58 : Cond.initialized RX8 ∈ hz_T := hz_mT 58 (by decide +kernel) (by decide +kernel)
theorem wd_59 : Cond.initialized RX7 ∈ hz_T := hz_mT 59 (by decide +kernel) (by decide +kernel)
theorem wd_60 : Cond.initialized RX5 ∈ hz_T := hz_mT 60 (by decide +kernel) (by decide +kernel)
theorem wd_61 : Cond.initialized RX1 ∈ hz_T := hz_mT 61 (by decide +kernel) (by decide +kernel)
theorem wd_62 : Cond.initialized RX4 ∈ hz_T := hz_mT 62 (by decide +kernel) (by decide +kernel)
theorem wd_63 : Cond.initialized RX6 ∈ hz_T := hz_mT 63 (by decide +kernel) (by decide +kernel)
theorem wd_64 : Cond.initialized RX3 ∈ hz_T := hz_mT 64 (by decide +kernel) (by decide +kernel)
theorem wd_65 : Cond.initialized RX0 ∈ hz_T := hz_mT 65 (by decide +kernel) (by decide +kernel)
theorem wd_66 : Cond.initialized RX9 ∈ hz_T := hz_mT 66 (by decide +kernel) (by decide +kernel)
theorem wd_67 : Cond.initialized RX2 ∈ hz_T := hz_mT 67 (by decide +kernel) (by decide +kernel)
theorem wd_68 : Cond.initialized RJ6 ∈ hz_T := hz_mT 68 (by decide +kernel) (by decide +kernel)
theorem wd_69 : Cond.initialized RJ9 ∈ hz_T := hz_mT 69 (by decide +kernel) (by decide +kernel)
theorem wd_70 : Cond.initialized RJ7 ∈ hz_T := hz_mT 70 (by decide +kernel) (by decide +kernel)
theorem wd_71 : Cond.initialized RJ10 ∈ hz_T := hz_mT 71 (by decide +kernel) (by decide +kernel)
set_option maxRecDepth 100000 in
theorem wd_76 : Cond.code yX8_init cX8_init 4 none ∈ hz_T := hz_mT 76 rfl (by decide +kernel)
theorem wd_77 : Cond.methodLink RX8 3 Lib.objectInit ∈ hz_T := hz_mT 77 (by decide +kernel) (by decide +kernel)
theorem wd_78 : Cond.instanceMethod Lib.objectInit ∈ hz_T := hz_mT 78 (by decide +kernel) (by decide +kernel)
set_option maxRecDepth 100000 in
theorem wd_79 : Cond.code Lib.objectInit ⟨#[0xb1]⟩ 1 none ∈ hz_T := hz_mT 79 rfl (by decide +kernel)
theorem wd_80 : Cond.classLink RX8 9 RX7 ∈ hz_T := hz_mT 80 (by decide +kernel) (by decide +kernel)
theorem wd_81 : Cond.instantiable RX7 5 ∈ hz_T := hz_mT 81 (by decide +kernel) (by decide +kernel)
theorem wn_82 : Cond.methodLinkNest RX8 11 yX7_init "GroupCast" ∈ hz_N := hz_mN 82 (by decide +kernel) (by decide +kernel)
theorem wd_83 : Cond.instanceMethod yX7_init ∈ hz_T := hz_mT 83 (by decide +kernel) (by decide +kernel)
set_option maxRecDepth 100000 in
theorem wd_84 : Cond.code yX7_init cX7_init 1 none ∈ hz_T := hz_mT 84 rfl (by decide +kernel)
theorem wd_85 : Cond.methodLink RX7 3 Lib.objectInit ∈ hz_T := hz_mT 85 (by decide +kernel) (by decide +kernel)
theorem wd_86 : Cond.fieldLink RX7 9 "GroupCast$Tally" "sent" "I" ∈ hz_T := hz_mT 86 (by decide +kernel) (by decide +kernel)
theorem wd_87 : Cond.fieldLink RX5 37 "GroupCast$Tally" "sent" "I" ∈ hz_T := hz_mT 87 (by decide +kernel) (by decide +kernel)
theorem wd_88 : Cond.fieldLink RX7 15 "GroupCast$Tally" "lost" "I" ∈ hz_T := hz_mT 88 (by decide +kernel) (by decide +kernel)
theorem wd_89 : Cond.fieldLink RX8 58 "GroupCast$Tally" "lost" "I" ∈ hz_T := hz_mT 89 (by decide +kernel) (by decide +kernel)
theorem wd_90 : Cond.fieldLink RX5 46 "GroupCast$Tally" "lost" "I" ∈ hz_T := hz_mT 90 (by decide +kernel) (by decide +kernel)
theorem wd_91 : Cond.fieldLink RX4 208 "GroupCast$Tally" "lost" "I" ∈ hz_T := hz_mT 91 (by decide +kernel) (by decide +kernel)
theorem wd_92 : Cond.fieldLink RX7 18 "GroupCast$Tally" "carriedOut" "I" ∈ hz_T := hz_mT 92 (by decide +kernel) (by decide +kernel)
theorem wd_93 : Cond.fieldLink RX4 156 "GroupCast$Tally" "carriedOut" "I" ∈ hz_T := hz_mT 93 (by decide +kernel) (by decide +kernel)
theorem wd_94 : Cond.fieldLink RX7 21 "GroupCast$Tally" "begins" "I" ∈ hz_T := hz_mT 94 (by decide +kernel) (by decide +kernel)
theorem wd_95 : Cond.fieldLink RX4 261 "GroupCast$Tally" "begins" "I" ∈ hz_T := hz_mT 95 (by decide +kernel) (by decide +kernel)
theorem wd_96 : Cond.fieldLink RX7 24 "GroupCast$Tally" "flushes" "I" ∈ hz_T := hz_mT 96 (by decide +kernel) (by decide +kernel)
theorem wd_97 : Cond.fieldLink RX4 273 "GroupCast$Tally" "flushes" "I" ∈ hz_T := hz_mT 97 (by decide +kernel) (by decide +kernel)
theorem wd_109 : Cond.classLink RX8 16 RX5 ∈ hz_T := hz_mT 109 (by decide +kernel) (by decide +kernel)
theorem wd_110 : Cond.instantiable RX5 4 ∈ hz_T := hz_mT 110 (by decide +kernel) (by decide +kernel)
theorem wd_111 : Cond.methodLink RX8 18 yX5_init ∈ hz_T := hz_mT 111 (by decide +kernel) (by decide +kernel)
theorem wd_112 : Cond.instanceMethod yX5_init ∈ hz_T := hz_mT 112 (by decide +kernel) (by decide +kernel)
set_option maxRecDepth 100000 in
theorem wd_113 : Cond.code yX5_init cX5_init 4 none ∈ hz_T := hz_mT 113 rfl (by decide +kernel)
theorem wd_114 : Cond.methodLink RX5 3 Lib.objectInit ∈ hz_T := hz_mT 114 (by decide +kernel) (by decide +kernel)
theorem wd_115 : Cond.classLink RX5 19 RX1 ∈ hz_T := hz_mT 115 (by decide +kernel) (by decide +kernel)
theorem wd_117 : Cond.instantiable RX1 3 ∈ hz_T := hz_mT 117 (by decide +kernel) (by decide +kernel)
theorem wn_118 : Cond.methodLinkNest RX5 25 yX1_init "GroupCast" ∈ hz_N := hz_mN 118 (by decide +kernel) (by decide +kernel)
theorem wd_119 : Cond.instanceMethod yX1_init ∈ hz_T := hz_mT 119 (by decide +kernel) (by decide +kernel)
set_option maxRecDepth 100000 in
theorem wd_120 : Cond.code yX1_init cX1_init 1 none ∈ hz_T := hz_mT 120 rfl (by decide +kernel)
theorem wd_121 : Cond.methodLink RX1 1 Lib.objectInit ∈ hz_T := hz_mT 121 (by decide +kernel) (by decide +kernel)
theorem wd_122 : Cond.fieldLink RX1 13 "GroupCast$Channel" "first" "LGroupCast$Letter;" ∈ hz_T := hz_mT 122 (by decide +kernel) (by decide +kernel)
theorem wd_123 : Cond.fieldLink RX8 127 "GroupCast$Channel" "first" "LGroupCast$Letter;" ∈ hz_T := hz_mT 123 (by decide +kernel) (by decide +kernel)
theorem wd_124 : Cond.fieldLink RX1 7 "GroupCast$Channel" "last" "LGroupCast$Letter;" ∈ hz_T := hz_mT 124 (by decide +kernel) (by decide +kernel)
theorem wd_125 : Cond.fieldLink RX1 21 "GroupCast$Channel" "size" "I" ∈ hz_T := hz_mT 125 (by decide +kernel) (by decide +kernel)
theorem wd_126 : Cond.fieldLink RX8 124 "GroupCast$Channel" "size" "I" ∈ hz_T := hz_mT 126 (by decide +kernel) (by decide +kernel)
theorem wd_134 : Cond.fieldLink RX5 9 "GroupCast$Post" "size" "I" ∈ hz_T := hz_mT 134 (by decide +kernel) (by decide +kernel)
theorem wd_135 : Cond.fieldLink RX5 15 "GroupCast$Post" "tally" "LGroupCast$Tally;" ∈ hz_T := hz_mT 135 (by decide +kernel) (by decide +kernel)
theorem wd_136 : Cond.fieldLink RX5 21 "GroupCast$Post" "channels" "[LGroupCast$Channel;" ∈ hz_T := hz_mT 136 (by decide +kernel) (by decide +kernel)
theorem wd_137 : Cond.fieldLink RX5 30 "GroupCast$Post" "inFlight" "I" ∈ hz_T := hz_mT 137 (by decide +kernel) (by decide +kernel)
theorem wd_138 : Cond.fieldLink RX8 121 "GroupCast$Post" "inFlight" "I" ∈ hz_T := hz_mT 138 (by decide +kernel) (by decide +kernel)
theorem wd_148 : Cond.classLink RX8 25 RX4 ∈ hz_T := hz_mT 148 (by decide +kernel) (by decide +kernel)
theorem wd_150 : Cond.instantiable RX4 17 ∈ hz_T := hz_mT 150 (by decide +kernel) (by decide +kernel)
theorem wd_151 : Cond.methodLink RX8 31 yX4_init ∈ hz_T := hz_mT 151 (by decide +kernel) (by decide +kernel)
theorem wd_152 : Cond.instanceMethod yX4_init ∈ hz_T := hz_mT 152 (by decide +kernel) (by decide +kernel)
set_option maxRecDepth 100000 in
theorem wd_153 : Cond.code yX4_init cX4_init 5 none ∈ hz_T := hz_mT 153 rfl (by decide +kernel)
theorem wd_154 : Cond.methodLink RX4 3 Lib.objectInit ∈ hz_T := hz_mT 154 (by decide +kernel) (by decide +kernel)
theorem wd_155 : Cond.classLink RX4 9 RX6 ∈ hz_T := hz_mT 155 (by decide +kernel) (by decide +kernel)
theorem wd_156 : Cond.instantiable RX6 2 ∈ hz_T := hz_mT 156 (by decide +kernel) (by decide +kernel)
theorem wn_157 : Cond.methodLinkNest RX4 11 yX6_init "GroupCast" ∈ hz_N := hz_mN 157 (by decide +kernel) (by decide +kernel)
theorem wd_158 : Cond.instanceMethod yX6_init ∈ hz_T := hz_mT 158 (by decide +kernel) (by decide +kernel)
set_option maxRecDepth 100000 in
theorem wd_159 : Cond.code yX6_init cX6_init 1 none ∈ hz_T := hz_mT 159 rfl (by decide +kernel)
theorem wd_160 : Cond.methodLink RX6 3 Lib.objectInit ∈ hz_T := hz_mT 160 (by decide +kernel) (by decide +kernel)
theorem wd_161 : Cond.fieldLink RX6 9 "GroupCast$Row" "acts" "[I" ∈ hz_T := hz_mT 161 (by decide +kernel) (by decide +kernel)
theorem wd_162 : Cond.fieldLink RX8 107 "GroupCast$Row" "acts" "[I" ∈ hz_T := hz_mT 162 (by decide +kernel) (by decide +kernel)
theorem wd_163 : Cond.fieldLink RX4 150 "GroupCast$Row" "acts" "[I" ∈ hz_T := hz_mT 163 (by decide +kernel) (by decide +kernel)
theorem wd_164 : Cond.fieldLink RX6 15 "GroupCast$Row" "size" "I" ∈ hz_T := hz_mT 164 (by decide +kernel) (by decide +kernel)
theorem wd_165 : Cond.fieldLink RX4 76 "GroupCast$Row" "size" "I" ∈ hz_T := hz_mT 165 (by decide +kernel) (by decide +kernel)
theorem wd_166 : Cond.fieldLink RX8 101 "GroupCast$Row" "size" "I" ∈ hz_T := hz_mT 166 (by decide +kernel) (by decide +kernel)
theorem wd_172 : Cond.arrayClass (hz_ty 0) ∈ hz_T := hz_mT 172 (by decide +kernel) (by decide +kernel)
theorem wd_173 : Cond.classLink RX4 18 RX3 ∈ hz_T := hz_mT 173 (by decide +kernel) (by decide +kernel)
theorem wd_174 : Cond.instantiable RX3 2 ∈ hz_T := hz_mT 174 (by decide +kernel) (by decide +kernel)
theorem wn_175 : Cond.methodLinkNest RX4 20 yX3_init "GroupCast" ∈ hz_N := hz_mN 175 (by decide +kernel) (by decide +kernel)
theorem wd_176 : Cond.instanceMethod yX3_init ∈ hz_T := hz_mT 176 (by decide +kernel) (by decide +kernel)
set_option maxRecDepth 100000 in
theorem wd_177 : Cond.code yX3_init cX3_init 1 none ∈ hz_T := hz_mT 177 rfl (by decide +kernel)
theorem wd_178 : Cond.methodLink RX3 3 Lib.objectInit ∈ hz_T := hz_mT 178 (by decide +kernel) (by decide +kernel)
theorem wd_179 : Cond.fieldLink RX3 9 "GroupCast$Machine" "ints" "[I" ∈ hz_T := hz_mT 179 (by decide +kernel) (by decide +kernel)
theorem wd_180 : Cond.fieldLink RX3 34 "GroupCast$Machine" "size" "I" ∈ hz_T := hz_mT 180 (by decide +kernel) (by decide +kernel)
theorem wd_181 : Cond.fieldLink RX8 115 "GroupCast$Machine" "size" "I" ∈ hz_T := hz_mT 181 (by decide +kernel) (by decide +kernel)
theorem wd_187 : Cond.classLink RX4 25 RX0 ∈ hz_T := hz_mT 187 (by decide +kernel) (by decide +kernel)
theorem wd_188 : Cond.instantiable RX0 5 ∈ hz_T := hz_mT 188 (by decide +kernel) (by decide +kernel)
theorem wn_189 : Cond.methodLinkNest RX4 27 yX0_init "GroupCast" ∈ hz_N := hz_mN 189 (by decide +kernel) (by decide +kernel)
theorem wd_190 : Cond.instanceMethod yX0_init ∈ hz_T := hz_mT 190 (by decide +kernel) (by decide +kernel)
set_option maxRecDepth 100000 in
theorem wd_191 : Cond.code yX0_init cX0_init 1 none ∈ hz_T := hz_mT 191 rfl (by decide +kernel)
theorem wd_192 : Cond.methodLink RX0 1 Lib.objectInit ∈ hz_T := hz_mT 192 (by decide +kernel) (by decide +kernel)
theorem wn_193 : Cond.fieldLinkNest RX0 7 "GroupCast" "NO_ACTS" "[I" "GroupCast" ∈ hz_N := hz_mN 193 (by decide +kernel) (by decide +kernel)
theorem wd_195 : Cond.fieldLink RX0 18 "GroupCast$Change" "members" "I" ∈ hz_T := hz_mT 195 (by decide +kernel) (by decide +kernel)
theorem wd_196 : Cond.fieldLink RX4 92 "GroupCast$Change" "members" "I" ∈ hz_T := hz_mT 196 (by decide +kernel) (by decide +kernel)
theorem wd_197 : Cond.fieldLink RX0 26 "GroupCast$Change" "awaited" "I" ∈ hz_T := hz_mT 197 (by decide +kernel) (by decide +kernel)
theorem wd_198 : Cond.fieldLink RX4 243 "GroupCast$Change" "awaited" "I" ∈ hz_T := hz_mT 198 (by decide +kernel) (by decide +kernel)
theorem wd_199 : Cond.fieldLink RX0 13 "GroupCast$Change" "best" "[I" ∈ hz_T := hz_mT 199 (by decide +kernel) (by decide +kernel)
theorem wd_200 : Cond.fieldLink RX4 252 "GroupCast$Change" "best" "[I" ∈ hz_T := hz_mT 200 (by decide +kernel) (by decide +kernel)
theorem wd_201 : Cond.fieldLink RX0 32 "GroupCast$Change" "bestStamp" "I" ∈ hz_T := hz_mT 201 (by decide +kernel) (by decide +kernel)
theorem wd_202 : Cond.fieldLink RX0 29 "GroupCast$Change" "bestNode" "I" ∈ hz_T := hz_mT 202 (by decide +kernel) (by decide +kernel)
theorem wd_214 : Cond.fieldLink RX4 42 "GroupCast$Node" "id" "I" ∈ hz_T := hz_mT 214 (by decide +kernel) (by decide +kernel)
theorem wd_215 : Cond.fieldLink RX4 45 "GroupCast$Node" "groupSize" "I" ∈ hz_T := hz_mT 215 (by decide +kernel) (by decide +kernel)
theorem wd_216 : Cond.fieldLink RX4 48 "GroupCast$Node" "post" "LGroupCast$Post;" ∈ hz_T := hz_mT 216 (by decide +kernel) (by decide +kernel)
theorem wd_217 : Cond.fieldLink RX4 52 "GroupCast$Node" "tally" "LGroupCast$Tally;" ∈ hz_T := hz_mT 217 (by decide +kernel) (by decide +kernel)
theorem wd_218 : Cond.fieldLink RX4 12 "GroupCast$Node" "row" "LGroupCast$Row;" ∈ hz_T := hz_mT 218 (by decide +kernel) (by decide +kernel)
theorem wd_219 : Cond.fieldLink RX8 97 "GroupCast$Node" "row" "LGroupCast$Row;" ∈ hz_T := hz_mT 219 (by decide +kernel) (by decide +kernel)
theorem wd_220 : Cond.fieldLink RX4 21 "GroupCast$Node" "machine" "LGroupCast$Machine;" ∈ hz_T := hz_mT 220 (by decide +kernel) (by decide +kernel)
theorem wd_221 : Cond.fieldLink RX8 111 "GroupCast$Node" "machine" "LGroupCast$Machine;" ∈ hz_T := hz_mT 221 (by decide +kernel) (by decide +kernel)
theorem wd_222 : Cond.fieldLink RX4 28 "GroupCast$Node" "change" "LGroupCast$Change;" ∈ hz_T := hz_mT 222 (by decide +kernel) (by decide +kernel)
theorem wd_223 : Cond.fieldLink RX4 56 "GroupCast$Node" "toldHeld" "[I" ∈ hz_T := hz_mT 223 (by decide +kernel) (by decide +kernel)
theorem wd_224 : Cond.fieldLink RX4 32 "GroupCast$Node" "life" "I" ∈ hz_T := hz_mT 224 (by decide +kernel) (by decide +kernel)
theorem wd_225 : Cond.fieldLink RX8 85 "GroupCast$Node" "life" "I" ∈ hz_T := hz_mT 225 (by decide +kernel) (by decide +kernel)
theorem wd_226 : Cond.fieldLink RX4 36 "GroupCast$Node" "task" "I" ∈ hz_T := hz_mT 226 (by decide +kernel) (by decide +kernel)
theorem wd_227 : Cond.fieldLink RX8 88 "GroupCast$Node" "task" "I" ∈ hz_T := hz_mT 227 (by decide +kernel) (by decide +kernel)
theorem wd_228 : Cond.fieldLink RX4 63 "GroupCast$Node" "view" "I" ∈ hz_T := hz_mT 228 (by decide +kernel) (by decide +kernel)
theorem wd_229 : Cond.fieldLink RX4 60 "GroupCast$Node" "members" "I" ∈ hz_T := hz_mT 229 (by decide +kernel) (by decide +kernel)
theorem wd_230 : Cond.fieldLink RX4 70 "GroupCast$Node" "promise" "I" ∈ hz_T := hz_mT 230 (by decide +kernel) (by decide +kernel)
theorem wd_231 : Cond.fieldLink RX4 82 "GroupCast$Node" "stamp" "I" ∈ hz_T := hz_mT 231 (by decide +kernel) (by decide +kernel)
theorem wd_232 : Cond.fieldLink RX4 79 "GroupCast$Node" "carriedOut" "I" ∈ hz_T := hz_mT 232 (by decide +kernel) (by decide +kernel)
theorem wd_233 : Cond.fieldLink RX4 73 "GroupCast$Node" "suspects" "I" ∈ hz_T := hz_mT 233 (by decide +kernel) (by decide +kernel)
theorem wd_234 : Cond.fieldLink RX8 74 "GroupCast$Node" "suspects" "I" ∈ hz_T := hz_mT 234 (by decide +kernel) (by decide +kernel)
theorem wd_235 : Cond.fieldLink RX4 39 "GroupCast$Node" "lastFlusher" "I" ∈ hz_T := hz_mT 235 (by decide +kernel) (by decide +kernel)
theorem wd_271 : Cond.fieldLink RX8 12 "GroupCast" "tally" "LGroupCast$Tally;" ∈ hz_T := hz_mT 271 (by decide +kernel) (by decide +kernel)
theorem wd_272 : Cond.fieldLink RX8 21 "GroupCast" "post" "LGroupCast$Post;" ∈ hz_T := hz_mT 272 (by decide +kernel) (by decide +kernel)
theorem wd_273 : Cond.fieldLink RX8 27 "GroupCast" "nodes" "[LGroupCast$Node;" ∈ hz_T := hz_mT 273 (by decide +kernel) (by decide +kernel)
theorem wd_282 : Cond.instanceMethod yX8_submit ∈ hz_T := hz_mT 282 (by decide +kernel) (by decide +kernel)
theorem wd_283 : Cond.selects RX8 yX8_submit yX8_submit ∈ hz_T := hz_mT 283 (by decide +kernel) (by decide +kernel)
set_option maxRecDepth 100000 in
theorem wd_284 : Cond.code yX8_submit cX8_submit 4 (some .int) ∈ hz_T := hz_mT 284 rfl (by decide +kernel)
theorem wd_285 : Cond.methodLink RX8 34 yX8_find ∈ hz_T := hz_mT 285 (by decide +kernel) (by decide +kernel)
theorem wd_287 : Cond.instanceMethod yX8_find ∈ hz_T := hz_mT 287 (by decide +kernel) (by decide +kernel)
set_option maxRecDepth 100000 in
theorem wd_288 : Cond.code yX8_find cX8_find 2 (some (.object "GroupCast$Node")) ∈ hz_T := hz_mT 288 rfl (by decide +kernel)
theorem wd_289 : Cond.methodLink RX8 38 yX8_isAct ∈ hz_T := hz_mT 289 (by decide +kernel) (by decide +kernel)
theorem wd_290 : Cond.static yX8_isAct ∈ hz_T := hz_mT 290 (by decide +kernel) (by decide +kernel)
set_option maxRecDepth 100000 in
theorem wd_291 : Cond.code yX8_isAct cX8_isAct 2 (some .boolean) ∈ hz_T := hz_mT 291 rfl (by decide +kernel)
theorem wd_292 : Cond.methodLink RX8 42 yX4_isLive ∈ hz_T := hz_mT 292 (by decide +kernel) (by decide +kernel)
theorem wd_293 : Cond.instanceMethod yX4_isLive ∈ hz_T := hz_mT 293 (by decide +kernel) (by decide +kernel)
theorem wd_294 : Cond.selects RX4 yX4_isLive yX4_isLive ∈ hz_T := hz_mT 294 (by decide +kernel) (by decide +kernel)
set_option maxRecDepth 100000 in
theorem wd_295 : Cond.code yX4_isLive cX4_isLive 1 (some .boolean) ∈ hz_T := hz_mT 295 rfl (by decide +kernel)
theorem wd_296 : Cond.methodLink RX8 46 yX4_accept ∈ hz_T := hz_mT 296 (by decide +kernel) (by decide +kernel)
theorem wd_297 : Cond.instanceMethod yX4_accept ∈ hz_T := hz_mT 297 (by decide +kernel) (by decide +kernel)
theorem wd_298 : Cond.selects RX4 yX4_accept yX4_accept ∈ hz_T := hz_mT 298 (by decide +kernel) (by decide +kernel)
set_option maxRecDepth 100000 in
theorem wd_299 : Cond.code yX4_accept cX4_accept 2 (some .int) ∈ hz_T := hz_mT 299 rfl (by decide +kernel)
theorem wd_300 : Cond.methodLink RX4 85 yX4_isBlocked ∈ hz_T := hz_mT 300 (by decide +kernel) (by decide +kernel)
theorem wd_302 : Cond.instanceMethod yX4_isBlocked ∈ hz_T := hz_mT 302 (by decide +kernel) (by decide +kernel)
set_option maxRecDepth 100000 in
theorem wd_303 : Cond.code yX4_isBlocked cX4_isBlocked 1 (some .boolean) ∈ hz_T := hz_mT 303 rfl (by decide +kernel)
theorem wd_304 : Cond.methodLink RX4 66 yX4_leader ∈ hz_T := hz_mT 304 (by decide +kernel) (by decide +kernel)
theorem wd_306 : Cond.instanceMethod yX4_leader ∈ hz_T := hz_mT 306 (by decide +kernel) (by decide +kernel)
set_option maxRecDepth 100000 in
theorem wd_307 : Cond.code yX4_leader cX4_leader 2 (some .int) ∈ hz_T := hz_mT 307 rfl (by decide +kernel)
theorem wn_308 : Cond.methodLinkNest RX4 93 yX8_has "GroupCast" ∈ hz_N := hz_mN 308 (by decide +kernel) (by decide +kernel)
theorem wd_309 : Cond.static yX8_has ∈ hz_T := hz_mT 309 (by decide +kernel) (by decide +kernel)
set_option maxRecDepth 100000 in
theorem wd_310 : Cond.code yX8_has cX8_has 2 (some .boolean) ∈ hz_T := hz_mT 310 rfl (by decide +kernel)
theorem wd_311 : Cond.methodLink RX4 110 yX5_send ∈ hz_T := hz_mT 311 (by decide +kernel) (by decide +kernel)
theorem wd_312 : Cond.instanceMethod yX5_send ∈ hz_T := hz_mT 312 (by decide +kernel) (by decide +kernel)
theorem wd_313 : Cond.selects RX5 yX5_send yX5_send ∈ hz_T := hz_mT 313 (by decide +kernel) (by decide +kernel)
set_option maxRecDepth 100000 in
theorem wd_314 : Cond.code yX5_send cX5_send 9 none ∈ hz_T := hz_mT 314 rfl (by decide +kernel)
theorem wn_315 : Cond.methodLinkNest RX5 33 yX8_has "GroupCast" ∈ hz_N := hz_mN 315 (by decide +kernel) (by decide +kernel)
theorem wd_316 : Cond.methodLink RX5 42 yX5_between ∈ hz_T := hz_mT 316 (by decide +kernel) (by decide +kernel)
theorem wd_317 : Cond.instanceMethod yX5_between ∈ hz_T := hz_mT 317 (by decide +kernel) (by decide +kernel)
theorem wd_318 : Cond.selects RX5 yX5_between yX5_between ∈ hz_T := hz_mT 318 (by decide +kernel) (by decide +kernel)
set_option maxRecDepth 100000 in
theorem wd_319 : Cond.code yX5_between cX5_between 4 (some (.object "GroupCast$Channel")) ∈ hz_T := hz_mT 319 rfl (by decide +kernel)
theorem wd_320 : Cond.classLink RX5 49 RX2 ∈ hz_T := hz_mT 320 (by decide +kernel) (by decide +kernel)
theorem wd_321 : Cond.instantiable RX2 5 ∈ hz_T := hz_mT 321 (by decide +kernel) (by decide +kernel)
theorem wd_322 : Cond.methodLink RX5 51 yX2_init ∈ hz_T := hz_mT 322 (by decide +kernel) (by decide +kernel)
theorem wd_323 : Cond.instanceMethod yX2_init ∈ hz_T := hz_mT 323 (by decide +kernel) (by decide +kernel)
set_option maxRecDepth 100000 in
theorem wd_324 : Cond.code yX2_init cX2_init 5 none ∈ hz_T := hz_mT 324 rfl (by decide +kernel)
theorem wd_325 : Cond.methodLink RX2 3 Lib.objectInit ∈ hz_T := hz_mT 325 (by decide +kernel) (by decide +kernel)
theorem wd_326 : Cond.fieldLink RX2 9 "GroupCast$Letter" "kind" "I" ∈ hz_T := hz_mT 326 (by decide +kernel) (by decide +kernel)
theorem wd_327 : Cond.fieldLink RX8 62 "GroupCast$Letter" "kind" "I" ∈ hz_T := hz_mT 327 (by decide +kernel) (by decide +kernel)
theorem wd_328 : Cond.fieldLink RX4 162 "GroupCast$Letter" "kind" "I" ∈ hz_T := hz_mT 328 (by decide +kernel) (by decide +kernel)
theorem wd_329 : Cond.fieldLink RX2 15 "GroupCast$Letter" "number" "I" ∈ hz_T := hz_mT 329 (by decide +kernel) (by decide +kernel)
theorem wd_330 : Cond.fieldLink RX4 214 "GroupCast$Letter" "number" "I" ∈ hz_T := hz_mT 330 (by decide +kernel) (by decide +kernel)
theorem wd_331 : Cond.fieldLink RX2 18 "GroupCast$Letter" "detail" "I" ∈ hz_T := hz_mT 331 (by decide +kernel) (by decide +kernel)
theorem wd_332 : Cond.fieldLink RX4 211 "GroupCast$Letter" "detail" "I" ∈ hz_T := hz_mT 332 (by decide +kernel) (by decide +kernel)
theorem wd_333 : Cond.fieldLink RX2 21 "GroupCast$Letter" "acts" "[I" ∈ hz_T := hz_mT 333 (by decide +kernel) (by decide +kernel)
theorem wd_334 : Cond.fieldLink RX4 228 "GroupCast$Letter" "acts" "[I" ∈ hz_T := hz_mT 334 (by decide +kernel) (by decide +kernel)
theorem wd_335 : Cond.fieldLink RX1 16 "GroupCast$Letter" "next" "LGroupCast$Letter;" ∈ hz_T := hz_mT 335 (by decide +kernel) (by decide +kernel)
theorem wd_347 : Cond.methodLink RX5 54 yX1_put ∈ hz_T := hz_mT 347 (by decide +kernel) (by decide +kernel)
theorem wd_348 : Cond.instanceMethod yX1_put ∈ hz_T := hz_mT 348 (by decide +kernel) (by decide +kernel)
theorem wd_349 : Cond.selects RX1 yX1_put yX1_put ∈ hz_T := hz_mT 349 (by decide +kernel) (by decide +kernel)
set_option maxRecDepth 100000 in
theorem wd_350 : Cond.code yX1_put cX1_put 2 none ∈ hz_T := hz_mT 350 rfl (by decide +kernel)
theorem wd_351 : Cond.methodLink RX4 116 yX6_isFull ∈ hz_T := hz_mT 351 (by decide +kernel) (by decide +kernel)
theorem wd_352 : Cond.instanceMethod yX6_isFull ∈ hz_T := hz_mT 352 (by decide +kernel) (by decide +kernel)
theorem wd_353 : Cond.selects RX6 yX6_isFull yX6_isFull ∈ hz_T := hz_mT 353 (by decide +kernel) (by decide +kernel)
set_option maxRecDepth 100000 in
theorem wd_354 : Cond.code yX6_isFull cX6_isFull 1 (some .boolean) ∈ hz_T := hz_mT 354 rfl (by decide +kernel)
theorem wd_355 : Cond.methodLink RX4 119 yX4_putInOrder ∈ hz_T := hz_mT 355 (by decide +kernel) (by decide +kernel)
theorem wd_357 : Cond.instanceMethod yX4_putInOrder ∈ hz_T := hz_mT 357 (by decide +kernel) (by decide +kernel)
set_option maxRecDepth 100000 in
theorem wd_358 : Cond.code yX4_putInOrder cX4_putInOrder 3 none ∈ hz_T := hz_mT 358 rfl (by decide +kernel)
theorem wd_359 : Cond.methodLink RX4 126 yX6_add ∈ hz_T := hz_mT 359 (by decide +kernel) (by decide +kernel)
theorem wd_360 : Cond.instanceMethod yX6_add ∈ hz_T := hz_mT 360 (by decide +kernel) (by decide +kernel)
theorem wd_361 : Cond.selects RX6 yX6_add yX6_add ∈ hz_T := hz_mT 361 (by decide +kernel) (by decide +kernel)
set_option maxRecDepth 100000 in
theorem wd_362 : Cond.code yX6_add cX6_add 2 none ∈ hz_T := hz_mT 362 rfl (by decide +kernel)
theorem wd_363 : Cond.methodLink RX6 19 yX6_isFull ∈ hz_T := hz_mT 363 (by decide +kernel) (by decide +kernel)
theorem wd_364 : Cond.methodLink RX4 129 yX4_others ∈ hz_T := hz_mT 364 (by decide +kernel) (by decide +kernel)
theorem wd_366 : Cond.instanceMethod yX4_others ∈ hz_T := hz_mT 366 (by decide +kernel) (by decide +kernel)
set_option maxRecDepth 100000 in
theorem wd_367 : Cond.code yX4_others cX4_others 1 (some .int) ∈ hz_T := hz_mT 367 rfl (by decide +kernel)
theorem wn_368 : Cond.methodLinkNest RX4 103 yX8_without "GroupCast" ∈ hz_N := hz_mN 368 (by decide +kernel) (by decide +kernel)
theorem wd_369 : Cond.static yX8_without ∈ hz_T := hz_mT 369 (by decide +kernel) (by decide +kernel)
set_option maxRecDepth 100000 in
theorem wd_370 : Cond.code yX8_without cX8_without 2 (some .int) ∈ hz_T := hz_mT 370 rfl (by decide +kernel)
theorem wd_371 : Cond.methodLink RX4 123 yX4_carryOutWhatMostHold ∈ hz_T := hz_mT 371 (by decide +kernel) (by decide +kernel)
theorem wd_373 : Cond.instanceMethod yX4_carryOutWhatMostHold ∈ hz_T := hz_mT 373 (by decide +kernel) (by decide +kernel)
set_option maxRecDepth 100000 in
theorem wd_374 : Cond.code yX4_carryOutWhatMostHold cX4_carryOutWhatMostHold 2 none ∈ hz_T := hz_mT 374 rfl (by decide +kernel)
theorem wd_375 : Cond.methodLink RX4 132 yX4_heldByMost ∈ hz_T := hz_mT 375 (by decide +kernel) (by decide +kernel)
theorem wd_377 : Cond.instanceMethod yX4_heldByMost ∈ hz_T := hz_mT 377 (by decide +kernel) (by decide +kernel)
set_option maxRecDepth 100000 in
theorem wd_378 : Cond.code yX4_heldByMost cX4_heldByMost 2 (some .int) ∈ hz_T := hz_mT 378 rfl (by decide +kernel)
theorem wd_379 : Cond.methodLink RX4 138 yX4_holdersOf ∈ hz_T := hz_mT 379 (by decide +kernel) (by decide +kernel)
theorem wd_381 : Cond.instanceMethod yX4_holdersOf ∈ hz_T := hz_mT 381 (by decide +kernel) (by decide +kernel)
set_option maxRecDepth 100000 in
theorem wd_382 : Cond.code yX4_holdersOf cX4_holdersOf 5 (some .int) ∈ hz_T := hz_mT 382 rfl (by decide +kernel)
theorem wd_383 : Cond.methodLink RX4 141 yX4_areMost ∈ hz_T := hz_mT 383 (by decide +kernel) (by decide +kernel)
theorem wd_385 : Cond.instanceMethod yX4_areMost ∈ hz_T := hz_mT 385 (by decide +kernel) (by decide +kernel)
set_option maxRecDepth 100000 in
theorem wd_386 : Cond.code yX4_areMost cX4_areMost 2 (some .boolean) ∈ hz_T := hz_mT 386 rfl (by decide +kernel)
theorem wd_387 : Cond.methodLink RX4 97 yJ6_bitCount_0f7a4 ∈ hz_T := hz_mT 387 (by decide +kernel) (by decide +kernel)
theorem wd_388 : Cond.static yJ6_bitCount_0f7a4 ∈ hz_T := hz_mT 388 (by decide +kernel) (by decide +kernel)
set_option maxRecDepth 100000 in
theorem wd_389 : Cond.code yJ6_bitCount_0f7a4 cJ6_bitCount_0f7a4 1 (some .int) ∈ hz_T := hz_mT 389 rfl (by decide +kernel)
theorem wd_390 : Cond.constant RJ6 265 1431655765 ∈ hz_T := hz_mT 390 (by decide +kernel) (by decide +kernel)
theorem wd_391 : Cond.constant RJ6 266 858993459 ∈ hz_T := hz_mT 391 (by decide +kernel) (by decide +kernel)
theorem wd_392 : Cond.constant RJ6 267 252645135 ∈ hz_T := hz_mT 392 (by decide +kernel) (by decide +kernel)
theorem wd_393 : Cond.methodLink RX4 135 yX4_carryOutUpTo ∈ hz_T := hz_mT 393 (by decide +kernel) (by decide +kernel)
theorem wd_395 : Cond.instanceMethod yX4_carryOutUpTo ∈ hz_T := hz_mT 395 (by decide +kernel) (by decide +kernel)
set_option maxRecDepth 100000 in
theorem wd_396 : Cond.code yX4_carryOutUpTo cX4_carryOutUpTo 4 none ∈ hz_T := hz_mT 396 rfl (by decide +kernel)
theorem wd_397 : Cond.methodLink RX4 145 yJ9_min_7cf53 ∈ hz_T := hz_mT 397 (by decide +kernel) (by decide +kernel)
theorem wd_398 : Cond.static yJ9_min_7cf53 ∈ hz_T := hz_mT 398 (by decide +kernel) (by decide +kernel)
set_option maxRecDepth 100000 in
theorem wd_399 : Cond.code yJ9_min_7cf53 cJ9_min_7cf53 2 (some .int) ∈ hz_T := hz_mT 399 rfl (by decide +kernel)
theorem wd_400 : Cond.methodLink RX4 153 yX3_carryOut ∈ hz_T := hz_mT 400 (by decide +kernel) (by decide +kernel)
theorem wd_401 : Cond.instanceMethod yX3_carryOut ∈ hz_T := hz_mT 401 (by decide +kernel) (by decide +kernel)
theorem wd_402 : Cond.selects RX3 yX3_carryOut yX3_carryOut ∈ hz_T := hz_mT 402 (by decide +kernel) (by decide +kernel)
set_option maxRecDepth 100000 in
theorem wd_403 : Cond.code yX3_carryOut cX3_carryOut 2 none ∈ hz_T := hz_mT 403 rfl (by decide +kernel)
theorem wd_404 : Cond.methodLink RX3 15 yX3_add ∈ hz_T := hz_mT 404 (by decide +kernel) (by decide +kernel)
theorem wd_406 : Cond.instanceMethod yX3_add ∈ hz_T := hz_mT 406 (by decide +kernel) (by decide +kernel)
set_option maxRecDepth 100000 in
theorem wd_407 : Cond.code yX3_add cX3_add 1 none ∈ hz_T := hz_mT 407 rfl (by decide +kernel)
theorem wd_408 : Cond.methodLink RX3 18 yX3_multiply ∈ hz_T := hz_mT 408 (by decide +kernel) (by decide +kernel)
theorem wd_410 : Cond.instanceMethod yX3_multiply ∈ hz_T := hz_mT 410 (by decide +kernel) (by decide +kernel)
set_option maxRecDepth 100000 in
theorem wd_411 : Cond.code yX3_multiply cX3_multiply 1 none ∈ hz_T := hz_mT 411 rfl (by decide +kernel)
theorem wd_412 : Cond.methodLink RX3 21 yX3_duplicate ∈ hz_T := hz_mT 412 (by decide +kernel) (by decide +kernel)
theorem wd_414 : Cond.instanceMethod yX3_duplicate ∈ hz_T := hz_mT 414 (by decide +kernel) (by decide +kernel)
set_option maxRecDepth 100000 in
theorem wd_415 : Cond.code yX3_duplicate cX3_duplicate 1 none ∈ hz_T := hz_mT 415 rfl (by decide +kernel)
theorem wd_416 : Cond.methodLink RX3 24 yX3_drop ∈ hz_T := hz_mT 416 (by decide +kernel) (by decide +kernel)
theorem wd_418 : Cond.instanceMethod yX3_drop ∈ hz_T := hz_mT 418 (by decide +kernel) (by decide +kernel)
set_option maxRecDepth 100000 in
theorem wd_419 : Cond.code yX3_drop cX3_drop 1 none ∈ hz_T := hz_mT 419 rfl (by decide +kernel)
theorem wd_420 : Cond.methodLink RX3 27 yX3_swap ∈ hz_T := hz_mT 420 (by decide +kernel) (by decide +kernel)
theorem wd_422 : Cond.instanceMethod yX3_swap ∈ hz_T := hz_mT 422 (by decide +kernel) (by decide +kernel)
set_option maxRecDepth 100000 in
theorem wd_423 : Cond.code yX3_swap cX3_swap 2 none ∈ hz_T := hz_mT 423 rfl (by decide +kernel)
theorem wd_424 : Cond.methodLink RX3 30 yX3_push ∈ hz_T := hz_mT 424 (by decide +kernel) (by decide +kernel)
theorem wd_426 : Cond.instanceMethod yX3_push ∈ hz_T := hz_mT 426 (by decide +kernel) (by decide +kernel)
set_option maxRecDepth 100000 in
theorem wd_427 : Cond.code yX3_push cX3_push 2 none ∈ hz_T := hz_mT 427 rfl (by decide +kernel)
theorem wd_428 : Cond.methodLink RX4 159 yJ9_max_7cf53 ∈ hz_T := hz_mT 428 (by decide +kernel) (by decide +kernel)
theorem wd_429 : Cond.static yJ9_max_7cf53 ∈ hz_T := hz_mT 429 (by decide +kernel) (by decide +kernel)
set_option maxRecDepth 100000 in
theorem wd_430 : Cond.code yJ9_max_7cf53 cJ9_max_7cf53 2 (some .int) ∈ hz_T := hz_mT 430 rfl (by decide +kernel)
theorem wn_431 : Cond.fieldLinkNest RX4 107 "GroupCast" "NO_ACTS" "[I" "GroupCast" ∈ hz_N := hz_mN 431 (by decide +kernel) (by decide +kernel)
theorem wd_433 : Cond.instanceMethod yX8_deliver ∈ hz_T := hz_mT 433 (by decide +kernel) (by decide +kernel)
theorem wd_434 : Cond.selects RX8 yX8_deliver yX8_deliver ∈ hz_T := hz_mT 434 (by decide +kernel) (by decide +kernel)
set_option maxRecDepth 100000 in
theorem wd_435 : Cond.code yX8_deliver cX8_deliver 6 (some .int) ∈ hz_T := hz_mT 435 rfl (by decide +kernel)
theorem wd_436 : Cond.methodLink RX8 50 yX5_between ∈ hz_T := hz_mT 436 (by decide +kernel) (by decide +kernel)
theorem wd_437 : Cond.methodLink RX8 54 yX5_takeOldest ∈ hz_T := hz_mT 437 (by decide +kernel) (by decide +kernel)
theorem wd_438 : Cond.instanceMethod yX5_takeOldest ∈ hz_T := hz_mT 438 (by decide +kernel) (by decide +kernel)
theorem wd_439 : Cond.selects RX5 yX5_takeOldest yX5_takeOldest ∈ hz_T := hz_mT 439 (by decide +kernel) (by decide +kernel)
set_option maxRecDepth 100000 in
theorem wd_440 : Cond.code yX5_takeOldest cX5_takeOldest 3 (some (.object "GroupCast$Letter")) ∈ hz_T := hz_mT 440 rfl (by decide +kernel)
theorem wd_441 : Cond.methodLink RX5 26 yX1_take ∈ hz_T := hz_mT 441 (by decide +kernel) (by decide +kernel)
theorem wd_442 : Cond.instanceMethod yX1_take ∈ hz_T := hz_mT 442 (by decide +kernel) (by decide +kernel)
theorem wd_443 : Cond.selects RX1 yX1_take yX1_take ∈ hz_T := hz_mT 443 (by decide +kernel) (by decide +kernel)
set_option maxRecDepth 100000 in
theorem wd_444 : Cond.code yX1_take cX1_take 2 (some (.object "GroupCast$Letter")) ∈ hz_T := hz_mT 444 rfl (by decide +kernel)
theorem wd_445 : Cond.methodLink RX8 67 yX4_receive ∈ hz_T := hz_mT 445 (by decide +kernel) (by decide +kernel)
theorem wd_446 : Cond.instanceMethod yX4_receive ∈ hz_T := hz_mT 446 (by decide +kernel) (by decide +kernel)
theorem wd_447 : Cond.selects RX4 yX4_receive yX4_receive ∈ hz_T := hz_mT 447 (by decide +kernel) (by decide +kernel)
set_option maxRecDepth 100000 in
theorem wd_448 : Cond.code yX4_receive cX4_receive 3 none ∈ hz_T := hz_mT 448 rfl (by decide +kernel)
theorem wd_449 : Cond.methodLink RX4 167 yX4_onPass ∈ hz_T := hz_mT 449 (by decide +kernel) (by decide +kernel)
theorem wd_451 : Cond.instanceMethod yX4_onPass ∈ hz_T := hz_mT 451 (by decide +kernel) (by decide +kernel)
set_option maxRecDepth 100000 in
theorem wd_452 : Cond.code yX4_onPass cX4_onPass 2 none ∈ hz_T := hz_mT 452 rfl (by decide +kernel)
theorem wd_453 : Cond.methodLink RX4 202 yX4_leadsUnblocked ∈ hz_T := hz_mT 453 (by decide +kernel) (by decide +kernel)
theorem wd_455 : Cond.instanceMethod yX4_leadsUnblocked ∈ hz_T := hz_mT 455 (by decide +kernel) (by decide +kernel)
set_option maxRecDepth 100000 in
theorem wd_456 : Cond.code yX4_leadsUnblocked cX4_leadsUnblocked 1 (some .boolean) ∈ hz_T := hz_mT 456 rfl (by decide +kernel)
theorem wd_457 : Cond.methodLink RX4 205 yX2_firstAct ∈ hz_T := hz_mT 457 (by decide +kernel) (by decide +kernel)
theorem wd_458 : Cond.instanceMethod yX2_firstAct ∈ hz_T := hz_mT 458 (by decide +kernel) (by decide +kernel)
theorem wd_459 : Cond.selects RX2 yX2_firstAct yX2_firstAct ∈ hz_T := hz_mT 459 (by decide +kernel) (by decide +kernel)
set_option maxRecDepth 100000 in
theorem wd_460 : Cond.code yX2_firstAct cX2_firstAct 1 (some .int) ∈ hz_T := hz_mT 460 rfl (by decide +kernel)
theorem wd_461 : Cond.methodLink RX4 171 yX4_onOrder ∈ hz_T := hz_mT 461 (by decide +kernel) (by decide +kernel)
theorem wd_463 : Cond.instanceMethod yX4_onOrder ∈ hz_T := hz_mT 463 (by decide +kernel) (by decide +kernel)
set_option maxRecDepth 100000 in
theorem wd_464 : Cond.code yX4_onOrder cX4_onOrder 4 none ∈ hz_T := hz_mT 464 rfl (by decide +kernel)
theorem wd_465 : Cond.methodLink RX4 217 yX4_reply ∈ hz_T := hz_mT 465 (by decide +kernel) (by decide +kernel)
theorem wd_467 : Cond.instanceMethod yX4_reply ∈ hz_T := hz_mT 467 (by decide +kernel) (by decide +kernel)
set_option maxRecDepth 100000 in
theorem wd_468 : Cond.code yX4_reply cX4_reply 5 none ∈ hz_T := hz_mT 468 rfl (by decide +kernel)
theorem wd_469 : Cond.methodLink RX4 175 yX4_onHeld ∈ hz_T := hz_mT 469 (by decide +kernel) (by decide +kernel)
theorem wd_471 : Cond.instanceMethod yX4_onHeld ∈ hz_T := hz_mT 471 (by decide +kernel) (by decide +kernel)
set_option maxRecDepth 100000 in
theorem wd_472 : Cond.code yX4_onHeld cX4_onHeld 4 none ∈ hz_T := hz_mT 472 rfl (by decide +kernel)
theorem wd_473 : Cond.methodLink RX4 178 yX4_onDo ∈ hz_T := hz_mT 473 (by decide +kernel) (by decide +kernel)
theorem wd_475 : Cond.instanceMethod yX4_onDo ∈ hz_T := hz_mT 475 (by decide +kernel) (by decide +kernel)
set_option maxRecDepth 100000 in
theorem wd_476 : Cond.code yX4_onDo cX4_onDo 2 none ∈ hz_T := hz_mT 476 rfl (by decide +kernel)
theorem wd_477 : Cond.methodLink RX4 181 yX4_onElect ∈ hz_T := hz_mT 477 (by decide +kernel) (by decide +kernel)
theorem wd_479 : Cond.instanceMethod yX4_onElect ∈ hz_T := hz_mT 479 (by decide +kernel) (by decide +kernel)
set_option maxRecDepth 100000 in
theorem wd_480 : Cond.code yX4_onElect cX4_onElect 2 none ∈ hz_T := hz_mT 480 rfl (by decide +kernel)
theorem wd_481 : Cond.methodLink RX4 221 yX4_ask ∈ hz_T := hz_mT 481 (by decide +kernel) (by decide +kernel)
theorem wd_483 : Cond.instanceMethod yX4_ask ∈ hz_T := hz_mT 483 (by decide +kernel) (by decide +kernel)
set_option maxRecDepth 100000 in
theorem wd_484 : Cond.code yX4_ask cX4_ask 2 none ∈ hz_T := hz_mT 484 rfl (by decide +kernel)
theorem wn_485 : Cond.methodLinkNest RX4 264 yX8_allAbove "GroupCast" ∈ hz_N := hz_mN 485 (by decide +kernel) (by decide +kernel)
theorem wd_486 : Cond.static yX8_allAbove ∈ hz_T := hz_mT 486 (by decide +kernel) (by decide +kernel)
set_option maxRecDepth 100000 in
theorem wd_487 : Cond.code yX8_allAbove cX8_allAbove 2 (some .int) ∈ hz_T := hz_mT 487 rfl (by decide +kernel)
theorem wd_488 : Cond.methodLink RX4 267 yX4_flush ∈ hz_T := hz_mT 488 (by decide +kernel) (by decide +kernel)
theorem wd_490 : Cond.instanceMethod yX4_flush ∈ hz_T := hz_mT 490 (by decide +kernel) (by decide +kernel)
set_option maxRecDepth 100000 in
theorem wd_491 : Cond.code yX4_flush cX4_flush 2 none ∈ hz_T := hz_mT 491 rfl (by decide +kernel)
theorem wd_492 : Cond.methodLink RX4 270 yX4_nextOwnNumber ∈ hz_T := hz_mT 492 (by decide +kernel) (by decide +kernel)
theorem wd_494 : Cond.instanceMethod yX4_nextOwnNumber ∈ hz_T := hz_mT 494 (by decide +kernel) (by decide +kernel)
set_option maxRecDepth 100000 in
theorem wd_495 : Cond.code yX4_nextOwnNumber cX4_nextOwnNumber 2 (some .int) ∈ hz_T := hz_mT 495 rfl (by decide +kernel)
theorem wd_496 : Cond.methodLink RX4 280 yJ9_floorMod_7cf53 ∈ hz_T := hz_mT 496 (by decide +kernel) (by decide +kernel)
theorem wd_497 : Cond.static yJ9_floorMod_7cf53 ∈ hz_T := hz_mT 497 (by decide +kernel) (by decide +kernel)
set_option maxRecDepth 100000 in
theorem wd_498 : Cond.code yJ9_floorMod_7cf53 cJ9_floorMod_7cf53 3 (some .int) ∈ hz_T := hz_mT 498 rfl (by decide +kernel)
theorem wd_499 : Cond.methodLink RX4 224 yX6_copy ∈ hz_T := hz_mT 499 (by decide +kernel) (by decide +kernel)
theorem wd_500 : Cond.instanceMethod yX6_copy ∈ hz_T := hz_mT 500 (by decide +kernel) (by decide +kernel)
theorem wd_501 : Cond.selects RX6 yX6_copy yX6_copy ∈ hz_T := hz_mT 501 (by decide +kernel) (by decide +kernel)
set_option maxRecDepth 100000 in
theorem wd_502 : Cond.code yX6_copy cX6_copy 1 (some (.array .int)) ∈ hz_T := hz_mT 502 rfl (by decide +kernel)
theorem wd_503 : Cond.methodLink RX6 23 yJ7_copyOf_59c91 ∈ hz_T := hz_mT 503 (by decide +kernel) (by decide +kernel)
theorem wd_504 : Cond.static yJ7_copyOf_59c91 ∈ hz_T := hz_mT 504 (by decide +kernel) (by decide +kernel)
set_option maxRecDepth 100000 in
theorem wd_505 : Cond.code yJ7_copyOf_59c91 cJ7_copyOf_59c91 3 (some (.array .int)) ∈ hz_T := hz_mT 505 rfl (by decide +kernel)
theorem wd_506 : Cond.methodLink RJ7 316 ⟨"[I", "clone", "()Ljava/lang/Object;"⟩ ∈ hz_T := hz_mT 506 (by decide +kernel) (by decide +kernel)
theorem wd_507 : Cond.sameMethod "[I" "java/lang/Object" "clone" "()Ljava/lang/Object;" ∈ hz_T := hz_mT 507 (by decide +kernel) (by decide +kernel)
theorem wd_508 : Cond.native ⟨"java/lang/Object", "clone", "()Ljava/lang/Object;"⟩ ∈ hz_T := hz_mT 508 (by decide +kernel) (by decide +kernel)
theorem wd_509 : Cond.instanceMethod ⟨"java/lang/Object", "clone", "()Ljava/lang/Object;"⟩ ∈ hz_T := hz_mT 509 (by decide +kernel) (by decide +kernel)
theorem wd_510 : Cond.selects "[I" ⟨"[I", "clone", "()Ljava/lang/Object;"⟩ ⟨"java/lang/Object", "clone", "()Ljava/lang/Object;"⟩ ∈ hz_T := hz_mT 510 (by decide +kernel) (by decide +kernel)
theorem wn_511 : Cond.castable "[I" "java/lang/Cloneable" ∈ hz_N := hz_mN 511 (by decide +kernel) (by decide +kernel)
theorem wd_512 : Cond.classLink RJ7 317 "[I" ∈ hz_T := hz_mT 512 (by decide +kernel) (by decide +kernel)
theorem wd_513 : Cond.methodLink RJ7 304 yJ9_min_7cf53 ∈ hz_T := hz_mT 513 (by decide +kernel) (by decide +kernel)
theorem wd_514 : Cond.methodLink RJ7 150 ⟨"java/lang/System", "arraycopy", "(Ljava/lang/Object;ILjava/lang/Object;II)V"⟩ ∈ hz_T := hz_mT 514 (by decide +kernel) (by decide +kernel)
theorem wd_515 : Cond.static ⟨"java/lang/System", "arraycopy", "(Ljava/lang/Object;ILjava/lang/Object;II)V"⟩ ∈ hz_T := hz_mT 515 (by decide +kernel) (by decide +kernel)
theorem wd_516 : Cond.native ⟨"java/lang/System", "arraycopy", "(Ljava/lang/Object;ILjava/lang/Object;II)V"⟩ ∈ hz_T := hz_mT 516 (by decide +kernel) (by decide +kernel)
theorem wd_517 : Cond.methodLink RX4 276 yX0_start ∈ hz_T := hz_mT 517 (by decide +kernel) (by decide +kernel)
theorem wd_518 : Cond.instanceMethod yX0_start ∈ hz_T := hz_mT 518 (by decide +kernel) (by decide +kernel)
theorem wd_519 : Cond.selects RX0 yX0_start yX0_start ∈ hz_T := hz_mT 519 (by decide +kernel) (by decide +kernel)
set_option maxRecDepth 100000 in
theorem wd_520 : Cond.code yX0_start cX0_start 5 none ∈ hz_T := hz_mT 520 rfl (by decide +kernel)
theorem wn_521 : Cond.methodLinkNest RX0 22 yX8_without "GroupCast" ∈ hz_N := hz_mN 521 (by decide +kernel) (by decide +kernel)
theorem wd_522 : Cond.methodLink RX4 184 yX4_onWait ∈ hz_T := hz_mT 522 (by decide +kernel) (by decide +kernel)
theorem wd_524 : Cond.instanceMethod yX4_onWait ∈ hz_T := hz_mT 524 (by decide +kernel) (by decide +kernel)
set_option maxRecDepth 100000 in
theorem wd_525 : Cond.code yX4_onWait cX4_onWait 1 none ∈ hz_T := hz_mT 525 rfl (by decide +kernel)
theorem wd_526 : Cond.methodLink RX4 187 yX4_onFlush ∈ hz_T := hz_mT 526 (by decide +kernel) (by decide +kernel)
theorem wd_528 : Cond.instanceMethod yX4_onFlush ∈ hz_T := hz_mT 528 (by decide +kernel) (by decide +kernel)
set_option maxRecDepth 100000 in
theorem wd_529 : Cond.code yX4_onFlush cX4_onFlush 3 none ∈ hz_T := hz_mT 529 rfl (by decide +kernel)
theorem wd_530 : Cond.methodLink RX4 190 yX4_onFlushed ∈ hz_T := hz_mT 530 (by decide +kernel) (by decide +kernel)
theorem wd_532 : Cond.instanceMethod yX4_onFlushed ∈ hz_T := hz_mT 532 (by decide +kernel) (by decide +kernel)
set_option maxRecDepth 100000 in
theorem wd_533 : Cond.code yX4_onFlushed cX4_onFlushed 3 none ∈ hz_T := hz_mT 533 rfl (by decide +kernel)
theorem wd_534 : Cond.methodLink RX4 229 yX0_weigh ∈ hz_T := hz_mT 534 (by decide +kernel) (by decide +kernel)
theorem wd_535 : Cond.instanceMethod yX0_weigh ∈ hz_T := hz_mT 535 (by decide +kernel) (by decide +kernel)
theorem wd_536 : Cond.selects RX0 yX0_weigh yX0_weigh ∈ hz_T := hz_mT 536 (by decide +kernel) (by decide +kernel)
set_option maxRecDepth 100000 in
theorem wd_537 : Cond.code yX0_weigh cX0_weigh 4 none ∈ hz_T := hz_mT 537 rfl (by decide +kernel)
theorem wd_538 : Cond.methodLink RX0 35 yX0_isBetter ∈ hz_T := hz_mT 538 (by decide +kernel) (by decide +kernel)
theorem wd_540 : Cond.instanceMethod yX0_isBetter ∈ hz_T := hz_mT 540 (by decide +kernel) (by decide +kernel)
set_option maxRecDepth 100000 in
theorem wd_541 : Cond.code yX0_isBetter cX0_isBetter 4 (some .boolean) ∈ hz_T := hz_mT 541 rfl (by decide +kernel)
theorem wd_542 : Cond.methodLink RX4 233 yX0_answered ∈ hz_T := hz_mT 542 (by decide +kernel) (by decide +kernel)
theorem wd_543 : Cond.instanceMethod yX0_answered ∈ hz_T := hz_mT 543 (by decide +kernel) (by decide +kernel)
theorem wd_544 : Cond.selects RX0 yX0_answered yX0_answered ∈ hz_T := hz_mT 544 (by decide +kernel) (by decide +kernel)
set_option maxRecDepth 100000 in
theorem wd_545 : Cond.code yX0_answered cX0_answered 2 none ∈ hz_T := hz_mT 545 rfl (by decide +kernel)
theorem wd_546 : Cond.methodLink RX4 193 yX4_onSync ∈ hz_T := hz_mT 546 (by decide +kernel) (by decide +kernel)
theorem wd_548 : Cond.instanceMethod yX4_onSync ∈ hz_T := hz_mT 548 (by decide +kernel) (by decide +kernel)
set_option maxRecDepth 100000 in
theorem wd_549 : Cond.code yX4_onSync cX4_onSync 3 none ∈ hz_T := hz_mT 549 rfl (by decide +kernel)
theorem wd_550 : Cond.methodLink RX4 236 yX6_become ∈ hz_T := hz_mT 550 (by decide +kernel) (by decide +kernel)
theorem wd_551 : Cond.instanceMethod yX6_become ∈ hz_T := hz_mT 551 (by decide +kernel) (by decide +kernel)
theorem wd_552 : Cond.selects RX6 yX6_become yX6_become ∈ hz_T := hz_mT 552 (by decide +kernel) (by decide +kernel)
set_option maxRecDepth 100000 in
theorem wd_553 : Cond.code yX6_become cX6_become 2 none ∈ hz_T := hz_mT 553 rfl (by decide +kernel)
theorem wd_554 : Cond.methodLink RX6 29 yJ9_min_7cf53 ∈ hz_T := hz_mT 554 (by decide +kernel) (by decide +kernel)
theorem wd_555 : Cond.methodLink RX6 35 ⟨"java/lang/System", "arraycopy", "(Ljava/lang/Object;ILjava/lang/Object;II)V"⟩ ∈ hz_T := hz_mT 555 (by decide +kernel) (by decide +kernel)
theorem wd_556 : Cond.methodLink RX4 196 yX4_onSynced ∈ hz_T := hz_mT 556 (by decide +kernel) (by decide +kernel)
theorem wd_558 : Cond.instanceMethod yX4_onSynced ∈ hz_T := hz_mT 558 (by decide +kernel) (by decide +kernel)
set_option maxRecDepth 100000 in
theorem wd_559 : Cond.code yX4_onSynced cX4_onSynced 3 none ∈ hz_T := hz_mT 559 rfl (by decide +kernel)
theorem wd_560 : Cond.methodLink RX4 199 yX4_onBegin ∈ hz_T := hz_mT 560 (by decide +kernel) (by decide +kernel)
theorem wd_562 : Cond.instanceMethod yX4_onBegin ∈ hz_T := hz_mT 562 (by decide +kernel) (by decide +kernel)
set_option maxRecDepth 100000 in
theorem wd_563 : Cond.code yX4_onBegin cX4_onBegin 2 none ∈ hz_T := hz_mT 563 rfl (by decide +kernel)
theorem wd_564 : Cond.methodLink RX4 240 yX4_begin ∈ hz_T := hz_mT 564 (by decide +kernel) (by decide +kernel)
theorem wd_566 : Cond.instanceMethod yX4_begin ∈ hz_T := hz_mT 566 (by decide +kernel) (by decide +kernel)
set_option maxRecDepth 100000 in
theorem wd_567 : Cond.code yX4_begin cX4_begin 2 none ∈ hz_T := hz_mT 567 rfl (by decide +kernel)
theorem wd_568 : Cond.methodLink RX4 255 yJ7_fill_53178 ∈ hz_T := hz_mT 568 (by decide +kernel) (by decide +kernel)
theorem wd_569 : Cond.static yJ7_fill_53178 ∈ hz_T := hz_mT 569 (by decide +kernel) (by decide +kernel)
set_option maxRecDepth 100000 in
theorem wd_570 : Cond.code yJ7_fill_53178 cJ7_fill_53178 4 none ∈ hz_T := hz_mT 570 rfl (by decide +kernel)
theorem wd_571 : Cond.methodLink RX8 71 yX4_goOn ∈ hz_T := hz_mT 571 (by decide +kernel) (by decide +kernel)
theorem wd_572 : Cond.instanceMethod yX4_goOn ∈ hz_T := hz_mT 572 (by decide +kernel) (by decide +kernel)
theorem wd_573 : Cond.selects RX4 yX4_goOn yX4_goOn ∈ hz_T := hz_mT 573 (by decide +kernel) (by decide +kernel)
set_option maxRecDepth 100000 in
theorem wd_574 : Cond.code yX4_goOn cX4_goOn 1 none ∈ hz_T := hz_mT 574 rfl (by decide +kernel)
theorem wd_575 : Cond.methodLink RX4 246 yX4_giveBest ∈ hz_T := hz_mT 575 (by decide +kernel) (by decide +kernel)
theorem wd_577 : Cond.instanceMethod yX4_giveBest ∈ hz_T := hz_mT 577 (by decide +kernel) (by decide +kernel)
set_option maxRecDepth 100000 in
theorem wd_578 : Cond.code yX4_giveBest cX4_giveBest 1 none ∈ hz_T := hz_mT 578 rfl (by decide +kernel)
theorem wd_579 : Cond.methodLink RX4 249 yX4_beginAnew ∈ hz_T := hz_mT 579 (by decide +kernel) (by decide +kernel)
theorem wd_581 : Cond.instanceMethod yX4_beginAnew ∈ hz_T := hz_mT 581 (by decide +kernel) (by decide +kernel)
set_option maxRecDepth 100000 in
theorem wd_582 : Cond.code yX4_beginAnew cX4_beginAnew 1 none ∈ hz_T := hz_mT 582 rfl (by decide +kernel)
theorem wd_584 : Cond.instanceMethod yX8_suspect ∈ hz_T := hz_mT 584 (by decide +kernel) (by decide +kernel)
theorem wd_585 : Cond.selects RX8 yX8_suspect yX8_suspect ∈ hz_T := hz_mT 585 (by decide +kernel) (by decide +kernel)
set_option maxRecDepth 100000 in
theorem wd_586 : Cond.code yX8_suspect cX8_suspect 4 (some .int) ∈ hz_T := hz_mT 586 rfl (by decide +kernel)
theorem wd_587 : Cond.methodLink RX8 77 yX8_has ∈ hz_T := hz_mT 587 (by decide +kernel) (by decide +kernel)
theorem wd_588 : Cond.methodLink RX8 81 yX4_turnAgainst ∈ hz_T := hz_mT 588 (by decide +kernel) (by decide +kernel)
theorem wd_589 : Cond.instanceMethod yX4_turnAgainst ∈ hz_T := hz_mT 589 (by decide +kernel) (by decide +kernel)
theorem wd_590 : Cond.selects RX4 yX4_turnAgainst yX4_turnAgainst ∈ hz_T := hz_mT 590 (by decide +kernel) (by decide +kernel)
set_option maxRecDepth 100000 in
theorem wd_591 : Cond.code yX4_turnAgainst cX4_turnAgainst 3 none ∈ hz_T := hz_mT 591 rfl (by decide +kernel)
theorem wd_592 : Cond.methodLink RX4 89 yX4_isChanging ∈ hz_T := hz_mT 592 (by decide +kernel) (by decide +kernel)
theorem wd_594 : Cond.instanceMethod yX4_isChanging ∈ hz_T := hz_mT 594 (by decide +kernel) (by decide +kernel)
set_option maxRecDepth 100000 in
theorem wd_595 : Cond.code yX4_isChanging cX4_isChanging 1 (some .boolean) ∈ hz_T := hz_mT 595 rfl (by decide +kernel)
theorem wd_597 : Cond.instanceMethod yX8_crash ∈ hz_T := hz_mT 597 (by decide +kernel) (by decide +kernel)
theorem wd_598 : Cond.selects RX8 yX8_crash yX8_crash ∈ hz_T := hz_mT 598 (by decide +kernel) (by decide +kernel)
set_option maxRecDepth 100000 in
theorem wd_599 : Cond.code yX8_crash cX8_crash 3 (some .boolean) ∈ hz_T := hz_mT 599 rfl (by decide +kernel)
theorem wd_601 : Cond.instanceMethod yX8_timeout ∈ hz_T := hz_mT 601 (by decide +kernel) (by decide +kernel)
theorem wd_602 : Cond.selects RX8 yX8_timeout yX8_timeout ∈ hz_T := hz_mT 602 (by decide +kernel) (by decide +kernel)
set_option maxRecDepth 100000 in
theorem wd_603 : Cond.code yX8_timeout cX8_timeout 3 (some .int) ∈ hz_T := hz_mT 603 rfl (by decide +kernel)
theorem wd_604 : Cond.methodLink RX8 91 yX4_losePatience ∈ hz_T := hz_mT 604 (by decide +kernel) (by decide +kernel)
theorem wd_605 : Cond.instanceMethod yX4_losePatience ∈ hz_T := hz_mT 605 (by decide +kernel) (by decide +kernel)
theorem wd_606 : Cond.selects RX4 yX4_losePatience yX4_losePatience ∈ hz_T := hz_mT 606 (by decide +kernel) (by decide +kernel)
set_option maxRecDepth 100000 in
theorem wd_607 : Cond.code yX4_losePatience cX4_losePatience 1 none ∈ hz_T := hz_mT 607 rfl (by decide +kernel)
theorem wd_609 : Cond.instanceMethod yX8_node ∈ hz_T := hz_mT 609 (by decide +kernel) (by decide +kernel)
theorem wd_610 : Cond.selects RX8 yX8_node yX8_node ∈ hz_T := hz_mT 610 (by decide +kernel) (by decide +kernel)
set_option maxRecDepth 100000 in
theorem wd_611 : Cond.code yX8_node cX8_node 4 (some .int) ∈ hz_T := hz_mT 611 rfl (by decide +kernel)
theorem wd_612 : Cond.methodLink RX8 94 yX4_tell ∈ hz_T := hz_mT 612 (by decide +kernel) (by decide +kernel)
theorem wd_613 : Cond.instanceMethod yX4_tell ∈ hz_T := hz_mT 613 (by decide +kernel) (by decide +kernel)
theorem wd_614 : Cond.selects RX4 yX4_tell yX4_tell ∈ hz_T := hz_mT 614 (by decide +kernel) (by decide +kernel)
set_option maxRecDepth 100000 in
theorem wd_615 : Cond.code yX4_tell cX4_tell 2 (some .int) ∈ hz_T := hz_mT 615 rfl (by decide +kernel)
theorem wd_617 : Cond.instanceMethod yX8_held ∈ hz_T := hz_mT 617 (by decide +kernel) (by decide +kernel)
theorem wd_618 : Cond.selects RX8 yX8_held yX8_held ∈ hz_T := hz_mT 618 (by decide +kernel) (by decide +kernel)
set_option maxRecDepth 100000 in
theorem wd_619 : Cond.code yX8_held cX8_held 4 (some .int) ∈ hz_T := hz_mT 619 rfl (by decide +kernel)
theorem wd_620 : Cond.constant RX8 106 (-100001) ∈ hz_T := hz_mT 620 (by decide +kernel) (by decide +kernel)
theorem wd_622 : Cond.instanceMethod yX8_depth ∈ hz_T := hz_mT 622 (by decide +kernel) (by decide +kernel)
theorem wd_623 : Cond.selects RX8 yX8_depth yX8_depth ∈ hz_T := hz_mT 623 (by decide +kernel) (by decide +kernel)
set_option maxRecDepth 100000 in
theorem wd_624 : Cond.code yX8_depth cX8_depth 3 (some .int) ∈ hz_T := hz_mT 624 rfl (by decide +kernel)
theorem wd_626 : Cond.instanceMethod yX8_top ∈ hz_T := hz_mT 626 (by decide +kernel) (by decide +kernel)
theorem wd_627 : Cond.selects RX8 yX8_top yX8_top ∈ hz_T := hz_mT 627 (by decide +kernel) (by decide +kernel)
set_option maxRecDepth 100000 in
theorem wd_628 : Cond.code yX8_top cX8_top 4 (some .int) ∈ hz_T := hz_mT 628 rfl (by decide +kernel)
theorem wd_629 : Cond.methodLink RX8 118 yX3_fromTop ∈ hz_T := hz_mT 629 (by decide +kernel) (by decide +kernel)
theorem wd_630 : Cond.instanceMethod yX3_fromTop ∈ hz_T := hz_mT 630 (by decide +kernel) (by decide +kernel)
theorem wd_631 : Cond.selects RX3 yX3_fromTop yX3_fromTop ∈ hz_T := hz_mT 631 (by decide +kernel) (by decide +kernel)
set_option maxRecDepth 100000 in
theorem wd_632 : Cond.code yX3_fromTop cX3_fromTop 2 (some .int) ∈ hz_T := hz_mT 632 rfl (by decide +kernel)
theorem wd_634 : Cond.instanceMethod yX8_flying ∈ hz_T := hz_mT 634 (by decide +kernel) (by decide +kernel)
theorem wd_635 : Cond.selects RX8 yX8_flying yX8_flying ∈ hz_T := hz_mT 635 (by decide +kernel) (by decide +kernel)
set_option maxRecDepth 100000 in
theorem wd_636 : Cond.code yX8_flying cX8_flying 4 (some .int) ∈ hz_T := hz_mT 636 rfl (by decide +kernel)
theorem wd_638 : Cond.instanceMethod yX8_letter ∈ hz_T := hz_mT 638 (by decide +kernel) (by decide +kernel)
theorem wd_639 : Cond.selects RX8 yX8_letter yX8_letter ∈ hz_T := hz_mT 639 (by decide +kernel) (by decide +kernel)
set_option maxRecDepth 100000 in
theorem wd_640 : Cond.code yX8_letter cX8_letter 5 (some .int) ∈ hz_T := hz_mT 640 rfl (by decide +kernel)
theorem wd_641 : Cond.methodLink RX8 131 yX2_tell ∈ hz_T := hz_mT 641 (by decide +kernel) (by decide +kernel)
theorem wd_642 : Cond.instanceMethod yX2_tell ∈ hz_T := hz_mT 642 (by decide +kernel) (by decide +kernel)
theorem wd_643 : Cond.selects RX2 yX2_tell yX2_tell ∈ hz_T := hz_mT 643 (by decide +kernel) (by decide +kernel)
set_option maxRecDepth 100000 in
theorem wd_644 : Cond.code yX2_tell cX2_tell 2 (some .int) ∈ hz_T := hz_mT 644 rfl (by decide +kernel)
theorem wd_646 : Cond.instanceMethod yX8_count ∈ hz_T := hz_mT 646 (by decide +kernel) (by decide +kernel)
theorem wd_647 : Cond.selects RX8 yX8_count yX8_count ∈ hz_T := hz_mT 647 (by decide +kernel) (by decide +kernel)
set_option maxRecDepth 100000 in
theorem wd_648 : Cond.code yX8_count cX8_count 2 (some .int) ∈ hz_T := hz_mT 648 rfl (by decide +kernel)
theorem wd_649 : Cond.methodLink RX8 132 yX7_tell ∈ hz_T := hz_mT 649 (by decide +kernel) (by decide +kernel)
theorem wd_650 : Cond.instanceMethod yX7_tell ∈ hz_T := hz_mT 650 (by decide +kernel) (by decide +kernel)
theorem wd_651 : Cond.selects RX7 yX7_tell yX7_tell ∈ hz_T := hz_mT 651 (by decide +kernel) (by decide +kernel)
set_option maxRecDepth 100000 in
theorem wd_652 : Cond.code yX7_tell cX7_tell 2 (some .int) ∈ hz_T := hz_mT 652 rfl (by decide +kernel)
set_option maxRecDepth 100000 in
theorem wd_660 : Cond.code yX9_init cX9_init 3 none ∈ hz_T := hz_mT 660 rfl (by decide +kernel)
theorem wd_661 : Cond.methodLink RX9 1 Lib.objectInit ∈ hz_T := hz_mT 661 (by decide +kernel) (by decide +kernel)
theorem wd_662 : Cond.fieldLink RX9 95 "GroupCastModel" "n" "I" ∈ hz_T := hz_mT 662 (by decide +kernel) (by decide +kernel)
theorem wd_663 : Cond.fieldLink RX9 7 "GroupCastModel" "state" "[I" ∈ hz_T := hz_mT 663 (by decide +kernel) (by decide +kernel)
theorem wd_664 : Cond.fieldLink RX9 13 "GroupCastModel" "view" "[I" ∈ hz_T := hz_mT 664 (by decide +kernel) (by decide +kernel)
theorem wd_665 : Cond.fieldLink RX9 16 "GroupCastModel" "members" "[I" ∈ hz_T := hz_mT 665 (by decide +kernel) (by decide +kernel)
theorem wd_666 : Cond.fieldLink RX9 19 "GroupCastModel" "acts" "[I" ∈ hz_T := hz_mT 666 (by decide +kernel) (by decide +kernel)
theorem wd_667 : Cond.fieldLink RX9 22 "GroupCastModel" "holds" "[I" ∈ hz_T := hz_mT 667 (by decide +kernel) (by decide +kernel)
theorem wd_668 : Cond.fieldLink RX9 25 "GroupCastModel" "carried" "[I" ∈ hz_T := hz_mT 668 (by decide +kernel) (by decide +kernel)
theorem wd_669 : Cond.fieldLink RX9 28 "GroupCastModel" "stamp" "[I" ∈ hz_T := hz_mT 669 (by decide +kernel) (by decide +kernel)
theorem wd_670 : Cond.fieldLink RX9 31 "GroupCastModel" "promise" "[I" ∈ hz_T := hz_mT 670 (by decide +kernel) (by decide +kernel)
theorem wd_671 : Cond.fieldLink RX9 34 "GroupCastModel" "suspects" "[I" ∈ hz_T := hz_mT 671 (by decide +kernel) (by decide +kernel)
theorem wd_672 : Cond.fieldLink RX9 37 "GroupCastModel" "task" "[I" ∈ hz_T := hz_mT 672 (by decide +kernel) (by decide +kernel)
theorem wd_673 : Cond.fieldLink RX9 40 "GroupCastModel" "toBe" "[I" ∈ hz_T := hz_mT 673 (by decide +kernel) (by decide +kernel)
theorem wd_674 : Cond.fieldLink RX9 43 "GroupCastModel" "asker" "[I" ∈ hz_T := hz_mT 674 (by decide +kernel) (by decide +kernel)
theorem wd_675 : Cond.fieldLink RX9 46 "GroupCastModel" "has" "[I" ∈ hz_T := hz_mT 675 (by decide +kernel) (by decide +kernel)
theorem wd_676 : Cond.fieldLink RX9 49 "GroupCastModel" "got" "[I" ∈ hz_T := hz_mT 676 (by decide +kernel) (by decide +kernel)
theorem wd_677 : Cond.fieldLink RX9 52 "GroupCastModel" "gotStamp" "[I" ∈ hz_T := hz_mT 677 (by decide +kernel) (by decide +kernel)
theorem wd_678 : Cond.fieldLink RX9 55 "GroupCastModel" "gotSize" "[I" ∈ hz_T := hz_mT 678 (by decide +kernel) (by decide +kernel)
theorem wd_679 : Cond.fieldLink RX9 58 "GroupCastModel" "gotActs" "[I" ∈ hz_T := hz_mT 679 (by decide +kernel) (by decide +kernel)
theorem wd_680 : Cond.fieldLink RX9 61 "GroupCastModel" "stack" "[I" ∈ hz_T := hz_mT 680 (by decide +kernel) (by decide +kernel)
theorem wd_681 : Cond.fieldLink RX9 64 "GroupCastModel" "depth" "[I" ∈ hz_T := hz_mT 681 (by decide +kernel) (by decide +kernel)
theorem wd_682 : Cond.fieldLink RX9 67 "GroupCastModel" "flies" "[Z" ∈ hz_T := hz_mT 682 (by decide +kernel) (by decide +kernel)
theorem wd_683 : Cond.fieldLink RX9 71 "GroupCastModel" "from" "[I" ∈ hz_T := hz_mT 683 (by decide +kernel) (by decide +kernel)
theorem wd_684 : Cond.fieldLink RX9 74 "GroupCastModel" "to" "[I" ∈ hz_T := hz_mT 684 (by decide +kernel) (by decide +kernel)
theorem wd_685 : Cond.fieldLink RX9 77 "GroupCastModel" "kind" "[I" ∈ hz_T := hz_mT 685 (by decide +kernel) (by decide +kernel)
theorem wd_686 : Cond.fieldLink RX9 80 "GroupCastModel" "number" "[I" ∈ hz_T := hz_mT 686 (by decide +kernel) (by decide +kernel)
theorem wd_687 : Cond.fieldLink RX9 83 "GroupCastModel" "told" "[I" ∈ hz_T := hz_mT 687 (by decide +kernel) (by decide +kernel)
theorem wd_688 : Cond.fieldLink RX9 86 "GroupCastModel" "size" "[I" ∈ hz_T := hz_mT 688 (by decide +kernel) (by decide +kernel)
theorem wd_689 : Cond.fieldLink RX9 89 "GroupCastModel" "row" "[I" ∈ hz_T := hz_mT 689 (by decide +kernel) (by decide +kernel)
theorem wd_690 : Cond.fieldLink RX9 92 "GroupCastModel" "order" "[I" ∈ hz_T := hz_mT 690 (by decide +kernel) (by decide +kernel)
theorem wd_691 : Cond.fieldLink RX9 105 "GroupCastModel" "flying" "I" ∈ hz_T := hz_mT 691 (by decide +kernel) (by decide +kernel)
theorem wd_692 : Cond.fieldLink RX9 102 "GroupCastModel" "sent" "I" ∈ hz_T := hz_mT 692 (by decide +kernel) (by decide +kernel)
theorem wd_693 : Cond.fieldLink RX9 108 "GroupCastModel" "lost" "I" ∈ hz_T := hz_mT 693 (by decide +kernel) (by decide +kernel)
theorem wd_694 : Cond.fieldLink RX9 115 "GroupCastModel" "done" "I" ∈ hz_T := hz_mT 694 (by decide +kernel) (by decide +kernel)
theorem wd_695 : Cond.fieldLink RX9 171 "GroupCastModel" "begins" "I" ∈ hz_T := hz_mT 695 (by decide +kernel) (by decide +kernel)
theorem wd_696 : Cond.fieldLink RX9 158 "GroupCastModel" "flushes" "I" ∈ hz_T := hz_mT 696 (by decide +kernel) (by decide +kernel)
theorem wd_770 : Cond.instanceMethod yX9_submit ∈ hz_T := hz_mT 770 (by decide +kernel) (by decide +kernel)
theorem wd_771 : Cond.selects RX9 yX9_submit yX9_submit ∈ hz_T := hz_mT 771 (by decide +kernel) (by decide +kernel)
set_option maxRecDepth 100000 in
theorem wd_772 : Cond.code yX9_submit cX9_submit 4 (some .int) ∈ hz_T := hz_mT 772 rfl (by decide +kernel)
theorem wd_773 : Cond.methodLink RX9 135 yX9_isNode ∈ hz_T := hz_mT 773 (by decide +kernel) (by decide +kernel)
theorem wd_775 : Cond.instanceMethod yX9_isNode ∈ hz_T := hz_mT 775 (by decide +kernel) (by decide +kernel)
set_option maxRecDepth 100000 in
theorem wd_776 : Cond.code yX9_isNode cX9_isNode 2 (some .boolean) ∈ hz_T := hz_mT 776 rfl (by decide +kernel)
theorem wd_777 : Cond.methodLink RX9 139 yX9_isAct ∈ hz_T := hz_mT 777 (by decide +kernel) (by decide +kernel)
theorem wd_778 : Cond.static yX9_isAct ∈ hz_T := hz_mT 778 (by decide +kernel) (by decide +kernel)
set_option maxRecDepth 100000 in
theorem wd_779 : Cond.code yX9_isAct cX9_isAct 3 (some .boolean) ∈ hz_T := hz_mT 779 rfl (by decide +kernel)
theorem wd_780 : Cond.methodLink RX9 142 yX9_isBlocked ∈ hz_T := hz_mT 780 (by decide +kernel) (by decide +kernel)
theorem wd_782 : Cond.instanceMethod yX9_isBlocked ∈ hz_T := hz_mT 782 (by decide +kernel) (by decide +kernel)
set_option maxRecDepth 100000 in
theorem wd_783 : Cond.code yX9_isBlocked cX9_isBlocked 2 (some .boolean) ∈ hz_T := hz_mT 783 rfl (by decide +kernel)
theorem wd_784 : Cond.methodLink RX9 145 yX9_leader ∈ hz_T := hz_mT 784 (by decide +kernel) (by decide +kernel)
theorem wd_786 : Cond.instanceMethod yX9_leader ∈ hz_T := hz_mT 786 (by decide +kernel) (by decide +kernel)
set_option maxRecDepth 100000 in
theorem wd_787 : Cond.code yX9_leader cX9_leader 3 (some .int) ∈ hz_T := hz_mT 787 rfl (by decide +kernel)
theorem wd_788 : Cond.methodLink RX9 99 yX9_has ∈ hz_T := hz_mT 788 (by decide +kernel) (by decide +kernel)
theorem wd_789 : Cond.static yX9_has ∈ hz_T := hz_mT 789 (by decide +kernel) (by decide +kernel)
set_option maxRecDepth 100000 in
theorem wd_790 : Cond.code yX9_has cX9_has 2 (some .boolean) ∈ hz_T := hz_mT 790 rfl (by decide +kernel)
theorem wd_791 : Cond.methodLink RX9 111 yX9_send ∈ hz_T := hz_mT 791 (by decide +kernel) (by decide +kernel)
theorem wd_793 : Cond.instanceMethod yX9_send ∈ hz_T := hz_mT 793 (by decide +kernel) (by decide +kernel)
set_option maxRecDepth 100000 in
theorem wd_794 : Cond.code yX9_send cX9_send 10 none ∈ hz_T := hz_mT 794 rfl (by decide +kernel)
theorem wd_795 : Cond.methodLink RX9 149 yX9_add ∈ hz_T := hz_mT 795 (by decide +kernel) (by decide +kernel)
theorem wd_797 : Cond.instanceMethod yX9_add ∈ hz_T := hz_mT 797 (by decide +kernel) (by decide +kernel)
set_option maxRecDepth 100000 in
theorem wd_798 : Cond.code yX9_add cX9_add 4 none ∈ hz_T := hz_mT 798 rfl (by decide +kernel)
theorem wd_799 : Cond.methodLink RX9 126 yX9_sendAll ∈ hz_T := hz_mT 799 (by decide +kernel) (by decide +kernel)
theorem wd_801 : Cond.instanceMethod yX9_sendAll ∈ hz_T := hz_mT 801 (by decide +kernel) (by decide +kernel)
set_option maxRecDepth 100000 in
theorem wd_802 : Cond.code yX9_sendAll cX9_sendAll 9 none ∈ hz_T := hz_mT 802 rfl (by decide +kernel)
theorem wd_803 : Cond.methodLink RX9 129 yX9_look ∈ hz_T := hz_mT 803 (by decide +kernel) (by decide +kernel)
theorem wd_805 : Cond.instanceMethod yX9_look ∈ hz_T := hz_mT 805 (by decide +kernel) (by decide +kernel)
set_option maxRecDepth 100000 in
theorem wd_806 : Cond.code yX9_look cX9_look 6 none ∈ hz_T := hz_mT 806 rfl (by decide +kernel)
theorem wd_807 : Cond.methodLink RX9 132 yX9_carryTo ∈ hz_T := hz_mT 807 (by decide +kernel) (by decide +kernel)
theorem wd_809 : Cond.instanceMethod yX9_carryTo ∈ hz_T := hz_mT 809 (by decide +kernel) (by decide +kernel)
set_option maxRecDepth 100000 in
theorem wd_810 : Cond.code yX9_carryTo cX9_carryTo 3 none ∈ hz_T := hz_mT 810 rfl (by decide +kernel)
theorem wd_811 : Cond.methodLink RX9 122 yX9_carry ∈ hz_T := hz_mT 811 (by decide +kernel) (by decide +kernel)
theorem wd_813 : Cond.instanceMethod yX9_carry ∈ hz_T := hz_mT 813 (by decide +kernel) (by decide +kernel)
set_option maxRecDepth 100000 in
theorem wd_814 : Cond.code yX9_carry cX9_carry 6 none ∈ hz_T := hz_mT 814 rfl (by decide +kernel)
theorem wd_815 : Cond.methodLink RX9 118 yX9_push ∈ hz_T := hz_mT 815 (by decide +kernel) (by decide +kernel)
theorem wd_817 : Cond.instanceMethod yX9_push ∈ hz_T := hz_mT 817 (by decide +kernel) (by decide +kernel)
set_option maxRecDepth 100000 in
theorem wd_818 : Cond.code yX9_push cX9_push 3 none ∈ hz_T := hz_mT 818 rfl (by decide +kernel)
theorem wd_820 : Cond.instanceMethod yX9_deliver ∈ hz_T := hz_mT 820 (by decide +kernel) (by decide +kernel)
theorem wd_821 : Cond.selects RX9 yX9_deliver yX9_deliver ∈ hz_T := hz_mT 821 (by decide +kernel) (by decide +kernel)
set_option maxRecDepth 100000 in
theorem wd_822 : Cond.code yX9_deliver cX9_deliver 5 (some .int) ∈ hz_T := hz_mT 822 rfl (by decide +kernel)
theorem wd_823 : Cond.methodLink RX9 180 yX9_oldest ∈ hz_T := hz_mT 823 (by decide +kernel) (by decide +kernel)
theorem wd_825 : Cond.instanceMethod yX9_oldest ∈ hz_T := hz_mT 825 (by decide +kernel) (by decide +kernel)
set_option maxRecDepth 100000 in
theorem wd_826 : Cond.code yX9_oldest cX9_oldest 5 (some .int) ∈ hz_T := hz_mT 826 rfl (by decide +kernel)
theorem wd_827 : Cond.methodLink RX9 184 yX9_keepLetter ∈ hz_T := hz_mT 827 (by decide +kernel) (by decide +kernel)
theorem wd_829 : Cond.instanceMethod yX9_keepLetter ∈ hz_T := hz_mT 829 (by decide +kernel) (by decide +kernel)
set_option maxRecDepth 100000 in
theorem wd_830 : Cond.code yX9_keepLetter cX9_keepLetter 3 none ∈ hz_T := hz_mT 830 rfl (by decide +kernel)
theorem wd_831 : Cond.methodLink RX9 187 yX9_come ∈ hz_T := hz_mT 831 (by decide +kernel) (by decide +kernel)
theorem wd_833 : Cond.instanceMethod yX9_come ∈ hz_T := hz_mT 833 (by decide +kernel) (by decide +kernel)
set_option maxRecDepth 100000 in
theorem wd_834 : Cond.code yX9_come cX9_come 4 none ∈ hz_T := hz_mT 834 rfl (by decide +kernel)
theorem wd_835 : Cond.methodLink RX9 174 yX9_ask ∈ hz_T := hz_mT 835 (by decide +kernel) (by decide +kernel)
theorem wd_837 : Cond.instanceMethod yX9_ask ∈ hz_T := hz_mT 837 (by decide +kernel) (by decide +kernel)
set_option maxRecDepth 100000 in
theorem wd_838 : Cond.code yX9_ask cX9_ask 3 none ∈ hz_T := hz_mT 838 rfl (by decide +kernel)
theorem wd_839 : Cond.methodLink RX9 152 yX9_flush ∈ hz_T := hz_mT 839 (by decide +kernel) (by decide +kernel)
theorem wd_841 : Cond.instanceMethod yX9_flush ∈ hz_T := hz_mT 841 (by decide +kernel) (by decide +kernel)
set_option maxRecDepth 100000 in
theorem wd_842 : Cond.code yX9_flush cX9_flush 4 none ∈ hz_T := hz_mT 842 rfl (by decide +kernel)
theorem wd_843 : Cond.methodLink RX9 155 yX9_many ∈ hz_T := hz_mT 843 (by decide +kernel) (by decide +kernel)
theorem wd_845 : Cond.instanceMethod yX9_many ∈ hz_T := hz_mT 845 (by decide +kernel) (by decide +kernel)
set_option maxRecDepth 100000 in
theorem wd_846 : Cond.code yX9_many cX9_many 4 (some .int) ∈ hz_T := hz_mT 846 rfl (by decide +kernel)
theorem wd_847 : Cond.methodLink RX9 161 yX9_choose ∈ hz_T := hz_mT 847 (by decide +kernel) (by decide +kernel)
theorem wd_849 : Cond.instanceMethod yX9_choose ∈ hz_T := hz_mT 849 (by decide +kernel) (by decide +kernel)
set_option maxRecDepth 100000 in
theorem wd_850 : Cond.code yX9_choose cX9_choose 6 none ∈ hz_T := hz_mT 850 rfl (by decide +kernel)
theorem wd_851 : Cond.methodLink RX9 164 yX9_found ∈ hz_T := hz_mT 851 (by decide +kernel) (by decide +kernel)
theorem wd_853 : Cond.instanceMethod yX9_found ∈ hz_T := hz_mT 853 (by decide +kernel) (by decide +kernel)
set_option maxRecDepth 100000 in
theorem wd_854 : Cond.code yX9_found cX9_found 4 none ∈ hz_T := hz_mT 854 rfl (by decide +kernel)
theorem wd_855 : Cond.methodLink RX9 167 yX9_begin ∈ hz_T := hz_mT 855 (by decide +kernel) (by decide +kernel)
theorem wd_857 : Cond.instanceMethod yX9_begin ∈ hz_T := hz_mT 857 (by decide +kernel) (by decide +kernel)
set_option maxRecDepth 100000 in
theorem wd_858 : Cond.code yX9_begin cX9_begin 5 none ∈ hz_T := hz_mT 858 rfl (by decide +kernel)
theorem wd_859 : Cond.methodLink RX9 177 yX9_comeOfView ∈ hz_T := hz_mT 859 (by decide +kernel) (by decide +kernel)
theorem wd_861 : Cond.instanceMethod yX9_comeOfView ∈ hz_T := hz_mT 861 (by decide +kernel) (by decide +kernel)
set_option maxRecDepth 100000 in
theorem wd_862 : Cond.code yX9_comeOfView cX9_comeOfView 5 none ∈ hz_T := hz_mT 862 rfl (by decide +kernel)
theorem wd_864 : Cond.instanceMethod yX9_suspect ∈ hz_T := hz_mT 864 (by decide +kernel) (by decide +kernel)
theorem wd_865 : Cond.selects RX9 yX9_suspect yX9_suspect ∈ hz_T := hz_mT 865 (by decide +kernel) (by decide +kernel)
set_option maxRecDepth 100000 in
theorem wd_866 : Cond.code yX9_suspect cX9_suspect 3 (some .int) ∈ hz_T := hz_mT 866 rfl (by decide +kernel)
theorem wd_868 : Cond.instanceMethod yX9_crash ∈ hz_T := hz_mT 868 (by decide +kernel) (by decide +kernel)
theorem wd_869 : Cond.selects RX9 yX9_crash yX9_crash ∈ hz_T := hz_mT 869 (by decide +kernel) (by decide +kernel)
set_option maxRecDepth 100000 in
theorem wd_870 : Cond.code yX9_crash cX9_crash 2 (some .boolean) ∈ hz_T := hz_mT 870 rfl (by decide +kernel)
theorem wd_872 : Cond.instanceMethod yX9_timeout ∈ hz_T := hz_mT 872 (by decide +kernel) (by decide +kernel)
theorem wd_873 : Cond.selects RX9 yX9_timeout yX9_timeout ∈ hz_T := hz_mT 873 (by decide +kernel) (by decide +kernel)
set_option maxRecDepth 100000 in
theorem wd_874 : Cond.code yX9_timeout cX9_timeout 2 (some .int) ∈ hz_T := hz_mT 874 rfl (by decide +kernel)
theorem wd_876 : Cond.instanceMethod yX9_node ∈ hz_T := hz_mT 876 (by decide +kernel) (by decide +kernel)
theorem wd_877 : Cond.selects RX9 yX9_node yX9_node ∈ hz_T := hz_mT 877 (by decide +kernel) (by decide +kernel)
set_option maxRecDepth 100000 in
theorem wd_878 : Cond.code yX9_node cX9_node 3 (some .int) ∈ hz_T := hz_mT 878 rfl (by decide +kernel)
theorem wd_880 : Cond.instanceMethod yX9_held ∈ hz_T := hz_mT 880 (by decide +kernel) (by decide +kernel)
theorem wd_881 : Cond.selects RX9 yX9_held yX9_held ∈ hz_T := hz_mT 881 (by decide +kernel) (by decide +kernel)
set_option maxRecDepth 100000 in
theorem wd_882 : Cond.code yX9_held cX9_held 3 (some .int) ∈ hz_T := hz_mT 882 rfl (by decide +kernel)
theorem wd_883 : Cond.constant RX9 190 (-100001) ∈ hz_T := hz_mT 883 (by decide +kernel) (by decide +kernel)
theorem wd_885 : Cond.instanceMethod yX9_depth ∈ hz_T := hz_mT 885 (by decide +kernel) (by decide +kernel)
theorem wd_886 : Cond.selects RX9 yX9_depth yX9_depth ∈ hz_T := hz_mT 886 (by decide +kernel) (by decide +kernel)
set_option maxRecDepth 100000 in
theorem wd_887 : Cond.code yX9_depth cX9_depth 2 (some .int) ∈ hz_T := hz_mT 887 rfl (by decide +kernel)
theorem wd_889 : Cond.instanceMethod yX9_top ∈ hz_T := hz_mT 889 (by decide +kernel) (by decide +kernel)
theorem wd_890 : Cond.selects RX9 yX9_top yX9_top ∈ hz_T := hz_mT 890 (by decide +kernel) (by decide +kernel)
set_option maxRecDepth 100000 in
theorem wd_891 : Cond.code yX9_top cX9_top 3 (some .int) ∈ hz_T := hz_mT 891 rfl (by decide +kernel)
theorem wd_893 : Cond.instanceMethod yX9_flying ∈ hz_T := hz_mT 893 (by decide +kernel) (by decide +kernel)
theorem wd_894 : Cond.selects RX9 yX9_flying yX9_flying ∈ hz_T := hz_mT 894 (by decide +kernel) (by decide +kernel)
set_option maxRecDepth 100000 in
theorem wd_895 : Cond.code yX9_flying cX9_flying 5 (some .int) ∈ hz_T := hz_mT 895 rfl (by decide +kernel)
theorem wd_897 : Cond.instanceMethod yX9_letter ∈ hz_T := hz_mT 897 (by decide +kernel) (by decide +kernel)
theorem wd_898 : Cond.selects RX9 yX9_letter yX9_letter ∈ hz_T := hz_mT 898 (by decide +kernel) (by decide +kernel)
set_option maxRecDepth 100000 in
theorem wd_899 : Cond.code yX9_letter cX9_letter 5 (some .int) ∈ hz_T := hz_mT 899 rfl (by decide +kernel)
theorem wd_901 : Cond.instanceMethod yX9_count ∈ hz_T := hz_mT 901 (by decide +kernel) (by decide +kernel)
theorem wd_902 : Cond.selects RX9 yX9_count yX9_count ∈ hz_T := hz_mT 902 (by decide +kernel) (by decide +kernel)
set_option maxRecDepth 100000 in
theorem wd_903 : Cond.code yX9_count cX9_count 2 (some .int) ∈ hz_T := hz_mT 903 rfl (by decide +kernel)
theorem wd_az : Cond.arrayClass (hz_ty 1) ∈ hz_T := hz_mT 768 (by decide +kernel) (by decide +kernel)
